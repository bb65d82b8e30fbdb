abbrev rm_X2_list_27_18 : Room := { frames := 6, cells := 0, slots := 0, locals := 149 }
set_option maxHeartbeats 4000000 in
set_option maxRecDepth 100000 in
theorem c_X2_list_27_18 (l : Launch) (D : va_G) (cA : Nat → ClassId) (sz : Nat) (ad : Nat → Nat) (F : Nat → Int32) (L : Nat → Int64) (A : Nat → Nat → Int32) (B : Nat → Nat → Int64)  (hT : typX F A) : Met l yX2_list (Cond.code yX2_list cX2_list 2 none :: GW) rm_X2_list_27_18 (mPc D classes (tysX cA) (wX cA ad F L A B) sz [.ref (ad 27), .ref (ad 18)]) (mQv (S := SW) D classes (tysX cA) (wX cA ad F L A B) sz (wfX cA ad) (fun u => qX [29, 30, 31, 32, 33, 34, 35] [28, 29, 30, 31, 32, 33, 35, 36, 37, 38, 39, 41, 42, 43, 44, 45] F A u.1 u.2.2.1)) 0 0 (va_A (wX cA ad F L A B) sz) := by
  refine met_v (own := "ShoeingDay$Day") (by decide +kernel) rfl (Nat.le_of_ble_eq_true rfl) ?_
  intro p e s m args below meth c Q Af ls hC hP hD hS hA hl hret
  have hx := hC.1
  have hb := hC.2.1
  have hown := hC.2.2.2.1
  have hg := hC.g
  have hK := hC.K
  have hl : lv_has ls 2 [(0, .ref (ad 27)), (1, .ref (ad 18))] := hl
  have hq : qX [29, 30, 31, 32, 33, 34, 35] [28, 29, 30, 31, 32, 33, 35, 36, 37, 38, 39, 41, 42, 43, 44, 45] F A F A := qX.rf hT
  obtain ⟨H, hH⟩ : ∃ H, H = s.heap := ⟨_, rfl⟩
  have hP : va_P D classes (wX cA ad F L A B) H := by rw [hH]; exact hP
  have hS : va_S Af s.heap H [] := by rw [hH]; exact hS
  obtain ⟨locs, hlo⟩ : ∃ q : List Loc, q = [] := ⟨_, rfl⟩
  rw [← hH, ← hlo]
  rw [← hlo] at hS
  refine lv_aload_n hx hb dX2_list_0 rfl (lv_at hl 0 rfl) ?_
  refine va_get (ci := 2) (v := .int (F 32)) (C := RX2) (T := TX2) (N := 15) hx hb hg inX2 hown hK hP 27 atX_27 rfl 7 (by decide) (hg _ mw_353) (fun _ h9 => h9) rfl dX2_list_1 ?_
  refine lv_topi (fun x1 e2 => ?_)
  have r3 : rg x1 0 1 := rg_e e2 (hq.1.1 32)
  refine lv_if_eq (tgt := 8) hx hb dX2_list_4 (by decide) (fun c4 => ?_) (fun c4 => ?_)
  · skip
    have r5 : rg x1 0 0 := rg_eq1 c4 (r3 : rg x1 0 1) ((rg_k (by decide)) : rg 0 0 0) (by decide)
    refine lv_aload_n hx hb dX2_list_8 rfl (lv_at hl 0 rfl) ?_
    refine lv_iconst (v := 1) hx hb dX2_list_9 (by decide) ?_
    refine va_put (ci := 2) (v := .int 1) (ty := .boolean) (C := RX2) (T := TX2) (N := 15) hx hb hg inX2 tyX2 tyX2_ok nmX2 hown hK hP hD hS 27 atX_27 rfl 7 (by decide) (hg _ mw_353) (fun _ h9 => h9) rfl (by decide +kernel) rfl rfl (Nat.le_of_ble_eq_true rfl) dX2_list_10 (fun H locs hP hD hS => ?_)
    have hq := hq.put 32 (x := 1) (by decide) (rg_k (by decide))
    rw [setFX_32] at hP hD
    refine lv_aload_n hx hb dX2_list_13 rfl (lv_at hl 0 rfl) ?_
    refine lv_iconst (v := 0) hx hb dX2_list_14 (by decide) ?_
    refine va_put (ci := 2) (v := .int 0) (ty := .int) (C := RX2) (T := TX2) (N := 15) hx hb hg inX2 tyX2 tyX2_ok nmX2 hown hK hP hD hS 27 atX_27 rfl 6 (by decide) (hg _ mw_351) (fun _ h9 => h9) rfl (by decide +kernel) rfl rfl (Nat.le_of_ble_eq_true rfl) dX2_list_15 (fun H locs hP hD hS => ?_)
    have hq := hq.put 31 (x := 0) (by decide) (rg_k (by decide))
    rw [setFX_31] at hP hD
    refine lv_aload_n hx hb dX2_list_18 rfl (lv_at hl 0 rfl) ?_
    refine lv_aload_n hx hb dX2_list_19 rfl (lv_at hl 1 rfl) ?_
    refine va_get (ci := 3) (v := .ref (ad 19)) (C := RX3) (T := TX3) (N := 4) hx hb hg inX3 hown hK hP 18 atX_18 rfl 0 (by decide) (hg _ mw_238) (fun _ h9 => h9) rfl dX2_list_20 ?_
    refine lv_aload_n hx hb dX2_list_23 rfl (lv_at hl 1 rfl) ?_
    refine va_get (ci := 3) (v := .int (F 21)) (C := RX3) (T := TX3) (N := 4) hx hb hg inX3 hown hK hP 18 atX_18 rfl 1 (by decide) (hg _ mw_241) (fun _ h9 => h9) rfl dX2_list_24 ?_
    refine lv_topi (fun x7 e8 => ?_)
    have r9 : rg x7 0 8 := rg_e e8 (hq.1.1 21)
    refine lv_aload_n hx hb dX2_list_27 rfl (lv_at hl 1 rfl) ?_
    refine va_get (ci := 3) (v := .int (F 22)) (C := RX3) (T := TX3) (N := 4) hx hb hg inX3 hown hK hP 18 atX_18 rfl 2 (by decide) (hg _ mw_245) (fun _ h9 => h9) rfl dX2_list_28 ?_
    refine lv_topi (fun x10 e11 => ?_)
    have r12 : rg x10 0 10 := rg_e e11 (hq.1.1 22)
    refine callv_v (As := [.ref (ad 19), .int x7, .int x10]) (rest := []) hC (c_X2_open_27_19 l D cA H.size ad (upd (upd F 32 (1 : Int32)) 31 (0 : Int32)) L A B (x7) (x10) hq.1 r9 r12) (cwV 3 hg (g_V mw_776 mw_773 mw_774 mw_775 mw_14) rfl rfl rfl (by decide +kernel) ⟨(Nat.le_of_ble_eq_true rfl), (Nat.le_of_ble_eq_true rfl)⟩) hP hD hS hA atX_27 rfl rfl hl.1 rfl (Nat.le_of_ble_eq_true rfl) dX2_list_31 ⟨Nat.zero_le _, Nat.zero_le _⟩ (fun  u H locs hw hP hD hS => ?_)
    obtain ⟨F13, L13, A13, B13⟩ := u
    try dsimp only at hw
    have hq13 := hw
    have hq := hq.call hq13 (by decide)
    have hP : va_P D classes (wX cA ad F13 L13 A13 B13) H := hP
    have hD : va_D Af (wX cA ad F13 L13 A13 B13) := hD
    have J34 : ∀ (n34 : Nat) (F14 : Nat → Int32) (L14 : Nat → Int64) (A14 : Nat → Nat → Int32) (B14 : Nat → Nat → Int64) (H : Heap) (locs : List Loc) (ls : Array Slot), (100 - (F14 31).toInt).toNat < n34 → qX [29, 30, 31, 32, 33, 34, 35] [28, 29, 30, 31, 32, 33, 35, 36, 37, 38, 39, 41, 42, 43, 44, 45] F A F14 A14 → va_P D classes (wX cA ad F14 L14 A14 B14) H → va_D Af (wX cA ad F14 L14 A14 B14) → va_S Af s.heap H locs → lv_has ls 2 [(0, .ref (ad 27))] → W p l e rm_X2_list_27_18 s m args below meth c H locs 0 0 Q (F0 m 34 ls []) := by
      intro n34
      induction n34 with
      | zero =>
        intro _ _ _ _ _ _ _ hn
        exact absurd hn (Nat.not_lt_zero _)
      | succ n34 ih34 =>
        intro F14 L14 A14 B14 H locs ls hn34 hq hP hD hS hl
        refine lv_aload_n hx hb dX2_list_34 rfl (lv_at hl 0 rfl) ?_
        refine va_get (ci := 2) (v := .int (F14 31)) (C := RX2) (T := TX2) (N := 15) hx hb hg inX2 hown hK hP 27 atX_27 rfl 6 (by decide) (hg _ mw_351) (fun _ h9 => h9) rfl dX2_list_35 ?_
        refine lv_topi (fun x15 e16 => ?_)
        have r17 : rg x15 0 100 := rg_e e16 (hq.1.1 31)
        refine lv_bipush (v := 100) hx hb dX2_list_38 (by decide) ?_
        refine lv_icmp_ge (tgt := 105) hx hb dX2_list_40 (by decide) (fun c18 => ?_) (fun c18 => ?_)
        · skip
          have r19 : rg x15 100 100 := rg_le2 (iE c18) ((rg_k (by decide)) : rg 100 100 100) (r17 : rg x15 0 100)
          exact hret (F14, L14, A14, B14) H locs 105 ls dX2_list_105 hP hD hS hq
        · skip
          have r20 : rg x15 0 99 := rg_lt1 (iNE c18) (r17 : rg x15 0 100) ((rg_k (by decide)) : rg 100 100 100)
          refine lv_aload_n hx hb dX2_list_43 rfl (lv_at hl 0 rfl) ?_
          refine callv_i (As := []) (rest := []) hC (c_X2_findRound_27 l D cA H.size ad F14 L14 A14 B14  hq.1) (cwV 0 hg (g_V mw_787 mw_784 mw_785 mw_786 mw_14) rfl rfl rfl (by decide +kernel) ⟨(Nat.le_of_ble_eq_true rfl), (Nat.le_of_ble_eq_true rfl)⟩) hP hD hS hA atX_27 rfl rfl hl.1 rfl (Nat.le_of_ble_eq_true rfl) dX2_list_44 ⟨Nat.zero_le _, Nat.zero_le _⟩ (fun x21 u H locs hw hP hD hS => ?_)
          obtain ⟨F22, L22, A22, B22⟩ := u
          try dsimp only at hw
          obtain ⟨hq22, r23⟩ := hw
          have hq := hq.call hq22 (by decide)
          have hP : va_P D classes (wX cA ad F22 L22 A22 B22) H := hP
          have hD : va_D Af (wX cA ad F22 L22 A22 B22) := hD
          refine lv_if_eq (tgt := 105) hx hb dX2_list_47 (by decide) (fun c24 => ?_) (fun c24 => ?_)
          · skip
            have r25 : rg x21 0 0 := rg_eq1 c24 (r23 : rg x21 0 1) ((rg_k (by decide)) : rg 0 0 0) (by decide)
            exact hret (F22, L22, A22, B22) H locs 105 ls dX2_list_105 hP hD hS hq
          · skip
            have r26 : rg x21 1 1 := (rg_ne1 c24 (r23 : rg x21 0 1) ((rg_k (by decide)) : rg 0 0 0)).1 rfl
            refine lv_aload_n hx hb dX2_list_50 rfl (lv_at hl 0 rfl) ?_
            refine va_get (ci := 2) (v := .ref (ad 30)) (C := RX2) (T := TX2) (N := 15) hx hb hg inX2 hown hK hP 27 atX_27 rfl 4 (by decide) (hg _ mw_347) (fun _ h9 => h9) rfl dX2_list_51 ?_
            refine lv_aload_n hx hb dX2_list_54 rfl (lv_at hl 0 rfl) ?_
            refine va_get (ci := 2) (v := .int x15) (C := RX2) (T := TX2) (N := 15) hx hb hg inX2 hown hK hP 27 atX_27 rfl 6 (by decide) (hg _ mw_351) (fun _ h9 => h9) (congrArg (fun z => some (Value.int z)) ((hq22.2.1 31 (by decide)).trans (e16.symm))) dX2_list_55 ?_
            refine lv_aload_n hx hb dX2_list_58 rfl (lv_at hl 0 rfl) ?_
            refine va_get (ci := 2) (v := .int (F22 29)) (C := RX2) (T := TX2) (N := 15) hx hb hg inX2 hown hK hP 27 atX_27 rfl 2 (by decide) (hg _ mw_343) (fun _ h9 => h9) rfl dX2_list_59 ?_
            refine lv_topi (fun x27 e28 => ?_)
            refine va_iast hx hb hK hP hD hS 30 20 atX_30 tyX_30 (in_rg r20 (by decide)) dX2_list_62 (fun H locs hP hD hS => ?_)
            have hq := hq.ast 30 (x15).toNatClampNeg (x := x27) (by decide) (rg_top _)
            rw [setX_30] at hP hD
            have k29 : x27 = (va_up A22 30 (upd (A22 30) (x15).toNatClampNeg x27)) 30 (x15).toNatClampNeg := (rdA).symm
            refine lv_aload_n hx hb dX2_list_63 rfl (lv_at hl 0 rfl) ?_
            refine va_get (ci := 2) (v := .ref (ad 29)) (C := RX2) (T := TX2) (N := 15) hx hb hg inX2 hown hK hP 27 atX_27 rfl 1 (by decide) (hg _ mw_341) (fun _ h9 => h9) rfl dX2_list_64 ?_
            refine lv_iconst (v := 0) hx hb dX2_list_67 (by decide) ?_
            refine lv_aload_n hx hb dX2_list_68 rfl (lv_at hl 0 rfl) ?_
            refine va_get (ci := 2) (v := .ref (ad 31)) (C := RX2) (T := TX2) (N := 15) hx hb hg inX2 hown hK hP 27 atX_27 rfl 5 (by decide) (hg _ mw_349) (fun _ h9 => h9) rfl dX2_list_69 ?_
            refine lv_aload_n hx hb dX2_list_72 rfl (lv_at hl 0 rfl) ?_
            refine va_get (ci := 2) (v := .int x15) (C := RX2) (T := TX2) (N := 15) hx hb hg inX2 hown hK hP 27 atX_27 rfl 6 (by decide) (hg _ mw_351) (fun _ h9 => h9) (congrArg (fun z => some (Value.int z)) ((hq22.2.1 31 (by decide)).trans (e16.symm))) dX2_list_73 ?_
            refine lv_bipush (v := 8) hx hb dX2_list_76 (by decide) ?_
            refine lv_imul hx hb dX2_list_78 ?_
            refine lv_topi (fun x30 e31 => ?_)
            have r32 : rg x30 0 792 := rg_mul e31 r20 ((rg_k (by decide)) : rg 8 8 8) (by decide)
            refine lv_bipush (v := 8) hx hb dX2_list_79 (by decide) ?_
            refine va_copyi hx hb (hC.2.2.1.trans hl.1.symm) hown (hg _ mw_777) (hg _ mw_524) (hg _ mw_523) (hg _ mw_19) hK hP hD hS 29 31 19 21 atX_29 atX_31 tyX_29 tyX_31 rfl (nn_rg ((rg_k (by decide)) : rg 0 0 0) (by decide)) (nn_rg (r32 : rg x30 0 792) (by decide)) (nn_rg ((rg_k (by decide)) : rg 8 8 8) (by decide)) (cp_rg ((rg_k (by decide)) : rg 0 0 0) ((rg_k (by decide)) : rg 8 8 8) (by decide)) (cp_rg (r32 : rg x30 0 792) ((rg_k (by decide)) : rg 8 8 8) (by decide)) (fun _ _ => rfl) (Nat.le_of_ble_eq_true rfl) (Nat.le_of_ble_eq_true rfl) dX2_list_81 (fun H locs hP hD hS => ?_)
            have hq := hq.cpy 31 29 (a := ((0 : Int32)).toNatClampNeg) (b := (x30).toNatClampNeg) (n := ((8 : Int32)).toNatClampNeg) (by decide) (by decide)
            rw [setX_31] at hP hD
            refine lv_aload_n hx hb dX2_list_84 rfl (lv_at hl 0 rfl) ?_
            refine lv_aload_n hx hb dX2_list_85 rfl (lv_at hl 0 rfl) ?_
            refine va_get (ci := 2) (v := .int x27) (C := RX2) (T := TX2) (N := 15) hx hb hg inX2 hown hK hP 27 atX_27 rfl 2 (by decide) (hg _ mw_343) (fun _ h9 => h9) (congrArg (fun z => some (Value.int z)) (e28.symm)) dX2_list_86 ?_
            refine callv_v (As := [.int x27]) (rest := []) hC (c_X2_pass_27 l D cA H.size ad F22 L22 (va_up (va_up A22 30 (upd (A22 30) (x15).toNatClampNeg x27)) 31 (va_cpy ((va_up A22 30 (upd (A22 30) (x15).toNatClampNeg x27)) 29) ((va_up A22 30 (upd (A22 30) (x15).toNatClampNeg x27)) 31) ((0 : Int32)).toNatClampNeg (x30).toNatClampNeg ((8 : Int32)).toNatClampNeg)) B22 (x27) hq.1) (cwV 1 hg (g_V mw_832 mw_829 mw_830 mw_831 mw_14) rfl rfl rfl (by decide +kernel) ⟨(Nat.le_of_ble_eq_true rfl), (Nat.le_of_ble_eq_true rfl)⟩) hP hD hS hA atX_27 rfl rfl hl.1 rfl (Nat.le_of_ble_eq_true rfl) dX2_list_89 ⟨Nat.zero_le _, Nat.zero_le _⟩ (fun  u H locs hw hP hD hS => ?_)
            obtain ⟨F33, L33, A33, B33⟩ := u
            try dsimp only at hw
            have hq33 := hw
            have hq := hq.call hq33 (by decide)
            have hP : va_P D classes (wX cA ad F33 L33 A33 B33) H := hP
            have hD : va_D Af (wX cA ad F33 L33 A33 B33) := hD
            refine lv_aload_n hx hb dX2_list_92 rfl (lv_at hl 0 rfl) ?_
            refine lv_dup hx hb dX2_list_93 rfl ?_
            refine va_get (ci := 2) (v := .int x15) (C := RX2) (T := TX2) (N := 15) hx hb hg inX2 hown hK hP 27 atX_27 rfl 6 (by decide) (hg _ mw_351) (fun _ h9 => h9) (congrArg (fun z => some (Value.int z)) ((hq33.2.1 31 (by decide)).trans ((hq22.2.1 31 (by decide)).trans (e16.symm)))) dX2_list_94 ?_
            refine lv_iconst (v := 1) hx hb dX2_list_97 (by decide) ?_
            refine lv_iadd hx hb dX2_list_98 ?_
            refine lv_topi (fun x34 e35 => ?_)
            have r36 : rg x34 1 100 := rg_add e35 r20 ((rg_k (by decide)) : rg 1 1 1) (by decide)
            refine va_put (ci := 2) (v := .int x34) (ty := .int) (C := RX2) (T := TX2) (N := 15) hx hb hg inX2 tyX2 tyX2_ok nmX2 hown hK hP hD hS 27 atX_27 rfl 6 (by decide) (hg _ mw_351) (fun _ h9 => h9) rfl (by decide +kernel) rfl rfl (Nat.le_of_ble_eq_true rfl) dX2_list_99 (fun H locs hP hD hS => ?_)
            have hq := hq.put 31 (x := x34) (by decide) (rg_w r36 (by decide))
            rw [setFX_31] at hP hD
            refine lv_goto (tgt := 34) hx hb dX2_list_102 (by decide) ?_
            exact ih34 ((upd F33 31 x34)) (L33) (A33) (B33) H locs ls (by have h0 : (1 : Int32).toInt = 1 := rfl; have h1 := ti_addk e35 r20 (by decide); have h2 := ((rg_w r36 (by decide)) : rg x34 0 100); have h3 : (upd F33 31 x34) 31 = x34 := rfl; have h4 := hn34; have h5 := (e16).symm; rw [h3]; rw [h5] at h4; unfold rg at h2; omega) hq hP hD hS (lv_sub hl [0] rfl)
    exact J34 _ (F13) (L13) (A13) (B13) H locs ls (Nat.lt_succ_self _) hq hP hD hS (lv_sub hl [0] rfl)
  · skip
    have r6 : rg x1 1 1 := (rg_ne1 c4 (r3 : rg x1 0 1) ((rg_k (by decide)) : rg 0 0 0)).1 rfl
    exact hret (F, L, A, B) H locs 7 ls dX2_list_7 hP hD hS hq
abbrev rm_X11_rounds_0 : Room := { frames := 7, cells := 0, slots := 0, locals := 170 }
set_option maxHeartbeats 4000000 in
set_option maxRecDepth 100000 in
theorem c_X11_rounds_0 (l : Launch) (D : va_G) (cA : Nat → ClassId) (sz : Nat) (ad : Nat → Nat) (F : Nat → Int32) (L : Nat → Int64) (A : Nat → Nat → Int32) (B : Nat → Nat → Int64)  (hT : typX F A) : Met l yX11_rounds (Cond.code yX11_rounds cX11_rounds 1 (some .int) :: GW) rm_X11_rounds_0 (mPc D classes (tysX cA) (wX cA ad F L A B) sz [.ref (ad 0)]) (mQi (S := SW) D classes (tysX cA) (wX cA ad F L A B) sz (wfX cA ad) (fun r u => qX [29, 30, 31, 32, 33, 34, 35] [28, 29, 30, 31, 32, 33, 35, 36, 37, 38, 39, 41, 42, 43, 44, 45] F A u.1 u.2.2.1 ∧ rg r 0 100)) 0 0 (va_A (wX cA ad F L A B) sz) := by
  refine met_i (own := "ShoeingDay") (by decide +kernel) rfl (Nat.le_of_ble_eq_true rfl) ?_
  intro p e s m args below meth c Q Af ls hC hP hD hS hA hl hret
  have hx := hC.1
  have hb := hC.2.1
  have hown := hC.2.2.2.1
  have hg := hC.g
  have hK := hC.K
  have hl : lv_has ls 1 [(0, .ref (ad 0))] := hl
  have hq : qX [29, 30, 31, 32, 33, 34, 35] [28, 29, 30, 31, 32, 33, 35, 36, 37, 38, 39, 41, 42, 43, 44, 45] F A F A := qX.rf hT
  obtain ⟨H, hH⟩ : ∃ H, H = s.heap := ⟨_, rfl⟩
  have hP : va_P D classes (wX cA ad F L A B) H := by rw [hH]; exact hP
  have hS : va_S Af s.heap H [] := by rw [hH]; exact hS
  obtain ⟨locs, hlo⟩ : ∃ q : List Loc, q = [] := ⟨_, rfl⟩
  rw [← hH, ← hlo]
  rw [← hlo] at hS
  refine lv_aload_n hx hb dX11_rounds_0 rfl (lv_at hl 0 rfl) ?_
  refine va_get (ci := 11) (v := .ref (ad 27)) (C := RX11) (T := TX11) (N := 13) hx hb hg inX11 hown hK hP 0 atX_0 rfl 5 (by decide) (hg _ mw_530) (fun _ h9 => h9) rfl dX11_rounds_1 ?_
  refine lv_aload_n hx hb dX11_rounds_4 rfl (lv_at hl 0 rfl) ?_
  refine va_get (ci := 11) (v := .ref (ad 18)) (C := RX11) (T := TX11) (N := 13) hx hb hg inX11 hown hK hP 0 atX_0 rfl 2 (by decide) (hg _ mw_527) (fun _ h9 => h9) rfl dX11_rounds_5 ?_
  refine callv_v (As := [.ref (ad 18)]) (rest := []) hC (c_X2_list_27_18 l D cA H.size ad F L A B  hq.1) (cwV 1 hg (g_V mw_772 mw_769 mw_770 mw_771 mw_14) rfl rfl rfl (by decide +kernel) ⟨(Nat.le_of_ble_eq_true rfl), (Nat.le_of_ble_eq_true rfl)⟩) hP hD hS hA atX_27 rfl rfl hl.1 rfl (Nat.le_of_ble_eq_true rfl) dX11_rounds_8 ⟨Nat.zero_le _, Nat.zero_le _⟩ (fun  u H locs hw hP hD hS => ?_)
  obtain ⟨F1, L1, A1, B1⟩ := u
  try dsimp only at hw
  have hq1 := hw
  have hq := hq.call hq1 (by decide)
  have hP : va_P D classes (wX cA ad F1 L1 A1 B1) H := hP
  have hD : va_D Af (wX cA ad F1 L1 A1 B1) := hD
  refine lv_aload_n hx hb dX11_rounds_11 rfl (lv_at hl 0 rfl) ?_
  refine va_get (ci := 11) (v := .ref (ad 27)) (C := RX11) (T := TX11) (N := 13) hx hb hg inX11 hown hK hP 0 atX_0 rfl 5 (by decide) (hg _ mw_530) (fun _ h9 => h9) rfl dX11_rounds_12 ?_
  refine va_get (ci := 2) (v := .int (F1 31)) (C := RX2) (T := TX2) (N := 15) hx hb hg inX2 hown hK hP 27 atX_27 rfl 6 (by decide) (hg _ mw_352) (fun _ h9 => h9) rfl dX11_rounds_15 ?_
  refine lv_topi (fun x2 e3 => ?_)
  have r4 : rg x2 0 100 := rg_e e3 (hq.1.1 31)
  exact hret (x2) (F1, L1, A1, B1) H locs 18 ls rfl dX11_rounds_18 hP hD hS ⟨hq, r4⟩
abbrev rm_X11_lasts_0 : Room := { frames := 7, cells := 0, slots := 0, locals := 170 }
set_option maxHeartbeats 4000000 in
set_option maxRecDepth 100000 in
theorem c_X11_lasts_0 (l : Launch) (D : va_G) (cA : Nat → ClassId) (sz : Nat) (ad : Nat → Nat) (F : Nat → Int32) (L : Nat → Int64) (A : Nat → Nat → Int32) (B : Nat → Nat → Int64) (p1 : Int32) (hT : typX F A) : Met l yX11_lasts (Cond.code yX11_lasts cX11_lasts 2 (some .int) :: GW) rm_X11_lasts_0 (mPc D classes (tysX cA) (wX cA ad F L A B) sz [.ref (ad 0), .int p1]) (mQi (S := SW) D classes (tysX cA) (wX cA ad F L A B) sz (wfX cA ad) (fun r u => qX [29, 30, 31, 32, 33, 34, 35] [28, 29, 30, 31, 32, 33, 35, 36, 37, 38, 39, 41, 42, 43, 44, 45] F A u.1 u.2.2.1)) 0 0 (va_A (wX cA ad F L A B) sz) := by
  refine met_i (own := "ShoeingDay") (by decide +kernel) rfl (Nat.le_of_ble_eq_true rfl) ?_
  intro p e s m args below meth c Q Af ls hC hP hD hS hA hl hret
  have hx := hC.1
  have hb := hC.2.1
  have hown := hC.2.2.2.1
  have hg := hC.g
  have hK := hC.K
  have hl : lv_has ls 2 [(0, .ref (ad 0)), (1, .int p1)] := hl
  have hq : qX [29, 30, 31, 32, 33, 34, 35] [28, 29, 30, 31, 32, 33, 35, 36, 37, 38, 39, 41, 42, 43, 44, 45] F A F A := qX.rf hT
  obtain ⟨H, hH⟩ : ∃ H, H = s.heap := ⟨_, rfl⟩
  have hP : va_P D classes (wX cA ad F L A B) H := by rw [hH]; exact hP
  have hS : va_S Af s.heap H [] := by rw [hH]; exact hS
  obtain ⟨locs, hlo⟩ : ∃ q : List Loc, q = [] := ⟨_, rfl⟩
  rw [← hH, ← hlo]
  rw [← hlo] at hS
  refine lv_aload_n hx hb dX11_lasts_0 rfl (lv_at hl 0 rfl) ?_
  refine va_get (ci := 11) (v := .ref (ad 27)) (C := RX11) (T := TX11) (N := 13) hx hb hg inX11 hown hK hP 0 atX_0 rfl 5 (by decide) (hg _ mw_530) (fun _ h9 => h9) rfl dX11_lasts_1 ?_
  refine lv_aload_n hx hb dX11_lasts_4 rfl (lv_at hl 0 rfl) ?_
  refine va_get (ci := 11) (v := .ref (ad 18)) (C := RX11) (T := TX11) (N := 13) hx hb hg inX11 hown hK hP 0 atX_0 rfl 2 (by decide) (hg _ mw_527) (fun _ h9 => h9) rfl dX11_lasts_5 ?_
  refine callv_v (As := [.ref (ad 18)]) (rest := []) hC (c_X2_list_27_18 l D cA H.size ad F L A B  hq.1) (cwV 1 hg (g_V mw_772 mw_769 mw_770 mw_771 mw_14) rfl rfl rfl (by decide +kernel) ⟨(Nat.le_of_ble_eq_true rfl), (Nat.le_of_ble_eq_true rfl)⟩) hP hD hS hA atX_27 rfl rfl hl.1 rfl (Nat.le_of_ble_eq_true rfl) dX11_lasts_8 ⟨Nat.zero_le _, Nat.zero_le _⟩ (fun  u H locs hw hP hD hS => ?_)
  obtain ⟨F1, L1, A1, B1⟩ := u
  try dsimp only at hw
  have hq1 := hw
  have hq := hq.call hq1 (by decide)
  have hP : va_P D classes (wX cA ad F1 L1 A1 B1) H := hP
  have hD : va_D Af (wX cA ad F1 L1 A1 B1) := hD
  refine lv_iload_n hx hb dX11_lasts_11 rfl (lv_at hl 1 rfl) ?_
  have J38 : ∀ (F2 : Nat → Int32) (L2 : Nat → Int64) (A2 : Nat → Nat → Int32) (B2 : Nat → Nat → Int64) (H : Heap) (locs : List Loc) (ls : Array Slot), qX [29, 30, 31, 32, 33, 34, 35] [28, 29, 30, 31, 32, 33, 35, 36, 37, 38, 39, 41, 42, 43, 44, 45] F A F2 A2 → va_P D classes (wX cA ad F2 L2 A2 B2) H → va_D Af (wX cA ad F2 L2 A2 B2) → va_S Af s.heap H locs → lv_has ls 2 [] → W p l e rm_X11_lasts_0 s m args below meth c H locs 0 0 Q (F0 m 38 ls []) := by
    intro F2 L2 A2 B2 H locs ls hq hP hD hS hl
    refine lv_iconst (v := (-1)) hx hb dX11_lasts_38 (by decide) ?_
    exact hret ((-1)) (F2, L2, A2, B2) H locs 39 ls rfl dX11_lasts_39 hP hD hS hq
  refine lv_if_lt (tgt := 38) hx hb dX11_lasts_12 (by decide) (fun c3 => ?_) (fun c3 => ?_)
  · skip
    have r4 : rg p1 (-2147483648) (-1) := rg_lt1 (iL c3) ((rg_top _) : rg p1 (-2147483648) 2147483647) ((rg_k (by decide)) : rg 0 0 0)
    exact J38 (F1) (L1) (A1) (B1) H locs ls hq hP hD hS (lv_sub hl [] rfl)
  · skip
    have r5 : rg p1 0 2147483647 := rg_le2 (iNL c3) ((rg_k (by decide)) : rg 0 0 0) ((rg_top _) : rg p1 (-2147483648) 2147483647)
    refine lv_iload_n hx hb dX11_lasts_15 rfl (lv_at hl 1 rfl) ?_
    refine lv_aload_n hx hb dX11_lasts_16 rfl (lv_at hl 0 rfl) ?_
    refine va_get (ci := 11) (v := .ref (ad 27)) (C := RX11) (T := TX11) (N := 13) hx hb hg inX11 hown hK hP 0 atX_0 rfl 5 (by decide) (hg _ mw_530) (fun _ h9 => h9) rfl dX11_lasts_17 ?_
    refine va_get (ci := 2) (v := .int (F1 31)) (C := RX2) (T := TX2) (N := 15) hx hb hg inX2 hown hK hP 27 atX_27 rfl 6 (by decide) (hg _ mw_352) (fun _ h9 => h9) rfl dX11_lasts_20 ?_
    refine lv_topi (fun x6 e7 => ?_)
    have r8 : rg x6 0 100 := rg_e e7 (hq.1.1 31)
    refine lv_icmp_ge (tgt := 38) hx hb dX11_lasts_23 (by decide) (fun c9 => ?_) (fun c9 => ?_)
    · skip
      exact J38 (F1) (L1) (A1) (B1) H locs ls hq hP hD hS (lv_sub hl [] rfl)
    · skip
      have r10 : rg p1 0 99 := rg_lt1 (iNE c9) (r5 : rg p1 0 2147483647) (r8 : rg x6 0 100)
      have r11 : rg x6 1 100 := rg_lt2 (iNE c9) (r5 : rg p1 0 2147483647) (r8 : rg x6 0 100)
      refine lv_aload_n hx hb dX11_lasts_26 rfl (lv_at hl 0 rfl) ?_
      refine va_get (ci := 11) (v := .ref (ad 27)) (C := RX11) (T := TX11) (N := 13) hx hb hg inX11 hown hK hP 0 atX_0 rfl 5 (by decide) (hg _ mw_530) (fun _ h9 => h9) rfl dX11_lasts_27 ?_
      refine va_get (ci := 2) (v := .ref (ad 30)) (C := RX2) (T := TX2) (N := 15) hx hb hg inX2 hown hK hP 27 atX_27 rfl 4 (by decide) (hg _ mw_348) (fun _ h9 => h9) rfl dX11_lasts_30 ?_
      refine lv_iload_n hx hb dX11_lasts_33 rfl (lv_at hl 1 rfl) ?_
      refine va_iald hx hb hK hP 30 20 atX_30 tyX_30 (in_rg r10 (by decide)) dX11_lasts_34 ?_
      refine lv_topi (fun x12 e13 => ?_)
      refine lv_goto (tgt := 39) hx hb dX11_lasts_35 (by decide) ?_
      exact hret (x12) (F1, L1, A1, B1) H locs 39 ls rfl dX11_lasts_39 hP hD hS hq
abbrev rm_X11_with_0 : Room := { frames := 7, cells := 0, slots := 0, locals := 170 }
set_option maxHeartbeats 4000000 in
set_option maxRecDepth 100000 in
theorem c_X11_with_0 (l : Launch) (D : va_G) (cA : Nat → ClassId) (sz : Nat) (ad : Nat → Nat) (F : Nat → Int32) (L : Nat → Int64) (A : Nat → Nat → Int32) (B : Nat → Nat → Int64) (p1 : Int32) (p2 : Int32) (hT : typX F A) : Met l yX11_with (Cond.code yX11_with cX11_with 3 (some .int) :: GW) rm_X11_with_0 (mPc D classes (tysX cA) (wX cA ad F L A B) sz [.ref (ad 0), .int p1, .int p2]) (mQi (S := SW) D classes (tysX cA) (wX cA ad F L A B) sz (wfX cA ad) (fun r u => qX [29, 30, 31, 32, 33, 34, 35] [28, 29, 30, 31, 32, 33, 35, 36, 37, 38, 39, 41, 42, 43, 44, 45] F A u.1 u.2.2.1)) 0 0 (va_A (wX cA ad F L A B) sz) := by
  refine met_i (own := "ShoeingDay") (by decide +kernel) rfl (Nat.le_of_ble_eq_true rfl) ?_
  intro p e s m args below meth c Q Af ls hC hP hD hS hA hl hret
  have hx := hC.1
  have hb := hC.2.1
  have hown := hC.2.2.2.1
  have hg := hC.g
  have hK := hC.K
  have hl : lv_has ls 3 [(0, .ref (ad 0)), (1, .int p1), (2, .int p2)] := hl
  have hq : qX [29, 30, 31, 32, 33, 34, 35] [28, 29, 30, 31, 32, 33, 35, 36, 37, 38, 39, 41, 42, 43, 44, 45] F A F A := qX.rf hT
  obtain ⟨H, hH⟩ : ∃ H, H = s.heap := ⟨_, rfl⟩
  have hP : va_P D classes (wX cA ad F L A B) H := by rw [hH]; exact hP
  have hS : va_S Af s.heap H [] := by rw [hH]; exact hS
  obtain ⟨locs, hlo⟩ : ∃ q : List Loc, q = [] := ⟨_, rfl⟩
  rw [← hH, ← hlo]
  rw [← hlo] at hS
  refine lv_aload_n hx hb dX11_with_0 rfl (lv_at hl 0 rfl) ?_
  refine va_get (ci := 11) (v := .ref (ad 27)) (C := RX11) (T := TX11) (N := 13) hx hb hg inX11 hown hK hP 0 atX_0 rfl 5 (by decide) (hg _ mw_530) (fun _ h9 => h9) rfl dX11_with_1 ?_
  refine lv_aload_n hx hb dX11_with_4 rfl (lv_at hl 0 rfl) ?_
  refine va_get (ci := 11) (v := .ref (ad 18)) (C := RX11) (T := TX11) (N := 13) hx hb hg inX11 hown hK hP 0 atX_0 rfl 2 (by decide) (hg _ mw_527) (fun _ h9 => h9) rfl dX11_with_5 ?_
  refine callv_v (As := [.ref (ad 18)]) (rest := []) hC (c_X2_list_27_18 l D cA H.size ad F L A B  hq.1) (cwV 1 hg (g_V mw_772 mw_769 mw_770 mw_771 mw_14) rfl rfl rfl (by decide +kernel) ⟨(Nat.le_of_ble_eq_true rfl), (Nat.le_of_ble_eq_true rfl)⟩) hP hD hS hA atX_27 rfl rfl hl.1 rfl (Nat.le_of_ble_eq_true rfl) dX11_with_8 ⟨Nat.zero_le _, Nat.zero_le _⟩ (fun  u H locs hw hP hD hS => ?_)
  obtain ⟨F1, L1, A1, B1⟩ := u
  try dsimp only at hw
  have hq1 := hw
  have hq := hq.call hq1 (by decide)
  have hP : va_P D classes (wX cA ad F1 L1 A1 B1) H := hP
  have hD : va_D Af (wX cA ad F1 L1 A1 B1) := hD
  refine lv_iload_n hx hb dX11_with_11 rfl (lv_at hl 1 rfl) ?_
  have J34 : ∀ (F2 : Nat → Int32) (L2 : Nat → Int64) (A2 : Nat → Nat → Int32) (B2 : Nat → Nat → Int64) (H : Heap) (locs : List Loc) (ls : Array Slot), qX [29, 30, 31, 32, 33, 34, 35] [28, 29, 30, 31, 32, 33, 35, 36, 37, 38, 39, 41, 42, 43, 44, 45] F A F2 A2 → va_P D classes (wX cA ad F2 L2 A2 B2) H → va_D Af (wX cA ad F2 L2 A2 B2) → va_S Af s.heap H locs → lv_has ls 3 [] → W p l e rm_X11_with_0 s m args below meth c H locs 0 0 Q (F0 m 34 ls []) := by
    intro F2 L2 A2 B2 H locs ls hq hP hD hS hl
    refine lv_iconst (v := (-1)) hx hb dX11_with_34 (by decide) ?_
    exact hret ((-1)) (F2, L2, A2, B2) H locs 35 ls rfl dX11_with_35 hP hD hS hq
  refine lv_if_lt (tgt := 34) hx hb dX11_with_12 (by decide) (fun c3 => ?_) (fun c3 => ?_)
  · skip
    have r4 : rg p1 (-2147483648) (-1) := rg_lt1 (iL c3) ((rg_top _) : rg p1 (-2147483648) 2147483647) ((rg_k (by decide)) : rg 0 0 0)
    exact J34 (F1) (L1) (A1) (B1) H locs ls hq hP hD hS (lv_sub hl [] rfl)
  · skip
    have r5 : rg p1 0 2147483647 := rg_le2 (iNL c3) ((rg_k (by decide)) : rg 0 0 0) ((rg_top _) : rg p1 (-2147483648) 2147483647)
    refine lv_iload_n hx hb dX11_with_15 rfl (lv_at hl 1 rfl) ?_
    refine lv_aload_n hx hb dX11_with_16 rfl (lv_at hl 0 rfl) ?_
    refine va_get (ci := 11) (v := .ref (ad 27)) (C := RX11) (T := TX11) (N := 13) hx hb hg inX11 hown hK hP 0 atX_0 rfl 5 (by decide) (hg _ mw_530) (fun _ h9 => h9) rfl dX11_with_17 ?_
    refine va_get (ci := 2) (v := .int (F1 31)) (C := RX2) (T := TX2) (N := 15) hx hb hg inX2 hown hK hP 27 atX_27 rfl 6 (by decide) (hg _ mw_352) (fun _ h9 => h9) rfl dX11_with_20 ?_
    refine lv_topi (fun x6 e7 => ?_)
    have r8 : rg x6 0 100 := rg_e e7 (hq.1.1 31)
    refine lv_icmp_ge (tgt := 34) hx hb dX11_with_23 (by decide) (fun c9 => ?_) (fun c9 => ?_)
    · skip
      exact J34 (F1) (L1) (A1) (B1) H locs ls hq hP hD hS (lv_sub hl [] rfl)
    · skip
      have r10 : rg p1 0 99 := rg_lt1 (iNE c9) (r5 : rg p1 0 2147483647) (r8 : rg x6 0 100)
      have r11 : rg x6 1 100 := rg_lt2 (iNE c9) (r5 : rg p1 0 2147483647) (r8 : rg x6 0 100)
      refine lv_aload_n hx hb dX11_with_26 rfl (lv_at hl 0 rfl) ?_
      refine lv_iload_n hx hb dX11_with_27 rfl (lv_at hl 2 rfl) ?_
      refine callv_i (As := [.int p2]) (rest := []) hC (c_X11_isSmith_0 l D cA H.size ad F1 L1 A1 B1 (p2) hq.1) (cwV 1 hg (g_V mw_731 mw_728 mw_730 ms_19 mw_1) rfl rfl rfl (by decide +kernel) ⟨(Nat.le_of_ble_eq_true rfl), (Nat.le_of_ble_eq_true rfl)⟩) hP hD hS hA atX_0 rfl rfl hl.1 rfl (Nat.le_of_ble_eq_true rfl) dX11_with_28 ⟨Nat.zero_le _, Nat.zero_le _⟩ (fun x12 u H locs hw hP hD hS => ?_)
      obtain ⟨r13, g14⟩ := hw
      have hP : va_P D classes (wX cA ad F1 L1 A1 B1) H := hP
      have hD : va_D Af (wX cA ad F1 L1 A1 B1) := hD
      refine lv_if_ne (tgt := 36) hx hb dX11_with_31 (by decide) (fun c15 => ?_) (fun c15 => ?_)
      · skip
        have g16 := g14.resolve_left c15
        refine lv_aload_n hx hb dX11_with_36 rfl (lv_at hl 0 rfl) ?_
        refine va_get (ci := 11) (v := .ref (ad 27)) (C := RX11) (T := TX11) (N := 13) hx hb hg inX11 hown hK hP 0 atX_0 rfl 5 (by decide) (hg _ mw_530) (fun _ h9 => h9) rfl dX11_with_37 ?_
        refine va_get (ci := 2) (v := .ref (ad 31)) (C := RX2) (T := TX2) (N := 15) hx hb hg inX2 hown hK hP 27 atX_27 rfl 5 (by decide) (hg _ mw_350) (fun _ h9 => h9) rfl dX11_with_40 ?_
        refine lv_iload_n hx hb dX11_with_43 rfl (lv_at hl 1 rfl) ?_
        refine lv_bipush (v := 8) hx hb dX11_with_44 (by decide) ?_
        refine lv_imul hx hb dX11_with_46 ?_
        refine lv_topi (fun x18 e19 => ?_)
        have r20 : rg x18 0 792 := rg_mul e19 r10 ((rg_k (by decide)) : rg 8 8 8) (by decide)
        refine lv_iload_n hx hb dX11_with_47 rfl (lv_at hl 2 rfl) ?_
        refine lv_iadd hx hb dX11_with_48 ?_
        refine lv_topi (fun x21 e22 => ?_)
        have r23 : rg x21 0 799 := rg_add e22 r20 g16 (by decide)
        refine va_iald hx hb hK hP 31 21 atX_31 tyX_31 (in_rg r23 (by decide)) dX11_with_49 ?_
        refine lv_topi (fun x24 e25 => ?_)
        exact hret (x24) (F1, L1, A1, B1) H locs 50 ls rfl dX11_with_50 hP hD hS hq
      · skip
        have r17 : rg x12 0 0 := rg_eq1 c15 (r13 : rg x12 0 1) ((rg_k (by decide)) : rg 0 0 0) (by decide)
        exact J34 (F1) (L1) (A1) (B1) H locs ls hq hP hD hS (lv_sub hl [] rfl)
abbrev rm_X2_payListed_27_11 : Room := { frames := 1, cells := 0, slots := 0, locals := 21 }
set_option maxHeartbeats 4000000 in
set_option maxRecDepth 100000 in
theorem c_X2_payListed_27_11 (l : Launch) (D : va_G) (cA : Nat → ClassId) (sz : Nat) (ad : Nat → Nat) (F : Nat → Int32) (L : Nat → Int64) (A : Nat → Nat → Int32) (B : Nat → Nat → Int64) (p2 : Int32) (hT : typX F A) : Met l yX2_payListed (Cond.code yX2_payListed cX2_payListed 9 (some .int) :: GW) rm_X2_payListed_27_11 (mPc D classes (tysX cA) (wX cA ad F L A B) sz [.ref (ad 27), .ref (ad 11), .int p2]) (mQi (S := Unit) D classes (tysX cA) (wX cA ad F L A B) sz (fun _ : Unit => wX cA ad F L A B) (fun r u => True)) 0 0 (va_A (wX cA ad F L A B) sz) := by
  refine met_i (own := "ShoeingDay$Day") (by decide +kernel) rfl (Nat.le_of_ble_eq_true rfl) ?_
  intro p e s m args below meth c Q Af ls hC hP hD hS hA hl hret
  have hx := hC.1
  have hb := hC.2.1
  have hown := hC.2.2.2.1
  have hg := hC.g
  have hK := hC.K
  have hl : lv_has ls 9 [(0, .ref (ad 27)), (1, .ref (ad 11)), (2, .int p2)] := hl
  have hq : qX [] [] F A F A := qX.rf hT
  obtain ⟨H, hH⟩ : ∃ H, H = s.heap := ⟨_, rfl⟩
  have hP : va_P D classes (wX cA ad F L A B) H := by rw [hH]; exact hP
  have hS : va_S Af s.heap H [] := by rw [hH]; exact hS
  obtain ⟨locs, hlo⟩ : ∃ q : List Loc, q = [] := ⟨_, rfl⟩
  rw [← hH, ← hlo]
  rw [← hlo] at hS
  refine lv_iconst (v := 0) hx hb dX2_payListed_0 (by decide) ?_
  refine lv_istore_n (lv' := [(3, .int 0), (0, .ref (ad 27)), (1, .ref (ad 11)), (2, .int p2)]) hx hb dX2_payListed_1 rfl hl (by decide) rfl (fun ls hl => ?_)
  refine lv_iload_n hx hb dX2_payListed_2 rfl (lv_at hl 3 rfl) ?_
  refine lv_istore (lv' := [(4, .int p2), (3, .int 0), (0, .ref (ad 27)), (1, .ref (ad 11)), (2, .int p2)]) hx hb dX2_payListed_3 hl (by decide) rfl (fun ls hl => ?_)
  refine lv_iconst (v := 0) hx hb dX2_payListed_5 (by decide) ?_
  refine lv_istore (lv' := [(5, .int 0), (4, .int p2), (3, .int 0), (0, .ref (ad 27)), (1, .ref (ad 11)), (2, .int p2)]) hx hb dX2_payListed_6 hl (by decide) rfl (fun ls hl => ?_)
  have J8 : ∀ (n8 : Nat) (a1 : Int32) (a2 : Int32) (a3 : Int32) (H : Heap) (locs : List Loc) (ls : Array Slot), (100 - a3.toInt).toNat < n8 → rg a3 0 100 → va_P D classes (wX cA ad F L A B) H → va_D Af (wX cA ad F L A B) → va_S Af s.heap H locs → lv_has ls 9 [(0, .ref (ad 27)), (1, .ref (ad 11)), (3, .int a1), (4, .int a2), (5, .int a3)] → W p l e rm_X2_payListed_27_11 s m args below meth c H locs 0 0 Q (F0 m 8 ls []) := by
    intro n8
    induction n8 with
    | zero =>
      intro _ _ _ _ _ _ hn
      exact absurd hn (Nat.not_lt_zero _)
    | succ n8 ih8 =>
      intro a1 a2 a3 H locs ls hn8 r4 hP hD hS hl
      refine lv_iload hx hb dX2_payListed_8 (lv_at hl 4 rfl) ?_
      refine lv_aload_n hx hb dX2_payListed_10 rfl (lv_at hl 0 rfl) ?_
      refine va_get (ci := 2) (v := .int (F 31)) (C := RX2) (T := TX2) (N := 15) hx hb hg inX2 hown hK hP 27 atX_27 rfl 6 (by decide) (hg _ mw_351) (fun _ h9 => h9) rfl dX2_payListed_11 ?_
      refine lv_topi (fun x5 e6 => ?_)
      have r7 : rg x5 0 100 := rg_e e6 (hq.1.1 31)
      refine lv_icmp_ge (tgt := 130) hx hb dX2_payListed_14 (by decide) (fun c8 => ?_) (fun c8 => ?_)
      · skip
        refine lv_iload_n hx hb dX2_payListed_130 rfl (lv_at hl 2 rfl) ?_
        exact hret (a1) () H locs 131 ls rfl dX2_payListed_131 hP hD hS trivial
      · skip
        have r9 : rg a3 0 99 := rg_lt1 (iNE c8) (r4 : rg a3 0 100) (r7 : rg x5 0 100)
        have r10 : rg x5 1 100 := rg_lt2 (iNE c8) (r4 : rg a3 0 100) (r7 : rg x5 0 100)
        refine lv_iload hx hb dX2_payListed_17 (lv_at hl 3 rfl) ?_
        refine lv_aload_n hx hb dX2_payListed_19 rfl (lv_at hl 0 rfl) ?_
        refine va_get (ci := 2) (v := .ref (ad 30)) (C := RX2) (T := TX2) (N := 15) hx hb hg inX2 hown hK hP 27 atX_27 rfl 4 (by decide) (hg _ mw_347) (fun _ h9 => h9) rfl dX2_payListed_20 ?_
        refine lv_iload hx hb dX2_payListed_23 (lv_at hl 4 rfl) ?_
        refine va_iald hx hb hK hP 30 20 atX_30 tyX_30 (in_rg r9 (by decide)) dX2_payListed_25 ?_
        refine lv_topi (fun x11 e12 => ?_)
        refine lv_iadd hx hb dX2_payListed_26 ?_
        refine lv_topi (fun x13 e14 => ?_)
        refine lv_istore (lv' := [(6, .int x13), (0, .ref (ad 27)), (1, .ref (ad 11)), (3, .int a1), (4, .int a2), (5, .int a3)]) hx hb dX2_payListed_27 hl (by decide) rfl (fun ls hl => ?_)
        refine lv_aload_n hx hb dX2_payListed_29 rfl (lv_at hl 1 rfl) ?_
        refine va_get (ci := 2) (v := .ref (ad 30)) (C := RX2) (T := TX2) (N := 15) hx hb hg inX2 hown hK hP 27 atX_27 rfl 4 (by decide) (hg _ mw_347) (fun _ h9 => h9) rfl dX2_payListed_30 ?_
        refine lv_iload hx hb dX2_payListed_33 (lv_at hl 5 rfl) ?_
        refine va_iald hx hb hK hP 30 20 atX_30 tyX_30 (in_rg r9 (by decide)) dX2_payListed_35 ?_
        refine tope (e12) ?_
        refine lv_istore (lv' := [(7, .int x11), (6, .int x13), (0, .ref (ad 27)), (1, .ref (ad 11)), (3, .int a1), (4, .int a2), (5, .int a3)]) hx hb dX2_payListed_36 hl (by decide) rfl (fun ls hl => ?_)
        refine lv_aload_n hx hb dX2_payListed_38 rfl (lv_at hl 3 rfl) ?_
        refine va_get (ci := 10) (v := .int (F 20)) (C := RX10) (T := TX10) (N := 12) hx hb hg inX10 hown hK hP 11 atX_11 rfl 11 (by decide) (hg _ mw_182) (fun _ h9 => h9) rfl dX2_payListed_39 ?_
        refine lv_topi (fun x15 e16 => ?_)
        refine lv_iconst (v := (-1)) hx hb dX2_payListed_42 (by decide) ?_
        have J72 : ∀ (a17 : Int32) (H : Heap) (locs : List Loc) (ls : Array Slot), va_P D classes (wX cA ad F L A B) H → va_D Af (wX cA ad F L A B) → va_S Af s.heap H locs → lv_has ls 9 [(0, .ref (ad 27)), (1, .ref (ad 11)), (3, .int a1), (5, .int a3), (6, .int x13), (7, .int a17)] → W p l e rm_X2_payListed_27_11 s m args below meth c H locs 0 0 Q (F0 m 72 ls []) := by
          intro a17 H locs ls hP hD hS hl
          refine lv_iconst (v := 0) hx hb dX2_payListed_72 (by decide) ?_
          refine lv_istore (lv' := [(8, .int 0), (0, .ref (ad 27)), (1, .ref (ad 11)), (3, .int a1), (5, .int a3), (6, .int x13), (7, .int a17)]) hx hb dX2_payListed_73 hl (by decide) rfl (fun ls hl => ?_)
          have J75 : ∀ (n75 : Nat) (a18 : Int32) (a19 : Int32) (H : Heap) (locs : List Loc) (ls : Array Slot), (8 - a19.toInt).toNat < n75 → rg a19 0 8 → va_P D classes (wX cA ad F L A B) H → va_D Af (wX cA ad F L A B) → va_S Af s.heap H locs → lv_has ls 9 [(0, .ref (ad 27)), (1, .ref (ad 11)), (3, .int a18), (5, .int a3), (6, .int x13), (7, .int a17), (8, .int a19)] → W p l e rm_X2_payListed_27_11 s m args below meth c H locs 0 0 Q (F0 m 75 ls []) := by
            intro n75
            induction n75 with
            | zero =>
              intro _ _ _ _ _ hn
              exact absurd hn (Nat.not_lt_zero _)
            | succ n75 ih75 =>
              intro a18 a19 H locs ls hn75 r20 hP hD hS hl
              refine lv_iload hx hb dX2_payListed_75 (lv_at hl 6 rfl) ?_
              refine lv_aload_n hx hb dX2_payListed_77 rfl (lv_at hl 1 rfl) ?_
              refine va_get (ci := 10) (v := .int (F 15)) (C := RX10) (T := TX10) (N := 12) hx hb hg inX10 hown hK hP 11 atX_11 rfl 6 (by decide) (hg _ mw_170) (fun _ h9 => h9) rfl dX2_payListed_78 ?_
              refine lv_topi (fun x21 e22 => ?_)
              have r23 : rg x21 0 8 := rg_e e22 (hq.1.1 15)
              refine lv_icmp_ge (tgt := 120) hx hb dX2_payListed_81 (by decide) (fun c24 => ?_) (fun c24 => ?_)
              · skip
                refine lv_iload hx hb dX2_payListed_120 (lv_at hl 4 rfl) ?_
                refine lv_istore (lv' := [(4, .int x13), (0, .ref (ad 27)), (1, .ref (ad 11)), (3, .int a18), (5, .int a3), (6, .int x13), (7, .int a17), (8, .int a19)]) hx hb dX2_payListed_122 hl (by decide) rfl (fun ls hl => ?_)
                obtain ⟨x27, e28⟩ : ∃ y : Int32, y = a3 + 1 := ⟨_, rfl⟩
                have r29 : rg x27 1 100 := rg_add e28 r9 (rg_k (by decide) : rg 1 1 1) (by decide)
                refine lv_iinc (v := x27) (lv' := [(5, .int x27), (4, .int x13), (0, .ref (ad 27)), (1, .ref (ad 11)), (3, .int a18), (6, .int x13), (7, .int a17), (8, .int a19)]) hx hb dX2_payListed_124 hl (k := 4) rfl (by rw [e28]; rfl) (by decide) rfl (fun ls hl => ?_)
                refine lv_goto (tgt := 8) hx hb dX2_payListed_127 (by decide) ?_
                exact ih8 (a18) (x13) (x27) H locs ls (by have h0 : (1 : Int32).toInt = 1 := rfl; have h1 := ti_addk e28 r9 (by decide); have h2 : rg x27 0 100 := (rg_w r29 (by decide)); unfold rg at h2; omega) (rg_w r29 (by decide)) hP hD hS (lv_sub hl [2, 3, 4, 1, 0] rfl)
              · skip
                have r25 : rg a19 0 7 := rg_lt1 (iNE c24) (r20 : rg a19 0 8) (r23 : rg x21 0 8)
                have r26 : rg x21 1 8 := rg_lt2 (iNE c24) (r20 : rg a19 0 8) (r23 : rg x21 0 8)
                refine lv_aload_n hx hb dX2_payListed_84 rfl (lv_at hl 0 rfl) ?_
                refine va_get (ci := 2) (v := .ref (ad 31)) (C := RX2) (T := TX2) (N := 15) hx hb hg inX2 hown hK hP 27 atX_27 rfl 5 (by decide) (hg _ mw_349) (fun _ h9 => h9) rfl dX2_payListed_85 ?_
                refine lv_iload hx hb dX2_payListed_88 (lv_at hl 3 rfl) ?_
                refine lv_bipush (v := 8) hx hb dX2_payListed_90 (by decide) ?_
                refine lv_imul hx hb dX2_payListed_92 ?_
                refine lv_topi (fun x30 e31 => ?_)
                have r32 : rg x30 0 792 := rg_mul e31 r9 ((rg_k (by decide)) : rg 8 8 8) (by decide)
                refine lv_iload hx hb dX2_payListed_93 (lv_at hl 6 rfl) ?_
                refine lv_iadd hx hb dX2_payListed_95 ?_
                refine lv_topi (fun x33 e34 => ?_)
                have r35 : rg x33 0 799 := rg_add e34 r32 r25 (by decide)
                refine va_iald hx hb hK hP 31 21 atX_31 tyX_31 (in_rg r35 (by decide)) dX2_payListed_96 ?_
                refine lv_topi (fun x36 e37 => ?_)
                refine lv_iconst (v := (-1)) hx hb dX2_payListed_97 (by decide) ?_
                have J114 : ∀ (a38 : Int32) (H : Heap) (locs : List Loc) (ls : Array Slot), va_P D classes (wX cA ad F L A B) H → va_D Af (wX cA ad F L A B) → va_S Af s.heap H locs → lv_has ls 9 [(0, .ref (ad 27)), (1, .ref (ad 11)), (3, .int a38), (5, .int a3), (6, .int x13), (7, .int a17), (8, .int a19)] → W p l e rm_X2_payListed_27_11 s m args below meth c H locs 0 0 Q (F0 m 114 ls []) := by
                  intro a38 H locs ls hP hD hS hl
                  obtain ⟨x39, e40⟩ : ∃ y : Int32, y = a19 + 1 := ⟨_, rfl⟩
                  have r41 : rg x39 1 8 := rg_add e40 r25 (rg_k (by decide) : rg 1 1 1) (by decide)
                  refine lv_iinc (v := x39) (lv' := [(8, .int x39), (0, .ref (ad 27)), (1, .ref (ad 11)), (3, .int a38), (5, .int a3), (6, .int x13), (7, .int a17)]) hx hb dX2_payListed_114 hl (k := 6) rfl (by rw [e40]; rfl) (by decide) rfl (fun ls hl => ?_)
                  refine lv_goto (tgt := 75) hx hb dX2_payListed_117 (by decide) ?_
                  exact ih75 (a38) (x39) H locs ls (by have h0 : (1 : Int32).toInt = 1 := rfl; have h1 := ti_addk e40 r25 (by decide); have h2 : rg x39 0 8 := (rg_w r41 (by decide)); unfold rg at h2; omega) (rg_w r41 (by decide)) hP hD hS (lv_sub hl [1, 2, 3, 4, 5, 6, 0] rfl)
                refine lv_icmp_eq (tgt := 114) hx hb dX2_payListed_98 (by decide) (fun c42 => ?_) (fun c42 => ?_)
                · skip
                  have r43 : rg x36 (-1) (-1) := rg_eq1 c42 ((rg_top _) : rg x36 (-2147483648) 2147483647) ((rg_k (by decide)) : rg (-1) (-1) (-1)) (by decide)
                  exact J114 (a18) H locs ls  hP hD hS (lv_sub hl [0, 1, 2, 3, 4, 5, 6] rfl)
                · skip
                  refine lv_iload_n hx hb dX2_payListed_101 rfl (lv_at hl 2 rfl) ?_
                  refine lv_aload_n hx hb dX2_payListed_102 rfl (lv_at hl 1 rfl) ?_
                  refine va_get (ci := 10) (v := .ref (ad 14)) (C := RX10) (T := TX10) (N := 12) hx hb hg inX10 hown hK hP 11 atX_11 rfl 2 (by decide) (hg _ mw_157) (fun _ h9 => h9) rfl dX2_payListed_103 ?_
                  refine lv_iload hx hb dX2_payListed_106 (lv_at hl 6 rfl) ?_
                  refine va_iald hx hb hK hP 14 9 atX_14 tyX_14 (in_rg r25 (by decide)) dX2_payListed_108 ?_
                  refine lv_topi (fun x44 e45 => ?_)
                  refine lv_iload hx hb dX2_payListed_109 (lv_at hl 5 rfl) ?_
                  refine lv_imul hx hb dX2_payListed_111 ?_
                  refine lv_topi (fun x46 e47 => ?_)
                  refine lv_iadd hx hb dX2_payListed_112 ?_
                  refine lv_topi (fun x48 e49 => ?_)
                  refine lv_istore_n (lv' := [(3, .int x48), (0, .ref (ad 27)), (1, .ref (ad 11)), (5, .int a3), (6, .int x13), (7, .int a17), (8, .int a19)]) hx hb dX2_payListed_113 rfl hl (by decide) rfl (fun ls hl => ?_)
                  exact J114 (x48) H locs ls  hP hD hS (lv_sub hl [1, 2, 0, 3, 4, 5, 6] rfl)
          exact J75 _ (a1) (0) H locs ls (Nat.lt_succ_self _) (rg_k (by decide)) hP hD hS (lv_sub hl [1, 2, 3, 4, 5, 6, 0] rfl)
        refine lv_icmp_eq (tgt := 72) hx hb dX2_payListed_43 (by decide) (fun c50 => ?_) (fun c50 => ?_)
        · skip
          have r51 : rg x15 (-1) (-1) := rg_eq1 c50 ((rg_top _) : rg x15 (-2147483648) 2147483647) ((rg_k (by decide)) : rg (-1) (-1) (-1)) (by decide)
          exact J72 (x11) H locs ls  hP hD hS (lv_sub hl [2, 3, 4, 6, 1, 0] rfl)
        · skip
          refine lv_iload hx hb dX2_payListed_46 (lv_at hl 1 rfl) ?_
          refine lv_aload_n hx hb dX2_payListed_48 rfl (lv_at hl 3 rfl) ?_
          refine va_get (ci := 10) (v := .int x15) (C := RX10) (T := TX10) (N := 12) hx hb hg inX10 hown hK hP 11 atX_11 rfl 11 (by decide) (hg _ mw_182) (fun _ h9 => h9) (congrArg (fun z => some (Value.int z)) (e16.symm)) dX2_payListed_49 ?_
          refine lv_icmp_le (tgt := 72) hx hb dX2_payListed_52 (by decide) (fun c52 => ?_) (fun c52 => ?_)
          · skip
            exact J72 (x11) H locs ls  hP hD hS (lv_sub hl [2, 3, 4, 6, 1, 0] rfl)
          · skip
            have r53 : rg x15 (-2147483648) 2147483646 := rg_lt1 (iNE c52) ((rg_top _) : rg x15 (-2147483648) 2147483647) ((rg_top _) : rg x13 (-2147483648) 2147483647)
            have r54 : rg x13 (-2147483647) 2147483647 := rg_lt2 (iNE c52) ((rg_top _) : rg x15 (-2147483648) 2147483647) ((rg_top _) : rg x13 (-2147483648) 2147483647)
            refine lv_iload hx hb dX2_payListed_55 (lv_at hl 0 rfl) ?_
            refine lv_iload hx hb dX2_payListed_57 (lv_at hl 1 rfl) ?_
            refine lv_iload hx hb dX2_payListed_59 (lv_at hl 5 rfl) ?_
            refine lv_aload_n hx hb dX2_payListed_61 rfl (lv_at hl 3 rfl) ?_
            refine va_get (ci := 10) (v := .int x15) (C := RX10) (T := TX10) (N := 12) hx hb hg inX10 hown hK hP 11 atX_11 rfl 11 (by decide) (hg _ mw_182) (fun _ h9 => h9) (congrArg (fun z => some (Value.int z)) (e16.symm)) dX2_payListed_62 ?_
            refine va_mmax hx hb (hC.2.2.1.trans hl.1.symm) hown (hg _ mw_783) (hg _ mw_272) (hg _ mw_12) (hg _ mw_273) (Nat.le_of_ble_eq_true rfl) (Nat.le_of_ble_eq_true rfl) (Nat.zero_le _) (Nat.zero_le _) dX2_payListed_65 ?_
            refine lv_topi (fun x55 e56 => ?_)
            refine lv_isub hx hb dX2_payListed_68 ?_
            refine lv_topi (fun x57 e58 => ?_)
            refine lv_iadd hx hb dX2_payListed_69 ?_
            refine lv_topi (fun x59 e60 => ?_)
            refine lv_istore (lv' := [(7, .int x59), (6, .int x13), (0, .ref (ad 27)), (1, .ref (ad 11)), (3, .int a1), (4, .int a2), (5, .int a3)]) hx hb dX2_payListed_70 hl (by decide) rfl (fun ls hl => ?_)
            exact J72 (x59) H locs ls  hP hD hS (lv_sub hl [2, 3, 4, 6, 1, 0] rfl)
  exact J8 _ (0) (p2) (0) H locs ls (Nat.lt_succ_self _) (rg_k (by decide)) hP hD hS (lv_sub hl [3, 4, 2, 1, 0] rfl)
abbrev rm_X11_wages_0 : Room := { frames := 7, cells := 0, slots := 0, locals := 170 }
set_option maxHeartbeats 4000000 in
set_option maxRecDepth 100000 in
theorem c_X11_wages_0 (l : Launch) (D : va_G) (cA : Nat → ClassId) (sz : Nat) (ad : Nat → Nat) (F : Nat → Int32) (L : Nat → Int64) (A : Nat → Nat → Int32) (B : Nat → Nat → Int64)  (hT : typX F A) : Met l yX11_wages (Cond.code yX11_wages cX11_wages 1 (some .int) :: GW) rm_X11_wages_0 (mPc D classes (tysX cA) (wX cA ad F L A B) sz [.ref (ad 0)]) (mQi (S := SW) D classes (tysX cA) (wX cA ad F L A B) sz (wfX cA ad) (fun r u => qX [29, 30, 31, 32, 33, 34, 35] [28, 29, 30, 31, 32, 33, 35, 36, 37, 38, 39, 41, 42, 43, 44, 45] F A u.1 u.2.2.1)) 0 0 (va_A (wX cA ad F L A B) sz) := by
  refine met_i (own := "ShoeingDay") (by decide +kernel) rfl (Nat.le_of_ble_eq_true rfl) ?_
  intro p e s m args below meth c Q Af ls hC hP hD hS hA hl hret
  have hx := hC.1
  have hb := hC.2.1
  have hown := hC.2.2.2.1
  have hg := hC.g
  have hK := hC.K
  have hl : lv_has ls 1 [(0, .ref (ad 0))] := hl
  have hq : qX [29, 30, 31, 32, 33, 34, 35] [28, 29, 30, 31, 32, 33, 35, 36, 37, 38, 39, 41, 42, 43, 44, 45] F A F A := qX.rf hT
  obtain ⟨H, hH⟩ : ∃ H, H = s.heap := ⟨_, rfl⟩
  have hP : va_P D classes (wX cA ad F L A B) H := by rw [hH]; exact hP
  have hS : va_S Af s.heap H [] := by rw [hH]; exact hS
  obtain ⟨locs, hlo⟩ : ∃ q : List Loc, q = [] := ⟨_, rfl⟩
  rw [← hH, ← hlo]
  rw [← hlo] at hS
  refine lv_aload_n hx hb dX11_wages_0 rfl (lv_at hl 0 rfl) ?_
  refine va_get (ci := 11) (v := .ref (ad 27)) (C := RX11) (T := TX11) (N := 13) hx hb hg inX11 hown hK hP 0 atX_0 rfl 5 (by decide) (hg _ mw_530) (fun _ h9 => h9) rfl dX11_wages_1 ?_
  refine lv_aload_n hx hb dX11_wages_4 rfl (lv_at hl 0 rfl) ?_
  refine va_get (ci := 11) (v := .ref (ad 18)) (C := RX11) (T := TX11) (N := 13) hx hb hg inX11 hown hK hP 0 atX_0 rfl 2 (by decide) (hg _ mw_527) (fun _ h9 => h9) rfl dX11_wages_5 ?_
  refine callv_v (As := [.ref (ad 18)]) (rest := []) hC (c_X2_list_27_18 l D cA H.size ad F L A B  hq.1) (cwV 1 hg (g_V mw_772 mw_769 mw_770 mw_771 mw_14) rfl rfl rfl (by decide +kernel) ⟨(Nat.le_of_ble_eq_true rfl), (Nat.le_of_ble_eq_true rfl)⟩) hP hD hS hA atX_27 rfl rfl hl.1 rfl (Nat.le_of_ble_eq_true rfl) dX11_wages_8 ⟨Nat.zero_le _, Nat.zero_le _⟩ (fun  u H locs hw hP hD hS => ?_)
  obtain ⟨F1, L1, A1, B1⟩ := u
  try dsimp only at hw
  have hq1 := hw
  have hq := hq.call hq1 (by decide)
  have hP : va_P D classes (wX cA ad F1 L1 A1 B1) H := hP
  have hD : va_D Af (wX cA ad F1 L1 A1 B1) := hD
  refine lv_aload_n hx hb dX11_wages_11 rfl (lv_at hl 0 rfl) ?_
  refine va_get (ci := 11) (v := .ref (ad 27)) (C := RX11) (T := TX11) (N := 13) hx hb hg inX11 hown hK hP 0 atX_0 rfl 5 (by decide) (hg _ mw_530) (fun _ h9 => h9) rfl dX11_wages_12 ?_
  refine lv_aload_n hx hb dX11_wages_15 rfl (lv_at hl 0 rfl) ?_
  refine va_get (ci := 11) (v := .ref (ad 11)) (C := RX11) (T := TX11) (N := 13) hx hb hg inX11 hown hK hP 0 atX_0 rfl 10 (by decide) (hg _ mw_535) (fun _ h9 => h9) rfl dX11_wages_16 ?_
  refine lv_aload_n hx hb dX11_wages_19 rfl (lv_at hl 0 rfl) ?_
  refine va_get (ci := 11) (v := .ref (ad 18)) (C := RX11) (T := TX11) (N := 13) hx hb hg inX11 hown hK hP 0 atX_0 rfl 2 (by decide) (hg _ mw_527) (fun _ h9 => h9) rfl dX11_wages_20 ?_
  refine va_get (ci := 3) (v := .int (F1 23)) (C := RX3) (T := TX3) (N := 4) hx hb hg inX3 hown hK hP 18 atX_18 rfl 3 (by decide) (hg _ mw_249) (fun _ h9 => h9) rfl dX11_wages_23 ?_
  refine lv_topi (fun x2 e3 => ?_)
  refine callv_i (As := [.ref (ad 11), .int x2]) (rest := []) hC (c_X2_payListed_27_11 l D cA H.size ad F1 L1 A1 B1 (x2) hq.1) (cwV 2 hg (g_V mw_848 mw_845 mw_846 mw_847 mw_14) rfl rfl rfl (by decide +kernel) ⟨(Nat.le_of_ble_eq_true rfl), (Nat.le_of_ble_eq_true rfl)⟩) hP hD hS hA atX_27 rfl rfl hl.1 rfl (Nat.le_of_ble_eq_true rfl) dX11_wages_26 ⟨Nat.zero_le _, Nat.zero_le _⟩ (fun x4 u H locs hw hP hD hS => ?_)
  have hP : va_P D classes (wX cA ad F1 L1 A1 B1) H := hP
  have hD : va_D Af (wX cA ad F1 L1 A1 B1) := hD
  exact hret (x4) (F1, L1, A1, B1) H locs 29 ls rfl dX11_wages_29 hP hD hS hq
abbrev rm_X4_bound_46 : Room := { frames := 0, cells := 0, slots := 0, locals := 0 }
set_option maxHeartbeats 4000000 in
set_option maxRecDepth 100000 in
theorem c_X4_bound_46 (l : Launch) (D : va_G) (cA : Nat → ClassId) (sz : Nat) (ad : Nat → Nat) (F : Nat → Int32) (L : Nat → Int64) (A : Nat → Nat → Int32) (B : Nat → Nat → Int64) (p1 : Int32) (p2 : Int32) (p3 : Int32) (p4 : Int32) (hT : typX F A) (hp1 : rg p1 0 18) (hp4 : rg p4 (-99) 9) : Met l yX4_bound (Cond.code yX4_bound cX4_bound 5 none :: GW) rm_X4_bound_46 (mPc D classes (tysX cA) (wX cA ad F L A B) sz [.ref (ad 46), .int p1, .int p2, .int p3, .int p4]) (mQv (S := SW) D classes (tysX cA) (wX cA ad F L A B) sz (wfX cA ad) (fun u => qX [] [51, 52, 53] F A u.1 u.2.2.1)) 0 0 (va_A (wX cA ad F L A B) sz) := by
  refine met_v (own := "ShoeingDay$Parting") (by decide +kernel) rfl (Nat.le_of_ble_eq_true rfl) ?_
  intro p e s m args below meth c Q Af ls hC hP hD hS hA hl hret
  have hx := hC.1
  have hb := hC.2.1
  have hown := hC.2.2.2.1
  have hg := hC.g
  have hK := hC.K
  have hl : lv_has ls 5 [(0, .ref (ad 46)), (1, .int p1), (2, .int p2), (3, .int p3), (4, .int p4)] := hl
  have hq : qX [] [51, 52, 53] F A F A := qX.rf hT
  obtain ⟨H, hH⟩ : ∃ H, H = s.heap := ⟨_, rfl⟩
  have hP : va_P D classes (wX cA ad F L A B) H := by rw [hH]; exact hP
  have hS : va_S Af s.heap H [] := by rw [hH]; exact hS
  obtain ⟨locs, hlo⟩ : ∃ q : List Loc, q = [] := ⟨_, rfl⟩
  rw [← hH, ← hlo]
  rw [← hlo] at hS
  refine lv_iload hx hb dX4_bound_0 (lv_at hl 4 rfl) ?_
  refine lv_if_le (tgt := 41) hx hb dX4_bound_2 (by decide) (fun c1 => ?_) (fun c1 => ?_)
  · skip
    have r2 : rg p4 (-99) 0 := rg_le1 (iE c1) (hp4 : rg p4 (-99) 9) ((rg_k (by decide)) : rg 0 0 0)
    exact hret (F, L, A, B) H locs 41 ls dX4_bound_41 hP hD hS hq
  · skip
    have r3 : rg p4 1 9 := rg_lt2 (iNE c1) ((rg_k (by decide)) : rg 0 0 0) (hp4 : rg p4 (-99) 9)
    refine lv_aload_n hx hb dX4_bound_5 rfl (lv_at hl 0 rfl) ?_
    refine va_get (ci := 4) (v := .ref (ad 51)) (C := RX4) (T := TX4) (N := 12) hx hb hg inX4 hown hK hP 46 atX_46 rfl 5 (by decide) (hg _ mw_406) (fun _ h9 => h9) rfl dX4_bound_6 ?_
    refine lv_iload_n hx hb dX4_bound_9 rfl (lv_at hl 1 rfl) ?_
    refine lv_iconst (v := 0) hx hb dX4_bound_10 (by decide) ?_
    refine va_iast hx hb hK hP hD hS 51 38 atX_51 tyX_51 (in_rg hp1 (by decide)) dX4_bound_11 (fun H locs hP hD hS => ?_)
    have hq := hq.ast 51 (p1).toNatClampNeg (x := 0) (by decide) (rg_k (by decide))
    rw [setX_51] at hP hD
    have k4 : (0 : Int32) = (va_up A 51 (upd (A 51) (p1).toNatClampNeg 0)) 51 (p1).toNatClampNeg := (rdA).symm
    refine lv_aload_n hx hb dX4_bound_12 rfl (lv_at hl 0 rfl) ?_
    refine va_get (ci := 4) (v := .ref (ad 52)) (C := RX4) (T := TX4) (N := 12) hx hb hg inX4 hown hK hP 46 atX_46 rfl 6 (by decide) (hg _ mw_407) (fun _ h9 => h9) rfl dX4_bound_13 ?_
    refine lv_iload_n hx hb dX4_bound_16 rfl (lv_at hl 1 rfl) ?_
    refine lv_iload_n hx hb dX4_bound_17 rfl (lv_at hl 2 rfl) ?_
    refine lv_iload hx hb dX4_bound_18 (lv_at hl 4 rfl) ?_
    refine lv_idiv hx hb dX4_bound_20 (ne0_rg r3 (by decide)) ?_
    refine lv_topi (fun x5 e6 => ?_)
    refine lv_iload_n hx hb dX4_bound_21 rfl (lv_at hl 3 rfl) ?_
    refine lv_isub hx hb dX4_bound_22 ?_
    refine lv_topi (fun x7 e8 => ?_)
    refine va_iast hx hb hK hP hD hS 52 39 atX_52 tyX_52 (in_rg hp1 (by decide)) dX4_bound_23 (fun H locs hP hD hS => ?_)
    have hq := hq.ast 52 (p1).toNatClampNeg (x := x7) (by decide) (rg_top _)
    rw [setX_52] at hP hD
    have k9 : x7 = (va_up (va_up A 51 (upd (A 51) (p1).toNatClampNeg 0)) 52 (upd ((va_up A 51 (upd (A 51) (p1).toNatClampNeg 0)) 52) (p1).toNatClampNeg x7)) 52 (p1).toNatClampNeg := (rdA).symm
    refine lv_aload_n hx hb dX4_bound_24 rfl (lv_at hl 0 rfl) ?_
    refine va_get (ci := 4) (v := .ref (ad 53)) (C := RX4) (T := TX4) (N := 12) hx hb hg inX4 hown hK hP 46 atX_46 rfl 7 (by decide) (hg _ mw_408) (fun _ h9 => h9) rfl dX4_bound_25 ?_
    refine lv_iload_n hx hb dX4_bound_28 rfl (lv_at hl 1 rfl) ?_
    refine lv_iload_n hx hb dX4_bound_29 rfl (lv_at hl 2 rfl) ?_
    refine lv_iload hx hb dX4_bound_30 (lv_at hl 4 rfl) ?_
    refine lv_iadd hx hb dX4_bound_32 ?_
    refine lv_topi (fun x10 e11 => ?_)
    refine lv_iconst (v := 1) hx hb dX4_bound_33 (by decide) ?_
    refine lv_isub hx hb dX4_bound_34 ?_
    refine lv_topi (fun x12 e13 => ?_)
    refine lv_iload hx hb dX4_bound_35 (lv_at hl 4 rfl) ?_
    refine lv_idiv hx hb dX4_bound_37 (ne0_rg r3 (by decide)) ?_
    refine lv_topi (fun x14 e15 => ?_)
    refine lv_iload_n hx hb dX4_bound_38 rfl (lv_at hl 3 rfl) ?_
    refine lv_isub hx hb dX4_bound_39 ?_
    refine lv_topi (fun x16 e17 => ?_)
    refine va_iast hx hb hK hP hD hS 53 40 atX_53 tyX_53 (in_rg hp1 (by decide)) dX4_bound_40 (fun H locs hP hD hS => ?_)
    have hq := hq.ast 53 (p1).toNatClampNeg (x := x16) (by decide) (rg_top _)
    rw [setX_53] at hP hD
    have k18 : x16 = (va_up (va_up (va_up A 51 (upd (A 51) (p1).toNatClampNeg 0)) 52 (upd ((va_up A 51 (upd (A 51) (p1).toNatClampNeg 0)) 52) (p1).toNatClampNeg x7)) 53 (upd ((va_up (va_up A 51 (upd (A 51) (p1).toNatClampNeg 0)) 52 (upd ((va_up A 51 (upd (A 51) (p1).toNatClampNeg 0)) 52) (p1).toNatClampNeg x7)) 53) (p1).toNatClampNeg x16)) 53 (p1).toNatClampNeg := (rdA).symm
    exact hret (F, L, (va_up (va_up (va_up A 51 (upd (A 51) (p1).toNatClampNeg 0)) 52 (upd ((va_up A 51 (upd (A 51) (p1).toNatClampNeg 0)) 52) (p1).toNatClampNeg x7)) 53 (upd ((va_up (va_up A 51 (upd (A 51) (p1).toNatClampNeg 0)) 52 (upd ((va_up A 51 (upd (A 51) (p1).toNatClampNeg 0)) 52) (p1).toNatClampNeg x7)) 53) (p1).toNatClampNeg x16)), B) H locs 41 ls dX4_bound_41 hP hD hS hq
abbrev rm_X4_boundSums_46 : Room := { frames := 1, cells := 0, slots := 0, locals := 24 }
set_option maxHeartbeats 4000000 in
set_option maxRecDepth 100000 in
theorem c_X4_boundSums_46 (l : Launch) (D : va_G) (cA : Nat → ClassId) (sz : Nat) (ad : Nat → Nat) (F : Nat → Int32) (L : Nat → Int64) (A : Nat → Nat → Int32) (B : Nat → Nat → Int64) (p1 : Int32) (p2 : Int32) (hT : typX F A) (hp1 : rg p1 0 8) (hp2 : rg p2 (-99) 9) : Met l yX4_boundSums (Cond.code yX4_boundSums cX4_boundSums 9 none :: GW) rm_X4_boundSums_46 (mPc D classes (tysX cA) (wX cA ad F L A B) sz [.ref (ad 46), .int p1, .int p2]) (mQv (S := SW) D classes (tysX cA) (wX cA ad F L A B) sz (wfX cA ad) (fun u => qX [] [51, 52, 53] F A u.1 u.2.2.1)) 0 0 (va_A (wX cA ad F L A B) sz) := by
  refine met_v (own := "ShoeingDay$Parting") (by decide +kernel) rfl (Nat.le_of_ble_eq_true rfl) ?_
  intro p e s m args below meth c Q Af ls hC hP hD hS hA hl hret
  have hx := hC.1
  have hb := hC.2.1
  have hown := hC.2.2.2.1
  have hg := hC.g
  have hK := hC.K
  have hl : lv_has ls 9 [(0, .ref (ad 46)), (1, .int p1), (2, .int p2)] := hl
  have hq : qX [] [51, 52, 53] F A F A := qX.rf hT
  obtain ⟨H, hH⟩ : ∃ H, H = s.heap := ⟨_, rfl⟩
  have hP : va_P D classes (wX cA ad F L A B) H := by rw [hH]; exact hP
  have hS : va_S Af s.heap H [] := by rw [hH]; exact hS
  obtain ⟨locs, hlo⟩ : ∃ q : List Loc, q = [] := ⟨_, rfl⟩
  rw [← hH, ← hlo]
  rw [← hlo] at hS
  refine lv_iconst (v := 0) hx hb dX4_boundSums_0 (by decide) ?_
  refine lv_istore_n (lv' := [(3, .int 0), (0, .ref (ad 46)), (1, .int p1), (2, .int p2)]) hx hb dX4_boundSums_1 rfl hl (by decide) rfl (fun ls hl => ?_)
  refine lv_iconst (v := 0) hx hb dX4_boundSums_2 (by decide) ?_
  refine lv_istore (lv' := [(4, .int 0), (3, .int 0), (0, .ref (ad 46)), (1, .int p1), (2, .int p2)]) hx hb dX4_boundSums_3 hl (by decide) rfl (fun ls hl => ?_)
  refine lv_iconst (v := 0) hx hb dX4_boundSums_5 (by decide) ?_
  refine lv_istore (lv' := [(5, .int 0), (4, .int 0), (3, .int 0), (0, .ref (ad 46)), (1, .int p1), (2, .int p2)]) hx hb dX4_boundSums_6 hl (by decide) rfl (fun ls hl => ?_)
  have J8 : ∀ (n8 : Nat) (a1 : Int32) (a2 : Int32) (a3 : Int32) (F5 : Nat → Int32) (L5 : Nat → Int64) (A5 : Nat → Nat → Int32) (B5 : Nat → Nat → Int64) (H : Heap) (locs : List Loc) (ls : Array Slot), (8 - a3.toInt).toNat < n8 → rg a3 0 8 → qX [] [51, 52, 53] F A F5 A5 → va_P D classes (wX cA ad F5 L5 A5 B5) H → va_D Af (wX cA ad F5 L5 A5 B5) → va_S Af s.heap H locs → lv_has ls 9 [(0, .ref (ad 46)), (1, .int p1), (2, .int p2), (3, .int a1), (4, .int a2), (5, .int a3)] → W p l e rm_X4_boundSums_46 s m args below meth c H locs 0 0 Q (F0 m 8 ls []) := by
    intro n8
    induction n8 with
    | zero =>
      intro _ _ _ _ _ _ _ _ _ _ hn
      exact absurd hn (Nat.not_lt_zero _)
    | succ n8 ih8 =>
      intro a1 a2 a3 F5 L5 A5 B5 H locs ls hn8 r4 hq hP hD hS hl
      refine lv_iload hx hb dX4_boundSums_8 (lv_at hl 5 rfl) ?_
      refine lv_aload_n hx hb dX4_boundSums_10 rfl (lv_at hl 0 rfl) ?_
      refine va_get (ci := 4) (v := .int (F5 37)) (C := RX4) (T := TX4) (N := 12) hx hb hg inX4 hown hK hP 46 atX_46 rfl 10 (by decide) (hg _ mw_411) (fun _ h9 => h9) rfl dX4_boundSums_11 ?_
      refine lv_topi (fun x6 e7 => ?_)
      have r8 : rg x6 0 8 := rg_e e7 (hq.1.1 37)
      refine lv_icmp_ge (tgt := 109) hx hb dX4_boundSums_14 (by decide) (fun c9 => ?_) (fun c9 => ?_)
      · skip
        refine lv_iconst (v := 0) hx hb dX4_boundSums_109 (by decide) ?_
        refine lv_istore (lv' := [(5, .int 0), (0, .ref (ad 46)), (1, .int p1), (2, .int p2), (3, .int a1), (4, .int a2)]) hx hb dX4_boundSums_110 hl (by decide) rfl (fun ls hl => ?_)
        have J112 : ∀ (n112 : Nat) (a12 : Int32) (F14 : Nat → Int32) (L14 : Nat → Int64) (A14 : Nat → Nat → Int32) (B14 : Nat → Nat → Int64) (H : Heap) (locs : List Loc) (ls : Array Slot), (10 - a12.toInt).toNat < n112 → rg a12 0 10 → qX [] [51, 52, 53] F A F14 A14 → F14 37 = x6 → va_P D classes (wX cA ad F14 L14 A14 B14) H → va_D Af (wX cA ad F14 L14 A14 B14) → va_S Af s.heap H locs → lv_has ls 9 [(0, .ref (ad 46)), (1, .int p1), (2, .int p2), (3, .int a1), (4, .int a2), (5, .int a12)] → W p l e rm_X4_boundSums_46 s m args below meth c H locs 0 0 Q (F0 m 112 ls []) := by
          intro n112
          induction n112 with
          | zero =>
            intro _ _ _ _ _ _ _ _ hn
            exact absurd hn (Nat.not_lt_zero _)
          | succ n112 ih112 =>
            intro a12 F14 L14 A14 B14 H locs ls hn112 r13 hq f15 hP hD hS hl
            refine lv_iload hx hb dX4_boundSums_112 (lv_at hl 5 rfl) ?_
            refine lv_aload_n hx hb dX4_boundSums_114 rfl (lv_at hl 0 rfl) ?_
            refine va_get (ci := 4) (v := .int (F14 38)) (C := RX4) (T := TX4) (N := 12) hx hb hg inX4 hown hK hP 46 atX_46 rfl 11 (by decide) (hg _ mw_412) (fun _ h9 => h9) rfl dX4_boundSums_115 ?_
            refine lv_topi (fun x16 e17 => ?_)
            have r18 : rg x16 0 10 := rg_e e17 (hq.1.1 38)
            refine lv_icmp_ge (tgt := 204) hx hb dX4_boundSums_118 (by decide) (fun c19 => ?_) (fun c19 => ?_)
            · skip
              refine lv_aload_n hx hb dX4_boundSums_204 rfl (lv_at hl 0 rfl) ?_
              refine lv_bipush (v := 18) hx hb dX4_boundSums_205 (by decide) ?_
              refine lv_iload_n hx hb dX4_boundSums_207 rfl (lv_at hl 3 rfl) ?_
              refine lv_iload hx hb dX4_boundSums_208 (lv_at hl 4 rfl) ?_
              refine lv_iload_n hx hb dX4_boundSums_210 rfl (lv_at hl 2 rfl) ?_
              refine callv_v (As := [.int 18, .int a1, .int a2, .int p2]) (rest := []) hC (c_X4_bound_46 l D cA H.size ad F14 L14 A14 B14 (18) (a1) (a2) (p2) hq.1 (rg_k (by decide)) hp2) (cwV 4 hg (g_V mw_870 mw_867 mw_869 ms_26 mw_16) rfl rfl rfl (by decide +kernel) ⟨(Nat.le_of_ble_eq_true rfl), (Nat.le_of_ble_eq_true rfl)⟩) hP hD hS hA atX_46 rfl rfl hl.1 rfl (Nat.le_of_ble_eq_true rfl) dX4_boundSums_211 ⟨Nat.zero_le _, Nat.zero_le _⟩ (fun  u H locs hw hP hD hS => ?_)
              obtain ⟨F22, L22, A22, B22⟩ := u
              try dsimp only at hw
              have hq22 := hw
              have hq := hq.call hq22 (by decide)
              have hP : va_P D classes (wX cA ad F22 L22 A22 B22) H := hP
              have hD : va_D Af (wX cA ad F22 L22 A22 B22) := hD
              exact hret (F22, L22, A22, B22) H locs 214 ls dX4_boundSums_214 hP hD hS hq
            · skip
              have r20 : rg a12 0 9 := rg_lt1 (iNE c19) (r13 : rg a12 0 10) (r18 : rg x16 0 10)
              have r21 : rg x16 1 10 := rg_lt2 (iNE c19) (r13 : rg a12 0 10) (r18 : rg x16 0 10)
              refine lv_iconst (v := 0) hx hb dX4_boundSums_121 (by decide) ?_
              refine lv_istore (lv' := [(6, .int 0), (0, .ref (ad 46)), (1, .int p1), (2, .int p2), (3, .int a1), (4, .int a2), (5, .int a12)]) hx hb dX4_boundSums_122 hl (by decide) rfl (fun ls hl => ?_)
              refine lv_iconst (v := 0) hx hb dX4_boundSums_124 (by decide) ?_
              refine lv_istore (lv' := [(7, .int 0), (6, .int 0), (0, .ref (ad 46)), (1, .int p1), (2, .int p2), (3, .int a1), (4, .int a2), (5, .int a12)]) hx hb dX4_boundSums_125 hl (by decide) rfl (fun ls hl => ?_)
              refine lv_iconst (v := 0) hx hb dX4_boundSums_127 (by decide) ?_
              refine lv_istore (lv' := [(8, .int 0), (7, .int 0), (6, .int 0), (0, .ref (ad 46)), (1, .int p1), (2, .int p2), (3, .int a1), (4, .int a2), (5, .int a12)]) hx hb dX4_boundSums_128 hl (by decide) rfl (fun ls hl => ?_)
              have J130 : ∀ (n130 : Nat) (a23 : Int32) (a24 : Int32) (a25 : Int32) (F27 : Nat → Int32) (L27 : Nat → Int64) (A27 : Nat → Nat → Int32) (B27 : Nat → Nat → Int64) (H : Heap) (locs : List Loc) (ls : Array Slot), (8 - a25.toInt).toNat < n130 → rg a25 0 8 → qX [] [51, 52, 53] F A F27 A27 → F27 37 = x6 → F27 38 = x16 → va_P D classes (wX cA ad F27 L27 A27 B27) H → va_D Af (wX cA ad F27 L27 A27 B27) → va_S Af s.heap H locs → lv_has ls 9 [(0, .ref (ad 46)), (1, .int p1), (2, .int p2), (3, .int a1), (4, .int a2), (5, .int a12), (6, .int a23), (7, .int a24), (8, .int a25)] → W p l e rm_X4_boundSums_46 s m args below meth c H locs 0 0 Q (F0 m 130 ls []) := by
                intro n130
                induction n130 with
                | zero =>
                  intro _ _ _ _ _ _ _ _ _ _ hn
                  exact absurd hn (Nat.not_lt_zero _)
                | succ n130 ih130 =>
                  intro a23 a24 a25 F27 L27 A27 B27 H locs ls hn130 r26 hq f28 f29 hP hD hS hl
                  refine lv_iload hx hb dX4_boundSums_130 (lv_at hl 8 rfl) ?_
                  refine lv_aload_n hx hb dX4_boundSums_132 rfl (lv_at hl 0 rfl) ?_
                  refine va_get (ci := 4) (v := .int x6) (C := RX4) (T := TX4) (N := 12) hx hb hg inX4 hown hK hP 46 atX_46 rfl 10 (by decide) (hg _ mw_411) (fun _ h9 => h9) (congrArg (fun z => some (Value.int z)) (f28)) dX4_boundSums_133 ?_
                  refine lv_icmp_ge (tgt := 184) hx hb dX4_boundSums_136 (by decide) (fun c30 => ?_) (fun c30 => ?_)
                  · skip
                    refine lv_aload_n hx hb dX4_boundSums_184 rfl (lv_at hl 0 rfl) ?_
                    refine lv_bipush (v := 8) hx hb dX4_boundSums_185 (by decide) ?_
                    refine lv_iload hx hb dX4_boundSums_187 (lv_at hl 5 rfl) ?_
                    refine lv_iadd hx hb dX4_boundSums_189 ?_
                    refine lv_topi (fun x33 e34 => ?_)
                    have r35 : rg x33 8 17 := rg_add e34 ((rg_k (by decide)) : rg 8 8 8) r20 (by decide)
                    refine lv_iload hx hb dX4_boundSums_190 (lv_at hl 6 rfl) ?_
                    refine lv_iload hx hb dX4_boundSums_192 (lv_at hl 7 rfl) ?_
                    refine lv_iload_n hx hb dX4_boundSums_194 rfl (lv_at hl 2 rfl) ?_
                    refine callv_v (As := [.int x33, .int a23, .int a24, .int p2]) (rest := []) hC (c_X4_bound_46 l D cA H.size ad F27 L27 A27 B27 (x33) (a23) (a24) (p2) hq.1 (rg_w r35 (by decide)) hp2) (cwV 4 hg (g_V mw_870 mw_867 mw_869 ms_26 mw_16) rfl rfl rfl (by decide +kernel) ⟨(Nat.le_of_ble_eq_true rfl), (Nat.le_of_ble_eq_true rfl)⟩) hP hD hS hA atX_46 rfl rfl hl.1 rfl (Nat.le_of_ble_eq_true rfl) dX4_boundSums_195 ⟨Nat.zero_le _, Nat.zero_le _⟩ (fun  u H locs hw hP hD hS => ?_)
                    obtain ⟨F36, L36, A36, B36⟩ := u
                    try dsimp only at hw
                    have hq36 := hw
                    have hq := hq.call hq36 (by decide)
                    have hP : va_P D classes (wX cA ad F36 L36 A36 B36) H := hP
                    have hD : va_D Af (wX cA ad F36 L36 A36 B36) := hD
                    obtain ⟨x37, e38⟩ : ∃ y : Int32, y = a12 + 1 := ⟨_, rfl⟩
                    have r39 : rg x37 1 10 := rg_add e38 r20 (rg_k (by decide) : rg 1 1 1) (by decide)
                    refine lv_iinc (v := x37) (lv' := [(5, .int x37), (0, .ref (ad 46)), (1, .int p1), (2, .int p2), (3, .int a1), (4, .int a2), (6, .int a23), (7, .int a24), (8, .int a25)]) hx hb dX4_boundSums_198 hl (k := 5) rfl (by rw [e38]; rfl) (by decide) rfl (fun ls hl => ?_)
                    refine lv_goto (tgt := 112) hx hb dX4_boundSums_201 (by decide) ?_
                    exact ih112 (x37) (F36) (L36) (A36) (B36) H locs ls (by have h0 : (1 : Int32).toInt = 1 := rfl; have h1 := ti_addk e38 r20 (by decide); have h2 : rg x37 0 10 := (rg_w r39 (by decide)); unfold rg at h2; omega) (rg_w r39 (by decide)) hq ((hq36.2.1 37 (by decide)).trans (f28)) hP hD hS (lv_sub hl [1, 2, 3, 4, 5, 0] rfl)
                  · skip
                    have r31 : rg a25 0 7 := rg_lt1 (iNE c30) (r26 : rg a25 0 8) (r8 : rg x6 0 8)
                    have r32 : rg x6 1 8 := rg_lt2 (iNE c30) (r26 : rg a25 0 8) (r8 : rg x6 0 8)
                    refine lv_iload hx hb dX4_boundSums_139 (lv_at hl 6 rfl) ?_
                    refine lv_aload_n hx hb dX4_boundSums_141 rfl (lv_at hl 0 rfl) ?_
                    refine va_get (ci := 4) (v := .ref (ad 48)) (C := RX4) (T := TX4) (N := 12) hx hb hg inX4 hown hK hP 46 atX_46 rfl 2 (by decide) (hg _ mw_403) (fun _ h9 => h9) rfl dX4_boundSums_142 ?_
                    refine lv_iload hx hb dX4_boundSums_145 (lv_at hl 8 rfl) ?_
                    refine lv_iload hx hb dX4_boundSums_147 (lv_at hl 5 rfl) ?_
                    refine calln_i (As := [.int a25, .int a12]) (rest := [.ref (ad 48), .int a23]) hC (c_X11_cellOf l D (tysX cA) (wX cA ad F27 L27 A27 B27) H.size (a25) (a12)) ⟨va_cnB 2 hg (g_N mw_681) rfl rfl rfl (mn_15 hC.N) (hg _ mw_1) (by decide +kernel) ⟨(Nat.le_of_ble_eq_true rfl), (Nat.le_of_ble_eq_true rfl)⟩, (hg _ mw_680), trivial⟩ hP hD hS hA rfl hl.1 rfl (Nat.le_of_ble_eq_true rfl) dX4_boundSums_149 ⟨Nat.zero_le _, Nat.zero_le _⟩ (fun x40 u H locs hw hP hD hS => ?_)
                    have e41 := hw
                    have hP : va_P D classes (wX cA ad F27 L27 A27 B27) H := hP
                    have hD : va_D Af (wX cA ad F27 L27 A27 B27) := hD
                    have r42 : rg x40 0 79 := rg_cell hw (r31 : rg a25 0 7) (r20 : rg a12 0 9) (by decide)
                    refine va_iald hx hb hK hP 48 35 atX_48 tyX_48 (in_rg r42 (by decide)) dX4_boundSums_152 ?_
                    refine lv_topi (fun x43 e44 => ?_)
                    refine lv_iadd hx hb dX4_boundSums_153 ?_
                    refine lv_topi (fun x45 e46 => ?_)
                    refine lv_istore (lv' := [(6, .int x45), (0, .ref (ad 46)), (1, .int p1), (2, .int p2), (3, .int a1), (4, .int a2), (5, .int a12), (7, .int a24), (8, .int a25)]) hx hb dX4_boundSums_154 hl (by decide) rfl (fun ls hl => ?_)
                    refine lv_iload hx hb dX4_boundSums_156 (lv_at hl 7 rfl) ?_
                    refine lv_aload_n hx hb dX4_boundSums_158 rfl (lv_at hl 1 rfl) ?_
                    refine va_get (ci := 4) (v := .ref (ad 47)) (C := RX4) (T := TX4) (N := 12) hx hb hg inX4 hown hK hP 46 atX_46 rfl 0 (by decide) (hg _ mw_399) (fun _ h9 => h9) rfl dX4_boundSums_159 ?_
                    refine lv_iload_n hx hb dX4_boundSums_162 rfl (lv_at hl 2 rfl) ?_
                    refine lv_bipush (v := 80) hx hb dX4_boundSums_163 (by decide) ?_
                    refine lv_imul hx hb dX4_boundSums_165 ?_
                    refine lv_topi (fun x47 e48 => ?_)
                    have r49 : rg x47 0 640 := rg_mul e48 hp1 ((rg_k (by decide)) : rg 80 80 80) (by decide)
                    refine lv_iload hx hb dX4_boundSums_166 (lv_at hl 8 rfl) ?_
                    refine lv_iload hx hb dX4_boundSums_168 (lv_at hl 6 rfl) ?_
                    refine calln_i (As := [.int a25, .int a12]) (rest := [.int x47, .ref (ad 47), .int a24]) hC (c_X11_cellOf l D (tysX cA) (wX cA ad F27 L27 A27 B27) H.size (a25) (a12)) ⟨va_cnB 2 hg (g_N mw_681) rfl rfl rfl (mn_15 hC.N) (hg _ mw_1) (by decide +kernel) ⟨(Nat.le_of_ble_eq_true rfl), (Nat.le_of_ble_eq_true rfl)⟩, (hg _ mw_680), trivial⟩ hP hD hS hA rfl hl.1 rfl (Nat.le_of_ble_eq_true rfl) dX4_boundSums_170 ⟨Nat.zero_le _, Nat.zero_le _⟩ (fun x50 u H locs hw hP hD hS => ?_)
                    have e51 := hw
                    have hP : va_P D classes (wX cA ad F27 L27 A27 B27) H := hP
                    have hD : va_D Af (wX cA ad F27 L27 A27 B27) := hD
                    have r52 : rg x50 0 79 := rg_cell hw (r31 : rg a25 0 7) (r20 : rg a12 0 9) (by decide)
                    refine lv_iadd hx hb dX4_boundSums_173 ?_
                    refine lv_topi (fun x53 e54 => ?_)
                    have r55 : rg x53 0 719 := rg_add e54 r49 r52 (by decide)
                    refine va_iald hx hb hK hP 47 34 atX_47 tyX_47 (in_rg r55 (by decide)) dX4_boundSums_174 ?_
                    refine lv_topi (fun x56 e57 => ?_)
                    refine lv_iadd hx hb dX4_boundSums_175 ?_
                    refine lv_topi (fun x58 e59 => ?_)
                    refine lv_istore (lv' := [(7, .int x58), (6, .int x45), (0, .ref (ad 46)), (1, .int p1), (2, .int p2), (3, .int a1), (4, .int a2), (5, .int a12), (8, .int a25)]) hx hb dX4_boundSums_176 hl (by decide) rfl (fun ls hl => ?_)
                    obtain ⟨x60, e61⟩ : ∃ y : Int32, y = a25 + 1 := ⟨_, rfl⟩
                    have r62 : rg x60 1 8 := rg_add e61 r31 (rg_k (by decide) : rg 1 1 1) (by decide)
                    refine lv_iinc (v := x60) (lv' := [(8, .int x60), (7, .int x58), (6, .int x45), (0, .ref (ad 46)), (1, .int p1), (2, .int p2), (3, .int a1), (4, .int a2), (5, .int a12)]) hx hb dX4_boundSums_178 hl (k := 8) rfl (by rw [e61]; rfl) (by decide) rfl (fun ls hl => ?_)
                    refine lv_goto (tgt := 130) hx hb dX4_boundSums_181 (by decide) ?_
                    exact ih130 (x45) (x58) (x60) (F27) (L27) (A27) (B27) H locs ls (by have h0 : (1 : Int32).toInt = 1 := rfl; have h1 := ti_addk e61 r31 (by decide); have h2 : rg x60 0 8 := (rg_w r62 (by decide)); unfold rg at h2; omega) (rg_w r62 (by decide)) hq (f28) (f29) hP hD hS (lv_sub hl [3, 4, 5, 6, 7, 8, 2, 1, 0] rfl)
              exact J130 _ (0) (0) (0) (F14) (L14) (A14) (B14) H locs ls (Nat.lt_succ_self _) (rg_k (by decide)) hq (f15) (e17.symm) hP hD hS (lv_sub hl [3, 4, 5, 6, 7, 8, 2, 1, 0] rfl)
        exact J112 _ (0) (F5) (L5) (A5) (B5) H locs ls (Nat.lt_succ_self _) (rg_k (by decide)) hq (e7.symm) hP hD hS (lv_sub hl [1, 2, 3, 4, 5, 0] rfl)
      · skip
        have r10 : rg a3 0 7 := rg_lt1 (iNE c9) (r4 : rg a3 0 8) (r8 : rg x6 0 8)
        have r11 : rg x6 1 8 := rg_lt2 (iNE c9) (r4 : rg a3 0 8) (r8 : rg x6 0 8)
        refine lv_iconst (v := 0) hx hb dX4_boundSums_17 (by decide) ?_
        refine lv_istore (lv' := [(6, .int 0), (0, .ref (ad 46)), (1, .int p1), (2, .int p2), (3, .int a1), (4, .int a2), (5, .int a3)]) hx hb dX4_boundSums_18 hl (by decide) rfl (fun ls hl => ?_)
        refine lv_iconst (v := 0) hx hb dX4_boundSums_20 (by decide) ?_
        refine lv_istore (lv' := [(7, .int 0), (6, .int 0), (0, .ref (ad 46)), (1, .int p1), (2, .int p2), (3, .int a1), (4, .int a2), (5, .int a3)]) hx hb dX4_boundSums_21 hl (by decide) rfl (fun ls hl => ?_)
        refine lv_iconst (v := 0) hx hb dX4_boundSums_23 (by decide) ?_
        refine lv_istore (lv' := [(8, .int 0), (7, .int 0), (6, .int 0), (0, .ref (ad 46)), (1, .int p1), (2, .int p2), (3, .int a1), (4, .int a2), (5, .int a3)]) hx hb dX4_boundSums_24 hl (by decide) rfl (fun ls hl => ?_)
        have J26 : ∀ (n26 : Nat) (a63 : Int32) (a64 : Int32) (a65 : Int32) (F67 : Nat → Int32) (L67 : Nat → Int64) (A67 : Nat → Nat → Int32) (B67 : Nat → Nat → Int64) (H : Heap) (locs : List Loc) (ls : Array Slot), (10 - a65.toInt).toNat < n26 → rg a65 0 10 → qX [] [51, 52, 53] F A F67 A67 → F67 37 = x6 → va_P D classes (wX cA ad F67 L67 A67 B67) H → va_D Af (wX cA ad F67 L67 A67 B67) → va_S Af s.heap H locs → lv_has ls 9 [(0, .ref (ad 46)), (1, .int p1), (2, .int p2), (3, .int a1), (4, .int a2), (5, .int a3), (6, .int a63), (7, .int a64), (8, .int a65)] → W p l e rm_X4_boundSums_46 s m args below meth c H locs 0 0 Q (F0 m 26 ls []) := by
          intro n26
          induction n26 with
          | zero =>
            intro _ _ _ _ _ _ _ _ _ _ hn
            exact absurd hn (Nat.not_lt_zero _)
          | succ n26 ih26 =>
            intro a63 a64 a65 F67 L67 A67 B67 H locs ls hn26 r66 hq f68 hP hD hS hl
            refine lv_iload hx hb dX4_boundSums_26 (lv_at hl 8 rfl) ?_
            refine lv_aload_n hx hb dX4_boundSums_28 rfl (lv_at hl 0 rfl) ?_
            refine va_get (ci := 4) (v := .int (F67 38)) (C := RX4) (T := TX4) (N := 12) hx hb hg inX4 hown hK hP 46 atX_46 rfl 11 (by decide) (hg _ mw_412) (fun _ h9 => h9) rfl dX4_boundSums_29 ?_
            refine lv_topi (fun x69 e70 => ?_)
            have r71 : rg x69 0 10 := rg_e e70 (hq.1.1 38)
            refine lv_icmp_ge (tgt := 80) hx hb dX4_boundSums_32 (by decide) (fun c72 => ?_) (fun c72 => ?_)
            · skip
              refine lv_aload_n hx hb dX4_boundSums_80 rfl (lv_at hl 0 rfl) ?_
              refine lv_iload hx hb dX4_boundSums_81 (lv_at hl 5 rfl) ?_
              refine lv_iload hx hb dX4_boundSums_83 (lv_at hl 6 rfl) ?_
              refine lv_iload hx hb dX4_boundSums_85 (lv_at hl 7 rfl) ?_
              refine lv_iload_n hx hb dX4_boundSums_87 rfl (lv_at hl 2 rfl) ?_
              refine callv_v (As := [.int a3, .int a63, .int a64, .int p2]) (rest := []) hC (c_X4_bound_46 l D cA H.size ad F67 L67 A67 B67 (a3) (a63) (a64) (p2) hq.1 (rg_w r10 (by decide)) hp2) (cwV 4 hg (g_V mw_870 mw_867 mw_869 ms_26 mw_16) rfl rfl rfl (by decide +kernel) ⟨(Nat.le_of_ble_eq_true rfl), (Nat.le_of_ble_eq_true rfl)⟩) hP hD hS hA atX_46 rfl rfl hl.1 rfl (Nat.le_of_ble_eq_true rfl) dX4_boundSums_88 ⟨Nat.zero_le _, Nat.zero_le _⟩ (fun  u H locs hw hP hD hS => ?_)
              obtain ⟨F75, L75, A75, B75⟩ := u
              try dsimp only at hw
              have hq75 := hw
              have hq := hq.call hq75 (by decide)
              have hP : va_P D classes (wX cA ad F75 L75 A75 B75) H := hP
              have hD : va_D Af (wX cA ad F75 L75 A75 B75) := hD
              refine lv_iload_n hx hb dX4_boundSums_91 rfl (lv_at hl 3 rfl) ?_
              refine lv_iload hx hb dX4_boundSums_92 (lv_at hl 6 rfl) ?_
              refine lv_iadd hx hb dX4_boundSums_94 ?_
              refine lv_topi (fun x76 e77 => ?_)
              refine lv_istore_n (lv' := [(3, .int x76), (0, .ref (ad 46)), (1, .int p1), (2, .int p2), (4, .int a2), (5, .int a3), (6, .int a63), (7, .int a64), (8, .int a65)]) hx hb dX4_boundSums_95 rfl hl (by decide) rfl (fun ls hl => ?_)
              refine lv_iload hx hb dX4_boundSums_96 (lv_at hl 4 rfl) ?_
              refine lv_iload hx hb dX4_boundSums_98 (lv_at hl 7 rfl) ?_
              refine lv_iadd hx hb dX4_boundSums_100 ?_
              refine lv_topi (fun x78 e79 => ?_)
              refine lv_istore (lv' := [(4, .int x78), (3, .int x76), (0, .ref (ad 46)), (1, .int p1), (2, .int p2), (5, .int a3), (6, .int a63), (7, .int a64), (8, .int a65)]) hx hb dX4_boundSums_101 hl (by decide) rfl (fun ls hl => ?_)
              obtain ⟨x80, e81⟩ : ∃ y : Int32, y = a3 + 1 := ⟨_, rfl⟩
              have r82 : rg x80 1 8 := rg_add e81 r10 (rg_k (by decide) : rg 1 1 1) (by decide)
              refine lv_iinc (v := x80) (lv' := [(5, .int x80), (4, .int x78), (3, .int x76), (0, .ref (ad 46)), (1, .int p1), (2, .int p2), (6, .int a63), (7, .int a64), (8, .int a65)]) hx hb dX4_boundSums_103 hl (k := 5) rfl (by rw [e81]; rfl) (by decide) rfl (fun ls hl => ?_)
              refine lv_goto (tgt := 8) hx hb dX4_boundSums_106 (by decide) ?_
              exact ih8 (x76) (x78) (x80) (F75) (L75) (A75) (B75) H locs ls (by have h0 : (1 : Int32).toInt = 1 := rfl; have h1 := ti_addk e81 r10 (by decide); have h2 : rg x80 0 8 := (rg_w r82 (by decide)); unfold rg at h2; omega) (rg_w r82 (by decide)) hq hP hD hS (lv_sub hl [3, 4, 5, 2, 1, 0] rfl)
            · skip
              have r73 : rg a65 0 9 := rg_lt1 (iNE c72) (r66 : rg a65 0 10) (r71 : rg x69 0 10)
              have r74 : rg x69 1 10 := rg_lt2 (iNE c72) (r66 : rg a65 0 10) (r71 : rg x69 0 10)
              refine lv_iload hx hb dX4_boundSums_35 (lv_at hl 6 rfl) ?_
              refine lv_aload_n hx hb dX4_boundSums_37 rfl (lv_at hl 0 rfl) ?_
              refine va_get (ci := 4) (v := .ref (ad 48)) (C := RX4) (T := TX4) (N := 12) hx hb hg inX4 hown hK hP 46 atX_46 rfl 2 (by decide) (hg _ mw_403) (fun _ h9 => h9) rfl dX4_boundSums_38 ?_
              refine lv_iload hx hb dX4_boundSums_41 (lv_at hl 5 rfl) ?_
              refine lv_iload hx hb dX4_boundSums_43 (lv_at hl 8 rfl) ?_
              refine calln_i (As := [.int a3, .int a65]) (rest := [.ref (ad 48), .int a63]) hC (c_X11_cellOf l D (tysX cA) (wX cA ad F67 L67 A67 B67) H.size (a3) (a65)) ⟨va_cnB 2 hg (g_N mw_681) rfl rfl rfl (mn_15 hC.N) (hg _ mw_1) (by decide +kernel) ⟨(Nat.le_of_ble_eq_true rfl), (Nat.le_of_ble_eq_true rfl)⟩, (hg _ mw_680), trivial⟩ hP hD hS hA rfl hl.1 rfl (Nat.le_of_ble_eq_true rfl) dX4_boundSums_45 ⟨Nat.zero_le _, Nat.zero_le _⟩ (fun x83 u H locs hw hP hD hS => ?_)
              have e84 := hw
              have hP : va_P D classes (wX cA ad F67 L67 A67 B67) H := hP
              have hD : va_D Af (wX cA ad F67 L67 A67 B67) := hD
              have r85 : rg x83 0 79 := rg_cell hw (r10 : rg a3 0 7) (r73 : rg a65 0 9) (by decide)
              refine va_iald hx hb hK hP 48 35 atX_48 tyX_48 (in_rg r85 (by decide)) dX4_boundSums_48 ?_
              refine lv_topi (fun x86 e87 => ?_)
              refine lv_iadd hx hb dX4_boundSums_49 ?_
              refine lv_topi (fun x88 e89 => ?_)
              refine lv_istore (lv' := [(6, .int x88), (0, .ref (ad 46)), (1, .int p1), (2, .int p2), (3, .int a1), (4, .int a2), (5, .int a3), (7, .int a64), (8, .int a65)]) hx hb dX4_boundSums_50 hl (by decide) rfl (fun ls hl => ?_)
              refine lv_iload hx hb dX4_boundSums_52 (lv_at hl 7 rfl) ?_
              refine lv_aload_n hx hb dX4_boundSums_54 rfl (lv_at hl 1 rfl) ?_
              refine va_get (ci := 4) (v := .ref (ad 47)) (C := RX4) (T := TX4) (N := 12) hx hb hg inX4 hown hK hP 46 atX_46 rfl 0 (by decide) (hg _ mw_399) (fun _ h9 => h9) rfl dX4_boundSums_55 ?_
              refine lv_iload_n hx hb dX4_boundSums_58 rfl (lv_at hl 2 rfl) ?_
              refine lv_bipush (v := 80) hx hb dX4_boundSums_59 (by decide) ?_
              refine lv_imul hx hb dX4_boundSums_61 ?_
              refine lv_topi (fun x90 e91 => ?_)
              have r92 : rg x90 0 640 := rg_mul e91 hp1 ((rg_k (by decide)) : rg 80 80 80) (by decide)
              refine lv_iload hx hb dX4_boundSums_62 (lv_at hl 6 rfl) ?_
              refine lv_iload hx hb dX4_boundSums_64 (lv_at hl 8 rfl) ?_
              refine calln_i (As := [.int a3, .int a65]) (rest := [.int x90, .ref (ad 47), .int a64]) hC (c_X11_cellOf l D (tysX cA) (wX cA ad F67 L67 A67 B67) H.size (a3) (a65)) ⟨va_cnB 2 hg (g_N mw_681) rfl rfl rfl (mn_15 hC.N) (hg _ mw_1) (by decide +kernel) ⟨(Nat.le_of_ble_eq_true rfl), (Nat.le_of_ble_eq_true rfl)⟩, (hg _ mw_680), trivial⟩ hP hD hS hA rfl hl.1 rfl (Nat.le_of_ble_eq_true rfl) dX4_boundSums_66 ⟨Nat.zero_le _, Nat.zero_le _⟩ (fun x93 u H locs hw hP hD hS => ?_)
              have e94 := hw
              have hP : va_P D classes (wX cA ad F67 L67 A67 B67) H := hP
              have hD : va_D Af (wX cA ad F67 L67 A67 B67) := hD
              have r95 : rg x93 0 79 := rg_cell hw (r10 : rg a3 0 7) (r73 : rg a65 0 9) (by decide)
              refine lv_iadd hx hb dX4_boundSums_69 ?_
              refine lv_topi (fun x96 e97 => ?_)
              have r98 : rg x96 0 719 := rg_add e97 r92 r95 (by decide)
              refine va_iald hx hb hK hP 47 34 atX_47 tyX_47 (in_rg r98 (by decide)) dX4_boundSums_70 ?_
              refine lv_topi (fun x99 e100 => ?_)
              refine lv_iadd hx hb dX4_boundSums_71 ?_
              refine lv_topi (fun x101 e102 => ?_)
              refine lv_istore (lv' := [(7, .int x101), (6, .int x88), (0, .ref (ad 46)), (1, .int p1), (2, .int p2), (3, .int a1), (4, .int a2), (5, .int a3), (8, .int a65)]) hx hb dX4_boundSums_72 hl (by decide) rfl (fun ls hl => ?_)
              obtain ⟨x103, e104⟩ : ∃ y : Int32, y = a65 + 1 := ⟨_, rfl⟩
              have r105 : rg x103 1 10 := rg_add e104 r73 (rg_k (by decide) : rg 1 1 1) (by decide)
              refine lv_iinc (v := x103) (lv' := [(8, .int x103), (7, .int x101), (6, .int x88), (0, .ref (ad 46)), (1, .int p1), (2, .int p2), (3, .int a1), (4, .int a2), (5, .int a3)]) hx hb dX4_boundSums_74 hl (k := 8) rfl (by rw [e104]; rfl) (by decide) rfl (fun ls hl => ?_)
              refine lv_goto (tgt := 26) hx hb dX4_boundSums_77 (by decide) ?_
              exact ih26 (x88) (x101) (x103) (F67) (L67) (A67) (B67) H locs ls (by have h0 : (1 : Int32).toInt = 1 := rfl; have h1 := ti_addk e104 r73 (by decide); have h2 : rg x103 0 10 := (rg_w r105 (by decide)); unfold rg at h2; omega) (rg_w r105 (by decide)) hq (f68) hP hD hS (lv_sub hl [3, 4, 5, 6, 7, 8, 2, 1, 0] rfl)
        exact J26 _ (0) (0) (0) (F5) (L5) (A5) (B5) H locs ls (Nat.lt_succ_self _) (rg_k (by decide)) hq (e7.symm) hP hD hS (lv_sub hl [3, 4, 5, 6, 7, 8, 2, 1, 0] rfl)
  exact J8 _ (0) (0) (0) (F) (L) (A) (B) H locs ls (Nat.lt_succ_self _) (rg_k (by decide)) hq hP hD hS (lv_sub hl [3, 4, 5, 2, 1, 0] rfl)
abbrev rm_X4_giveExtra_46 : Room := { frames := 2, cells := 0, slots := 0, locals := 40 }
set_option maxHeartbeats 4000000 in
set_option maxRecDepth 100000 in
theorem c_X4_giveExtra_46 (l : Launch) (D : va_G) (cA : Nat → ClassId) (sz : Nat) (ad : Nat → Nat) (F : Nat → Int32) (L : Nat → Int64) (A : Nat → Nat → Int32) (B : Nat → Nat → Int64) (p1 : Int32) (hT : typX F A) (hp1 : rg p1 0 8) : Met l yX4_giveExtra (Cond.code yX4_giveExtra cX4_giveExtra 4 none :: GW) rm_X4_giveExtra_46 (mPc D classes (tysX cA) (wX cA ad F L A B) sz [.ref (ad 46), .int p1]) (mQv (S := SW) D classes (tysX cA) (wX cA ad F L A B) sz (wfX cA ad) (fun u => qX [] [47, 48] F A u.1 u.2.2.1)) 0 0 (va_A (wX cA ad F L A B) sz) := by
  refine met_v (own := "ShoeingDay$Parting") (by decide +kernel) rfl (Nat.le_of_ble_eq_true rfl) ?_
  intro p e s m args below meth c Q Af ls hC hP hD hS hA hl hret
  have hx := hC.1
  have hb := hC.2.1
  have hown := hC.2.2.2.1
  have hg := hC.g
  have hK := hC.K
  have hl : lv_has ls 4 [(0, .ref (ad 46)), (1, .int p1)] := hl
  have hq : qX [] [47, 48] F A F A := qX.rf hT
  obtain ⟨H, hH⟩ : ∃ H, H = s.heap := ⟨_, rfl⟩
  have hP : va_P D classes (wX cA ad F L A B) H := by rw [hH]; exact hP
  have hS : va_S Af s.heap H [] := by rw [hH]; exact hS
  obtain ⟨locs, hlo⟩ : ∃ q : List Loc, q = [] := ⟨_, rfl⟩
  rw [← hH, ← hlo]
  rw [← hlo] at hS
  refine lv_iconst (v := 0) hx hb dX4_giveExtra_0 (by decide) ?_
  refine lv_istore_n (lv' := [(2, .int 0), (0, .ref (ad 46)), (1, .int p1)]) hx hb dX4_giveExtra_1 rfl hl (by decide) rfl (fun ls hl => ?_)
  have J2 : ∀ (n2 : Nat) (a1 : Int32) (F3 : Nat → Int32) (L3 : Nat → Int64) (A3 : Nat → Nat → Int32) (B3 : Nat → Nat → Int64) (H : Heap) (locs : List Loc) (ls : Array Slot), (8 - a1.toInt).toNat < n2 → rg a1 0 8 → qX [] [47, 48] F A F3 A3 → va_P D classes (wX cA ad F3 L3 A3 B3) H → va_D Af (wX cA ad F3 L3 A3 B3) → va_S Af s.heap H locs → lv_has ls 4 [(0, .ref (ad 46)), (1, .int p1), (2, .int a1)] → W p l e rm_X4_giveExtra_46 s m args below meth c H locs 0 0 Q (F0 m 2 ls []) := by
    intro n2
    induction n2 with
    | zero =>
      intro _ _ _ _ _ _ _ _ hn
      exact absurd hn (Nat.not_lt_zero _)
    | succ n2 ih2 =>
      intro a1 F3 L3 A3 B3 H locs ls hn2 r2 hq hP hD hS hl
      refine lv_iload_n hx hb dX4_giveExtra_2 rfl (lv_at hl 2 rfl) ?_
      refine lv_aload_n hx hb dX4_giveExtra_3 rfl (lv_at hl 0 rfl) ?_
      refine va_get (ci := 4) (v := .int (F3 37)) (C := RX4) (T := TX4) (N := 12) hx hb hg inX4 hown hK hP 46 atX_46 rfl 10 (by decide) (hg _ mw_411) (fun _ h9 => h9) rfl dX4_giveExtra_4 ?_
      refine lv_topi (fun x4 e5 => ?_)
      have r6 : rg x4 0 8 := rg_e e5 (hq.1.1 37)
      refine lv_icmp_ge (tgt := 58) hx hb dX4_giveExtra_7 (by decide) (fun c7 => ?_) (fun c7 => ?_)
      · skip
        refine lv_iconst (v := 0) hx hb dX4_giveExtra_58 (by decide) ?_
        refine lv_istore_n (lv' := [(2, .int 0), (0, .ref (ad 46)), (1, .int p1)]) hx hb dX4_giveExtra_59 rfl hl (by decide) rfl (fun ls hl => ?_)
        have J60 : ∀ (n60 : Nat) (a10 : Int32) (F12 : Nat → Int32) (L12 : Nat → Int64) (A12 : Nat → Nat → Int32) (B12 : Nat → Nat → Int64) (H : Heap) (locs : List Loc) (ls : Array Slot), (80 - a10.toInt).toNat < n60 → rg a10 0 80 → qX [] [47, 48] F A F12 A12 → va_P D classes (wX cA ad F12 L12 A12 B12) H → va_D Af (wX cA ad F12 L12 A12 B12) → va_S Af s.heap H locs → lv_has ls 4 [(0, .ref (ad 46)), (1, .int p1), (2, .int a10)] → W p l e rm_X4_giveExtra_46 s m args below meth c H locs 0 0 Q (F0 m 60 ls []) := by
          intro n60
          induction n60 with
          | zero =>
            intro _ _ _ _ _ _ _ _ hn
            exact absurd hn (Nat.not_lt_zero _)
          | succ n60 ih60 =>
            intro a10 F12 L12 A12 B12 H locs ls hn60 r11 hq hP hD hS hl
            refine lv_iload_n hx hb dX4_giveExtra_60 rfl (lv_at hl 2 rfl) ?_
            refine lv_bipush (v := 80) hx hb dX4_giveExtra_61 (by decide) ?_
            refine lv_icmp_ge (tgt := 92) hx hb dX4_giveExtra_63 (by decide) (fun c13 => ?_) (fun c13 => ?_)
            · skip
              have r14 : rg a10 80 80 := rg_le2 (iE c13) ((rg_k (by decide)) : rg 80 80 80) (r11 : rg a10 0 80)
              exact hret (F12, L12, A12, B12) H locs 92 ls dX4_giveExtra_92 hP hD hS hq
            · skip
              have r15 : rg a10 0 79 := rg_lt1 (iNE c13) (r11 : rg a10 0 80) ((rg_k (by decide)) : rg 80 80 80)
              refine lv_aload_n hx hb dX4_giveExtra_66 rfl (lv_at hl 0 rfl) ?_
              refine va_get (ci := 4) (v := .ref (ad 48)) (C := RX4) (T := TX4) (N := 12) hx hb hg inX4 hown hK hP 46 atX_46 rfl 2 (by decide) (hg _ mw_403) (fun _ h9 => h9) rfl dX4_giveExtra_67 ?_
              refine lv_iload_n hx hb dX4_giveExtra_70 rfl (lv_at hl 2 rfl) ?_
              refine lv_dup2_11 hx hb dX4_giveExtra_71 rfl rfl ?_
              refine va_iald hx hb hK hP 48 35 atX_48 tyX_48 (in_rg r15 (by decide)) dX4_giveExtra_72 ?_
              refine lv_topi (fun x16 e17 => ?_)
              refine lv_aload_n hx hb dX4_giveExtra_73 rfl (lv_at hl 0 rfl) ?_
              refine va_get (ci := 4) (v := .ref (ad 47)) (C := RX4) (T := TX4) (N := 12) hx hb hg inX4 hown hK hP 46 atX_46 rfl 0 (by decide) (hg _ mw_399) (fun _ h9 => h9) rfl dX4_giveExtra_74 ?_
              refine lv_iload_n hx hb dX4_giveExtra_77 rfl (lv_at hl 1 rfl) ?_
              refine lv_bipush (v := 80) hx hb dX4_giveExtra_78 (by decide) ?_
              refine lv_imul hx hb dX4_giveExtra_80 ?_
              refine lv_topi (fun x18 e19 => ?_)
              have r20 : rg x18 0 640 := rg_mul e19 hp1 ((rg_k (by decide)) : rg 80 80 80) (by decide)
              refine lv_iload_n hx hb dX4_giveExtra_81 rfl (lv_at hl 2 rfl) ?_
              refine lv_iadd hx hb dX4_giveExtra_82 ?_
              refine lv_topi (fun x21 e22 => ?_)
              have r23 : rg x21 0 719 := rg_add e22 r20 r15 (by decide)
              refine va_iald hx hb hK hP 47 34 atX_47 tyX_47 (in_rg r23 (by decide)) dX4_giveExtra_83 ?_
              refine lv_topi (fun x24 e25 => ?_)
              refine lv_isub hx hb dX4_giveExtra_84 ?_
              refine lv_topi (fun x26 e27 => ?_)
              refine va_iast hx hb hK hP hD hS 48 35 atX_48 tyX_48 (in_rg r15 (by decide)) dX4_giveExtra_85 (fun H locs hP hD hS => ?_)
              have hq := hq.ast 48 (a10).toNatClampNeg (x := x26) (by decide) (rg_top _)
              rw [setX_48] at hP hD
              have k28 : x26 = (va_up A12 48 (upd (A12 48) (a10).toNatClampNeg x26)) 48 (a10).toNatClampNeg := (rdA).symm
              obtain ⟨x29, e30⟩ : ∃ y : Int32, y = a10 + 1 := ⟨_, rfl⟩
              have r31 : rg x29 1 80 := rg_add e30 r15 (rg_k (by decide) : rg 1 1 1) (by decide)
              refine lv_iinc (v := x29) (lv' := [(2, .int x29), (0, .ref (ad 46)), (1, .int p1)]) hx hb dX4_giveExtra_86 hl (k := 2) rfl (by rw [e30]; rfl) (by decide) rfl (fun ls hl => ?_)
              refine lv_goto (tgt := 60) hx hb dX4_giveExtra_89 (by decide) ?_
              exact ih60 (x29) (F12) (L12) ((va_up A12 48 (upd (A12 48) (a10).toNatClampNeg x26))) (B12) H locs ls (by have h0 : (1 : Int32).toInt = 1 := rfl; have h1 := ti_addk e30 r15 (by decide); have h2 : rg x29 0 80 := (rg_w r31 (by decide)); unfold rg at h2; omega) (rg_w r31 (by decide)) hq hP hD hS (lv_sub hl [1, 2, 0] rfl)
        exact J60 _ (0) (F3) (L3) (A3) (B3) H locs ls (Nat.lt_succ_self _) (rg_k (by decide)) hq hP hD hS (lv_sub hl [1, 2, 0] rfl)
      · skip
        have r8 : rg a1 0 7 := rg_lt1 (iNE c7) (r2 : rg a1 0 8) (r6 : rg x4 0 8)
        have r9 : rg x4 1 8 := rg_lt2 (iNE c7) (r2 : rg a1 0 8) (r6 : rg x4 0 8)
        refine lv_aload_n hx hb dX4_giveExtra_10 rfl (lv_at hl 0 rfl) ?_
        refine va_get (ci := 4) (v := .ref (ad 49)) (C := RX4) (T := TX4) (N := 12) hx hb hg inX4 hown hK hP 46 atX_46 rfl 3 (by decide) (hg _ mw_404) (fun _ h9 => h9) rfl dX4_giveExtra_11 ?_
        refine lv_iload_n hx hb dX4_giveExtra_14 rfl (lv_at hl 2 rfl) ?_
        refine va_iald hx hb hK hP 49 36 atX_49 tyX_49 (in_rg r8 (by decide)) dX4_giveExtra_15 ?_
        refine lv_topi (fun x32 e33 => ?_)
        have r34 : rg x32 0 1023 := rg_e e33 (hq.1.2 49 _)
        refine lv_istore_n (lv' := [(3, .int x32), (0, .ref (ad 46)), (1, .int p1), (2, .int a1)]) hx hb dX4_giveExtra_16 rfl hl (by decide) rfl (fun ls hl => ?_)
        have J17 : ∀ (n17 : Nat) (a35 : Int32) (F37 : Nat → Int32) (L37 : Nat → Int64) (A37 : Nat → Nat → Int32) (B37 : Nat → Nat → Int64) (H : Heap) (locs : List Loc) (ls : Array Slot), a35.toInt.toNat < n17 → rg a35 0 1023 → qX [] [47, 48] F A F37 A37 → F37 37 = x4 → va_P D classes (wX cA ad F37 L37 A37 B37) H → va_D Af (wX cA ad F37 L37 A37 B37) → va_S Af s.heap H locs → lv_has ls 4 [(0, .ref (ad 46)), (1, .int p1), (2, .int a1), (3, .int a35)] → W p l e rm_X4_giveExtra_46 s m args below meth c H locs 0 0 Q (F0 m 17 ls []) := by
          intro n17
          induction n17 with
          | zero =>
            intro _ _ _ _ _ _ _ _ hn
            exact absurd hn (Nat.not_lt_zero _)
          | succ n17 ih17 =>
            intro a35 F37 L37 A37 B37 H locs ls hn17 r36 hq f38 hP hD hS hl
            refine lv_iload_n hx hb dX4_giveExtra_17 rfl (lv_at hl 3 rfl) ?_
            refine lv_if_eq (tgt := 52) hx hb dX4_giveExtra_18 (by decide) (fun c39 => ?_) (fun c39 => ?_)
            · skip
              have r40 : rg a35 0 0 := rg_eq1 c39 (r36 : rg a35 0 1023) ((rg_k (by decide)) : rg 0 0 0) (by decide)
              obtain ⟨x42, e43⟩ : ∃ y : Int32, y = a1 + 1 := ⟨_, rfl⟩
              have r44 : rg x42 1 8 := rg_add e43 r8 (rg_k (by decide) : rg 1 1 1) (by decide)
              refine lv_iinc (v := x42) (lv' := [(2, .int x42), (0, .ref (ad 46)), (1, .int p1), (3, .int a35)]) hx hb dX4_giveExtra_52 hl (k := 2) rfl (by rw [e43]; rfl) (by decide) rfl (fun ls hl => ?_)
              refine lv_goto (tgt := 2) hx hb dX4_giveExtra_55 (by decide) ?_
              exact ih2 (x42) (F37) (L37) (A37) (B37) H locs ls (by have h0 : (1 : Int32).toInt = 1 := rfl; have h1 := ti_addk e43 r8 (by decide); have h2 : rg x42 0 8 := (rg_w r44 (by decide)); unfold rg at h2; omega) (rg_w r44 (by decide)) hq hP hD hS (lv_sub hl [1, 2, 0] rfl)
            · skip
              have r41 : rg a35 1 1023 := (rg_ne1 c39 (r36 : rg a35 0 1023) ((rg_k (by decide)) : rg 0 0 0)).1 rfl
              refine lv_aload_n hx hb dX4_giveExtra_21 rfl (lv_at hl 0 rfl) ?_
              refine va_get (ci := 4) (v := .ref (ad 47)) (C := RX4) (T := TX4) (N := 12) hx hb hg inX4 hown hK hP 46 atX_46 rfl 0 (by decide) (hg _ mw_399) (fun _ h9 => h9) rfl dX4_giveExtra_22 ?_
              refine lv_iload_n hx hb dX4_giveExtra_25 rfl (lv_at hl 1 rfl) ?_
              refine lv_bipush (v := 80) hx hb dX4_giveExtra_26 (by decide) ?_
              refine lv_imul hx hb dX4_giveExtra_28 ?_
              refine lv_topi (fun x45 e46 => ?_)
              have r47 : rg x45 0 640 := rg_mul e46 hp1 ((rg_k (by decide)) : rg 80 80 80) (by decide)
              refine lv_iload_n hx hb dX4_giveExtra_29 rfl (lv_at hl 2 rfl) ?_
              refine lv_iload_n hx hb dX4_giveExtra_30 rfl (lv_at hl 3 rfl) ?_
              refine calln_i (As := [.int a35]) (rest := [.int a1, .int x45, .ref (ad 47)]) hC (c_X11_lowest l D (tysX cA) (wX cA ad F37 L37 A37 B37) H.size (a35)) ⟨va_cnB 1 hg (g_N mw_799) rfl rfl rfl (mn_16 hC.N) (hg _ mw_1) (by decide +kernel) ⟨(Nat.le_of_ble_eq_true rfl), (Nat.le_of_ble_eq_true rfl)⟩, (hg _ mw_798), trivial⟩ hP hD hS hA rfl hl.1 rfl (Nat.le_of_ble_eq_true rfl) dX4_giveExtra_31 ⟨Nat.zero_le _, Nat.zero_le _⟩ (fun x48 u H locs hw hP hD hS => ?_)
              have e49 := hw
              have hP : va_P D classes (wX cA ad F37 L37 A37 B37) H := hP
              have hD : va_D Af (wX cA ad F37 L37 A37 B37) := hD
              have r50 : rg x48 0 9 := rg_low hw r41 (k := 10) (by decide)
              refine calln_i (As := [.int a1, .int x48]) (rest := [.int x45, .ref (ad 47)]) hC (c_X11_cellOf l D (tysX cA) (wX cA ad F37 L37 A37 B37) H.size (a1) (x48)) ⟨va_cnB 2 hg (g_N mw_681) rfl rfl rfl (mn_15 hC.N) (hg _ mw_1) (by decide +kernel) ⟨(Nat.le_of_ble_eq_true rfl), (Nat.le_of_ble_eq_true rfl)⟩, (hg _ mw_680), trivial⟩ hP hD hS hA rfl hl.1 rfl (Nat.le_of_ble_eq_true rfl) dX4_giveExtra_34 ⟨Nat.zero_le _, Nat.zero_le _⟩ (fun x51 u H locs hw hP hD hS => ?_)
              have e52 := hw
              have hP : va_P D classes (wX cA ad F37 L37 A37 B37) H := hP
              have hD : va_D Af (wX cA ad F37 L37 A37 B37) := hD
              have r53 : rg x51 0 79 := rg_cell hw (r8 : rg a1 0 7) (r50 : rg x48 0 9) (by decide)
              refine lv_iadd hx hb dX4_giveExtra_37 ?_
              refine lv_topi (fun x54 e55 => ?_)
              have r56 : rg x54 0 719 := rg_add e55 r47 r53 (by decide)
              refine lv_dup2_11 hx hb dX4_giveExtra_38 rfl rfl ?_
              refine va_iald hx hb hK hP 47 34 atX_47 tyX_47 (in_rg r56 (by decide)) dX4_giveExtra_39 ?_
              refine lv_topi (fun x57 e58 => ?_)
              refine lv_iconst (v := 1) hx hb dX4_giveExtra_40 (by decide) ?_
              refine lv_iadd hx hb dX4_giveExtra_41 ?_
              refine lv_topi (fun x59 e60 => ?_)
              refine va_iast hx hb hK hP hD hS 47 34 atX_47 tyX_47 (in_rg r56 (by decide)) dX4_giveExtra_42 (fun H locs hP hD hS => ?_)
              have hq := hq.ast 47 (x54).toNatClampNeg (x := x59) (by decide) (rg_top _)
              rw [setX_47] at hP hD
              have k61 : x59 = (va_up A37 47 (upd (A37 47) (x54).toNatClampNeg x59)) 47 (x54).toNatClampNeg := (rdA).symm
              refine lv_iload_n hx hb dX4_giveExtra_43 rfl (lv_at hl 3 rfl) ?_
              refine lv_iload_n hx hb dX4_giveExtra_44 rfl (lv_at hl 3 rfl) ?_
              refine lv_iconst (v := 1) hx hb dX4_giveExtra_45 (by decide) ?_
              refine lv_isub hx hb dX4_giveExtra_46 ?_
              refine lv_topi (fun x62 e63 => ?_)
              have r64 : rg x62 0 1022 := rg_sub e63 r41 ((rg_k (by decide)) : rg 1 1 1) (by decide)
              refine lv_iand hx hb dX4_giveExtra_47 ?_
              refine lv_topi (fun x65 e66 => ?_)
              have r67 : rg x65 0 1022 := rg_andr e66 r64 (by decide)
              refine lv_istore_n (lv' := [(3, .int x65), (0, .ref (ad 46)), (1, .int p1), (2, .int a1)]) hx hb dX4_giveExtra_48 rfl hl (by decide) rfl (fun ls hl => ?_)
              refine lv_goto (tgt := 17) hx hb dX4_giveExtra_49 (by decide) ?_
              exact ih17 (x65) (F37) (L37) ((va_up A37 47 (upd (A37 47) (x54).toNatClampNeg x59))) (B37) H locs ls (by have h1 := mask_less (show x65 = a35 &&& (a35 - 1) by rw [← e63]; exact e66) r41 (by decide); omega) (rg_w r67 (by decide)) hq (f38) hP hD hS (lv_sub hl [1, 2, 3, 0] rfl)
        exact J17 _ (x32) (F3) (L3) (A3) (B3) H locs ls (Nat.lt_succ_self _) r34 hq (e5.symm) hP hD hS (lv_sub hl [1, 2, 3, 0] rfl)
  exact J2 _ (0) (F) (L) (A) (B) H locs ls (Nat.lt_succ_self _) (rg_k (by decide)) hq hP hD hS (lv_sub hl [1, 2, 0] rfl)
abbrev rm_X4_giveWhole_46 : Room := { frames := 1, cells := 0, slots := 0, locals := 21 }
set_option maxHeartbeats 4000000 in
set_option maxRecDepth 100000 in
theorem c_X4_giveWhole_46 (l : Launch) (D : va_G) (cA : Nat → ClassId) (sz : Nat) (ad : Nat → Nat) (F : Nat → Int32) (L : Nat → Int64) (A : Nat → Nat → Int32) (B : Nat → Nat → Int64) (p1 : Int32) (p2 : Int32) (hT : typX F A) (hp1 : rg p1 0 8) (hp2 : rg p2 (-99) 9) : Met l yX4_giveWhole (Cond.code yX4_giveWhole cX4_giveWhole 6 none :: GW) rm_X4_giveWhole_46 (mPc D classes (tysX cA) (wX cA ad F L A B) sz [.ref (ad 46), .int p1, .int p2]) (mQv (S := SW) D classes (tysX cA) (wX cA ad F L A B) sz (wfX cA ad) (fun u => qX [] [47, 49, 50] F A u.1 u.2.2.1)) 0 0 (va_A (wX cA ad F L A B) sz) := by
  refine met_v (own := "ShoeingDay$Parting") (by decide +kernel) rfl (Nat.le_of_ble_eq_true rfl) ?_
  intro p e s m args below meth c Q Af ls hC hP hD hS hA hl hret
  have hx := hC.1
  have hb := hC.2.1
  have hown := hC.2.2.2.1
  have hg := hC.g
  have hK := hC.K
  have hl : lv_has ls 6 [(0, .ref (ad 46)), (1, .int p1), (2, .int p2)] := hl
  have hq : qX [] [47, 49, 50] F A F A := qX.rf hT
  obtain ⟨H, hH⟩ : ∃ H, H = s.heap := ⟨_, rfl⟩
  have hP : va_P D classes (wX cA ad F L A B) H := by rw [hH]; exact hP
  have hS : va_S Af s.heap H [] := by rw [hH]; exact hS
  obtain ⟨locs, hlo⟩ : ∃ q : List Loc, q = [] := ⟨_, rfl⟩
  rw [← hH, ← hlo]
  rw [← hlo] at hS
  refine lv_iconst (v := 0) hx hb dX4_giveWhole_0 (by decide) ?_
  refine lv_istore_n (lv' := [(3, .int 0), (0, .ref (ad 46)), (1, .int p1), (2, .int p2)]) hx hb dX4_giveWhole_1 rfl hl (by decide) rfl (fun ls hl => ?_)
  have J2 : ∀ (n2 : Nat) (a1 : Int32) (F3 : Nat → Int32) (L3 : Nat → Int64) (A3 : Nat → Nat → Int32) (B3 : Nat → Nat → Int64) (H : Heap) (locs : List Loc) (ls : Array Slot), (80 - a1.toInt).toNat < n2 → rg a1 0 80 → qX [] [47, 49, 50] F A F3 A3 → va_P D classes (wX cA ad F3 L3 A3 B3) H → va_D Af (wX cA ad F3 L3 A3 B3) → va_S Af s.heap H locs → lv_has ls 6 [(0, .ref (ad 46)), (1, .int p1), (2, .int p2), (3, .int a1)] → W p l e rm_X4_giveWhole_46 s m args below meth c H locs 0 0 Q (F0 m 2 ls []) := by
    intro n2
    induction n2 with
    | zero =>
      intro _ _ _ _ _ _ _ _ hn
      exact absurd hn (Nat.not_lt_zero _)
    | succ n2 ih2 =>
      intro a1 F3 L3 A3 B3 H locs ls hn2 r2 hq hP hD hS hl
      refine lv_iload_n hx hb dX4_giveWhole_2 rfl (lv_at hl 3 rfl) ?_
      refine lv_bipush (v := 80) hx hb dX4_giveWhole_3 (by decide) ?_
      have J37 : ∀ (F4 : Nat → Int32) (L4 : Nat → Int64) (A4 : Nat → Nat → Int32) (B4 : Nat → Nat → Int64) (H : Heap) (locs : List Loc) (ls : Array Slot), qX [] [47, 49, 50] F A F4 A4 → va_P D classes (wX cA ad F4 L4 A4 B4) H → va_D Af (wX cA ad F4 L4 A4 B4) → va_S Af s.heap H locs → lv_has ls 6 [(0, .ref (ad 46)), (1, .int p1), (2, .int p2)] → W p l e rm_X4_giveWhole_46 s m args below meth c H locs 0 0 Q (F0 m 37 ls []) := by
        intro F4 L4 A4 B4 H locs ls hq hP hD hS hl
        refine lv_iconst (v := 0) hx hb dX4_giveWhole_37 (by decide) ?_
        refine lv_istore_n (lv' := [(3, .int 0), (0, .ref (ad 46)), (1, .int p1), (2, .int p2)]) hx hb dX4_giveWhole_38 rfl hl (by decide) rfl (fun ls hl => ?_)
        have J39 : ∀ (n39 : Nat) (a5 : Int32) (F7 : Nat → Int32) (L7 : Nat → Int64) (A7 : Nat → Nat → Int32) (B7 : Nat → Nat → Int64) (H : Heap) (locs : List Loc) (ls : Array Slot), (8 - a5.toInt).toNat < n39 → rg a5 0 8 → qX [] [47, 49, 50] F A F7 A7 → va_P D classes (wX cA ad F7 L7 A7 B7) H → va_D Af (wX cA ad F7 L7 A7 B7) → va_S Af s.heap H locs → lv_has ls 6 [(0, .ref (ad 46)), (1, .int p1), (2, .int p2), (3, .int a5)] → W p l e rm_X4_giveWhole_46 s m args below meth c H locs 0 0 Q (F0 m 39 ls []) := by
          intro n39
          induction n39 with
          | zero =>
            intro _ _ _ _ _ _ _ _ hn
            exact absurd hn (Nat.not_lt_zero _)
          | succ n39 ih39 =>
            intro a5 F7 L7 A7 B7 H locs ls hn39 r6 hq hP hD hS hl
            refine lv_iload_n hx hb dX4_giveWhole_39 rfl (lv_at hl 3 rfl) ?_
            refine lv_aload_n hx hb dX4_giveWhole_40 rfl (lv_at hl 0 rfl) ?_
            refine va_get (ci := 4) (v := .int (F7 37)) (C := RX4) (T := TX4) (N := 12) hx hb hg inX4 hown hK hP 46 atX_46 rfl 10 (by decide) (hg _ mw_411) (fun _ h9 => h9) rfl dX4_giveWhole_41 ?_
            refine lv_topi (fun x8 e9 => ?_)
            have r10 : rg x8 0 8 := rg_e e9 (hq.1.1 37)
            refine lv_icmp_ge (tgt := 130) hx hb dX4_giveWhole_44 (by decide) (fun c11 => ?_) (fun c11 => ?_)
            · skip
              exact hret (F7, L7, A7, B7) H locs 130 ls dX4_giveWhole_130 hP hD hS hq
            · skip
              have r12 : rg a5 0 7 := rg_lt1 (iNE c11) (r6 : rg a5 0 8) (r10 : rg x8 0 8)
              have r13 : rg x8 1 8 := rg_lt2 (iNE c11) (r6 : rg a5 0 8) (r10 : rg x8 0 8)
              refine lv_aload_n hx hb dX4_giveWhole_47 rfl (lv_at hl 0 rfl) ?_
              refine va_get (ci := 4) (v := .ref (ad 49)) (C := RX4) (T := TX4) (N := 12) hx hb hg inX4 hown hK hP 46 atX_46 rfl 3 (by decide) (hg _ mw_404) (fun _ h9 => h9) rfl dX4_giveWhole_48 ?_
              refine lv_iload_n hx hb dX4_giveWhole_51 rfl (lv_at hl 3 rfl) ?_
              refine lv_iconst (v := 0) hx hb dX4_giveWhole_52 (by decide) ?_
              refine va_iast hx hb hK hP hD hS 49 36 atX_49 tyX_49 (in_rg r12 (by decide)) dX4_giveWhole_53 (fun H locs hP hD hS => ?_)
              have hq := hq.ast 49 (a5).toNatClampNeg (x := 0) (by decide) (rg_k (by decide))
              rw [setX_49] at hP hD
              have k14 : (0 : Int32) = (va_up A7 49 (upd (A7 49) (a5).toNatClampNeg 0)) 49 (a5).toNatClampNeg := (rdA).symm
              refine lv_aload_n hx hb dX4_giveWhole_54 rfl (lv_at hl 0 rfl) ?_
              refine va_get (ci := 4) (v := .ref (ad 50)) (C := RX4) (T := TX4) (N := 12) hx hb hg inX4 hown hK hP 46 atX_46 rfl 4 (by decide) (hg _ mw_405) (fun _ h9 => h9) rfl dX4_giveWhole_55 ?_
              refine lv_iload_n hx hb dX4_giveWhole_58 rfl (lv_at hl 3 rfl) ?_
              refine lv_iconst (v := 0) hx hb dX4_giveWhole_59 (by decide) ?_
              refine va_iast hx hb hK hP hD hS 50 37 atX_50 tyX_50 (in_rg r12 (by decide)) dX4_giveWhole_60 (fun H locs hP hD hS => ?_)
              have hq := hq.ast 50 (a5).toNatClampNeg (x := 0) (by decide) (rg_k (by decide))
              rw [setX_50] at hP hD
              have k15 : (0 : Int32) = (va_up (va_up A7 49 (upd (A7 49) (a5).toNatClampNeg 0)) 50 (upd ((va_up A7 49 (upd (A7 49) (a5).toNatClampNeg 0)) 50) (a5).toNatClampNeg 0)) 50 (a5).toNatClampNeg := (rdA).symm
              refine lv_iconst (v := 0) hx hb dX4_giveWhole_61 (by decide) ?_
              refine lv_istore (lv' := [(4, .int 0), (0, .ref (ad 46)), (1, .int p1), (2, .int p2), (3, .int a5)]) hx hb dX4_giveWhole_62 hl (by decide) rfl (fun ls hl => ?_)
              have J64 : ∀ (n64 : Nat) (a16 : Int32) (F18 : Nat → Int32) (L18 : Nat → Int64) (A18 : Nat → Nat → Int32) (B18 : Nat → Nat → Int64) (H : Heap) (locs : List Loc) (ls : Array Slot), (10 - a16.toInt).toNat < n64 → rg a16 0 10 → qX [] [47, 49, 50] F A F18 A18 → F18 37 = x8 → va_P D classes (wX cA ad F18 L18 A18 B18) H → va_D Af (wX cA ad F18 L18 A18 B18) → va_S Af s.heap H locs → lv_has ls 6 [(0, .ref (ad 46)), (1, .int p1), (2, .int p2), (3, .int a5), (4, .int a16)] → W p l e rm_X4_giveWhole_46 s m args below meth c H locs 0 0 Q (F0 m 64 ls []) := by
                intro n64
                induction n64 with
                | zero =>
                  intro _ _ _ _ _ _ _ _ hn
                  exact absurd hn (Nat.not_lt_zero _)
                | succ n64 ih64 =>
                  intro a16 F18 L18 A18 B18 H locs ls hn64 r17 hq f19 hP hD hS hl
                  refine lv_iload hx hb dX4_giveWhole_64 (lv_at hl 4 rfl) ?_
                  refine lv_aload_n hx hb dX4_giveWhole_66 rfl (lv_at hl 0 rfl) ?_
                  refine va_get (ci := 4) (v := .int (F18 38)) (C := RX4) (T := TX4) (N := 12) hx hb hg inX4 hown hK hP 46 atX_46 rfl 11 (by decide) (hg _ mw_412) (fun _ h9 => h9) rfl dX4_giveWhole_67 ?_
                  refine lv_topi (fun x20 e21 => ?_)
                  have r22 : rg x20 0 10 := rg_e e21 (hq.1.1 38)
                  refine lv_icmp_ge (tgt := 124) hx hb dX4_giveWhole_70 (by decide) (fun c23 => ?_) (fun c23 => ?_)
                  · skip
                    obtain ⟨x26, e27⟩ : ∃ y : Int32, y = a5 + 1 := ⟨_, rfl⟩
                    have r28 : rg x26 1 8 := rg_add e27 r12 (rg_k (by decide) : rg 1 1 1) (by decide)
                    refine lv_iinc (v := x26) (lv' := [(3, .int x26), (0, .ref (ad 46)), (1, .int p1), (2, .int p2), (4, .int a16)]) hx hb dX4_giveWhole_124 hl (k := 3) rfl (by rw [e27]; rfl) (by decide) rfl (fun ls hl => ?_)
                    refine lv_goto (tgt := 39) hx hb dX4_giveWhole_127 (by decide) ?_
                    exact ih39 (x26) (F18) (L18) (A18) (B18) H locs ls (by have h0 : (1 : Int32).toInt = 1 := rfl; have h1 := ti_addk e27 r12 (by decide); have h2 : rg x26 0 8 := (rg_w r28 (by decide)); unfold rg at h2; omega) (rg_w r28 (by decide)) hq hP hD hS (lv_sub hl [1, 2, 3, 0] rfl)
                  · skip
                    have r24 : rg a16 0 9 := rg_lt1 (iNE c23) (r17 : rg a16 0 10) (r22 : rg x20 0 10)
                    have r25 : rg x20 1 10 := rg_lt2 (iNE c23) (r17 : rg a16 0 10) (r22 : rg x20 0 10)
                    refine lv_iload_n hx hb dX4_giveWhole_73 rfl (lv_at hl 3 rfl) ?_
                    refine lv_iload hx hb dX4_giveWhole_74 (lv_at hl 4 rfl) ?_
                    refine calln_i (As := [.int a5, .int a16]) (rest := []) hC (c_X11_cellOf l D (tysX cA) (wX cA ad F18 L18 A18 B18) H.size (a5) (a16)) ⟨va_cnB 2 hg (g_N mw_681) rfl rfl rfl (mn_15 hC.N) (hg _ mw_1) (by decide +kernel) ⟨(Nat.le_of_ble_eq_true rfl), (Nat.le_of_ble_eq_true rfl)⟩, (hg _ mw_680), trivial⟩ hP hD hS hA rfl hl.1 rfl (Nat.le_of_ble_eq_true rfl) dX4_giveWhole_76 ⟨Nat.zero_le _, Nat.zero_le _⟩ (fun x29 u H locs hw hP hD hS => ?_)
                    have e30 := hw
                    have hP : va_P D classes (wX cA ad F18 L18 A18 B18) H := hP
                    have hD : va_D Af (wX cA ad F18 L18 A18 B18) := hD
                    have r31 : rg x29 0 79 := rg_cell hw (r12 : rg a5 0 7) (r24 : rg a16 0 9) (by decide)
                    refine lv_istore (lv' := [(5, .int x29), (0, .ref (ad 46)), (1, .int p1), (2, .int p2), (3, .int a5), (4, .int a16)]) hx hb dX4_giveWhole_79 hl (by decide) rfl (fun ls hl => ?_)
                    refine lv_aload_n hx hb dX4_giveWhole_81 rfl (lv_at hl 1 rfl) ?_
                    refine va_get (ci := 4) (v := .ref (ad 47)) (C := RX4) (T := TX4) (N := 12) hx hb hg inX4 hown hK hP 46 atX_46 rfl 0 (by decide) (hg _ mw_399) (fun _ h9 => h9) rfl dX4_giveWhole_82 ?_
                    refine lv_iload_n hx hb dX4_giveWhole_85 rfl (lv_at hl 2 rfl) ?_
                    refine lv_bipush (v := 80) hx hb dX4_giveWhole_86 (by decide) ?_
                    refine lv_imul hx hb dX4_giveWhole_88 ?_
                    refine lv_topi (fun x32 e33 => ?_)
                    have r34 : rg x32 0 640 := rg_mul e33 hp1 ((rg_k (by decide)) : rg 80 80 80) (by decide)
                    refine lv_iload hx hb dX4_giveWhole_89 (lv_at hl 0 rfl) ?_
                    refine lv_iadd hx hb dX4_giveWhole_91 ?_
                    refine lv_topi (fun x35 e36 => ?_)
                    have r37 : rg x35 0 719 := rg_add e36 r34 r31 (by decide)
                    refine va_iald hx hb hK hP 47 34 atX_47 tyX_47 (in_rg r37 (by decide)) dX4_giveWhole_92 ?_
                    refine lv_topi (fun x38 e39 => ?_)
                    refine lv_iload_n hx hb dX4_giveWhole_93 rfl (lv_at hl 3 rfl) ?_
                    refine lv_imul hx hb dX4_giveWhole_94 ?_
                    refine lv_topi (fun x40 e41 => ?_)
                    refine lv_aload_n hx hb dX4_giveWhole_95 rfl (lv_at hl 1 rfl) ?_
                    refine va_get (ci := 4) (v := .ref (ad 48)) (C := RX4) (T := TX4) (N := 12) hx hb hg inX4 hown hK hP 46 atX_46 rfl 2 (by decide) (hg _ mw_403) (fun _ h9 => h9) rfl dX4_giveWhole_96 ?_
                    refine lv_iload hx hb dX4_giveWhole_99 (lv_at hl 0 rfl) ?_
                    refine va_iald hx hb hK hP 48 35 atX_48 tyX_48 (in_rg r31 (by decide)) dX4_giveWhole_101 ?_
                    refine lv_topi (fun x42 e43 => ?_)
                    have J118 : ∀ (F44 : Nat → Int32) (L44 : Nat → Int64) (A44 : Nat → Nat → Int32) (B44 : Nat → Nat → Int64) (H : Heap) (locs : List Loc) (ls : Array Slot), qX [] [47, 49, 50] F A F44 A44 → F44 37 = x8 → F44 38 = x20 → va_P D classes (wX cA ad F44 L44 A44 B44) H → va_D Af (wX cA ad F44 L44 A44 B44) → va_S Af s.heap H locs → lv_has ls 6 [(0, .ref (ad 46)), (1, .int p1), (2, .int p2), (3, .int a5), (4, .int a16)] → W p l e rm_X4_giveWhole_46 s m args below meth c H locs 0 0 Q (F0 m 118 ls []) := by
                      intro F44 L44 A44 B44 H locs ls hq f45 f46 hP hD hS hl
                      obtain ⟨x47, e48⟩ : ∃ y : Int32, y = a16 + 1 := ⟨_, rfl⟩
                      have r49 : rg x47 1 10 := rg_add e48 r24 (rg_k (by decide) : rg 1 1 1) (by decide)
                      refine lv_iinc (v := x47) (lv' := [(4, .int x47), (0, .ref (ad 46)), (1, .int p1), (2, .int p2), (3, .int a5)]) hx hb dX4_giveWhole_118 hl (k := 4) rfl (by rw [e48]; rfl) (by decide) rfl (fun ls hl => ?_)
                      refine lv_goto (tgt := 64) hx hb dX4_giveWhole_121 (by decide) ?_
                      exact ih64 (x47) (F44) (L44) (A44) (B44) H locs ls (by have h0 : (1 : Int32).toInt = 1 := rfl; have h1 := ti_addk e48 r24 (by decide); have h2 : rg x47 0 10 := (rg_w r49 (by decide)); unfold rg at h2; omega) (rg_w r49 (by decide)) hq (f45) hP hD hS (lv_sub hl [1, 2, 3, 4, 0] rfl)
                    refine lv_icmp_ge (tgt := 118) hx hb dX4_giveWhole_102 (by decide) (fun c50 => ?_) (fun c50 => ?_)
                    · skip
                      exact J118 (F18) (L18) (A18) (B18) H locs ls hq (f19) (e21.symm) hP hD hS (lv_sub hl [1, 2, 3, 4, 5] rfl)
                    · skip
                      have r51 : rg x40 (-2147483648) 2147483646 := rg_lt1 (iNE c50) ((rg_top _) : rg x40 (-2147483648) 2147483647) ((rg_top _) : rg x42 (-2147483648) 2147483647)
                      have r52 : rg x42 (-2147483647) 2147483647 := rg_lt2 (iNE c50) ((rg_top _) : rg x40 (-2147483648) 2147483647) ((rg_top _) : rg x42 (-2147483648) 2147483647)
                      refine lv_aload_n hx hb dX4_giveWhole_105 rfl (lv_at hl 1 rfl) ?_
                      refine va_get (ci := 4) (v := .ref (ad 50)) (C := RX4) (T := TX4) (N := 12) hx hb hg inX4 hown hK hP 46 atX_46 rfl 4 (by decide) (hg _ mw_405) (fun _ h9 => h9) rfl dX4_giveWhole_106 ?_
                      refine lv_iload_n hx hb dX4_giveWhole_109 rfl (lv_at hl 4 rfl) ?_
                      refine lv_dup2_11 hx hb dX4_giveWhole_110 rfl rfl ?_
                      refine va_iald hx hb hK hP 50 37 atX_50 tyX_50 (in_rg r12 (by decide)) dX4_giveWhole_111 ?_
                      refine lv_topi (fun x53 e54 => ?_)
                      have r55 : rg x53 0 1023 := rg_e e54 (hq.1.2 50 _)
                      refine lv_iconst (v := 1) hx hb dX4_giveWhole_112 (by decide) ?_
                      refine lv_iload hx hb dX4_giveWhole_113 (lv_at hl 5 rfl) ?_
                      refine lv_ishl hx hb dX4_giveWhole_115 ?_
                      refine lv_topi (fun x56 e57 => ?_)
                      have r58 : rg x56 1 512 := rg_shl1 e57 r24 (by decide)
                      refine lv_ior hx hb dX4_giveWhole_116 ?_
                      refine lv_topi (fun x59 e60 => ?_)
                      have r61 : rg x59 0 1023 := rg_or 10 e60 r55 r58 (by decide)
                      refine va_iast hx hb hK hP hD hS 50 37 atX_50 tyX_50 (in_rg r12 (by decide)) dX4_giveWhole_117 (fun H locs hP hD hS => ?_)
                      have hq := hq.ast 50 (a5).toNatClampNeg (x := x59) (by decide) r61
                      rw [setX_50] at hP hD
                      have k62 : x59 = (va_up A18 50 (upd (A18 50) (a5).toNatClampNeg x59)) 50 (a5).toNatClampNeg := (rdA).symm
                      exact J118 (F18) (L18) ((va_up A18 50 (upd (A18 50) (a5).toNatClampNeg x59))) (B18) H locs ls hq (f19) (e21.symm) hP hD hS (lv_sub hl [1, 2, 3, 4, 5] rfl)
              exact J64 _ (0) (F7) (L7) ((va_up (va_up A7 49 (upd (A7 49) (a5).toNatClampNeg 0)) 50 (upd ((va_up A7 49 (upd (A7 49) (a5).toNatClampNeg 0)) 50) (a5).toNatClampNeg 0))) (B7) H locs ls (Nat.lt_succ_self _) (rg_k (by decide)) hq (e9.symm) hP hD hS (lv_sub hl [1, 2, 3, 4, 0] rfl)
        exact J39 _ (0) (F4) (L4) (A4) (B4) H locs ls (Nat.lt_succ_self _) (rg_k (by decide)) hq hP hD hS (lv_sub hl [1, 2, 3, 0] rfl)
      refine lv_icmp_ge (tgt := 37) hx hb dX4_giveWhole_5 (by decide) (fun c63 => ?_) (fun c63 => ?_)
      · skip
        have r64 : rg a1 80 80 := rg_le2 (iE c63) ((rg_k (by decide)) : rg 80 80 80) (r2 : rg a1 0 80)
        exact J37 (F3) (L3) (A3) (B3) H locs ls hq hP hD hS (lv_sub hl [0, 1, 2] rfl)
      · skip
        have r65 : rg a1 0 79 := rg_lt1 (iNE c63) (r2 : rg a1 0 80) ((rg_k (by decide)) : rg 80 80 80)
        refine lv_iload_n hx hb dX4_giveWhole_8 rfl (lv_at hl 2 rfl) ?_
        refine lv_if_le (tgt := 37) hx hb dX4_giveWhole_9 (by decide) (fun c66 => ?_) (fun c66 => ?_)
        · skip
          have r67 : rg p2 (-99) 0 := rg_le1 (iE c66) (hp2 : rg p2 (-99) 9) ((rg_k (by decide)) : rg 0 0 0)
          exact J37 (F3) (L3) (A3) (B3) H locs ls hq hP hD hS (lv_sub hl [0, 1, 2] rfl)
        · skip
          have r68 : rg p2 1 9 := rg_lt2 (iNE c66) ((rg_k (by decide)) : rg 0 0 0) (hp2 : rg p2 (-99) 9)
          refine lv_aload_n hx hb dX4_giveWhole_12 rfl (lv_at hl 0 rfl) ?_
          refine va_get (ci := 4) (v := .ref (ad 47)) (C := RX4) (T := TX4) (N := 12) hx hb hg inX4 hown hK hP 46 atX_46 rfl 0 (by decide) (hg _ mw_399) (fun _ h9 => h9) rfl dX4_giveWhole_13 ?_
          refine lv_iload_n hx hb dX4_giveWhole_16 rfl (lv_at hl 1 rfl) ?_
          refine lv_bipush (v := 80) hx hb dX4_giveWhole_17 (by decide) ?_
          refine lv_imul hx hb dX4_giveWhole_19 ?_
          refine lv_topi (fun x69 e70 => ?_)
          have r71 : rg x69 0 640 := rg_mul e70 hp1 ((rg_k (by decide)) : rg 80 80 80) (by decide)
          refine lv_iload_n hx hb dX4_giveWhole_20 rfl (lv_at hl 3 rfl) ?_
          refine lv_iadd hx hb dX4_giveWhole_21 ?_
          refine lv_topi (fun x72 e73 => ?_)
          have r74 : rg x72 0 719 := rg_add e73 r71 r65 (by decide)
          refine lv_aload_n hx hb dX4_giveWhole_22 rfl (lv_at hl 0 rfl) ?_
          refine va_get (ci := 4) (v := .ref (ad 48)) (C := RX4) (T := TX4) (N := 12) hx hb hg inX4 hown hK hP 46 atX_46 rfl 2 (by decide) (hg _ mw_403) (fun _ h9 => h9) rfl dX4_giveWhole_23 ?_
          refine lv_iload_n hx hb dX4_giveWhole_26 rfl (lv_at hl 3 rfl) ?_
          refine va_iald hx hb hK hP 48 35 atX_48 tyX_48 (in_rg r65 (by decide)) dX4_giveWhole_27 ?_
          refine lv_topi (fun x75 e76 => ?_)
          refine lv_iload_n hx hb dX4_giveWhole_28 rfl (lv_at hl 2 rfl) ?_
          refine lv_idiv hx hb dX4_giveWhole_29 (ne0_rg r68 (by decide)) ?_
          refine lv_topi (fun x77 e78 => ?_)
          refine va_iast hx hb hK hP hD hS 47 34 atX_47 tyX_47 (in_rg r74 (by decide)) dX4_giveWhole_30 (fun H locs hP hD hS => ?_)
          have hq := hq.ast 47 (x72).toNatClampNeg (x := x77) (by decide) (rg_top _)
          rw [setX_47] at hP hD
          have k79 : x77 = (va_up A3 47 (upd (A3 47) (x72).toNatClampNeg x77)) 47 (x72).toNatClampNeg := (rdA).symm
          obtain ⟨x80, e81⟩ : ∃ y : Int32, y = a1 + 1 := ⟨_, rfl⟩
          have r82 : rg x80 1 80 := rg_add e81 r65 (rg_k (by decide) : rg 1 1 1) (by decide)
          refine lv_iinc (v := x80) (lv' := [(3, .int x80), (0, .ref (ad 46)), (1, .int p1), (2, .int p2)]) hx hb dX4_giveWhole_31 hl (k := 3) rfl (by rw [e81]; rfl) (by decide) rfl (fun ls hl => ?_)
          refine lv_goto (tgt := 2) hx hb dX4_giveWhole_34 (by decide) ?_
          exact ih2 (x80) (F3) (L3) ((va_up A3 47 (upd (A3 47) (x72).toNatClampNeg x77))) (B3) H locs ls (by have h0 : (1 : Int32).toInt = 1 := rfl; have h1 := ti_addk e81 r65 (by decide); have h2 : rg x80 0 80 := (rg_w r82 (by decide)); unfold rg at h2; omega) (rg_w r82 (by decide)) hq hP hD hS (lv_sub hl [1, 2, 3, 0] rfl)
  exact J2 _ (0) (F) (L) (A) (B) H locs ls (Nat.lt_succ_self _) (rg_k (by decide)) hq hP hD hS (lv_sub hl [1, 2, 3, 0] rfl)
abbrev rm_X4_reachOfDrain_46 : Room := { frames := 0, cells := 0, slots := 0, locals := 0 }
set_option maxHeartbeats 4000000 in
set_option maxRecDepth 100000 in
theorem c_X4_reachOfDrain_46 (l : Launch) (D : va_G) (cA : Nat → ClassId) (sz : Nat) (ad : Nat → Nat) (F : Nat → Int32) (L : Nat → Int64) (A : Nat → Nat → Int32) (B : Nat → Nat → Int64)  (hT : typX F A) : Met l yX4_reachOfDrain (Cond.code yX4_reachOfDrain cX4_reachOfDrain 3 (some .int) :: GW) rm_X4_reachOfDrain_46 (mPc D classes (tysX cA) (wX cA ad F L A B) sz [.ref (ad 46)]) (mQi (S := Unit) D classes (tysX cA) (wX cA ad F L A B) sz (fun _ : Unit => wX cA ad F L A B) (fun r u => rg r 0 524287)) 0 0 (va_A (wX cA ad F L A B) sz) := by
  refine met_i (own := "ShoeingDay$Parting") (by decide +kernel) rfl (Nat.le_of_ble_eq_true rfl) ?_
  intro p e s m args below meth c Q Af ls hC hP hD hS hA hl hret
  have hx := hC.1
  have hb := hC.2.1
  have hown := hC.2.2.2.1
  have hg := hC.g
  have hK := hC.K
  have hl : lv_has ls 3 [(0, .ref (ad 46))] := hl
  have hq : qX [] [] F A F A := qX.rf hT
  obtain ⟨H, hH⟩ : ∃ H, H = s.heap := ⟨_, rfl⟩
  have hP : va_P D classes (wX cA ad F L A B) H := by rw [hH]; exact hP
  have hS : va_S Af s.heap H [] := by rw [hH]; exact hS
  obtain ⟨locs, hlo⟩ : ∃ q : List Loc, q = [] := ⟨_, rfl⟩
  rw [← hH, ← hlo]
  rw [← hlo] at hS
  refine lv_aload_n hx hb dX4_reachOfDrain_0 rfl (lv_at hl 0 rfl) ?_
  refine va_get (ci := 4) (v := .ref (ad 51)) (C := RX4) (T := TX4) (N := 12) hx hb hg inX4 hown hK hP 46 atX_46 rfl 5 (by decide) (hg _ mw_406) (fun _ h9 => h9) rfl dX4_reachOfDrain_1 ?_
  refine lv_bipush (v := 18) hx hb dX4_reachOfDrain_4 (by decide) ?_
  refine va_iald hx hb hK hP 51 38 atX_51 tyX_51 (in_rg ((rg_k (by decide)) : rg 18 18 18) (by decide)) dX4_reachOfDrain_6 ?_
  refine lv_topi (fun x1 e2 => ?_)
  refine lv_aload_n hx hb dX4_reachOfDrain_7 rfl (lv_at hl 0 rfl) ?_
  refine va_get (ci := 4) (v := .ref (ad 53)) (C := RX4) (T := TX4) (N := 12) hx hb hg inX4 hown hK hP 46 atX_46 rfl 7 (by decide) (hg _ mw_408) (fun _ h9 => h9) rfl dX4_reachOfDrain_8 ?_
  refine lv_bipush (v := 18) hx hb dX4_reachOfDrain_11 (by decide) ?_
  refine va_iald hx hb hK hP 53 40 atX_53 tyX_53 (in_rg ((rg_k (by decide)) : rg 18 18 18) (by decide)) dX4_reachOfDrain_13 ?_
  refine lv_topi (fun x3 e4 => ?_)
  have J23 : ∀ (a5 : Int32) (H : Heap) (locs : List Loc) (ls : Array Slot), rg a5 0 262144 → va_P D classes (wX cA ad F L A B) H → va_D Af (wX cA ad F L A B) → va_S Af s.heap H locs → lv_has ls 3 [(0, .ref (ad 46))] → W p l e rm_X4_reachOfDrain_46 s m args below meth c H locs 0 0 Q (F0 m 23 ls [.int a5]) := by
    intro a5 H locs ls r6 hP hD hS hl
    refine lv_istore_n (lv' := [(1, .int a5), (0, .ref (ad 46))]) hx hb dX4_reachOfDrain_23 rfl hl (by decide) rfl (fun ls hl => ?_)
    refine lv_bipush (v := 8) hx hb dX4_reachOfDrain_24 (by decide) ?_
    refine lv_istore_n (lv' := [(2, .int 8), (1, .int a5), (0, .ref (ad 46))]) hx hb dX4_reachOfDrain_26 rfl hl (by decide) rfl (fun ls hl => ?_)
    have J27 : ∀ (n27 : Nat) (a7 : Int32) (a9 : Int32) (H : Heap) (locs : List Loc) (ls : Array Slot), (19 - a9.toInt).toNat < n27 → rg a7 0 524287 → rg a9 8 19 → va_P D classes (wX cA ad F L A B) H → va_D Af (wX cA ad F L A B) → va_S Af s.heap H locs → lv_has ls 3 [(0, .ref (ad 46)), (1, .int a7), (2, .int a9)] → W p l e rm_X4_reachOfDrain_46 s m args below meth c H locs 0 0 Q (F0 m 27 ls []) := by
      intro n27
      induction n27 with
      | zero =>
        intro _ _ _ _ _ hn
        exact absurd hn (Nat.not_lt_zero _)
      | succ n27 ih27 =>
        intro a7 a9 H locs ls hn27 r8 r10 hP hD hS hl
        refine lv_iload_n hx hb dX4_reachOfDrain_27 rfl (lv_at hl 2 rfl) ?_
        refine lv_bipush (v := 8) hx hb dX4_reachOfDrain_28 (by decide) ?_
        refine lv_aload_n hx hb dX4_reachOfDrain_30 rfl (lv_at hl 0 rfl) ?_
        refine va_get (ci := 4) (v := .int (F 38)) (C := RX4) (T := TX4) (N := 12) hx hb hg inX4 hown hK hP 46 atX_46 rfl 11 (by decide) (hg _ mw_412) (fun _ h9 => h9) rfl dX4_reachOfDrain_31 ?_
        refine lv_topi (fun x11 e12 => ?_)
        have r13 : rg x11 0 10 := rg_e e12 (hq.1.1 38)
        refine lv_iadd hx hb dX4_reachOfDrain_34 ?_
        refine lv_topi (fun x14 e15 => ?_)
        have r16 : rg x14 8 18 := rg_add e15 ((rg_k (by decide)) : rg 8 8 8) r13 (by decide)
        refine lv_icmp_ge (tgt := 65) hx hb dX4_reachOfDrain_35 (by decide) (fun c17 => ?_) (fun c17 => ?_)
        · skip
          refine lv_iload_n hx hb dX4_reachOfDrain_65 rfl (lv_at hl 1 rfl) ?_
          exact hret (a7) () H locs 66 ls rfl dX4_reachOfDrain_66 hP hD hS r8
        · skip
          have r18 : rg a9 8 17 := rg_lt1 (iNE c17) (r10 : rg a9 8 19) (r16 : rg x14 8 18)
          have r19 : rg x14 9 18 := rg_lt2 (iNE c17) (r10 : rg a9 8 19) (r16 : rg x14 8 18)
          refine lv_aload_n hx hb dX4_reachOfDrain_38 rfl (lv_at hl 0 rfl) ?_
          refine va_get (ci := 4) (v := .ref (ad 51)) (C := RX4) (T := TX4) (N := 12) hx hb hg inX4 hown hK hP 46 atX_46 rfl 5 (by decide) (hg _ mw_406) (fun _ h9 => h9) rfl dX4_reachOfDrain_39 ?_
          refine lv_iload_n hx hb dX4_reachOfDrain_42 rfl (lv_at hl 2 rfl) ?_
          refine va_iald hx hb hK hP 51 38 atX_51 tyX_51 (in_rg r18 (by decide)) dX4_reachOfDrain_43 ?_
          refine lv_topi (fun x20 e21 => ?_)
          refine lv_aload_n hx hb dX4_reachOfDrain_44 rfl (lv_at hl 0 rfl) ?_
          refine va_get (ci := 4) (v := .ref (ad 52)) (C := RX4) (T := TX4) (N := 12) hx hb hg inX4 hown hK hP 46 atX_46 rfl 6 (by decide) (hg _ mw_407) (fun _ h9 => h9) rfl dX4_reachOfDrain_45 ?_
          refine lv_iload_n hx hb dX4_reachOfDrain_48 rfl (lv_at hl 2 rfl) ?_
          refine va_iald hx hb hK hP 52 39 atX_52 tyX_52 (in_rg r18 (by decide)) dX4_reachOfDrain_49 ?_
          refine lv_topi (fun x22 e23 => ?_)
          have J59 : ∀ (a24 : Int32) (H : Heap) (locs : List Loc) (ls : Array Slot), rg a24 0 524287 → va_P D classes (wX cA ad F L A B) H → va_D Af (wX cA ad F L A B) → va_S Af s.heap H locs → lv_has ls 3 [(0, .ref (ad 46)), (1, .int a24), (2, .int a9)] → W p l e rm_X4_reachOfDrain_46 s m args below meth c H locs 0 0 Q (F0 m 59 ls []) := by
            intro a24 H locs ls r25 hP hD hS hl
            obtain ⟨x26, e27⟩ : ∃ y : Int32, y = a9 + 1 := ⟨_, rfl⟩
            have r28 : rg x26 9 18 := rg_add e27 r18 (rg_k (by decide) : rg 1 1 1) (by decide)
            refine lv_iinc (v := x26) (lv' := [(2, .int x26), (0, .ref (ad 46)), (1, .int a24)]) hx hb dX4_reachOfDrain_59 hl (k := 2) rfl (by rw [e27]; rfl) (by decide) rfl (fun ls hl => ?_)
            refine lv_goto (tgt := 27) hx hb dX4_reachOfDrain_62 (by decide) ?_
            exact ih27 (a24) (x26) H locs ls (by have h0 : (1 : Int32).toInt = 1 := rfl; have h1 := ti_addk e27 r18 (by decide); have h2 : rg x26 8 19 := (rg_w r28 (by decide)); unfold rg at h2; omega) r25 (rg_w r28 (by decide)) hP hD hS (lv_sub hl [1, 2, 0] rfl)
          refine lv_icmp_le (tgt := 59) hx hb dX4_reachOfDrain_50 (by decide) (fun c29 => ?_) (fun c29 => ?_)
          · skip
            exact J59 (a7) H locs ls r8 hP hD hS (lv_sub hl [0, 1, 2] rfl)
          · skip
            have r30 : rg x22 (-2147483648) 2147483646 := rg_lt1 (iNE c29) ((rg_top _) : rg x22 (-2147483648) 2147483647) ((rg_top _) : rg x20 (-2147483648) 2147483647)
            have r31 : rg x20 (-2147483647) 2147483647 := rg_lt2 (iNE c29) ((rg_top _) : rg x22 (-2147483648) 2147483647) ((rg_top _) : rg x20 (-2147483648) 2147483647)
            refine lv_iload_n hx hb dX4_reachOfDrain_53 rfl (lv_at hl 1 rfl) ?_
            refine lv_iconst (v := 1) hx hb dX4_reachOfDrain_54 (by decide) ?_
            refine lv_iload_n hx hb dX4_reachOfDrain_55 rfl (lv_at hl 2 rfl) ?_
            refine lv_ishl hx hb dX4_reachOfDrain_56 ?_
            refine lv_topi (fun x32 e33 => ?_)
            have r34 : rg x32 256 131072 := rg_shl1 e33 r18 (by decide)
            refine lv_ior hx hb dX4_reachOfDrain_57 ?_
            refine lv_topi (fun x35 e36 => ?_)
            have r37 : rg x35 0 524287 := rg_or 19 e36 r8 r34 (by decide)
            refine lv_istore_n (lv' := [(1, .int x35), (0, .ref (ad 46)), (2, .int a9)]) hx hb dX4_reachOfDrain_58 rfl hl (by decide) rfl (fun ls hl => ?_)
            exact J59 (x35) H locs ls r37 hP hD hS (lv_sub hl [1, 0, 2] rfl)
    exact J27 _ (a5) (8) H locs ls (Nat.lt_succ_self _) (rg_w r6 (by decide)) (rg_k (by decide)) hP hD hS (lv_sub hl [2, 1, 0] rfl)
  refine lv_icmp_ge (tgt := 22) hx hb dX4_reachOfDrain_14 (by decide) (fun c38 => ?_) (fun c38 => ?_)
  · skip
    refine lv_iconst (v := 0) hx hb dX4_reachOfDrain_22 (by decide) ?_
    exact J23 (0) H locs ls (rg_k (by decide)) hP hD hS (lv_sub hl [0] rfl)
  · skip
    have r39 : rg x1 (-2147483648) 2147483646 := rg_lt1 (iNE c38) ((rg_top _) : rg x1 (-2147483648) 2147483647) ((rg_top _) : rg x3 (-2147483648) 2147483647)
    have r40 : rg x3 (-2147483647) 2147483647 := rg_lt2 (iNE c38) ((rg_top _) : rg x1 (-2147483648) 2147483647) ((rg_top _) : rg x3 (-2147483648) 2147483647)
    refine lv_ldc (v := 262144) hx hb hown (hg _ mw_891) dX4_reachOfDrain_17 ?_
    refine lv_goto (tgt := 23) hx hb dX4_reachOfDrain_19 (by decide) ?_
    exact J23 (262144) H locs ls (rg_k (by decide)) hP hD hS (lv_sub hl [0] rfl)
abbrev rm_X4_reachOfHorse_46 : Room := { frames := 0, cells := 0, slots := 0, locals := 0 }
set_option maxHeartbeats 4000000 in
set_option maxRecDepth 100000 in
theorem c_X4_reachOfHorse_46 (l : Launch) (D : va_G) (cA : Nat → ClassId) (sz : Nat) (ad : Nat → Nat) (F : Nat → Int32) (L : Nat → Int64) (A : Nat → Nat → Int32) (B : Nat → Nat → Int64) (p1 : Int32) (hT : typX F A) (hp1 : rg p1 0 9) : Met l yX4_reachOfHorse (Cond.code yX4_reachOfHorse cX4_reachOfHorse 5 (some .int) :: GW) rm_X4_reachOfHorse_46 (mPc D classes (tysX cA) (wX cA ad F L A B) sz [.ref (ad 46), .int p1]) (mQi (S := Unit) D classes (tysX cA) (wX cA ad F L A B) sz (fun _ : Unit => wX cA ad F L A B) (fun r u => rg r 0 1048575)) 0 0 (va_A (wX cA ad F L A B) sz) := by
  refine met_i (own := "ShoeingDay$Parting") (by decide +kernel) rfl (Nat.le_of_ble_eq_true rfl) ?_
  intro p e s m args below meth c Q Af ls hC hP hD hS hA hl hret
  have hx := hC.1
  have hb := hC.2.1
  have hown := hC.2.2.2.1
  have hg := hC.g
  have hK := hC.K
  have hl : lv_has ls 5 [(0, .ref (ad 46)), (1, .int p1)] := hl
  have hq : qX [] [] F A F A := qX.rf hT
  obtain ⟨H, hH⟩ : ∃ H, H = s.heap := ⟨_, rfl⟩
  have hP : va_P D classes (wX cA ad F L A B) H := by rw [hH]; exact hP
  have hS : va_S Af s.heap H [] := by rw [hH]; exact hS
  obtain ⟨locs, hlo⟩ : ∃ q : List Loc, q = [] := ⟨_, rfl⟩
  rw [← hH, ← hlo]
  rw [← hlo] at hS
  refine lv_bipush (v := 8) hx hb dX4_reachOfHorse_0 (by decide) ?_
  refine lv_iload_n hx hb dX4_reachOfHorse_2 rfl (lv_at hl 1 rfl) ?_
  refine lv_iadd hx hb dX4_reachOfHorse_3 ?_
  refine lv_topi (fun x1 e2 => ?_)
  have r3 : rg x1 8 17 := rg_add e2 ((rg_k (by decide)) : rg 8 8 8) hp1 (by decide)
  refine lv_istore_n (lv' := [(2, .int x1), (0, .ref (ad 46)), (1, .int p1)]) hx hb dX4_reachOfHorse_4 rfl hl (by decide) rfl (fun ls hl => ?_)
  refine lv_aload_n hx hb dX4_reachOfHorse_5 rfl (lv_at hl 1 rfl) ?_
  refine va_get (ci := 4) (v := .ref (ad 51)) (C := RX4) (T := TX4) (N := 12) hx hb hg inX4 hown hK hP 46 atX_46 rfl 5 (by decide) (hg _ mw_406) (fun _ h9 => h9) rfl dX4_reachOfHorse_6 ?_
  refine lv_iload_n hx hb dX4_reachOfHorse_9 rfl (lv_at hl 0 rfl) ?_
  refine va_iald hx hb hK hP 51 38 atX_51 tyX_51 (in_rg r3 (by decide)) dX4_reachOfHorse_10 ?_
  refine lv_topi (fun x4 e5 => ?_)
  refine lv_aload_n hx hb dX4_reachOfHorse_11 rfl (lv_at hl 1 rfl) ?_
  refine va_get (ci := 4) (v := .ref (ad 53)) (C := RX4) (T := TX4) (N := 12) hx hb hg inX4 hown hK hP 46 atX_46 rfl 7 (by decide) (hg _ mw_408) (fun _ h9 => h9) rfl dX4_reachOfHorse_12 ?_
  refine lv_iload_n hx hb dX4_reachOfHorse_15 rfl (lv_at hl 0 rfl) ?_
  refine va_iald hx hb hK hP 53 40 atX_53 tyX_53 (in_rg r3 (by decide)) dX4_reachOfHorse_16 ?_
  refine lv_topi (fun x6 e7 => ?_)
  have J26 : ∀ (a8 : Int32) (H : Heap) (locs : List Loc) (ls : Array Slot), rg a8 0 524288 → va_P D classes (wX cA ad F L A B) H → va_D Af (wX cA ad F L A B) → va_S Af s.heap H locs → lv_has ls 5 [(0, .ref (ad 46)), (1, .int p1)] → W p l e rm_X4_reachOfHorse_46 s m args below meth c H locs 0 0 Q (F0 m 26 ls [.int a8]) := by
    intro a8 H locs ls r9 hP hD hS hl
    refine lv_istore_n (lv' := [(3, .int a8), (0, .ref (ad 46)), (1, .int p1)]) hx hb dX4_reachOfHorse_26 rfl hl (by decide) rfl (fun ls hl => ?_)
    refine lv_iconst (v := 0) hx hb dX4_reachOfHorse_27 (by decide) ?_
    refine lv_istore (lv' := [(4, .int 0), (3, .int a8), (0, .ref (ad 46)), (1, .int p1)]) hx hb dX4_reachOfHorse_28 hl (by decide) rfl (fun ls hl => ?_)
    have J30 : ∀ (n30 : Nat) (a10 : Int32) (a12 : Int32) (H : Heap) (locs : List Loc) (ls : Array Slot), (8 - a12.toInt).toNat < n30 → rg a10 0 1048575 → rg a12 0 8 → va_P D classes (wX cA ad F L A B) H → va_D Af (wX cA ad F L A B) → va_S Af s.heap H locs → lv_has ls 5 [(0, .ref (ad 46)), (1, .int p1), (3, .int a10), (4, .int a12)] → W p l e rm_X4_reachOfHorse_46 s m args below meth c H locs 0 0 Q (F0 m 30 ls []) := by
      intro n30
      induction n30 with
      | zero =>
        intro _ _ _ _ _ hn
        exact absurd hn (Nat.not_lt_zero _)
      | succ n30 ih30 =>
        intro a10 a12 H locs ls hn30 r11 r13 hP hD hS hl
        refine lv_iload hx hb dX4_reachOfHorse_30 (lv_at hl 3 rfl) ?_
        refine lv_aload_n hx hb dX4_reachOfHorse_32 rfl (lv_at hl 0 rfl) ?_
        refine va_get (ci := 4) (v := .int (F 37)) (C := RX4) (T := TX4) (N := 12) hx hb hg inX4 hown hK hP 46 atX_46 rfl 10 (by decide) (hg _ mw_411) (fun _ h9 => h9) rfl dX4_reachOfHorse_33 ?_
        refine lv_topi (fun x14 e15 => ?_)
        have r16 : rg x14 0 8 := rg_e e15 (hq.1.1 37)
        refine lv_icmp_ge (tgt := 74) hx hb dX4_reachOfHorse_36 (by decide) (fun c17 => ?_) (fun c17 => ?_)
        · skip
          refine lv_iload_n hx hb dX4_reachOfHorse_74 rfl (lv_at hl 2 rfl) ?_
          exact hret (a10) () H locs 75 ls rfl dX4_reachOfHorse_75 hP hD hS r11
        · skip
          have r18 : rg a12 0 7 := rg_lt1 (iNE c17) (r13 : rg a12 0 8) (r16 : rg x14 0 8)
          have r19 : rg x14 1 8 := rg_lt2 (iNE c17) (r13 : rg a12 0 8) (r16 : rg x14 0 8)
          refine lv_aload_n hx hb dX4_reachOfHorse_39 rfl (lv_at hl 0 rfl) ?_
          refine va_get (ci := 4) (v := .ref (ad 50)) (C := RX4) (T := TX4) (N := 12) hx hb hg inX4 hown hK hP 46 atX_46 rfl 4 (by decide) (hg _ mw_405) (fun _ h9 => h9) rfl dX4_reachOfHorse_40 ?_
          refine lv_iload hx hb dX4_reachOfHorse_43 (lv_at hl 3 rfl) ?_
          refine va_iald hx hb hK hP 50 37 atX_50 tyX_50 (in_rg r18 (by decide)) dX4_reachOfHorse_45 ?_
          refine lv_topi (fun x20 e21 => ?_)
          have r22 : rg x20 0 1023 := rg_e e21 (hq.1.2 50 _)
          refine lv_aload_n hx hb dX4_reachOfHorse_46 rfl (lv_at hl 0 rfl) ?_
          refine va_get (ci := 4) (v := .ref (ad 49)) (C := RX4) (T := TX4) (N := 12) hx hb hg inX4 hown hK hP 46 atX_46 rfl 3 (by decide) (hg _ mw_404) (fun _ h9 => h9) rfl dX4_reachOfHorse_47 ?_
          refine lv_iload hx hb dX4_reachOfHorse_50 (lv_at hl 3 rfl) ?_
          refine va_iald hx hb hK hP 49 36 atX_49 tyX_49 (in_rg r18 (by decide)) dX4_reachOfHorse_52 ?_
          refine lv_topi (fun x23 e24 => ?_)
          have r25 : rg x23 0 1023 := rg_e e24 (hq.1.2 49 _)
          refine lv_iand hx hb dX4_reachOfHorse_53 ?_
          refine lv_topi (fun x26 e27 => ?_)
          have r28 : rg x26 0 1023 := rg_andr e27 r25 (by decide)
          refine lv_iconst (v := 1) hx hb dX4_reachOfHorse_54 (by decide) ?_
          refine lv_iload_n hx hb dX4_reachOfHorse_55 rfl (lv_at hl 1 rfl) ?_
          refine lv_ishl hx hb dX4_reachOfHorse_56 ?_
          refine lv_topi (fun x29 e30 => ?_)
          have r31 : rg x29 1 512 := rg_shl1 e30 hp1 (by decide)
          refine lv_iand hx hb dX4_reachOfHorse_57 ?_
          refine lv_topi (fun x32 e33 => ?_)
          have r34 : rg x32 0 512 := rg_andr e33 r31 (by decide)
          have J68 : ∀ (a35 : Int32) (H : Heap) (locs : List Loc) (ls : Array Slot), rg a35 0 1048575 → va_P D classes (wX cA ad F L A B) H → va_D Af (wX cA ad F L A B) → va_S Af s.heap H locs → lv_has ls 5 [(0, .ref (ad 46)), (1, .int p1), (3, .int a35), (4, .int a12)] → W p l e rm_X4_reachOfHorse_46 s m args below meth c H locs 0 0 Q (F0 m 68 ls []) := by
            intro a35 H locs ls r36 hP hD hS hl
            obtain ⟨x37, e38⟩ : ∃ y : Int32, y = a12 + 1 := ⟨_, rfl⟩
            have r39 : rg x37 1 8 := rg_add e38 r18 (rg_k (by decide) : rg 1 1 1) (by decide)
            refine lv_iinc (v := x37) (lv' := [(4, .int x37), (0, .ref (ad 46)), (1, .int p1), (3, .int a35)]) hx hb dX4_reachOfHorse_68 hl (k := 3) rfl (by rw [e38]; rfl) (by decide) rfl (fun ls hl => ?_)
            refine lv_goto (tgt := 30) hx hb dX4_reachOfHorse_71 (by decide) ?_
            exact ih30 (a35) (x37) H locs ls (by have h0 : (1 : Int32).toInt = 1 := rfl; have h1 := ti_addk e38 r18 (by decide); have h2 : rg x37 0 8 := (rg_w r39 (by decide)); unfold rg at h2; omega) r36 (rg_w r39 (by decide)) hP hD hS (lv_sub hl [1, 2, 3, 0] rfl)
          refine lv_if_eq (tgt := 68) hx hb dX4_reachOfHorse_58 (by decide) (fun c40 => ?_) (fun c40 => ?_)
          · skip
            have r41 : rg x32 0 0 := rg_eq1 c40 (r34 : rg x32 0 512) ((rg_k (by decide)) : rg 0 0 0) (by decide)
            exact J68 (a10) H locs ls r11 hP hD hS (lv_sub hl [0, 1, 2, 3] rfl)
          · skip
            have r42 : rg x32 1 512 := (rg_ne1 c40 (r34 : rg x32 0 512) ((rg_k (by decide)) : rg 0 0 0)).1 rfl
            refine lv_iload_n hx hb dX4_reachOfHorse_61 rfl (lv_at hl 2 rfl) ?_
            refine lv_iconst (v := 1) hx hb dX4_reachOfHorse_62 (by decide) ?_
            refine lv_iload hx hb dX4_reachOfHorse_63 (lv_at hl 3 rfl) ?_
            refine lv_ishl hx hb dX4_reachOfHorse_65 ?_
            refine lv_topi (fun x43 e44 => ?_)
            have r45 : rg x43 1 128 := rg_shl1 e44 r18 (by decide)
            refine lv_ior hx hb dX4_reachOfHorse_66 ?_
            refine lv_topi (fun x46 e47 => ?_)
            have r48 : rg x46 0 1048575 := rg_or 20 e47 r11 r45 (by decide)
            refine lv_istore_n (lv' := [(3, .int x46), (0, .ref (ad 46)), (1, .int p1), (4, .int a12)]) hx hb dX4_reachOfHorse_67 rfl hl (by decide) rfl (fun ls hl => ?_)
            exact J68 (x46) H locs ls r48 hP hD hS (lv_sub hl [1, 2, 0, 3] rfl)
    exact J30 _ (a8) (0) H locs ls (Nat.lt_succ_self _) (rg_w r9 (by decide)) (rg_k (by decide)) hP hD hS (lv_sub hl [2, 3, 1, 0] rfl)
  refine lv_icmp_ge (tgt := 25) hx hb dX4_reachOfHorse_17 (by decide) (fun c49 => ?_) (fun c49 => ?_)
  · skip
    refine lv_iconst (v := 0) hx hb dX4_reachOfHorse_25 (by decide) ?_
    exact J26 (0) H locs ls (rg_k (by decide)) hP hD hS (lv_sub hl [1, 2] rfl)
  · skip
    have r50 : rg x4 (-2147483648) 2147483646 := rg_lt1 (iNE c49) ((rg_top _) : rg x4 (-2147483648) 2147483647) ((rg_top _) : rg x6 (-2147483648) 2147483647)
    have r51 : rg x6 (-2147483647) 2147483647 := rg_lt2 (iNE c49) ((rg_top _) : rg x4 (-2147483648) 2147483647) ((rg_top _) : rg x6 (-2147483648) 2147483647)
    refine lv_ldc (v := 524288) hx hb hown (hg _ mw_896) dX4_reachOfHorse_20 ?_
    refine lv_goto (tgt := 26) hx hb dX4_reachOfHorse_22 (by decide) ?_
    exact J26 (524288) H locs ls (rg_k (by decide)) hP hD hS (lv_sub hl [1, 2] rfl)
