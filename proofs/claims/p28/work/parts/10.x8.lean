abbrev rm_X8_countingAt_61 : Room := { frames := 0, cells := 0, slots := 0, locals := 0 }
set_option maxHeartbeats 4000000 in
set_option maxRecDepth 100000 in
theorem c_X8_countingAt_61 (l : Launch) (D : va_G) (cA : Nat → ClassId) (sz : Nat) (ad : Nat → Nat) (F : Nat → Int32) (L : Nat → Int64) (A : Nat → Nat → Int32) (B : Nat → Nat → Int64) (p1 : Int32) (hT : typX F A) : Met l yX8_countingAt (Cond.code yX8_countingAt cX8_countingAt 5 (some .int) :: GW) rm_X8_countingAt_61 (mPc D classes (tysX cA) (wX cA ad F L A B) sz [.ref (ad 61), .int p1]) (mQi (S := Unit) D classes (tysX cA) (wX cA ad F L A B) sz (fun _ : Unit => wX cA ad F L A B) (fun r u => rg r 0 1048575)) 0 0 (va_A (wX cA ad F L A B) sz) := by
  refine met_i (own := "ShoeingDay$Sights") (by decide +kernel) rfl (Nat.le_of_ble_eq_true rfl) ?_
  intro p e s m args below meth c Q Af ls hC hP hD hS hA hl hret
  have hx := hC.1
  have hb := hC.2.1
  have hown := hC.2.2.2.1
  have hg := hC.g
  have hK := hC.K
  have hl : lv_has ls 5 [(0, .ref (ad 61)), (1, .int p1)] := hl
  have hq : qX [] [] F A F A := qX.rf hT
  obtain ⟨H, hH⟩ : ∃ H, H = s.heap := ⟨_, rfl⟩
  have hP : va_P D classes (wX cA ad F L A B) H := by rw [hH]; exact hP
  have hS : va_S Af s.heap H [] := by rw [hH]; exact hS
  obtain ⟨locs, hlo⟩ : ∃ q : List Loc, q = [] := ⟨_, rfl⟩
  rw [← hH, ← hlo]
  rw [← hlo] at hS
  refine lv_iconst (v := 0) hx hb dX8_countingAt_0 (by decide) ?_
  refine lv_istore_n (lv' := [(2, .int 0), (0, .ref (ad 61)), (1, .int p1)]) hx hb dX8_countingAt_1 rfl hl (by decide) rfl (fun ls hl => ?_)
  refine lv_iconst (v := 0) hx hb dX8_countingAt_2 (by decide) ?_
  refine lv_istore_n (lv' := [(3, .int 0), (2, .int 0), (0, .ref (ad 61)), (1, .int p1)]) hx hb dX8_countingAt_3 rfl hl (by decide) rfl (fun ls hl => ?_)
  have J4 : ∀ (n4 : Nat) (a1 : Int32) (a3 : Int32) (H : Heap) (locs : List Loc) (ls : Array Slot), (20 - a3.toInt).toNat < n4 → rg a1 0 1048575 → rg a3 0 20 → va_P D classes (wX cA ad F L A B) H → va_D Af (wX cA ad F L A B) → va_S Af s.heap H locs → lv_has ls 5 [(0, .ref (ad 61)), (1, .int p1), (2, .int a1), (3, .int a3)] → W p l e rm_X8_countingAt_61 s m args below meth c H locs 0 0 Q (F0 m 4 ls []) := by
    intro n4
    induction n4 with
    | zero =>
      intro _ _ _ _ _ hn
      exact absurd hn (Nat.not_lt_zero _)
    | succ n4 ih4 =>
      intro a1 a3 H locs ls hn4 r2 r4 hP hD hS hl
      refine lv_iload_n hx hb dX8_countingAt_4 rfl (lv_at hl 3 rfl) ?_
      refine lv_aload_n hx hb dX8_countingAt_5 rfl (lv_at hl 0 rfl) ?_
      refine va_get (ci := 8) (v := .int (F 43)) (C := RX8) (T := TX8) (N := 9) hx hb hg inX8 hown hK hP 61 atX_61 rfl 8 (by decide) (hg _ mw_491) (fun _ h9 => h9) rfl dX8_countingAt_6 ?_
      refine lv_topi (fun x5 e6 => ?_)
      have r7 : rg x5 0 20 := rg_e e6 (hq.1.1 43)
      refine lv_icmp_ge (tgt := 66) hx hb dX8_countingAt_9 (by decide) (fun c8 => ?_) (fun c8 => ?_)
      · skip
        refine lv_iload_n hx hb dX8_countingAt_66 rfl (lv_at hl 2 rfl) ?_
        exact hret (a1) () H locs 67 ls rfl dX8_countingAt_67 hP hD hS r2
      · skip
        have r9 : rg a3 0 19 := rg_lt1 (iNE c8) (r4 : rg a3 0 20) (r7 : rg x5 0 20)
        have r10 : rg x5 1 20 := rg_lt2 (iNE c8) (r4 : rg a3 0 20) (r7 : rg x5 0 20)
        refine lv_aload_n hx hb dX8_countingAt_12 rfl (lv_at hl 0 rfl) ?_
        refine va_get (ci := 8) (v := .ref (ad 66)) (C := RX8) (T := TX8) (N := 9) hx hb hg inX8 hown hK hP 61 atX_61 rfl 4 (by decide) (hg _ mw_484) (fun _ h9 => h9) rfl dX8_countingAt_13 ?_
        refine lv_iload_n hx hb dX8_countingAt_16 rfl (lv_at hl 3 rfl) ?_
        refine va_iald hx hb hK hP 66 51 atX_66 tyX_66 (in_rg r9 (by decide)) dX8_countingAt_17 ?_
        refine lv_topi (fun x11 e12 => ?_)
        refine lv_iconst (v := (-1)) hx hb dX8_countingAt_18 (by decide) ?_
        have J37 : ∀ (a13 : Int32) (H : Heap) (locs : List Loc) (ls : Array Slot), rg a13 0 1 → va_P D classes (wX cA ad F L A B) H → va_D Af (wX cA ad F L A B) → va_S Af s.heap H locs → lv_has ls 5 [(0, .ref (ad 61)), (1, .int p1), (2, .int a1), (3, .int a3)] → W p l e rm_X8_countingAt_61 s m args below meth c H locs 0 0 Q (F0 m 37 ls [.int a13]) := by
          intro a13 H locs ls r14 hP hD hS hl
          refine lv_istore (lv' := [(4, .int a13), (0, .ref (ad 61)), (1, .int p1), (2, .int a1), (3, .int a3)]) hx hb dX8_countingAt_37 hl (by decide) rfl (fun ls hl => ?_)
          refine lv_aload_n hx hb dX8_countingAt_39 rfl (lv_at hl 1 rfl) ?_
          refine va_get (ci := 8) (v := .ref (ad 65)) (C := RX8) (T := TX8) (N := 9) hx hb hg inX8 hown hK hP 61 atX_61 rfl 3 (by decide) (hg _ mw_483) (fun _ h9 => h9) rfl dX8_countingAt_40 ?_
          refine lv_iload_n hx hb dX8_countingAt_43 rfl (lv_at hl 4 rfl) ?_
          refine va_iald hx hb hK hP 65 50 atX_65 tyX_65 (in_rg r9 (by decide)) dX8_countingAt_44 ?_
          refine lv_topi (fun x15 e16 => ?_)
          refine lv_iload_n hx hb dX8_countingAt_45 rfl (lv_at hl 2 rfl) ?_
          have J60 : ∀ (a17 : Int32) (H : Heap) (locs : List Loc) (ls : Array Slot), rg a17 0 1048575 → va_P D classes (wX cA ad F L A B) H → va_D Af (wX cA ad F L A B) → va_S Af s.heap H locs → lv_has ls 5 [(0, .ref (ad 61)), (1, .int p1), (2, .int a17), (3, .int a3)] → W p l e rm_X8_countingAt_61 s m args below meth c H locs 0 0 Q (F0 m 60 ls []) := by
            intro a17 H locs ls r18 hP hD hS hl
            obtain ⟨x19, e20⟩ : ∃ y : Int32, y = a3 + 1 := ⟨_, rfl⟩
            have r21 : rg x19 1 20 := rg_add e20 r9 (rg_k (by decide) : rg 1 1 1) (by decide)
            refine lv_iinc (v := x19) (lv' := [(3, .int x19), (0, .ref (ad 61)), (1, .int p1), (2, .int a17)]) hx hb dX8_countingAt_60 hl (k := 3) rfl (by rw [e20]; rfl) (by decide) rfl (fun ls hl => ?_)
            refine lv_goto (tgt := 4) hx hb dX8_countingAt_63 (by decide) ?_
            exact ih4 (a17) (x19) H locs ls (by have h0 : (1 : Int32).toInt = 1 := rfl; have h1 := ti_addk e20 r9 (by decide); have h2 : rg x19 0 20 := (rg_w r21 (by decide)); unfold rg at h2; omega) r18 (rg_w r21 (by decide)) hP hD hS (lv_sub hl [1, 2, 3, 0] rfl)
          refine lv_icmp_gt (tgt := 60) hx hb dX8_countingAt_46 (by decide) (fun c22 => ?_) (fun c22 => ?_)
          · skip
            have r23 : rg p1 (-2147483648) 2147483646 := rg_lt1 (iL c22) ((rg_top _) : rg p1 (-2147483648) 2147483647) ((rg_top _) : rg x15 (-2147483648) 2147483647)
            have r24 : rg x15 (-2147483647) 2147483647 := rg_lt2 (iL c22) ((rg_top _) : rg p1 (-2147483648) 2147483647) ((rg_top _) : rg x15 (-2147483648) 2147483647)
            exact J60 (a1) H locs ls r2 hP hD hS (lv_sub hl [1, 2, 3, 4] rfl)
          · skip
            refine lv_iload hx hb dX8_countingAt_49 (lv_at hl 0 rfl) ?_
            refine lv_if_ne (tgt := 60) hx hb dX8_countingAt_51 (by decide) (fun c25 => ?_) (fun c25 => ?_)
            · skip
              have r26 : rg a13 1 1 := (rg_ne1 c25 (r14 : rg a13 0 1) ((rg_k (by decide)) : rg 0 0 0)).1 rfl
              exact J60 (a1) H locs ls r2 hP hD hS (lv_sub hl [1, 2, 3, 4] rfl)
            · skip
              have r27 : rg a13 0 0 := rg_eq1 c25 (r14 : rg a13 0 1) ((rg_k (by decide)) : rg 0 0 0) (by decide)
              refine lv_iload_n hx hb dX8_countingAt_54 rfl (lv_at hl 3 rfl) ?_
              refine lv_iconst (v := 1) hx hb dX8_countingAt_55 (by decide) ?_
              refine lv_iload_n hx hb dX8_countingAt_56 rfl (lv_at hl 4 rfl) ?_
              refine lv_ishl hx hb dX8_countingAt_57 ?_
              refine lv_topi (fun x28 e29 => ?_)
              have r30 : rg x28 1 524288 := rg_shl1 e29 r9 (by decide)
              refine lv_ior hx hb dX8_countingAt_58 ?_
              refine lv_topi (fun x31 e32 => ?_)
              have r33 : rg x31 0 1048575 := rg_or 20 e32 r2 r30 (by decide)
              refine lv_istore_n (lv' := [(2, .int x31), (4, .int a13), (0, .ref (ad 61)), (1, .int p1), (3, .int a3)]) hx hb dX8_countingAt_59 rfl hl (by decide) rfl (fun ls hl => ?_)
              exact J60 (x31) H locs ls r33 hP hD hS (lv_sub hl [2, 3, 0, 4] rfl)
        have J36 : ∀ (H : Heap) (locs : List Loc) (ls : Array Slot), va_P D classes (wX cA ad F L A B) H → va_D Af (wX cA ad F L A B) → va_S Af s.heap H locs → lv_has ls 5 [(0, .ref (ad 61)), (1, .int p1), (2, .int a1), (3, .int a3)] → W p l e rm_X8_countingAt_61 s m args below meth c H locs 0 0 Q (F0 m 36 ls []) := by
          intro H locs ls hP hD hS hl
          refine lv_iconst (v := 0) hx hb dX8_countingAt_36 (by decide) ?_
          exact J37 (0) H locs ls (rg_k (by decide)) hP hD hS (lv_sub hl [0, 1, 2, 3] rfl)
        refine lv_icmp_eq (tgt := 36) hx hb dX8_countingAt_19 (by decide) (fun c34 => ?_) (fun c34 => ?_)
        · skip
          have r35 : rg x11 (-1) (-1) := rg_eq1 c34 ((rg_top _) : rg x11 (-2147483648) 2147483647) ((rg_k (by decide)) : rg (-1) (-1) (-1)) (by decide)
          exact J36  H locs ls  hP hD hS (lv_sub hl [0, 1, 2, 3] rfl)
        · skip
          refine lv_aload_n hx hb dX8_countingAt_22 rfl (lv_at hl 0 rfl) ?_
          refine va_get (ci := 8) (v := .ref (ad 66)) (C := RX8) (T := TX8) (N := 9) hx hb hg inX8 hown hK hP 61 atX_61 rfl 4 (by decide) (hg _ mw_484) (fun _ h9 => h9) rfl dX8_countingAt_23 ?_
          refine lv_iload_n hx hb dX8_countingAt_26 rfl (lv_at hl 3 rfl) ?_
          refine va_iald hx hb hK hP 66 51 atX_66 tyX_66 (in_rg r9 (by decide)) dX8_countingAt_27 ?_
          refine tope (e12) ?_
          refine lv_iload_n hx hb dX8_countingAt_28 rfl (lv_at hl 1 rfl) ?_
          refine lv_icmp_gt (tgt := 36) hx hb dX8_countingAt_29 (by decide) (fun c36 => ?_) (fun c36 => ?_)
          · skip
            have r37 : rg p1 (-2147483648) 2147483646 := rg_lt1 (iL c36) ((rg_top _) : rg p1 (-2147483648) 2147483647) ((rg_top _) : rg x11 (-2147483648) 2147483647)
            have r38 : rg x11 (-2147483647) 2147483647 := rg_lt2 (iL c36) ((rg_top _) : rg p1 (-2147483648) 2147483647) ((rg_top _) : rg x11 (-2147483648) 2147483647)
            exact J36  H locs ls  hP hD hS (lv_sub hl [0, 1, 2, 3] rfl)
          · skip
            refine lv_iconst (v := 1) hx hb dX8_countingAt_32 (by decide) ?_
            refine lv_goto (tgt := 37) hx hb dX8_countingAt_33 (by decide) ?_
            exact J37 (1) H locs ls (rg_k (by decide)) hP hD hS (lv_sub hl [0, 1, 2, 3] rfl)
  exact J4 _ (0) (0) H locs ls (Nat.lt_succ_self _) (rg_k (by decide)) (rg_k (by decide)) hP hD hS (lv_sub hl [2, 3, 1, 0] rfl)
abbrev rm_X11_fits_0 : Room := { frames := 7, cells := 0, slots := 0, locals := 175 }
set_option maxHeartbeats 4000000 in
set_option maxRecDepth 100000 in
theorem c_X11_fits_0 (l : Launch) (D : va_G) (cA : Nat → ClassId) (sz : Nat) (ad : Nat → Nat) (F : Nat → Int32) (L : Nat → Int64) (A : Nat → Nat → Int32) (B : Nat → Nat → Int64) (p1 : Int32) (p2 : Int32) (p3 : Int32) (hT : typX F A) : Met l yX11_fits (Cond.code yX11_fits cX11_fits 7 (some .long) :: GW) rm_X11_fits_0 (mPc D classes (tysX cA) (wX cA ad F L A B) sz [.ref (ad 0), .int p1, .int p2, .int p3]) (mQl (S := SW) D classes (tysX cA) (wX cA ad F L A B) sz (wfX cA ad) (fun r u => qX [29, 30, 33, 34, 35] [28, 29, 32, 33, 35, 36, 37, 38, 39, 41, 42, 43, 44, 45, 67, 68, 69] F A u.1 u.2.2.1)) 0 0 (va_A (wX cA ad F L A B) sz) := by
  refine met_l (own := "ShoeingDay") (by decide +kernel) rfl (Nat.le_of_ble_eq_true rfl) ?_
  intro p e s m args below meth c Q Af ls hC hP hD hS hA hl hret
  have hx := hC.1
  have hb := hC.2.1
  have hown := hC.2.2.2.1
  have hg := hC.g
  have hK := hC.K
  have hl : lv_has ls 7 [(0, .ref (ad 0)), (1, .int p1), (2, .int p2), (3, .int p3)] := hl
  have hq : qX [29, 30, 33, 34, 35] [28, 29, 32, 33, 35, 36, 37, 38, 39, 41, 42, 43, 44, 45, 67, 68, 69] F A F A := qX.rf hT
  obtain ⟨H, hH⟩ : ∃ H, H = s.heap := ⟨_, rfl⟩
  have hP : va_P D classes (wX cA ad F L A B) H := by rw [hH]; exact hP
  have hS : va_S Af s.heap H [] := by rw [hH]; exact hS
  obtain ⟨locs, hlo⟩ : ∃ q : List Loc, q = [] := ⟨_, rfl⟩
  rw [← hH, ← hlo]
  rw [← hlo] at hS
  refine lv_aload_n hx hb dX11_fits_0 rfl (lv_at hl 0 rfl) ?_
  refine lv_iload_n hx hb dX11_fits_1 rfl (lv_at hl 1 rfl) ?_
  refine lv_iload_n hx hb dX11_fits_2 rfl (lv_at hl 2 rfl) ?_
  refine callv_i (As := [.int p1, .int p2]) (rest := []) hC (c_X11_isPair_0 l D cA H.size ad F L A B (p1) (p2) hq.1) (cwV 2 hg (g_V mw_727 mw_724 mw_726 ms_18 mw_1) rfl rfl rfl (by decide +kernel) ⟨(Nat.le_of_ble_eq_true rfl), (Nat.le_of_ble_eq_true rfl)⟩) hP hD hS hA atX_0 rfl rfl hl.1 rfl (Nat.le_of_ble_eq_true rfl) dX11_fits_3 ⟨Nat.zero_le _, Nat.zero_le _⟩ (fun x1 u H locs hw hP hD hS => ?_)
  obtain ⟨r2, g3⟩ := hw
  have hP : va_P D classes (wX cA ad F L A B) H := hP
  have hD : va_D Af (wX cA ad F L A B) := hD
  refine lv_if_ne (tgt := 13) hx hb dX11_fits_6 (by decide) (fun c4 => ?_) (fun c4 => ?_)
  · skip
    have g5 := g3.resolve_left c4
    refine lv_aload_n hx hb dX11_fits_13 rfl (lv_at hl 0 rfl) ?_
    refine va_get (ci := 11) (v := .ref (ad 61)) (C := RX11) (T := TX11) (N := 13) hx hb hg inX11 hown hK hP 0 atX_0 rfl 8 (by decide) (hg _ mw_533) (fun _ h9 => h9) rfl dX11_fits_14 ?_
    refine lv_iload_n hx hb dX11_fits_17 rfl (lv_at hl 3 rfl) ?_
    refine callv_i (As := [.int p3]) (rest := []) hC (c_X8_countingAt_61 l D cA H.size ad F L A B (p3) hq.1) (cwV 1 hg (g_V mw_1062 mw_1059 mw_1060 mw_1061 mw_18) rfl rfl rfl (by decide +kernel) ⟨(Nat.le_of_ble_eq_true rfl), (Nat.le_of_ble_eq_true rfl)⟩) hP hD hS hA atX_61 rfl rfl hl.1 rfl (Nat.le_of_ble_eq_true rfl) dX11_fits_18 ⟨Nat.zero_le _, Nat.zero_le _⟩ (fun x7 u H locs hw hP hD hS => ?_)
    have r8 := hw
    have hP : va_P D classes (wX cA ad F L A B) H := hP
    have hD : va_D Af (wX cA ad F L A B) := hD
    refine lv_istore (lv' := [(4, .int x7), (0, .ref (ad 0)), (1, .int p1), (2, .int p2), (3, .int p3)]) hx hb dX11_fits_21 hl (by decide) rfl (fun ls hl => ?_)
    refine lv_iload_n hx hb dX11_fits_23 rfl (lv_at hl 2 rfl) ?_
    refine lv_iload_n hx hb dX11_fits_24 rfl (lv_at hl 3 rfl) ?_
    refine calls_i (As := [.int p1, .int p2]) (rest := []) hC (c_X11_cellOf l D (tysX cA) (wX cA ad F L A B) H.size (p1) (p2)) (cwS 2 hg (g_S mw_681 mw_736 mw_680 mw_1) rfl rfl rfl (by decide +kernel) ⟨(Nat.le_of_ble_eq_true rfl), (Nat.le_of_ble_eq_true rfl)⟩) hP hD hS hA rfl hl.1 rfl (Nat.le_of_ble_eq_true rfl) dX11_fits_25 ⟨Nat.zero_le _, Nat.zero_le _⟩ (fun x9 u H locs hw hP hD hS => ?_)
    have e10 := hw
    have hP : va_P D classes (wX cA ad F L A B) H := hP
    have hD : va_D Af (wX cA ad F L A B) := hD
    have r11 : rg x9 0 79 := rg_cell hw (g5.1 : rg p1 0 7) (g5.2 : rg p2 0 9) (by decide)
    refine lv_istore (lv' := [(5, .int x9), (4, .int x7), (0, .ref (ad 0)), (1, .int p1), (2, .int p2), (3, .int p3)]) hx hb dX11_fits_28 hl (by decide) rfl (fun ls hl => ?_)
    refine lv_aload_n hx hb dX11_fits_30 rfl (lv_at hl 2 rfl) ?_
    refine va_get (ci := 11) (v := .ref (ad 61)) (C := RX11) (T := TX11) (N := 13) hx hb hg inX11 hown hK hP 0 atX_0 rfl 8 (by decide) (hg _ mw_533) (fun _ h9 => h9) rfl dX11_fits_31 ?_
    refine va_get (ci := 8) (v := .ref (ad 68)) (C := RX8) (T := TX8) (N := 9) hx hb hg inX8 hown hK hP 61 atX_61 rfl 6 (by decide) (hg _ mw_488) (fun _ h9 => h9) rfl dX11_fits_34 ?_
    refine lv_iload hx hb dX11_fits_37 (lv_at hl 0 rfl) ?_
    refine va_iald hx hb hK hP 68 53 atX_68 tyX_68 (in_rg r11 (by decide)) dX11_fits_39 ?_
    refine lv_topi (fun x12 e13 => ?_)
    refine lv_iload hx hb dX11_fits_40 (lv_at hl 1 rfl) ?_
    have J125 : ∀ (F14 : Nat → Int32) (L14 : Nat → Int64) (A14 : Nat → Nat → Int32) (B14 : Nat → Nat → Int64) (H : Heap) (locs : List Loc) (ls : Array Slot), qX [29, 30, 33, 34, 35] [28, 29, 32, 33, 35, 36, 37, 38, 39, 41, 42, 43, 44, 45, 67, 68, 69] F A F14 A14 → va_P D classes (wX cA ad F14 L14 A14 B14) H → va_D Af (wX cA ad F14 L14 A14 B14) → va_S Af s.heap H locs → lv_has ls 7 [(0, .ref (ad 0)), (5, .int x9)] → W p l e rm_X11_fits_0 s m args below meth c H locs 0 0 Q (F0 m 125 ls []) := by
      intro F14 L14 A14 B14 H locs ls hq hP hD hS hl
      refine lv_aload_n hx hb dX11_fits_125 rfl (lv_at hl 0 rfl) ?_
      refine va_get (ci := 11) (v := .ref (ad 61)) (C := RX11) (T := TX11) (N := 13) hx hb hg inX11 hown hK hP 0 atX_0 rfl 8 (by decide) (hg _ mw_533) (fun _ h9 => h9) rfl dX11_fits_126 ?_
      refine va_get (ci := 8) (v := .ref (ad 69)) (C := RX8) (T := TX8) (N := 9) hx hb hg inX8 hown hK hP 61 atX_61 rfl 7 (by decide) (hg _ mw_490) (fun _ h9 => h9) rfl dX11_fits_129 ?_
      refine lv_iload hx hb dX11_fits_132 (lv_at hl 1 rfl) ?_
      refine va_lald hx hb hK hP 69 54 atX_69 tyX_69 (in_rg r11 (by decide)) dX11_fits_134 ?_
      refine lv_topl (fun z15 _ => ?_)
      exact hret (z15) (F14, L14, A14, B14) H locs 135 ls dX11_fits_135 hP hD hS hq
    refine lv_icmp_eq (tgt := 125) hx hb dX11_fits_42 (by decide) (fun c16 => ?_) (fun c16 => ?_)
    · skip
      have r17 : rg x12 0 1048575 := rg_eq1 c16 ((rg_top _) : rg x12 (-2147483648) 2147483647) (r8 : rg x7 0 1048575) (by decide)
      exact J125 (F) (L) (A) (B) H locs ls hq hP hD hS (lv_sub hl [2, 0] rfl)
    · skip
      refine lv_aload_n hx hb dX11_fits_45 rfl (lv_at hl 2 rfl) ?_
      refine va_get (ci := 11) (v := .ref (ad 61)) (C := RX11) (T := TX11) (N := 13) hx hb hg inX11 hown hK hP 0 atX_0 rfl 8 (by decide) (hg _ mw_533) (fun _ h9 => h9) rfl dX11_fits_46 ?_
      refine va_get (ci := 8) (v := .ref (ad 68)) (C := RX8) (T := TX8) (N := 9) hx hb hg inX8 hown hK hP 61 atX_61 rfl 6 (by decide) (hg _ mw_488) (fun _ h9 => h9) rfl dX11_fits_49 ?_
      refine lv_iload hx hb dX11_fits_52 (lv_at hl 0 rfl) ?_
      refine lv_iload hx hb dX11_fits_54 (lv_at hl 1 rfl) ?_
      refine va_iast hx hb hK hP hD hS 68 53 atX_68 tyX_68 (in_rg r11 (by decide)) dX11_fits_56 (fun H locs hP hD hS => ?_)
      have hq := hq.ast 68 (x9).toNatClampNeg (x := x7) (by decide) (rg_top _)
      rw [setX_68] at hP hD
      have k18 : x7 = (va_up A 68 (upd (A 68) (x9).toNatClampNeg x7)) 68 (x9).toNatClampNeg := (rdA).symm
      refine lv_aload_n hx hb dX11_fits_57 rfl (lv_at hl 2 rfl) ?_
      refine va_get (ci := 11) (v := .ref (ad 61)) (C := RX11) (T := TX11) (N := 13) hx hb hg inX11 hown hK hP 0 atX_0 rfl 8 (by decide) (hg _ mw_533) (fun _ h9 => h9) rfl dX11_fits_58 ?_
      refine va_get (ci := 8) (v := .ref (ad 69)) (C := RX8) (T := TX8) (N := 9) hx hb hg inX8 hown hK hP 61 atX_61 rfl 7 (by decide) (hg _ mw_490) (fun _ h9 => h9) rfl dX11_fits_61 ?_
      refine lv_iload hx hb dX11_fits_64 (lv_at hl 0 rfl) ?_
      refine lv_lconst (v := 0) hx hb dX11_fits_66 rfl ?_
      refine va_last hx hb hK hP hD hS 69 54 atX_69 tyX_69 (in_rg r11 (by decide)) dX11_fits_67 (fun H locs hP hD hS => ?_)
      rw [setBX_69] at hP hD
      refine lv_iconst (v := 0) hx hb dX11_fits_68 (by decide) ?_
      refine lv_istore (lv' := [(6, .int 0), (5, .int x9), (4, .int x7), (0, .ref (ad 0)), (1, .int p1), (2, .int p2), (3, .int p3)]) hx hb dX11_fits_69 hl (by decide) rfl (fun ls hl => ?_)
      have J71 : ∀ (n71 : Nat) (a19 : Int32) (F21 : Nat → Int32) (L21 : Nat → Int64) (A21 : Nat → Nat → Int32) (B21 : Nat → Nat → Int64) (H : Heap) (locs : List Loc) (ls : Array Slot), (41 - a19.toInt).toNat < n71 → rg a19 0 41 → qX [29, 30, 33, 34, 35] [28, 29, 32, 33, 35, 36, 37, 38, 39, 41, 42, 43, 44, 45, 67, 68, 69] F A F21 A21 → va_P D classes (wX cA ad F21 L21 A21 B21) H → va_D Af (wX cA ad F21 L21 A21 B21) → va_S Af s.heap H locs → lv_has ls 7 [(0, .ref (ad 0)), (4, .int x7), (5, .int x9), (6, .int a19)] → W p l e rm_X11_fits_0 s m args below meth c H locs 0 0 Q (F0 m 71 ls []) := by
        intro n71
        induction n71 with
        | zero =>
          intro _ _ _ _ _ _ _ _ hn
          exact absurd hn (Nat.not_lt_zero _)
        | succ n71 ih71 =>
          intro a19 F21 L21 A21 B21 H locs ls hn71 r20 hq hP hD hS hl
          refine lv_iload hx hb dX11_fits_71 (lv_at hl 3 rfl) ?_
          refine lv_bipush (v := 40) hx hb dX11_fits_73 (by decide) ?_
          refine lv_icmp_gt (tgt := 125) hx hb dX11_fits_75 (by decide) (fun c22 => ?_) (fun c22 => ?_)
          · skip
            have r23 : rg a19 41 41 := rg_lt2 (iL c22) ((rg_k (by decide)) : rg 40 40 40) (r20 : rg a19 0 41)
            exact J125 (F21) (L21) (A21) (B21) H locs ls hq hP hD hS (lv_sub hl [0, 2] rfl)
          · skip
            have r24 : rg a19 0 40 := rg_le1 (iNL c22) (r20 : rg a19 0 41) ((rg_k (by decide)) : rg 40 40 40)
            refine lv_aload_n hx hb dX11_fits_78 rfl (lv_at hl 0 rfl) ?_
            refine lv_iload hx hb dX11_fits_79 (lv_at hl 2 rfl) ?_
            refine lv_iload hx hb dX11_fits_81 (lv_at hl 3 rfl) ?_
            refine callv_v (As := [.int x9, .int a19]) (rest := []) hC (c_X11_openLost_0 l D cA H.size ad F21 L21 A21 B21 (x9) (a19) hq.1 r11 r24) (cwV 2 hg (g_V mw_1066 mw_1063 mw_1065 ms_44 mw_1) rfl rfl rfl (by decide +kernel) ⟨(Nat.le_of_ble_eq_true rfl), (Nat.le_of_ble_eq_true rfl)⟩) hP hD hS hA atX_0 rfl rfl hl.1 rfl (Nat.le_of_ble_eq_true rfl) dX11_fits_83 ⟨Nat.zero_le _, Nat.zero_le _⟩ (fun  u H locs hw hP hD hS => ?_)
            obtain ⟨F25, L25, A25, B25⟩ := u
            try dsimp only at hw
            have hq25 := hw
            have hq := hq.call hq25 (by decide)
            have hP : va_P D classes (wX cA ad F25 L25 A25 B25) H := hP
            have hD : va_D Af (wX cA ad F25 L25 A25 B25) := hD
            refine lv_aload_n hx hb dX11_fits_86 rfl (lv_at hl 0 rfl) ?_
            refine va_get (ci := 11) (v := .ref (ad 61)) (C := RX11) (T := TX11) (N := 13) hx hb hg inX11 hown hK hP 0 atX_0 rfl 8 (by decide) (hg _ mw_533) (fun _ h9 => h9) rfl dX11_fits_87 ?_
            refine lv_iload hx hb dX11_fits_90 (lv_at hl 1 rfl) ?_
            refine lv_aload_n hx hb dX11_fits_92 rfl (lv_at hl 0 rfl) ?_
            refine va_get (ci := 11) (v := .ref (ad 27)) (C := RX11) (T := TX11) (N := 13) hx hb hg inX11 hown hK hP 0 atX_0 rfl 5 (by decide) (hg _ mw_530) (fun _ h9 => h9) rfl dX11_fits_93 ?_
            refine callv_i (As := [.int x7, .ref (ad 27)]) (rest := []) hC (c_X8_areSo_61_27 l D cA H.size ad F25 L25 A25 B25 (x7) hq.1 r8) (cwV 2 hg (g_V mw_1070 mw_1067 mw_1068 mw_1069 mw_18) rfl rfl rfl (by decide +kernel) ⟨(Nat.le_of_ble_eq_true rfl), (Nat.le_of_ble_eq_true rfl)⟩) hP hD hS hA atX_61 rfl rfl hl.1 rfl (Nat.le_of_ble_eq_true rfl) dX11_fits_96 ⟨Nat.zero_le _, Nat.zero_le _⟩ (fun x26 u H locs hw hP hD hS => ?_)
            obtain ⟨F27, L27, A27, B27⟩ := u
            try dsimp only at hw
            obtain ⟨hq27, r28⟩ := hw
            have hq := hq.call hq27 (by decide)
            have hP : va_P D classes (wX cA ad F27 L27 A27 B27) H := hP
            have hD : va_D Af (wX cA ad F27 L27 A27 B27) := hD
            have J119 : ∀ (F29 : Nat → Int32) (L29 : Nat → Int64) (A29 : Nat → Nat → Int32) (B29 : Nat → Nat → Int64) (H : Heap) (locs : List Loc) (ls : Array Slot), qX [29, 30, 33, 34, 35] [28, 29, 32, 33, 35, 36, 37, 38, 39, 41, 42, 43, 44, 45, 67, 68, 69] F A F29 A29 → va_P D classes (wX cA ad F29 L29 A29 B29) H → va_D Af (wX cA ad F29 L29 A29 B29) → va_S Af s.heap H locs → lv_has ls 7 [(0, .ref (ad 0)), (4, .int x7), (5, .int x9), (6, .int a19)] → W p l e rm_X11_fits_0 s m args below meth c H locs 0 0 Q (F0 m 119 ls []) := by
              intro F29 L29 A29 B29 H locs ls hq hP hD hS hl
              obtain ⟨x30, e31⟩ : ∃ y : Int32, y = a19 + 1 := ⟨_, rfl⟩
              have r32 : rg x30 1 41 := rg_add e31 r24 (rg_k (by decide) : rg 1 1 1) (by decide)
              refine lv_iinc (v := x30) (lv' := [(6, .int x30), (0, .ref (ad 0)), (4, .int x7), (5, .int x9)]) hx hb dX11_fits_119 hl (k := 3) rfl (by rw [e31]; rfl) (by decide) rfl (fun ls hl => ?_)
              refine lv_goto (tgt := 71) hx hb dX11_fits_122 (by decide) ?_
              exact ih71 (x30) (F29) (L29) (A29) (B29) H locs ls (by have h0 : (1 : Int32).toInt = 1 := rfl; have h1 := ti_addk e31 r24 (by decide); have h2 : rg x30 0 41 := (rg_w r32 (by decide)); unfold rg at h2; omega) (rg_w r32 (by decide)) hq hP hD hS (lv_sub hl [1, 2, 3, 0] rfl)
            refine lv_if_eq (tgt := 119) hx hb dX11_fits_99 (by decide) (fun c33 => ?_) (fun c33 => ?_)
            · skip
              have r34 : rg x26 0 0 := rg_eq1 c33 (r28 : rg x26 0 1) ((rg_k (by decide)) : rg 0 0 0) (by decide)
              exact J119 (F27) (L27) (A27) (B27) H locs ls hq hP hD hS (lv_sub hl [0, 1, 2, 3] rfl)
            · skip
              have r35 : rg x26 1 1 := (rg_ne1 c33 (r28 : rg x26 0 1) ((rg_k (by decide)) : rg 0 0 0)).1 rfl
              refine lv_aload_n hx hb dX11_fits_102 rfl (lv_at hl 0 rfl) ?_
              refine va_get (ci := 11) (v := .ref (ad 61)) (C := RX11) (T := TX11) (N := 13) hx hb hg inX11 hown hK hP 0 atX_0 rfl 8 (by decide) (hg _ mw_533) (fun _ h9 => h9) rfl dX11_fits_103 ?_
              refine va_get (ci := 8) (v := .ref (ad 69)) (C := RX8) (T := TX8) (N := 9) hx hb hg inX8 hown hK hP 61 atX_61 rfl 7 (by decide) (hg _ mw_490) (fun _ h9 => h9) rfl dX11_fits_106 ?_
              refine lv_iload hx hb dX11_fits_109 (lv_at hl 2 rfl) ?_
              refine lv_dup2_11 hx hb dX11_fits_111 rfl rfl ?_
              refine va_lald hx hb hK hP 69 54 atX_69 tyX_69 (in_rg r11 (by decide)) dX11_fits_112 ?_
              refine lv_topl (fun z36 _ => ?_)
              refine lv_lconst (v := 1) hx hb dX11_fits_113 rfl ?_
              refine lv_iload hx hb dX11_fits_114 (lv_at hl 3 rfl) ?_
              refine lv_lshl hx hb dX11_fits_116 rfl ?_
              refine lv_topl (fun z37 _ => ?_)
              refine lv_lor hx hb dX11_fits_117 ?_
              refine lv_topl (fun z38 _ => ?_)
              refine va_last hx hb hK hP hD hS 69 54 atX_69 tyX_69 (in_rg r11 (by decide)) dX11_fits_118 (fun H locs hP hD hS => ?_)
              rw [setBX_69] at hP hD
              exact J119 (F27) (L27) (A27) ((va_up B27 69 (vp_updL (B27 69) (x9).toNatClampNeg z38))) H locs ls hq hP hD hS (lv_sub hl [0, 1, 2, 3] rfl)
      exact J71 _ (0) (F) (L) ((va_up A 68 (upd (A 68) (x9).toNatClampNeg x7))) ((va_up B 69 (vp_updL (B 69) (x9).toNatClampNeg (0 : Int64)))) H locs ls (Nat.lt_succ_self _) (rg_k (by decide)) hq hP hD hS (lv_sub hl [3, 2, 1, 0] rfl)
  · skip
    have r6 : rg x1 0 0 := rg_eq1 c4 (r2 : rg x1 0 1) ((rg_k (by decide)) : rg 0 0 0) (by decide)
    refine lv_ldc2 (v := (-1)) hx hb hown (hg _ mw_1058) dX11_fits_9 ?_
    exact hret ((-1 : Int64)) (F, L, A, B) H locs 12 ls dX11_fits_12 hP hD hS hq
abbrev rm_X7_keep_24_18 : Room := { frames := 1, cells := 0, slots := 0, locals := 44 }
set_option maxHeartbeats 4000000 in
set_option maxRecDepth 100000 in
theorem c_X7_keep_24_18 (l : Launch) (D : va_G) (cA : Nat → ClassId) (sz : Nat) (ad : Nat → Nat) (F : Nat → Int32) (L : Nat → Int64) (A : Nat → Nat → Int32) (B : Nat → Nat → Int64) (p1 : Int32) (hT : typX F A) (hp1 : rg p1 0 2) : Met l yX7_keep (Cond.code yX7_keep cX7_keep 3 none :: GW) rm_X7_keep_24_18 (mPc D classes (tysX cA) (wX cA ad F L A B) sz [.ref (ad 24), .int p1, .ref (ad 18)]) (mQv (S := SW) D classes (tysX cA) (wX cA ad F L A B) sz (wfX cA ad) (fun u => qX [] [25, 26] F A u.1 u.2.2.1)) 0 0 (va_A (wX cA ad F L A B) sz) := by
  refine met_v (own := "ShoeingDay$Shelf") (by decide +kernel) rfl (Nat.le_of_ble_eq_true rfl) ?_
  intro p e s m args below meth c Q Af ls hC hP hD hS hA hl hret
  have hx := hC.1
  have hb := hC.2.1
  have hown := hC.2.2.2.1
  have hg := hC.g
  have hK := hC.K
  have hl : lv_has ls 3 [(0, .ref (ad 24)), (1, .int p1), (2, .ref (ad 18))] := hl
  have hq : qX [] [25, 26] F A F A := qX.rf hT
  obtain ⟨H, hH⟩ : ∃ H, H = s.heap := ⟨_, rfl⟩
  have hP : va_P D classes (wX cA ad F L A B) H := by rw [hH]; exact hP
  have hS : va_S Af s.heap H [] := by rw [hH]; exact hS
  obtain ⟨locs, hlo⟩ : ∃ q : List Loc, q = [] := ⟨_, rfl⟩
  rw [← hH, ← hlo]
  rw [← hlo] at hS
  refine lv_iload_n hx hb dX7_keep_0 rfl (lv_at hl 1 rfl) ?_
  refine lv_if_lt (tgt := 40) hx hb dX7_keep_1 (by decide) (fun c1 => ?_) (fun c1 => ?_)
  · skip
    exact rg_emp (rg_lt1 (iL c1) (hp1 : rg p1 0 2) ((rg_k (by decide)) : rg 0 0 0)) (by decide)
  · skip
    refine lv_iload_n hx hb dX7_keep_4 rfl (lv_at hl 1 rfl) ?_
    refine lv_aload_n hx hb dX7_keep_5 rfl (lv_at hl 0 rfl) ?_
    refine va_get (ci := 7) (v := .int (F 28)) (C := RX7) (T := TX7) (N := 3) hx hb hg inX7 hown hK hP 24 atX_24 rfl 0 (by decide) (hg _ mw_281) (fun _ h9 => h9) rfl dX7_keep_6 ?_
    refine lv_topi (fun x2 e3 => ?_)
    have r4 : rg x2 3 3 := rg_e e3 (hq.1.1 28)
    refine lv_icmp_ge (tgt := 40) hx hb dX7_keep_9 (by decide) (fun c5 => ?_) (fun c5 => ?_)
    · skip
      exact rg_emp (rg_le1 (iE c5) (r4 : rg x2 3 3) (hp1 : rg p1 0 2)) (by decide)
    · skip
      refine lv_aload_n hx hb dX7_keep_12 rfl (lv_at hl 2 rfl) ?_
      refine va_get (ci := 3) (v := .ref (ad 19)) (C := RX3) (T := TX3) (N := 4) hx hb hg inX3 hown hK hP 18 atX_18 rfl 0 (by decide) (hg _ mw_235) (fun _ h9 => h9) rfl dX7_keep_13 ?_
      refine lv_iconst (v := 0) hx hb dX7_keep_16 (by decide) ?_
      refine lv_aload_n hx hb dX7_keep_17 rfl (lv_at hl 0 rfl) ?_
      refine va_get (ci := 7) (v := .ref (ad 25)) (C := RX7) (T := TX7) (N := 3) hx hb hg inX7 hown hK hP 24 atX_24 rfl 1 (by decide) (hg _ mw_282) (fun _ h9 => h9) rfl dX7_keep_18 ?_
      refine lv_iload_n hx hb dX7_keep_21 rfl (lv_at hl 1 rfl) ?_
      refine lv_bipush (v := 80) hx hb dX7_keep_22 (by decide) ?_
      refine lv_imul hx hb dX7_keep_24 ?_
      refine lv_topi (fun x6 e7 => ?_)
      have r8 : rg x6 0 160 := rg_mul e7 hp1 ((rg_k (by decide)) : rg 80 80 80) (by decide)
      refine lv_bipush (v := 80) hx hb dX7_keep_25 (by decide) ?_
      refine va_copyi hx hb (hC.2.2.1.trans hl.1.symm) hown (hg _ mw_522) (hg _ mw_524) (hg _ mw_523) (hg _ mw_19) hK hP hD hS 19 25 13 16 atX_19 atX_25 tyX_19 tyX_25 rfl (nn_rg ((rg_k (by decide)) : rg 0 0 0) (by decide)) (nn_rg (r8 : rg x6 0 160) (by decide)) (nn_rg ((rg_k (by decide)) : rg 80 80 80) (by decide)) (cp_rg ((rg_k (by decide)) : rg 0 0 0) ((rg_k (by decide)) : rg 80 80 80) (by decide)) (cp_rg (r8 : rg x6 0 160) ((rg_k (by decide)) : rg 80 80 80) (by decide)) (fun _ _ => rfl) (Nat.le_of_ble_eq_true rfl) (Nat.le_of_ble_eq_true rfl) dX7_keep_27 (fun H locs hP hD hS => ?_)
      have hq := hq.cpy 25 19 (a := ((0 : Int32)).toNatClampNeg) (b := (x6).toNatClampNeg) (n := ((80 : Int32)).toNatClampNeg) (by decide) (by decide)
      rw [setX_25] at hP hD
      refine lv_aload_n hx hb dX7_keep_30 rfl (lv_at hl 0 rfl) ?_
      refine va_get (ci := 7) (v := .ref (ad 26)) (C := RX7) (T := TX7) (N := 3) hx hb hg inX7 hown hK hP 24 atX_24 rfl 2 (by decide) (hg _ mw_283) (fun _ h9 => h9) rfl dX7_keep_31 ?_
      refine lv_iload_n hx hb dX7_keep_34 rfl (lv_at hl 1 rfl) ?_
      refine lv_aload_n hx hb dX7_keep_35 rfl (lv_at hl 2 rfl) ?_
      refine va_get (ci := 3) (v := .int (F 23)) (C := RX3) (T := TX3) (N := 4) hx hb hg inX3 hown hK hP 18 atX_18 rfl 3 (by decide) (hg _ mw_248) (fun _ h9 => h9) rfl dX7_keep_36 ?_
      refine lv_topi (fun x9 e10 => ?_)
      refine va_iast hx hb hK hP hD hS 26 17 atX_26 tyX_26 (in_rg hp1 (by decide)) dX7_keep_39 (fun H locs hP hD hS => ?_)
      have hq := hq.ast 26 (p1).toNatClampNeg (x := x9) (by decide) (rg_top _)
      rw [setX_26] at hP hD
      have k11 : x9 = (va_up (va_up A 25 (va_cpy (A 19) (A 25) ((0 : Int32)).toNatClampNeg (x6).toNatClampNeg ((80 : Int32)).toNatClampNeg)) 26 (upd ((va_up A 25 (va_cpy (A 19) (A 25) ((0 : Int32)).toNatClampNeg (x6).toNatClampNeg ((80 : Int32)).toNatClampNeg)) 26) (p1).toNatClampNeg x9)) 26 (p1).toNatClampNeg := (rdA).symm
      exact hret (F, L, (va_up (va_up A 25 (va_cpy (A 19) (A 25) ((0 : Int32)).toNatClampNeg (x6).toNatClampNeg ((80 : Int32)).toNatClampNeg)) 26 (upd ((va_up A 25 (va_cpy (A 19) (A 25) ((0 : Int32)).toNatClampNeg (x6).toNatClampNeg ((80 : Int32)).toNatClampNeg)) 26) (p1).toNatClampNeg x9)), B) H locs 40 ls dX7_keep_40 hP hD hS hq
abbrev rm_X11_image_0 : Room := { frames := 2, cells := 0, slots := 0, locals := 66 }
set_option maxHeartbeats 4000000 in
set_option maxRecDepth 100000 in
theorem c_X11_image_0 (l : Launch) (D : va_G) (cA : Nat → ClassId) (sz : Nat) (ad : Nat → Nat) (F : Nat → Int32) (L : Nat → Int64) (A : Nat → Nat → Int32) (B : Nat → Nat → Int64) (p1 : Int32) (hT : typX F A) : Met l yX11_image (Cond.code yX11_image cX11_image 2 (some .int) :: GW) rm_X11_image_0 (mPc D classes (tysX cA) (wX cA ad F L A B) sz [.ref (ad 0), .int p1]) (mQi (S := SW) D classes (tysX cA) (wX cA ad F L A B) sz (wfX cA ad) (fun r u => qX [] [25, 26] F A u.1 u.2.2.1)) 0 0 (va_A (wX cA ad F L A B) sz) := by
  refine met_i (own := "ShoeingDay") (by decide +kernel) rfl (Nat.le_of_ble_eq_true rfl) ?_
  intro p e s m args below meth c Q Af ls hC hP hD hS hA hl hret
  have hx := hC.1
  have hb := hC.2.1
  have hown := hC.2.2.2.1
  have hg := hC.g
  have hK := hC.K
  have hl : lv_has ls 2 [(0, .ref (ad 0)), (1, .int p1)] := hl
  have hq : qX [] [25, 26] F A F A := qX.rf hT
  obtain ⟨H, hH⟩ : ∃ H, H = s.heap := ⟨_, rfl⟩
  have hP : va_P D classes (wX cA ad F L A B) H := by rw [hH]; exact hP
  have hS : va_S Af s.heap H [] := by rw [hH]; exact hS
  obtain ⟨locs, hlo⟩ : ∃ q : List Loc, q = [] := ⟨_, rfl⟩
  rw [← hH, ← hlo]
  rw [← hlo] at hS
  refine lv_iload_n hx hb dX11_image_0 rfl (lv_at hl 1 rfl) ?_
  have J9 : ∀ (F1 : Nat → Int32) (L1 : Nat → Int64) (A1 : Nat → Nat → Int32) (B1 : Nat → Nat → Int64) (H : Heap) (locs : List Loc) (ls : Array Slot), qX [] [25, 26] F A F1 A1 → va_P D classes (wX cA ad F1 L1 A1 B1) H → va_D Af (wX cA ad F1 L1 A1 B1) → va_S Af s.heap H locs → lv_has ls 2 [] → W p l e rm_X11_image_0 s m args below meth c H locs 0 0 Q (F0 m 9 ls []) := by
    intro F1 L1 A1 B1 H locs ls hq hP hD hS hl
    refine lv_iconst (v := (-1)) hx hb dX11_image_9 (by decide) ?_
    exact hret ((-1)) (F1, L1, A1, B1) H locs 10 ls rfl dX11_image_10 hP hD hS hq
  refine lv_if_lt (tgt := 9) hx hb dX11_image_1 (by decide) (fun c2 => ?_) (fun c2 => ?_)
  · skip
    have r3 : rg p1 (-2147483648) (-1) := rg_lt1 (iL c2) ((rg_top _) : rg p1 (-2147483648) 2147483647) ((rg_k (by decide)) : rg 0 0 0)
    exact J9 (F) (L) (A) (B) H locs ls hq hP hD hS (lv_sub hl [] rfl)
  · skip
    have r4 : rg p1 0 2147483647 := rg_le2 (iNL c2) ((rg_k (by decide)) : rg 0 0 0) ((rg_top _) : rg p1 (-2147483648) 2147483647)
    refine lv_iload_n hx hb dX11_image_4 rfl (lv_at hl 1 rfl) ?_
    refine lv_iconst (v := 3) hx hb dX11_image_5 (by decide) ?_
    refine lv_icmp_lt (tgt := 11) hx hb dX11_image_6 (by decide) (fun c5 => ?_) (fun c5 => ?_)
    · skip
      have r6 : rg p1 0 2 := rg_lt1 (iL c5) (r4 : rg p1 0 2147483647) ((rg_k (by decide)) : rg 3 3 3)
      refine lv_aload_n hx hb dX11_image_11 rfl (lv_at hl 0 rfl) ?_
      refine va_get (ci := 11) (v := .ref (ad 24)) (C := RX11) (T := TX11) (N := 13) hx hb hg inX11 hown hK hP 0 atX_0 rfl 4 (by decide) (hg _ mw_529) (fun _ h9 => h9) rfl dX11_image_12 ?_
      refine lv_iload_n hx hb dX11_image_15 rfl (lv_at hl 1 rfl) ?_
      refine lv_aload_n hx hb dX11_image_16 rfl (lv_at hl 0 rfl) ?_
      refine va_get (ci := 11) (v := .ref (ad 18)) (C := RX11) (T := TX11) (N := 13) hx hb hg inX11 hown hK hP 0 atX_0 rfl 2 (by decide) (hg _ mw_527) (fun _ h9 => h9) rfl dX11_image_17 ?_
      refine callv_v (As := [.int p1, .ref (ad 18)]) (rest := []) hC (c_X7_keep_24_18 l D cA H.size ad F L A B (p1) hq.1 r6) (cwV 2 hg (g_V mw_521 mw_1083 mw_519 mw_520 mw_11) rfl rfl rfl (by decide +kernel) ⟨(Nat.le_of_ble_eq_true rfl), (Nat.le_of_ble_eq_true rfl)⟩) hP hD hS hA atX_24 rfl rfl hl.1 rfl (Nat.le_of_ble_eq_true rfl) dX11_image_20 ⟨Nat.zero_le _, Nat.zero_le _⟩ (fun  u H locs hw hP hD hS => ?_)
      obtain ⟨F8, L8, A8, B8⟩ := u
      try dsimp only at hw
      have hq8 := hw
      have hq := hq.call hq8 (by decide)
      have hP : va_P D classes (wX cA ad F8 L8 A8 B8) H := hP
      have hD : va_D Af (wX cA ad F8 L8 A8 B8) := hD
      refine lv_aload_n hx hb dX11_image_23 rfl (lv_at hl 0 rfl) ?_
      refine va_get (ci := 11) (v := .ref (ad 18)) (C := RX11) (T := TX11) (N := 13) hx hb hg inX11 hown hK hP 0 atX_0 rfl 2 (by decide) (hg _ mw_527) (fun _ h9 => h9) rfl dX11_image_24 ?_
      refine va_get (ci := 3) (v := .int (F8 23)) (C := RX3) (T := TX3) (N := 4) hx hb hg inX3 hown hK hP 18 atX_18 rfl 3 (by decide) (hg _ mw_249) (fun _ h9 => h9) rfl dX11_image_27 ?_
      refine lv_topi (fun x9 e10 => ?_)
      exact hret (x9) (F8, L8, A8, B8) H locs 30 ls rfl dX11_image_30 hP hD hS hq
    · skip
      have r7 : rg p1 3 2147483647 := rg_le2 (iNL c5) ((rg_k (by decide)) : rg 3 3 3) (r4 : rg p1 0 2147483647)
      exact J9 (F) (L) (A) (B) H locs ls hq hP hD hS (lv_sub hl [] rfl)
abbrev rm_X7_fetch_24_18 : Room := { frames := 1, cells := 0, slots := 0, locals := 44 }
set_option maxHeartbeats 4000000 in
set_option maxRecDepth 100000 in
theorem c_X7_fetch_24_18 (l : Launch) (D : va_G) (cA : Nat → ClassId) (sz : Nat) (ad : Nat → Nat) (F : Nat → Int32) (L : Nat → Int64) (A : Nat → Nat → Int32) (B : Nat → Nat → Int64) (p1 : Int32) (hT : typX F A) : Met l yX7_fetch (Cond.code yX7_fetch cX7_fetch 3 (some .boolean) :: GW) rm_X7_fetch_24_18 (mPc D classes (tysX cA) (wX cA ad F L A B) sz [.ref (ad 24), .int p1, .ref (ad 18)]) (mQi (S := SW) D classes (tysX cA) (wX cA ad F L A B) sz (wfX cA ad) (fun r u => qX [23] [19] F A u.1 u.2.2.1 ∧ rg r 0 1 ∧ (r = 0 ∨ (rg p1 0 2)))) 0 0 (va_A (wX cA ad F L A B) sz) := by
  refine met_i (own := "ShoeingDay$Shelf") (by decide +kernel) rfl (Nat.le_of_ble_eq_true rfl) ?_
  intro p e s m args below meth c Q Af ls hC hP hD hS hA hl hret
  have hx := hC.1
  have hb := hC.2.1
  have hown := hC.2.2.2.1
  have hg := hC.g
  have hK := hC.K
  have hl : lv_has ls 3 [(0, .ref (ad 24)), (1, .int p1), (2, .ref (ad 18))] := hl
  have hq : qX [23] [19] F A F A := qX.rf hT
  obtain ⟨H, hH⟩ : ∃ H, H = s.heap := ⟨_, rfl⟩
  have hP : va_P D classes (wX cA ad F L A B) H := by rw [hH]; exact hP
  have hS : va_S Af s.heap H [] := by rw [hH]; exact hS
  obtain ⟨locs, hlo⟩ : ∃ q : List Loc, q = [] := ⟨_, rfl⟩
  rw [← hH, ← hlo]
  rw [← hlo] at hS
  refine lv_iload_n hx hb dX7_fetch_0 rfl (lv_at hl 1 rfl) ?_
  have J22 : ∀ (F1 : Nat → Int32) (L1 : Nat → Int64) (A1 : Nat → Nat → Int32) (B1 : Nat → Nat → Int64) (H : Heap) (locs : List Loc) (ls : Array Slot), qX [23] [19] F A F1 A1 → va_P D classes (wX cA ad F1 L1 A1 B1) H → va_D Af (wX cA ad F1 L1 A1 B1) → va_S Af s.heap H locs → lv_has ls 3 [] → W p l e rm_X7_fetch_24_18 s m args below meth c H locs 0 0 Q (F0 m 22 ls []) := by
    intro F1 L1 A1 B1 H locs ls hq hP hD hS hl
    refine lv_iconst (v := 0) hx hb dX7_fetch_22 (by decide) ?_
    exact hret (0) (F1, L1, A1, B1) H locs 23 ls rfl dX7_fetch_23 hP hD hS ⟨hq, (rg_k (by decide)), Or.inl rfl⟩
  refine lv_if_lt (tgt := 22) hx hb dX7_fetch_1 (by decide) (fun c2 => ?_) (fun c2 => ?_)
  · skip
    have r3 : rg p1 (-2147483648) (-1) := rg_lt1 (iL c2) ((rg_top _) : rg p1 (-2147483648) 2147483647) ((rg_k (by decide)) : rg 0 0 0)
    exact J22 (F) (L) (A) (B) H locs ls hq hP hD hS (lv_sub hl [] rfl)
  · skip
    have r4 : rg p1 0 2147483647 := rg_le2 (iNL c2) ((rg_k (by decide)) : rg 0 0 0) ((rg_top _) : rg p1 (-2147483648) 2147483647)
    refine lv_iload_n hx hb dX7_fetch_4 rfl (lv_at hl 1 rfl) ?_
    refine lv_aload_n hx hb dX7_fetch_5 rfl (lv_at hl 0 rfl) ?_
    refine va_get (ci := 7) (v := .int (F 28)) (C := RX7) (T := TX7) (N := 3) hx hb hg inX7 hown hK hP 24 atX_24 rfl 0 (by decide) (hg _ mw_281) (fun _ h9 => h9) rfl dX7_fetch_6 ?_
    refine lv_topi (fun x5 e6 => ?_)
    have r7 : rg x5 3 3 := rg_e e6 (hq.1.1 28)
    refine lv_icmp_ge (tgt := 22) hx hb dX7_fetch_9 (by decide) (fun c8 => ?_) (fun c8 => ?_)
    · skip
      have r9 : rg p1 3 2147483647 := rg_le2 (iE c8) (r7 : rg x5 3 3) (r4 : rg p1 0 2147483647)
      exact J22 (F) (L) (A) (B) H locs ls hq hP hD hS (lv_sub hl [] rfl)
    · skip
      have r10 : rg p1 0 2 := rg_lt1 (iNE c8) (r4 : rg p1 0 2147483647) (r7 : rg x5 3 3)
      refine lv_aload_n hx hb dX7_fetch_12 rfl (lv_at hl 0 rfl) ?_
      refine va_get (ci := 7) (v := .ref (ad 26)) (C := RX7) (T := TX7) (N := 3) hx hb hg inX7 hown hK hP 24 atX_24 rfl 2 (by decide) (hg _ mw_283) (fun _ h9 => h9) rfl dX7_fetch_13 ?_
      refine lv_iload_n hx hb dX7_fetch_16 rfl (lv_at hl 1 rfl) ?_
      refine va_iald hx hb hK hP 26 17 atX_26 tyX_26 (in_rg r10 (by decide)) dX7_fetch_17 ?_
      refine lv_topi (fun x11 e12 => ?_)
      refine lv_iconst (v := (-1)) hx hb dX7_fetch_18 (by decide) ?_
      refine lv_icmp_ne (tgt := 24) hx hb dX7_fetch_19 (by decide) (fun c13 => ?_) (fun c13 => ?_)
      · skip
        refine lv_aload_n hx hb dX7_fetch_24 rfl (lv_at hl 0 rfl) ?_
        refine va_get (ci := 7) (v := .ref (ad 25)) (C := RX7) (T := TX7) (N := 3) hx hb hg inX7 hown hK hP 24 atX_24 rfl 1 (by decide) (hg _ mw_282) (fun _ h9 => h9) rfl dX7_fetch_25 ?_
        refine lv_iload_n hx hb dX7_fetch_28 rfl (lv_at hl 1 rfl) ?_
        refine lv_bipush (v := 80) hx hb dX7_fetch_29 (by decide) ?_
        refine lv_imul hx hb dX7_fetch_31 ?_
        refine lv_topi (fun x15 e16 => ?_)
        have r17 : rg x15 0 160 := rg_mul e16 r10 ((rg_k (by decide)) : rg 80 80 80) (by decide)
        refine lv_aload_n hx hb dX7_fetch_32 rfl (lv_at hl 2 rfl) ?_
        refine va_get (ci := 3) (v := .ref (ad 19)) (C := RX3) (T := TX3) (N := 4) hx hb hg inX3 hown hK hP 18 atX_18 rfl 0 (by decide) (hg _ mw_235) (fun _ h9 => h9) rfl dX7_fetch_33 ?_
        refine lv_iconst (v := 0) hx hb dX7_fetch_36 (by decide) ?_
        refine lv_bipush (v := 80) hx hb dX7_fetch_37 (by decide) ?_
        refine va_copyi hx hb (hC.2.2.1.trans hl.1.symm) hown (hg _ mw_522) (hg _ mw_524) (hg _ mw_523) (hg _ mw_19) hK hP hD hS 25 19 16 13 atX_25 atX_19 tyX_25 tyX_19 rfl (nn_rg (r17 : rg x15 0 160) (by decide)) (nn_rg ((rg_k (by decide)) : rg 0 0 0) (by decide)) (nn_rg ((rg_k (by decide)) : rg 80 80 80) (by decide)) (cp_rg (r17 : rg x15 0 160) ((rg_k (by decide)) : rg 80 80 80) (by decide)) (cp_rg ((rg_k (by decide)) : rg 0 0 0) ((rg_k (by decide)) : rg 80 80 80) (by decide)) (fun _ _ => rfl) (Nat.le_of_ble_eq_true rfl) (Nat.le_of_ble_eq_true rfl) dX7_fetch_39 (fun H locs hP hD hS => ?_)
        have hq := hq.cpy 19 25 (a := (x15).toNatClampNeg) (b := ((0 : Int32)).toNatClampNeg) (n := ((80 : Int32)).toNatClampNeg) (by decide) (by decide)
        rw [setX_19] at hP hD
        refine lv_aload_n hx hb dX7_fetch_42 rfl (lv_at hl 2 rfl) ?_
        refine lv_aload_n hx hb dX7_fetch_43 rfl (lv_at hl 0 rfl) ?_
        refine va_get (ci := 7) (v := .ref (ad 26)) (C := RX7) (T := TX7) (N := 3) hx hb hg inX7 hown hK hP 24 atX_24 rfl 2 (by decide) (hg _ mw_283) (fun _ h9 => h9) rfl dX7_fetch_44 ?_
        refine lv_iload_n hx hb dX7_fetch_47 rfl (lv_at hl 1 rfl) ?_
        refine va_iald hx hb hK hP 26 17 atX_26 tyX_26 (in_rg r10 (by decide)) dX7_fetch_48 ?_
        refine tope (mv (by decide) (e12)) ?_
        refine va_put (ci := 3) (v := .int x11) (ty := .int) (C := RX3) (T := TX3) (N := 4) hx hb hg inX3 tyX3 tyX3_ok nmX3 hown hK hP hD hS 18 atX_18 rfl 3 (by decide) (hg _ mw_248) (fun _ h9 => h9) rfl (by decide +kernel) rfl rfl (Nat.le_of_ble_eq_true rfl) dX7_fetch_49 (fun H locs hP hD hS => ?_)
        have hq := hq.put 23 (x := x11) (by decide) (rg_top _)
        rw [setFX_23] at hP hD
        refine lv_iconst (v := 1) hx hb dX7_fetch_52 (by decide) ?_
        exact hret (1) ((upd F 23 x11), L, (va_up A 19 (va_cpy (A 25) (A 19) (x15).toNatClampNeg ((0 : Int32)).toNatClampNeg ((80 : Int32)).toNatClampNeg)), B) H locs 53 ls rfl dX7_fetch_53 hP hD hS ⟨hq, (rg_k (by decide)), Or.inr r10⟩
      · skip
        have r14 : rg x11 (-1) (-1) := rg_eq1 c13 ((rg_top _) : rg x11 (-2147483648) 2147483647) ((rg_k (by decide)) : rg (-1) (-1) (-1)) (by decide)
        exact J22 (F) (L) (A) (B) H locs ls hq hP hD hS (lv_sub hl [] rfl)
abbrev rm_X11_back_0 : Room := { frames := 3, cells := 0, slots := 0, locals := 87 }
set_option maxHeartbeats 4000000 in
set_option maxRecDepth 100000 in
theorem c_X11_back_0 (l : Launch) (D : va_G) (cA : Nat → ClassId) (sz : Nat) (ad : Nat → Nat) (F : Nat → Int32) (L : Nat → Int64) (A : Nat → Nat → Int32) (B : Nat → Nat → Int64) (p1 : Int32) (hT : typX F A) (hI : xX F) : Met l yX11_back (Cond.code yX11_back cX11_back 2 (some .int) :: GW) rm_X11_back_0 (mPc D classes (tysX cA) (wX cA ad F L A B) sz [.ref (ad 0), .int p1]) (mQi (S := SW) D classes (tysX cA) (wX cA ad F L A B) sz (wfX cA ad) (fun r u => qX [23, 24, 25, 26, 32, 36] [19, 22, 23] F A u.1 u.2.2.1 ∧ xX u.1)) 0 0 (va_A (wX cA ad F L A B) sz) := by
  refine met_i (own := "ShoeingDay") (by decide +kernel) rfl (Nat.le_of_ble_eq_true rfl) ?_
  intro p e s m args below meth c Q Af ls hC hP hD hS hA hl hret
  have hx := hC.1
  have hb := hC.2.1
  have hown := hC.2.2.2.1
  have hg := hC.g
  have hK := hC.K
  have hl : lv_has ls 2 [(0, .ref (ad 0)), (1, .int p1)] := hl
  have hq : qX [23, 24, 25, 26, 32, 36] [19, 22, 23] F A F A := qX.rf hT
  obtain ⟨H, hH⟩ : ∃ H, H = s.heap := ⟨_, rfl⟩
  have hP : va_P D classes (wX cA ad F L A B) H := by rw [hH]; exact hP
  have hS : va_S Af s.heap H [] := by rw [hH]; exact hS
  obtain ⟨locs, hlo⟩ : ∃ q : List Loc, q = [] := ⟨_, rfl⟩
  rw [← hH, ← hlo]
  rw [← hlo] at hS
  refine lv_aload_n hx hb dX11_back_0 rfl (lv_at hl 0 rfl) ?_
  refine va_get (ci := 11) (v := .ref (ad 24)) (C := RX11) (T := TX11) (N := 13) hx hb hg inX11 hown hK hP 0 atX_0 rfl 4 (by decide) (hg _ mw_529) (fun _ h9 => h9) rfl dX11_back_1 ?_
  refine lv_iload_n hx hb dX11_back_4 rfl (lv_at hl 1 rfl) ?_
  refine lv_aload_n hx hb dX11_back_5 rfl (lv_at hl 0 rfl) ?_
  refine va_get (ci := 11) (v := .ref (ad 18)) (C := RX11) (T := TX11) (N := 13) hx hb hg inX11 hown hK hP 0 atX_0 rfl 2 (by decide) (hg _ mw_527) (fun _ h9 => h9) rfl dX11_back_6 ?_
  refine callv_i (As := [.int p1, .ref (ad 18)]) (rest := []) hC (c_X7_fetch_24_18 l D cA H.size ad F L A B (p1) hq.1) (cwV 2 hg (g_V mw_983 mw_1088 mw_981 mw_982 mw_11) rfl rfl rfl (by decide +kernel) ⟨(Nat.le_of_ble_eq_true rfl), (Nat.le_of_ble_eq_true rfl)⟩) hP hD hS hA atX_24 rfl rfl hl.1 rfl (Nat.le_of_ble_eq_true rfl) dX11_back_9 ⟨Nat.zero_le _, Nat.zero_le _⟩ (fun x1 u H locs hw hP hD hS => ?_)
  obtain ⟨F2, L2, A2, B2⟩ := u
  try dsimp only at hw
  obtain ⟨hq2, r3, g4⟩ := hw
  have hq := hq.call hq2 (by decide)
  have hP : va_P D classes (wX cA ad F2 L2 A2 B2) H := hP
  have hD : va_D Af (wX cA ad F2 L2 A2 B2) := hD
  refine lv_if_ne (tgt := 17) hx hb dX11_back_12 (by decide) (fun c5 => ?_) (fun c5 => ?_)
  · skip
    have g6 := g4.resolve_left c5
    refine lv_aload_n hx hb dX11_back_17 rfl (lv_at hl 0 rfl) ?_
    refine va_get (ci := 11) (v := .ref (ad 20)) (C := RX11) (T := TX11) (N := 13) hx hb hg inX11 hown hK hP 0 atX_0 rfl 3 (by decide) (hg _ mw_528) (fun _ h9 => h9) rfl dX11_back_18 ?_
    refine lv_aload_n hx hb dX11_back_21 rfl (lv_at hl 0 rfl) ?_
    refine va_get (ci := 11) (v := .ref (ad 18)) (C := RX11) (T := TX11) (N := 13) hx hb hg inX11 hown hK hP 0 atX_0 rfl 2 (by decide) (hg _ mw_527) (fun _ h9 => h9) rfl dX11_back_22 ?_
    refine callv_v (As := [.ref (ad 18)]) (rest := []) hC (c_X0_forget_20_18 l D cA H.size ad F2 L2 A2 B2  hq.1 (xX.fr hI (hq2.2.1 25 (by decide)) (hq2.2.1 26 (by decide)))) (cwV 1 hg (g_V mw_517 mw_514 mw_515 mw_516 mw_10) rfl rfl rfl (by decide +kernel) ⟨(Nat.le_of_ble_eq_true rfl), (Nat.le_of_ble_eq_true rfl)⟩) hP hD hS hA atX_20 rfl rfl hl.1 rfl (Nat.le_of_ble_eq_true rfl) dX11_back_25 ⟨Nat.zero_le _, Nat.zero_le _⟩ (fun  u H locs hw hP hD hS => ?_)
    obtain ⟨F8, L8, A8, B8⟩ := u
    try dsimp only at hw
    obtain ⟨hq8, i9⟩ := hw
    have hq := hq.call hq8 (by decide)
    have hP : va_P D classes (wX cA ad F8 L8 A8 B8) H := hP
    have hD : va_D Af (wX cA ad F8 L8 A8 B8) := hD
    refine lv_aload_n hx hb dX11_back_28 rfl (lv_at hl 0 rfl) ?_
    refine callv_v (As := []) (rest := []) hC (c_X11_lackIsNew_0 l D cA H.size ad F8 L8 A8 B8  hq.1) (cwV 0 hg (g_V mw_715 mw_712 mw_714 ms_17 mw_1) rfl rfl rfl (by decide +kernel) ⟨(Nat.le_of_ble_eq_true rfl), (Nat.le_of_ble_eq_true rfl)⟩) hP hD hS hA atX_0 rfl rfl hl.1 rfl (Nat.le_of_ble_eq_true rfl) dX11_back_29 ⟨Nat.zero_le _, Nat.zero_le _⟩ (fun  u H locs hw hP hD hS => ?_)
    obtain ⟨F10, L10, A10, B10⟩ := u
    try dsimp only at hw
    have hq10 := hw
    have hq := hq.call hq10 (by decide)
    have hP : va_P D classes (wX cA ad F10 L10 A10 B10) H := hP
    have hD : va_D Af (wX cA ad F10 L10 A10 B10) := hD
    refine lv_aload_n hx hb dX11_back_32 rfl (lv_at hl 0 rfl) ?_
    refine va_get (ci := 11) (v := .ref (ad 18)) (C := RX11) (T := TX11) (N := 13) hx hb hg inX11 hown hK hP 0 atX_0 rfl 2 (by decide) (hg _ mw_527) (fun _ h9 => h9) rfl dX11_back_33 ?_
    refine va_get (ci := 3) (v := .int (F10 23)) (C := RX3) (T := TX3) (N := 4) hx hb hg inX3 hown hK hP 18 atX_18 rfl 3 (by decide) (hg _ mw_249) (fun _ h9 => h9) rfl dX11_back_36 ?_
    refine lv_topi (fun x11 e12 => ?_)
    exact hret (x11) (F10, L10, A10, B10) H locs 39 ls rfl dX11_back_39 hP hD hS ⟨hq, (xX.fr i9 (hq10.2.1 25 (by decide)) (hq10.2.1 26 (by decide)))⟩
  · skip
    have r7 : rg x1 0 0 := rg_eq1 c5 (r3 : rg x1 0 1) ((rg_k (by decide)) : rg 0 0 0) (by decide)
    refine lv_iconst (v := (-1)) hx hb dX11_back_15 (by decide) ?_
    exact hret ((-1)) (F2, L2, A2, B2) H locs 16 ls rfl dX11_back_16 hP hD hS ⟨hq, (xX.fr hI (hq2.2.1 25 (by decide)) (hq2.2.1 26 (by decide)))⟩
abbrev rm_X11_about_0 : Room := { frames := 3, cells := 0, slots := 0, locals := 66 }
set_option maxHeartbeats 4000000 in
set_option maxRecDepth 100000 in
theorem c_X11_about_0 (l : Launch) (D : va_G) (cA : Nat → ClassId) (sz : Nat) (ad : Nat → Nat) (F : Nat → Int32) (L : Nat → Int64) (A : Nat → Nat → Int32) (B : Nat → Nat → Int64) (p1 : Int32) (hT : typX F A) : Met l yX11_about (Cond.code yX11_about cX11_about 2 (some .int) :: GW) rm_X11_about_0 (mPc D classes (tysX cA) (wX cA ad F L A B) sz [.ref (ad 0), .int p1]) (mQi (S := Unit) D classes (tysX cA) (wX cA ad F L A B) sz (fun _ : Unit => wX cA ad F L A B) (fun r u => True)) 0 0 (va_A (wX cA ad F L A B) sz) := by
  refine met_i (own := "ShoeingDay") (by decide +kernel) rfl (Nat.le_of_ble_eq_true rfl) ?_
  intro p e s m args below meth c Q Af ls hC hP hD hS hA hl hret
  have hx := hC.1
  have hb := hC.2.1
  have hown := hC.2.2.2.1
  have hg := hC.g
  have hK := hC.K
  have hl : lv_has ls 2 [(0, .ref (ad 0)), (1, .int p1)] := hl
  have hq : qX [] [] F A F A := qX.rf hT
  obtain ⟨H, hH⟩ : ∃ H, H = s.heap := ⟨_, rfl⟩
  have hP : va_P D classes (wX cA ad F L A B) H := by rw [hH]; exact hP
  have hS : va_S Af s.heap H [] := by rw [hH]; exact hS
  obtain ⟨locs, hlo⟩ : ∃ q : List Loc, q = [] := ⟨_, rfl⟩
  rw [← hH, ← hlo]
  rw [← hlo] at hS
  refine lv_iload_n hx hb dX11_about_0 rfl (lv_at hl 1 rfl) ?_
  by_cases hlo : p1.toInt < 0
  · refine lv_tableOut (tgt := 142) hx hb dX11_about_1 (Or.inl hlo) (by decide) ?_
    refine lv_iconst (v := (-1)) hx hb dX11_about_142 (by decide) ?_
    exact hret ((-1)) () H locs 143 ls rfl dX11_about_143 hP hD hS trivial
  by_cases hhi : 10 < p1.toInt
  · refine lv_tableOut (tgt := 142) hx hb dX11_about_1 (Or.inr hhi) (by decide) ?_
    refine lv_iconst (v := (-1)) hx hb dX11_about_142 (by decide) ?_
    exact hret ((-1)) () H locs 143 ls rfl dX11_about_143 hP hD hS trivial
  have hcs : p1.toInt = 0 ∨ p1.toInt = 1 ∨ p1.toInt = 2 ∨ p1.toInt = 3 ∨ p1.toInt = 4 ∨ p1.toInt = 5 ∨ p1.toInt = 6 ∨ p1.toInt = 7 ∨ p1.toInt = 8 ∨ p1.toInt = 9 ∨ p1.toInt = 10 := by omega
  rcases hcs with hcs | hcs | hcs | hcs | hcs | hcs | hcs | hcs | hcs | hcs | hcs
  · refine lv_tableIn (off := 59) (tgt := 60) hx hb dX11_about_1 hlo hhi (by rw [hcs]; rfl) (by decide) ?_
    refine lv_aload_n hx hb dX11_about_60 rfl (lv_at hl 0 rfl) ?_
    refine va_get (ci := 11) (v := .ref (ad 11)) (C := RX11) (T := TX11) (N := 13) hx hb hg inX11 hown hK hP 0 atX_0 rfl 10 (by decide) (hg _ mw_535) (fun _ h9 => h9) rfl dX11_about_61 ?_
    refine va_get (ci := 10) (v := .int (F 15)) (C := RX10) (T := TX10) (N := 12) hx hb hg inX10 hown hK hP 11 atX_11 rfl 6 (by decide) (hg _ mw_169) (fun _ h9 => h9) rfl dX11_about_64 ?_
    refine lv_topi (fun x1 e2 => ?_)
    have r3 : rg x1 0 8 := rg_e e2 (hq.1.1 15)
    exact hret (x1) () H locs 67 ls rfl dX11_about_67 hP hD hS trivial
  · refine lv_tableIn (off := 67) (tgt := 68) hx hb dX11_about_1 hlo hhi (by rw [hcs]; rfl) (by decide) ?_
    refine lv_aload_n hx hb dX11_about_68 rfl (lv_at hl 0 rfl) ?_
    refine va_get (ci := 11) (v := .ref (ad 11)) (C := RX11) (T := TX11) (N := 13) hx hb hg inX11 hown hK hP 0 atX_0 rfl 10 (by decide) (hg _ mw_535) (fun _ h9 => h9) rfl dX11_about_69 ?_
    refine va_get (ci := 10) (v := .int (F 16)) (C := RX10) (T := TX10) (N := 12) hx hb hg inX10 hown hK hP 11 atX_11 rfl 7 (by decide) (hg _ mw_174) (fun _ h9 => h9) rfl dX11_about_72 ?_
    refine lv_topi (fun x4 e5 => ?_)
    have r6 : rg x4 0 10 := rg_e e5 (hq.1.1 16)
    exact hret (x4) () H locs 75 ls rfl dX11_about_75 hP hD hS trivial
  · refine lv_tableIn (off := 75) (tgt := 76) hx hb dX11_about_1 hlo hhi (by rw [hcs]; rfl) (by decide) ?_
    refine lv_aload_n hx hb dX11_about_76 rfl (lv_at hl 0 rfl) ?_
    refine va_get (ci := 11) (v := .ref (ad 18)) (C := RX11) (T := TX11) (N := 13) hx hb hg inX11 hown hK hP 0 atX_0 rfl 2 (by decide) (hg _ mw_527) (fun _ h9 => h9) rfl dX11_about_77 ?_
    refine va_get (ci := 3) (v := .int (F 23)) (C := RX3) (T := TX3) (N := 4) hx hb hg inX3 hown hK hP 18 atX_18 rfl 3 (by decide) (hg _ mw_249) (fun _ h9 => h9) rfl dX11_about_80 ?_
    refine lv_topi (fun x7 e8 => ?_)
    exact hret (x7) () H locs 83 ls rfl dX11_about_83 hP hD hS trivial
  · refine lv_tableIn (off := 83) (tgt := 84) hx hb dX11_about_1 hlo hhi (by rw [hcs]; rfl) (by decide) ?_
    refine lv_aload_n hx hb dX11_about_84 rfl (lv_at hl 0 rfl) ?_
    refine va_get (ci := 11) (v := .ref (ad 18)) (C := RX11) (T := TX11) (N := 13) hx hb hg inX11 hown hK hP 0 atX_0 rfl 2 (by decide) (hg _ mw_527) (fun _ h9 => h9) rfl dX11_about_85 ?_
    refine callv_i (As := []) (rest := []) hC (c_X3_together_18 l D cA H.size ad F L A B  hq.1) (cwV 0 hg (g_V mw_1024 mw_1093 mw_1022 mw_1023 mw_9) rfl rfl rfl (by decide +kernel) ⟨(Nat.le_of_ble_eq_true rfl), (Nat.le_of_ble_eq_true rfl)⟩) hP hD hS hA atX_18 rfl rfl hl.1 rfl (Nat.le_of_ble_eq_true rfl) dX11_about_88 ⟨Nat.zero_le _, Nat.zero_le _⟩ (fun x9 u H locs hw hP hD hS => ?_)
    have hP : va_P D classes (wX cA ad F L A B) H := hP
    have hD : va_D Af (wX cA ad F L A B) := hD
    exact hret (x9) () H locs 91 ls rfl dX11_about_91 hP hD hS trivial
  · refine lv_tableIn (off := 91) (tgt := 92) hx hb dX11_about_1 hlo hhi (by rw [hcs]; rfl) (by decide) ?_
    refine lv_aload_n hx hb dX11_about_92 rfl (lv_at hl 0 rfl) ?_
    refine va_get (ci := 11) (v := .ref (ad 20)) (C := RX11) (T := TX11) (N := 13) hx hb hg inX11 hown hK hP 0 atX_0 rfl 3 (by decide) (hg _ mw_528) (fun _ h9 => h9) rfl dX11_about_93 ?_
    refine va_get (ci := 0) (v := .int (F 25)) (C := RX0) (T := TX0) (N := 4) hx hb hg inX0 hown hK hP 20 atX_20 rfl 2 (by decide) (hg _ mw_294) (fun _ h9 => h9) rfl dX11_about_96 ?_
    refine lv_topi (fun x10 e11 => ?_)
    have r12 : rg x10 0 40 := rg_e e11 (hq.1.1 25)
    exact hret (x10) () H locs 99 ls rfl dX11_about_99 hP hD hS trivial
  · refine lv_tableIn (off := 99) (tgt := 100) hx hb dX11_about_1 hlo hhi (by rw [hcs]; rfl) (by decide) ?_
    refine lv_aload_n hx hb dX11_about_100 rfl (lv_at hl 0 rfl) ?_
    refine va_get (ci := 11) (v := .ref (ad 20)) (C := RX11) (T := TX11) (N := 13) hx hb hg inX11 hown hK hP 0 atX_0 rfl 3 (by decide) (hg _ mw_528) (fun _ h9 => h9) rfl dX11_about_101 ?_
    refine va_get (ci := 0) (v := .int (F 26)) (C := RX0) (T := TX0) (N := 4) hx hb hg inX0 hown hK hP 20 atX_20 rfl 3 (by decide) (hg _ mw_296) (fun _ h9 => h9) rfl dX11_about_104 ?_
    refine lv_topi (fun x13 e14 => ?_)
    have r15 : rg x13 0 40 := rg_e e14 (hq.1.1 26)
    exact hret (x13) () H locs 107 ls rfl dX11_about_107 hP hD hS trivial
  · refine lv_tableIn (off := 107) (tgt := 108) hx hb dX11_about_1 hlo hhi (by rw [hcs]; rfl) (by decide) ?_
    refine lv_aload_n hx hb dX11_about_108 rfl (lv_at hl 0 rfl) ?_
    refine va_get (ci := 11) (v := .ref (ad 56)) (C := RX11) (T := TX11) (N := 13) hx hb hg inX11 hown hK hP 0 atX_0 rfl 7 (by decide) (hg _ mw_532) (fun _ h9 => h9) rfl dX11_about_109 ?_
    refine va_get (ci := 9) (v := .int (F 39)) (C := RX9) (T := TX9) (N := 8) hx hb hg inX9 hown hK hP 56 atX_56 rfl 4 (by decide) (hg _ mw_449) (fun _ h9 => h9) rfl dX11_about_112 ?_
    refine lv_topi (fun x16 e17 => ?_)
    have r18 : rg x16 0 12 := rg_e e17 (hq.1.1 39)
    exact hret (x16) () H locs 115 ls rfl dX11_about_115 hP hD hS trivial
  · refine lv_tableIn (off := 115) (tgt := 116) hx hb dX11_about_1 hlo hhi (by rw [hcs]; rfl) (by decide) ?_
    refine lv_aload_n hx hb dX11_about_116 rfl (lv_at hl 0 rfl) ?_
    refine va_get (ci := 11) (v := .ref (ad 61)) (C := RX11) (T := TX11) (N := 13) hx hb hg inX11 hown hK hP 0 atX_0 rfl 8 (by decide) (hg _ mw_533) (fun _ h9 => h9) rfl dX11_about_117 ?_
    refine va_get (ci := 8) (v := .int (F 43)) (C := RX8) (T := TX8) (N := 9) hx hb hg inX8 hown hK hP 61 atX_61 rfl 8 (by decide) (hg _ mw_492) (fun _ h9 => h9) rfl dX11_about_120 ?_
    refine lv_topi (fun x19 e20 => ?_)
    have r21 : rg x19 0 20 := rg_e e20 (hq.1.1 43)
    exact hret (x19) () H locs 123 ls rfl dX11_about_123 hP hD hS trivial
  · refine lv_tableIn (off := 123) (tgt := 124) hx hb dX11_about_1 hlo hhi (by rw [hcs]; rfl) (by decide) ?_
    refine lv_aload_n hx hb dX11_about_124 rfl (lv_at hl 0 rfl) ?_
    refine va_get (ci := 11) (v := .int (F 1)) (C := RX11) (T := TX11) (N := 13) hx hb hg inX11 hown hK hP 0 atX_0 rfl 12 (by decide) (hg _ mw_537) (fun _ h9 => h9) rfl dX11_about_125 ?_
    refine lv_topi (fun x22 e23 => ?_)
    have r24 : rg x22 0 100000 := rg_e e23 (hq.1.1 1)
    exact hret (x22) () H locs 128 ls rfl dX11_about_128 hP hD hS trivial
  · refine lv_tableIn (off := 128) (tgt := 129) hx hb dX11_about_1 hlo hhi (by rw [hcs]; rfl) (by decide) ?_
    refine lv_aload_n hx hb dX11_about_129 rfl (lv_at hl 0 rfl) ?_
    refine va_get (ci := 11) (v := .int (F 0)) (C := RX11) (T := TX11) (N := 13) hx hb hg inX11 hown hK hP 0 atX_0 rfl 11 (by decide) (hg _ mw_536) (fun _ h9 => h9) rfl dX11_about_130 ?_
    refine lv_topi (fun x25 e26 => ?_)
    have r27 : rg x25 0 1700 := rg_e e26 (hq.1.1 0)
    exact hret (x25) () H locs 133 ls rfl dX11_about_133 hP hD hS trivial
  · refine lv_tableIn (off := 133) (tgt := 134) hx hb dX11_about_1 hlo hhi (by rw [hcs]; rfl) (by decide) ?_
    refine lv_aload_n hx hb dX11_about_134 rfl (lv_at hl 0 rfl) ?_
    refine va_get (ci := 11) (v := .ref (ad 11)) (C := RX11) (T := TX11) (N := 13) hx hb hg inX11 hown hK hP 0 atX_0 rfl 10 (by decide) (hg _ mw_535) (fun _ h9 => h9) rfl dX11_about_135 ?_
    refine va_get (ci := 10) (v := .int (F 20)) (C := RX10) (T := TX10) (N := 12) hx hb hg inX10 hown hK hP 11 atX_11 rfl 11 (by decide) (hg _ mw_184) (fun _ h9 => h9) rfl dX11_about_138 ?_
    refine lv_topi (fun x28 e29 => ?_)
    exact hret (x28) () H locs 141 ls rfl dX11_about_141 hP hD hS trivial
