abbrev rm_X4_reachOfSource_46 : Room := { frames := 0, cells := 0, slots := 0, locals := 0 }
set_option maxHeartbeats 4000000 in
set_option maxRecDepth 100000 in
theorem c_X4_reachOfSource_46 (l : Launch) (D : va_G) (cA : Nat → ClassId) (sz : Nat) (ad : Nat → Nat) (F : Nat → Int32) (L : Nat → Int64) (A : Nat → Nat → Int32) (B : Nat → Nat → Int64)  (hT : typX F A) : Met l yX4_reachOfSource (Cond.code yX4_reachOfSource cX4_reachOfSource 3 (some .int) :: GW) rm_X4_reachOfSource_46 (mPc D classes (tysX cA) (wX cA ad F L A B) sz [.ref (ad 46)]) (mQi (S := Unit) D classes (tysX cA) (wX cA ad F L A B) sz (fun _ : Unit => wX cA ad F L A B) (fun r u => rg r 0 1048575)) 0 0 (va_A (wX cA ad F L A B) sz) := by
  refine met_i (own := "ShoeingDay$Parting") (by decide +kernel) rfl (Nat.le_of_ble_eq_true rfl) ?_
  intro p e s m args below meth c Q Af ls hC hP hD hS hA hl hret
  have hx := hC.1
  have hb := hC.2.1
  have hown := hC.2.2.2.1
  have hg := hC.g
  have hK := hC.K
  have hl : lv_has ls 3 [(0, .ref (ad 46))] := hl
  have hq : qX [] [] F A F A := qX.rf hT
  obtain ⟨H, hH⟩ : ∃ H, H = s.heap := ⟨_, rfl⟩
  have hP : va_P D classes (wX cA ad F L A B) H := by rw [hH]; exact hP
  have hS : va_S Af s.heap H [] := by rw [hH]; exact hS
  obtain ⟨locs, hlo⟩ : ∃ q : List Loc, q = [] := ⟨_, rfl⟩
  rw [← hH, ← hlo]
  rw [← hlo] at hS
  refine lv_aload_n hx hb dX4_reachOfSource_0 rfl (lv_at hl 0 rfl) ?_
  refine va_get (ci := 4) (v := .ref (ad 51)) (C := RX4) (T := TX4) (N := 12) hx hb hg inX4 hown hK hP 46 atX_46 rfl 5 (by decide) (hg _ mw_406) (fun _ h9 => h9) rfl dX4_reachOfSource_1 ?_
  refine lv_bipush (v := 18) hx hb dX4_reachOfSource_4 (by decide) ?_
  refine va_iald hx hb hK hP 51 38 atX_51 tyX_51 (in_rg ((rg_k (by decide)) : rg 18 18 18) (by decide)) dX4_reachOfSource_6 ?_
  refine lv_topi (fun x1 e2 => ?_)
  refine lv_aload_n hx hb dX4_reachOfSource_7 rfl (lv_at hl 0 rfl) ?_
  refine va_get (ci := 4) (v := .ref (ad 52)) (C := RX4) (T := TX4) (N := 12) hx hb hg inX4 hown hK hP 46 atX_46 rfl 6 (by decide) (hg _ mw_407) (fun _ h9 => h9) rfl dX4_reachOfSource_8 ?_
  refine lv_bipush (v := 18) hx hb dX4_reachOfSource_11 (by decide) ?_
  refine va_iald hx hb hK hP 52 39 atX_52 tyX_52 (in_rg ((rg_k (by decide)) : rg 18 18 18) (by decide)) dX4_reachOfSource_13 ?_
  refine lv_topi (fun x3 e4 => ?_)
  have J23 : ∀ (a5 : Int32) (H : Heap) (locs : List Loc) (ls : Array Slot), rg a5 0 524288 → va_P D classes (wX cA ad F L A B) H → va_D Af (wX cA ad F L A B) → va_S Af s.heap H locs → lv_has ls 3 [(0, .ref (ad 46))] → W p l e rm_X4_reachOfSource_46 s m args below meth c H locs 0 0 Q (F0 m 23 ls [.int a5]) := by
    intro a5 H locs ls r6 hP hD hS hl
    refine lv_istore_n (lv' := [(1, .int a5), (0, .ref (ad 46))]) hx hb dX4_reachOfSource_23 rfl hl (by decide) rfl (fun ls hl => ?_)
    refine lv_iconst (v := 0) hx hb dX4_reachOfSource_24 (by decide) ?_
    refine lv_istore_n (lv' := [(2, .int 0), (1, .int a5), (0, .ref (ad 46))]) hx hb dX4_reachOfSource_25 rfl hl (by decide) rfl (fun ls hl => ?_)
    have J26 : ∀ (n26 : Nat) (a7 : Int32) (a9 : Int32) (H : Heap) (locs : List Loc) (ls : Array Slot), (8 - a9.toInt).toNat < n26 → rg a7 0 1048575 → rg a9 0 8 → va_P D classes (wX cA ad F L A B) H → va_D Af (wX cA ad F L A B) → va_S Af s.heap H locs → lv_has ls 3 [(0, .ref (ad 46)), (1, .int a7), (2, .int a9)] → W p l e rm_X4_reachOfSource_46 s m args below meth c H locs 0 0 Q (F0 m 26 ls []) := by
      intro n26
      induction n26 with
      | zero =>
        intro _ _ _ _ _ hn
        exact absurd hn (Nat.not_lt_zero _)
      | succ n26 ih26 =>
        intro a7 a9 H locs ls hn26 r8 r10 hP hD hS hl
        refine lv_iload_n hx hb dX4_reachOfSource_26 rfl (lv_at hl 2 rfl) ?_
        refine lv_aload_n hx hb dX4_reachOfSource_27 rfl (lv_at hl 0 rfl) ?_
        refine va_get (ci := 4) (v := .int (F 37)) (C := RX4) (T := TX4) (N := 12) hx hb hg inX4 hown hK hP 46 atX_46 rfl 10 (by decide) (hg _ mw_411) (fun _ h9 => h9) rfl dX4_reachOfSource_28 ?_
        refine lv_topi (fun x11 e12 => ?_)
        have r13 : rg x11 0 8 := rg_e e12 (hq.1.1 37)
        refine lv_icmp_ge (tgt := 61) hx hb dX4_reachOfSource_31 (by decide) (fun c14 => ?_) (fun c14 => ?_)
        · skip
          refine lv_iload_n hx hb dX4_reachOfSource_61 rfl (lv_at hl 1 rfl) ?_
          exact hret (a7) () H locs 62 ls rfl dX4_reachOfSource_62 hP hD hS r8
        · skip
          have r15 : rg a9 0 7 := rg_lt1 (iNE c14) (r10 : rg a9 0 8) (r13 : rg x11 0 8)
          have r16 : rg x11 1 8 := rg_lt2 (iNE c14) (r10 : rg a9 0 8) (r13 : rg x11 0 8)
          refine lv_aload_n hx hb dX4_reachOfSource_34 rfl (lv_at hl 0 rfl) ?_
          refine va_get (ci := 4) (v := .ref (ad 51)) (C := RX4) (T := TX4) (N := 12) hx hb hg inX4 hown hK hP 46 atX_46 rfl 5 (by decide) (hg _ mw_406) (fun _ h9 => h9) rfl dX4_reachOfSource_35 ?_
          refine lv_iload_n hx hb dX4_reachOfSource_38 rfl (lv_at hl 2 rfl) ?_
          refine va_iald hx hb hK hP 51 38 atX_51 tyX_51 (in_rg r15 (by decide)) dX4_reachOfSource_39 ?_
          refine lv_topi (fun x17 e18 => ?_)
          refine lv_aload_n hx hb dX4_reachOfSource_40 rfl (lv_at hl 0 rfl) ?_
          refine va_get (ci := 4) (v := .ref (ad 53)) (C := RX4) (T := TX4) (N := 12) hx hb hg inX4 hown hK hP 46 atX_46 rfl 7 (by decide) (hg _ mw_408) (fun _ h9 => h9) rfl dX4_reachOfSource_41 ?_
          refine lv_iload_n hx hb dX4_reachOfSource_44 rfl (lv_at hl 2 rfl) ?_
          refine va_iald hx hb hK hP 53 40 atX_53 tyX_53 (in_rg r15 (by decide)) dX4_reachOfSource_45 ?_
          refine lv_topi (fun x19 e20 => ?_)
          have J55 : ∀ (a21 : Int32) (H : Heap) (locs : List Loc) (ls : Array Slot), rg a21 0 1048575 → va_P D classes (wX cA ad F L A B) H → va_D Af (wX cA ad F L A B) → va_S Af s.heap H locs → lv_has ls 3 [(0, .ref (ad 46)), (1, .int a21), (2, .int a9)] → W p l e rm_X4_reachOfSource_46 s m args below meth c H locs 0 0 Q (F0 m 55 ls []) := by
            intro a21 H locs ls r22 hP hD hS hl
            obtain ⟨x23, e24⟩ : ∃ y : Int32, y = a9 + 1 := ⟨_, rfl⟩
            have r25 : rg x23 1 8 := rg_add e24 r15 (rg_k (by decide) : rg 1 1 1) (by decide)
            refine lv_iinc (v := x23) (lv' := [(2, .int x23), (0, .ref (ad 46)), (1, .int a21)]) hx hb dX4_reachOfSource_55 hl (k := 2) rfl (by rw [e24]; rfl) (by decide) rfl (fun ls hl => ?_)
            refine lv_goto (tgt := 26) hx hb dX4_reachOfSource_58 (by decide) ?_
            exact ih26 (a21) (x23) H locs ls (by have h0 : (1 : Int32).toInt = 1 := rfl; have h1 := ti_addk e24 r15 (by decide); have h2 : rg x23 0 8 := (rg_w r25 (by decide)); unfold rg at h2; omega) r22 (rg_w r25 (by decide)) hP hD hS (lv_sub hl [1, 2, 0] rfl)
          refine lv_icmp_ge (tgt := 55) hx hb dX4_reachOfSource_46 (by decide) (fun c26 => ?_) (fun c26 => ?_)
          · skip
            exact J55 (a7) H locs ls r8 hP hD hS (lv_sub hl [0, 1, 2] rfl)
          · skip
            have r27 : rg x17 (-2147483648) 2147483646 := rg_lt1 (iNE c26) ((rg_top _) : rg x17 (-2147483648) 2147483647) ((rg_top _) : rg x19 (-2147483648) 2147483647)
            have r28 : rg x19 (-2147483647) 2147483647 := rg_lt2 (iNE c26) ((rg_top _) : rg x17 (-2147483648) 2147483647) ((rg_top _) : rg x19 (-2147483648) 2147483647)
            refine lv_iload_n hx hb dX4_reachOfSource_49 rfl (lv_at hl 1 rfl) ?_
            refine lv_iconst (v := 1) hx hb dX4_reachOfSource_50 (by decide) ?_
            refine lv_iload_n hx hb dX4_reachOfSource_51 rfl (lv_at hl 2 rfl) ?_
            refine lv_ishl hx hb dX4_reachOfSource_52 ?_
            refine lv_topi (fun x29 e30 => ?_)
            have r31 : rg x29 1 128 := rg_shl1 e30 r15 (by decide)
            refine lv_ior hx hb dX4_reachOfSource_53 ?_
            refine lv_topi (fun x32 e33 => ?_)
            have r34 : rg x32 0 1048575 := rg_or 20 e33 r8 r31 (by decide)
            refine lv_istore_n (lv' := [(1, .int x32), (0, .ref (ad 46)), (2, .int a9)]) hx hb dX4_reachOfSource_54 rfl hl (by decide) rfl (fun ls hl => ?_)
            exact J55 (x32) H locs ls r34 hP hD hS (lv_sub hl [1, 0, 2] rfl)
    exact J26 _ (a5) (0) H locs ls (Nat.lt_succ_self _) (rg_w r6 (by decide)) (rg_k (by decide)) hP hD hS (lv_sub hl [2, 1, 0] rfl)
  refine lv_icmp_le (tgt := 22) hx hb dX4_reachOfSource_14 (by decide) (fun c35 => ?_) (fun c35 => ?_)
  · skip
    refine lv_iconst (v := 0) hx hb dX4_reachOfSource_22 (by decide) ?_
    exact J23 (0) H locs ls (rg_k (by decide)) hP hD hS (lv_sub hl [0] rfl)
  · skip
    have r36 : rg x3 (-2147483648) 2147483646 := rg_lt1 (iNE c35) ((rg_top _) : rg x3 (-2147483648) 2147483647) ((rg_top _) : rg x1 (-2147483648) 2147483647)
    have r37 : rg x1 (-2147483647) 2147483647 := rg_lt2 (iNE c35) ((rg_top _) : rg x3 (-2147483648) 2147483647) ((rg_top _) : rg x1 (-2147483648) 2147483647)
    refine lv_ldc (v := 524288) hx hb hown (hg _ mw_896) dX4_reachOfSource_17 ?_
    refine lv_goto (tgt := 23) hx hb dX4_reachOfSource_19 (by decide) ?_
    exact J23 (524288) H locs ls (rg_k (by decide)) hP hD hS (lv_sub hl [0] rfl)
abbrev rm_X4_reach_46 : Room := { frames := 1, cells := 0, slots := 0, locals := 24 }
set_option maxHeartbeats 4000000 in
set_option maxRecDepth 100000 in
theorem c_X4_reach_46 (l : Launch) (D : va_G) (cA : Nat → ClassId) (sz : Nat) (ad : Nat → Nat) (F : Nat → Int32) (L : Nat → Int64) (A : Nat → Nat → Int32) (B : Nat → Nat → Int64) (p1 : Int32) (hT : typX F A) (hp1 : rg p1 0 19) : Met l yX4_reach (Cond.code yX4_reach cX4_reach 3 (some .int) :: GW) rm_X4_reach_46 (mPc D classes (tysX cA) (wX cA ad F L A B) sz [.ref (ad 46), .int p1]) (mQi (S := Unit) D classes (tysX cA) (wX cA ad F L A B) sz (fun _ : Unit => wX cA ad F L A B) (fun r u => rg r 0 1048575 ∧ (p1.toInt < 8 → ∀ i : Nat, i < 8 → r.toBitVec.getLsbD i = false))) 0 0 (va_A (wX cA ad F L A B) sz) := by
  refine met_i (own := "ShoeingDay$Parting") (by decide +kernel) rfl (Nat.le_of_ble_eq_true rfl) ?_
  intro p e s m args below meth c Q Af ls hC hP hD hS hA hl hret
  have hx := hC.1
  have hb := hC.2.1
  have hown := hC.2.2.2.1
  have hg := hC.g
  have hK := hC.K
  have hl : lv_has ls 3 [(0, .ref (ad 46)), (1, .int p1)] := hl
  have hq : qX [] [] F A F A := qX.rf hT
  obtain ⟨H, hH⟩ : ∃ H, H = s.heap := ⟨_, rfl⟩
  have hP : va_P D classes (wX cA ad F L A B) H := by rw [hH]; exact hP
  have hS : va_S Af s.heap H [] := by rw [hH]; exact hS
  obtain ⟨locs, hlo⟩ : ∃ q : List Loc, q = [] := ⟨_, rfl⟩
  rw [← hH, ← hlo]
  rw [← hlo] at hS
  refine lv_iload_n hx hb dX4_reach_0 rfl (lv_at hl 1 rfl) ?_
  refine lv_bipush (v := 8) hx hb dX4_reach_1 (by decide) ?_
  refine lv_icmp_ge (tgt := 49) hx hb dX4_reach_3 (by decide) (fun c1 => ?_) (fun c1 => ?_)
  · skip
    have r2 : rg p1 8 19 := rg_le2 (iE c1) ((rg_k (by decide)) : rg 8 8 8) (hp1 : rg p1 0 19)
    refine lv_iload_n hx hb dX4_reach_49 rfl (lv_at hl 1 rfl) ?_
    refine lv_bipush (v := 18) hx hb dX4_reach_50 (by decide) ?_
    refine lv_icmp_ge (tgt := 64) hx hb dX4_reach_52 (by decide) (fun c4 => ?_) (fun c4 => ?_)
    · skip
      have r5 : rg p1 18 19 := rg_le2 (iE c4) ((rg_k (by decide)) : rg 18 18 18) (r2 : rg p1 8 19)
      refine lv_iload_n hx hb dX4_reach_64 rfl (lv_at hl 1 rfl) ?_
      refine lv_bipush (v := 18) hx hb dX4_reach_65 (by decide) ?_
      refine lv_icmp_ne (tgt := 77) hx hb dX4_reach_67 (by decide) (fun c7 => ?_) (fun c7 => ?_)
      · skip
        have r8 : rg p1 19 19 := (rg_ne1 c7 (r5 : rg p1 18 19) ((rg_k (by decide)) : rg 18 18 18)).1 rfl
        refine lv_aload_n hx hb dX4_reach_77 rfl (lv_at hl 0 rfl) ?_
        refine callv_i (As := []) (rest := []) hC (c_X4_reachOfDrain_46 l D cA H.size ad F L A B  hq.1) (cwV 0 hg (g_V mw_904 mw_901 mw_903 ms_34 mw_16) rfl rfl rfl (by decide +kernel) ⟨(Nat.le_of_ble_eq_true rfl), (Nat.le_of_ble_eq_true rfl)⟩) hP hD hS hA atX_46 rfl rfl hl.1 rfl (Nat.le_of_ble_eq_true rfl) dX4_reach_78 ⟨Nat.zero_le _, Nat.zero_le _⟩ (fun x10 u H locs hw hP hD hS => ?_)
        have r11 := hw
        have hP : va_P D classes (wX cA ad F L A B) H := hP
        have hD : va_D Af (wX cA ad F L A B) := hD
        exact hret (x10) () H locs 81 ls rfl dX4_reach_81 hP hD hS ⟨(rg_w r11 (by decide)), (fun h9 => absurd h9 (by have : (8 : Int32).toInt = 8 := rfl; have := ((r11 : rg x10 0 524287)).1; have := ((r11 : rg x10 0 524287)).2; have := ((r8 : rg p1 19 19)).1; have := ((r8 : rg p1 19 19)).2; have := (iE c1); have := (iE c4); have := c7; omega))⟩
      · skip
        have r9 : rg p1 18 18 := rg_eq1 c7 (r5 : rg p1 18 19) ((rg_k (by decide)) : rg 18 18 18) (by decide)
        refine lv_aload_n hx hb dX4_reach_70 rfl (lv_at hl 0 rfl) ?_
        refine callv_i (As := []) (rest := []) hC (c_X4_reachOfSource_46 l D cA H.size ad F L A B  hq.1) (cwV 0 hg (g_V mw_900 mw_897 mw_899 ms_33 mw_16) rfl rfl rfl (by decide +kernel) ⟨(Nat.le_of_ble_eq_true rfl), (Nat.le_of_ble_eq_true rfl)⟩) hP hD hS hA atX_46 rfl rfl hl.1 rfl (Nat.le_of_ble_eq_true rfl) dX4_reach_71 ⟨Nat.zero_le _, Nat.zero_le _⟩ (fun x12 u H locs hw hP hD hS => ?_)
        have r13 := hw
        have hP : va_P D classes (wX cA ad F L A B) H := hP
        have hD : va_D Af (wX cA ad F L A B) := hD
        refine lv_goto (tgt := 81) hx hb dX4_reach_74 (by decide) ?_
        exact hret (x12) () H locs 81 ls rfl dX4_reach_81 hP hD hS ⟨r13, (fun h9 => absurd h9 (by have : (8 : Int32).toInt = 8 := rfl; have := ((r13 : rg x12 0 1048575)).1; have := ((r13 : rg x12 0 1048575)).2; have := ((r9 : rg p1 18 18)).1; have := ((r9 : rg p1 18 18)).2; have := (iE c1); have := (iE c4); have := c7; omega))⟩
    · skip
      have r6 : rg p1 8 17 := rg_lt1 (iNE c4) (r2 : rg p1 8 19) ((rg_k (by decide)) : rg 18 18 18)
      refine lv_aload_n hx hb dX4_reach_55 rfl (lv_at hl 0 rfl) ?_
      refine lv_iload_n hx hb dX4_reach_56 rfl (lv_at hl 1 rfl) ?_
      refine lv_bipush (v := 8) hx hb dX4_reach_57 (by decide) ?_
      refine lv_isub hx hb dX4_reach_59 ?_
      refine lv_topi (fun x14 e15 => ?_)
      have r16 : rg x14 0 9 := rg_sub e15 r6 ((rg_k (by decide)) : rg 8 8 8) (by decide)
      refine callv_i (As := [.int x14]) (rest := []) hC (c_X4_reachOfHorse_46 l D cA H.size ad F L A B (x14) hq.1 r16) (cwV 1 hg (g_V mw_895 mw_892 mw_894 ms_32 mw_16) rfl rfl rfl (by decide +kernel) ⟨(Nat.le_of_ble_eq_true rfl), (Nat.le_of_ble_eq_true rfl)⟩) hP hD hS hA atX_46 rfl rfl hl.1 rfl (Nat.le_of_ble_eq_true rfl) dX4_reach_60 ⟨Nat.zero_le _, Nat.zero_le _⟩ (fun x17 u H locs hw hP hD hS => ?_)
      have r18 := hw
      have hP : va_P D classes (wX cA ad F L A B) H := hP
      have hD : va_D Af (wX cA ad F L A B) := hD
      exact hret (x17) () H locs 63 ls rfl dX4_reach_63 hP hD hS ⟨r18, (fun h9 => absurd h9 (by have : (8 : Int32).toInt = 8 := rfl; have := ((r16 : rg x14 0 9)).1; have := ((r16 : rg x14 0 9)).2; have := tiS e15 (r6 : rg p1 8 17) ((rg_k (by decide)) : rg (8 : Int32) 8 8) (by decide); have := ((r6 : rg p1 8 17)).1; have := ((r6 : rg p1 8 17)).2; have := ((r18 : rg x17 0 1048575)).1; have := ((r18 : rg x17 0 1048575)).2; have := (iE c1); have := (iNE c4); have : (8 : Int32).toInt = 8 := rfl; omega))⟩
  · skip
    have r3 : rg p1 0 7 := rg_lt1 (iNE c1) (hp1 : rg p1 0 19) ((rg_k (by decide)) : rg 8 8 8)
    refine lv_aload_n hx hb dX4_reach_6 rfl (lv_at hl 0 rfl) ?_
    refine va_get (ci := 4) (v := .ref (ad 50)) (C := RX4) (T := TX4) (N := 12) hx hb hg inX4 hown hK hP 46 atX_46 rfl 4 (by decide) (hg _ mw_405) (fun _ h9 => h9) rfl dX4_reach_7 ?_
    refine lv_iload_n hx hb dX4_reach_10 rfl (lv_at hl 1 rfl) ?_
    refine va_iald hx hb hK hP 50 37 atX_50 tyX_50 (in_rg r3 (by decide)) dX4_reach_11 ?_
    refine lv_topi (fun x19 e20 => ?_)
    have r21 : rg x19 0 1023 := rg_e e20 (hq.1.2 50 _)
    refine lv_aload_n hx hb dX4_reach_12 rfl (lv_at hl 0 rfl) ?_
    refine va_get (ci := 4) (v := .ref (ad 49)) (C := RX4) (T := TX4) (N := 12) hx hb hg inX4 hown hK hP 46 atX_46 rfl 3 (by decide) (hg _ mw_404) (fun _ h9 => h9) rfl dX4_reach_13 ?_
    refine lv_iload_n hx hb dX4_reach_16 rfl (lv_at hl 1 rfl) ?_
    refine va_iald hx hb hK hP 49 36 atX_49 tyX_49 (in_rg r3 (by decide)) dX4_reach_17 ?_
    refine lv_topi (fun x22 e23 => ?_)
    have r24 : rg x22 0 1023 := rg_e e23 (hq.1.2 49 _)
    refine lv_iconst (v := (-1)) hx hb dX4_reach_18 (by decide) ?_
    refine lv_ixor hx hb dX4_reach_19 ?_
    refine lv_topi (fun x25 e26 => ?_)
    refine lv_iand hx hb dX4_reach_20 ?_
    refine lv_topi (fun x27 e28 => ?_)
    have r29 : rg x27 0 1023 := rg_andl e28 r21 (by decide)
    refine lv_bipush (v := 8) hx hb dX4_reach_21 (by decide) ?_
    refine lv_ishl hx hb dX4_reach_23 ?_
    refine lv_topi (fun x30 e31 => ?_)
    have r32 : rg x30 0 261888 := rg_shlk 8 e31 r29 (by decide) (by decide)
    refine lv_istore_n (lv' := [(2, .int x30), (0, .ref (ad 46)), (1, .int p1)]) hx hb dX4_reach_24 rfl hl (by decide) rfl (fun ls hl => ?_)
    refine lv_aload_n hx hb dX4_reach_25 rfl (lv_at hl 1 rfl) ?_
    refine va_get (ci := 4) (v := .ref (ad 51)) (C := RX4) (T := TX4) (N := 12) hx hb hg inX4 hown hK hP 46 atX_46 rfl 5 (by decide) (hg _ mw_406) (fun _ h9 => h9) rfl dX4_reach_26 ?_
    refine lv_iload_n hx hb dX4_reach_29 rfl (lv_at hl 2 rfl) ?_
    refine va_iald hx hb hK hP 51 38 atX_51 tyX_51 (in_rg r3 (by decide)) dX4_reach_30 ?_
    refine lv_topi (fun x33 e34 => ?_)
    refine lv_aload_n hx hb dX4_reach_31 rfl (lv_at hl 1 rfl) ?_
    refine va_get (ci := 4) (v := .ref (ad 52)) (C := RX4) (T := TX4) (N := 12) hx hb hg inX4 hown hK hP 46 atX_46 rfl 6 (by decide) (hg _ mw_407) (fun _ h9 => h9) rfl dX4_reach_32 ?_
    refine lv_iload_n hx hb dX4_reach_35 rfl (lv_at hl 2 rfl) ?_
    refine va_iald hx hb hK hP 52 39 atX_52 tyX_52 (in_rg r3 (by decide)) dX4_reach_36 ?_
    refine lv_topi (fun x35 e36 => ?_)
    refine lv_icmp_le (tgt := 47) hx hb dX4_reach_37 (by decide) (fun c37 => ?_) (fun c37 => ?_)
    · skip
      refine lv_iload_n hx hb dX4_reach_47 rfl (lv_at hl 0 rfl) ?_
      exact hret (x30) () H locs 48 ls rfl dX4_reach_48 hP hD hS ⟨(rg_w r32 (by decide)), (fun _ => shl_low e31)⟩
    · skip
      have r38 : rg x35 (-2147483648) 2147483646 := rg_lt1 (iNE c37) ((rg_top _) : rg x35 (-2147483648) 2147483647) ((rg_top _) : rg x33 (-2147483648) 2147483647)
      have r39 : rg x33 (-2147483647) 2147483647 := rg_lt2 (iNE c37) ((rg_top _) : rg x35 (-2147483648) 2147483647) ((rg_top _) : rg x33 (-2147483648) 2147483647)
      refine lv_iload_n hx hb dX4_reach_40 rfl (lv_at hl 0 rfl) ?_
      refine lv_ldc (v := 262144) hx hb hown (hg _ mw_891) dX4_reach_41 ?_
      refine lv_ior hx hb dX4_reach_43 ?_
      refine lv_topi (fun x40 e41 => ?_)
      have r42 : rg x40 0 524287 := rg_or 19 e41 r32 ((rg_k (by decide)) : rg 262144 262144 262144) (by decide)
      refine lv_goto (tgt := 48) hx hb dX4_reach_44 (by decide) ?_
      exact hret (x40) () H locs 48 ls rfl dX4_reach_48 hP hD hS ⟨(rg_w r42 (by decide)), (fun _ => shl_low2 e31 e41)⟩
abbrev rm_X4_findWay_46 : Room := { frames := 2, cells := 0, slots := 0, locals := 46 }
set_option maxHeartbeats 4000000 in
set_option maxRecDepth 100000 in
theorem c_X4_findWay_46 (l : Launch) (D : va_G) (cA : Nat → ClassId) (sz : Nat) (ad : Nat → Nat) (F : Nat → Int32) (L : Nat → Int64) (A : Nat → Nat → Int32) (B : Nat → Nat → Int64) (p1 : Int32) (p2 : Int32) (hT : typX F A) (hp1 : rg p1 0 19) (hp2 : rg p2 8 19) : Met l yX4_findWay (Cond.code yX4_findWay cX4_findWay 9 (some .boolean) :: GW) rm_X4_findWay_46 (mPc D classes (tysX cA) (wX cA ad F L A B) sz [.ref (ad 46), .int p1, .int p2]) (mQi (S := SW) D classes (tysX cA) (wX cA ad F L A B) sz (wfX cA ad) (fun r u => qX [] [54, 55] F A u.1 u.2.2.1 ∧ rg r 0 1 ∧ (r = 0 ∨ way (u.2.2.1 54) p1 p2))) 0 0 (va_A (wX cA ad F L A B) sz) := by
  refine met_i (own := "ShoeingDay$Parting") (by decide +kernel) rfl (Nat.le_of_ble_eq_true rfl) ?_
  intro p e s m args below meth c Q Af ls hC hP hD hS hA hl hret
  have hx := hC.1
  have hb := hC.2.1
  have hown := hC.2.2.2.1
  have hg := hC.g
  have hK := hC.K
  have hl : lv_has ls 9 [(0, .ref (ad 46)), (1, .int p1), (2, .int p2)] := hl
  have hq : qX [] [54, 55] F A F A := qX.rf hT
  obtain ⟨H, hH⟩ : ∃ H, H = s.heap := ⟨_, rfl⟩
  have hP : va_P D classes (wX cA ad F L A B) H := by rw [hH]; exact hP
  have hS : va_S Af s.heap H [] := by rw [hH]; exact hS
  obtain ⟨locs, hlo⟩ : ∃ q : List Loc, q = [] := ⟨_, rfl⟩
  rw [← hH, ← hlo]
  rw [← hlo] at hS
  refine lv_iconst (v := 1) hx hb dX4_findWay_0 (by decide) ?_
  refine lv_iload_n hx hb dX4_findWay_1 rfl (lv_at hl 1 rfl) ?_
  refine lv_ishl hx hb dX4_findWay_2 ?_
  refine lv_topi (fun x1 e2 => ?_)
  have r3 : rg x1 1 524288 := rg_shl1 e2 hp1 (by decide)
  refine lv_istore_n (lv' := [(3, .int x1), (0, .ref (ad 46)), (1, .int p1), (2, .int p2)]) hx hb dX4_findWay_3 rfl hl (by decide) rfl (fun ls hl => ?_)
  refine lv_iconst (v := 1) hx hb dX4_findWay_4 (by decide) ?_
  refine lv_istore (lv' := [(4, .int 1), (3, .int x1), (0, .ref (ad 46)), (1, .int p1), (2, .int p2)]) hx hb dX4_findWay_5 hl (by decide) rfl (fun ls hl => ?_)
  refine lv_aload_n hx hb dX4_findWay_7 rfl (lv_at hl 2 rfl) ?_
  refine va_get (ci := 4) (v := .ref (ad 55)) (C := RX4) (T := TX4) (N := 12) hx hb hg inX4 hown hK hP 46 atX_46 rfl 9 (by decide) (hg _ mw_410) (fun _ h9 => h9) rfl dX4_findWay_8 ?_
  refine lv_iconst (v := 0) hx hb dX4_findWay_11 (by decide) ?_
  refine lv_iload_n hx hb dX4_findWay_12 rfl (lv_at hl 3 rfl) ?_
  refine va_iast hx hb hK hP hD hS 55 42 atX_55 tyX_55 (in_rg ((rg_k (by decide)) : rg 0 0 0) (by decide)) dX4_findWay_13 (fun H locs hP hD hS => ?_)
  have hq := hq.ast 55 ((0 : Int32)).toNatClampNeg (x := p1) (by decide) hp1
  rw [setX_55] at hP hD
  have k4 : p1 = (va_up A 55 (upd (A 55) ((0 : Int32)).toNatClampNeg p1)) 55 ((0 : Int32)).toNatClampNeg := (rdA).symm
  refine lv_iconst (v := 0) hx hb dX4_findWay_14 (by decide) ?_
  refine lv_istore (lv' := [(5, .int 0), (4, .int 1), (3, .int x1), (0, .ref (ad 46)), (1, .int p1), (2, .int p2)]) hx hb dX4_findWay_15 hl (by decide) rfl (fun ls hl => ?_)
  have J17 : ∀ (n17 : Nat) (a5 : Int32) (a7 : Int32) (a9 : Int32) (F11 : Nat → Int32) (L11 : Nat → Int64) (A11 : Nat → Nat → Int32) (B11 : Nat → Nat → Int64) (H : Heap) (locs : List Loc) (ls : Array Slot), (20 - a9.toInt).toNat < n17 → rg a5 0 1048575 → rg a7 1 20 → rg a9 0 20 → qX [] [54, 55] F A F11 A11 → (wO a5 p1 (A11 54) (A11 55) a7) → va_P D classes (wX cA ad F11 L11 A11 B11) H → va_D Af (wX cA ad F11 L11 A11 B11) → va_S Af s.heap H locs → lv_has ls 9 [(0, .ref (ad 46)), (2, .int p2), (3, .int a5), (4, .int a7), (5, .int a9)] → W p l e rm_X4_findWay_46 s m args below meth c H locs 0 0 Q (F0 m 17 ls []) := by
    intro n17
    induction n17 with
    | zero =>
      intro _ _ _ _ _ _ _ _ _ _ hn
      exact absurd hn (Nat.not_lt_zero _)
    | succ n17 ih17 =>
      intro a5 a7 a9 F11 L11 A11 B11 H locs ls hn17 r6 r8 r10 hq v12 hP hD hS hl
      refine lv_iload hx hb dX4_findWay_17 (lv_at hl 4 rfl) ?_
      refine lv_iload hx hb dX4_findWay_19 (lv_at hl 3 rfl) ?_
      refine lv_icmp_ge (tgt := 123) hx hb dX4_findWay_21 (by decide) (fun c13 => ?_) (fun c13 => ?_)
      · skip
        have r14 : rg a9 1 20 := rg_le2 (iE c13) (r8 : rg a7 1 20) (r10 : rg a9 0 20)
        have J123 : ∀ (F16 : Nat → Int32) (L16 : Nat → Int64) (A16 : Nat → Nat → Int32) (B16 : Nat → Nat → Int64) (H : Heap) (locs : List Loc) (ls : Array Slot), qX [] [54, 55] F A F16 A16 → va_P D classes (wX cA ad F16 L16 A16 B16) H → va_D Af (wX cA ad F16 L16 A16 B16) → va_S Af s.heap H locs → lv_has ls 9 [] → W p l e rm_X4_findWay_46 s m args below meth c H locs 0 0 Q (F0 m 123 ls []) := by
          intro F16 L16 A16 B16 H locs ls hq hP hD hS hl
          refine lv_iconst (v := 0) hx hb dX4_findWay_123 (by decide) ?_
          exact hret (0) (F16, L16, A16, B16) H locs 124 ls rfl dX4_findWay_124 hP hD hS ⟨hq, (rg_k (by decide)), (Or.inl rfl)⟩
        exact J123 (F11) (L11) (A11) (B11) H locs ls hq hP hD hS (lv_sub hl [] rfl)
      · skip
        have r15 : rg a9 0 19 := rg_lt1 (iNE c13) (r10 : rg a9 0 20) (r8 : rg a7 1 20)
        refine lv_iload hx hb dX4_findWay_24 (lv_at hl 4 rfl) ?_
        refine lv_bipush (v := 20) hx hb dX4_findWay_26 (by decide) ?_
        refine lv_icmp_ge (tgt := 123) hx hb dX4_findWay_28 (by decide) (fun c17 => ?_) (fun c17 => ?_)
        · skip
          exact rg_emp (rg_le1 (iE c17) ((rg_k (by decide)) : rg 20 20 20) (r15 : rg a9 0 19)) (by decide)
        · skip
          refine lv_aload_n hx hb dX4_findWay_31 rfl (lv_at hl 0 rfl) ?_
          refine va_get (ci := 4) (v := .ref (ad 55)) (C := RX4) (T := TX4) (N := 12) hx hb hg inX4 hown hK hP 46 atX_46 rfl 9 (by decide) (hg _ mw_410) (fun _ h9 => h9) rfl dX4_findWay_32 ?_
          refine lv_iload hx hb dX4_findWay_35 (lv_at hl 4 rfl) ?_
          refine va_iald hx hb hK hP 55 42 atX_55 tyX_55 (in_rg r15 (by decide)) dX4_findWay_37 ?_
          refine lv_topi (fun x18 e19 => ?_)
          have r20 : rg x18 0 19 := rg_e e19 (hq.1.2 55 _)
          refine lv_istore (lv' := [(6, .int x18), (0, .ref (ad 46)), (2, .int p2), (3, .int a5), (4, .int a7), (5, .int a9)]) hx hb dX4_findWay_38 hl (by decide) rfl (fun ls hl => ?_)
          refine lv_aload_n hx hb dX4_findWay_40 rfl (lv_at hl 1 rfl) ?_
          refine lv_iload hx hb dX4_findWay_41 (lv_at hl 0 rfl) ?_
          refine callv_i (As := [.int x18]) (rest := []) hC (c_X4_reach_46 l D cA H.size ad F11 L11 A11 B11 (x18) hq.1 r20) (cwV 1 hg (g_V mw_890 mw_887 mw_889 ms_31 mw_16) rfl rfl rfl (by decide +kernel) ⟨(Nat.le_of_ble_eq_true rfl), (Nat.le_of_ble_eq_true rfl)⟩) hP hD hS hA atX_46 rfl rfl hl.1 rfl (Nat.le_of_ble_eq_true rfl) dX4_findWay_43 ⟨Nat.zero_le _, Nat.zero_le _⟩ (fun x21 u H locs hw hP hD hS => ?_)
          obtain ⟨r22, g23⟩ := hw
          have hP : va_P D classes (wX cA ad F11 L11 A11 B11) H := hP
          have hD : va_D Af (wX cA ad F11 L11 A11 B11) := hD
          refine lv_iload_n hx hb dX4_findWay_46 rfl (lv_at hl 3 rfl) ?_
          refine lv_iconst (v := (-1)) hx hb dX4_findWay_47 (by decide) ?_
          refine lv_ixor hx hb dX4_findWay_48 ?_
          refine lv_topi (fun x24 e25 => ?_)
          refine lv_iand hx hb dX4_findWay_49 ?_
          refine lv_topi (fun x26 e27 => ?_)
          have r28 : rg x26 0 1048575 := rg_andl e27 r22 (by decide)
          refine lv_istore (lv' := [(7, .int x26), (6, .int x18), (0, .ref (ad 46)), (2, .int p2), (3, .int a5), (4, .int a7), (5, .int a9)]) hx hb dX4_findWay_50 hl (by decide) rfl (fun ls hl => ?_)
          refine lv_iload_n hx hb dX4_findWay_52 rfl (lv_at hl 4 rfl) ?_
          refine lv_iload hx hb dX4_findWay_53 (lv_at hl 0 rfl) ?_
          refine lv_ior hx hb dX4_findWay_55 ?_
          refine lv_topi (fun x29 e30 => ?_)
          have r31 : rg x29 0 1048575 := rg_or 20 e30 r6 r28 (by decide)
          refine lv_istore_n (lv' := [(3, .int x29), (7, .int x26), (6, .int x18), (0, .ref (ad 46)), (2, .int p2), (4, .int a7), (5, .int a9)]) hx hb dX4_findWay_56 rfl hl (by decide) rfl (fun ls hl => ?_)
          have J57 : ∀ (n57 : Nat) (a32 : Int32) (a34 : Int32) (F36 : Nat → Int32) (L36 : Nat → Int64) (A36 : Nat → Nat → Int32) (B36 : Nat → Nat → Int64) (H : Heap) (locs : List Loc) (ls : Array Slot), a34.toInt.toNat < n57 → rg a32 1 20 → rg a34 0 1048575 → qX [] [54, 55] F A F36 A36 → (wI x29 a34 x18 p1 (A36 54) (A36 55) a32) → va_P D classes (wX cA ad F36 L36 A36 B36) H → va_D Af (wX cA ad F36 L36 A36 B36) → va_S Af s.heap H locs → lv_has ls 9 [(0, .ref (ad 46)), (2, .int p2), (3, .int x29), (4, .int a32), (5, .int a9), (6, .int x18), (7, .int a34)] → W p l e rm_X4_findWay_46 s m args below meth c H locs 0 0 Q (F0 m 57 ls []) := by
            intro n57
            induction n57 with
            | zero =>
              intro _ _ _ _ _ _ _ _ _ hn
              exact absurd hn (Nat.not_lt_zero _)
            | succ n57 ih57 =>
              intro a32 a34 F36 L36 A36 B36 H locs ls hn57 r33 r35 hq v37 hP hD hS hl
              refine lv_iload hx hb dX4_findWay_57 (lv_at hl 6 rfl) ?_
              refine lv_if_eq (tgt := 117) hx hb dX4_findWay_59 (by decide) (fun c38 => ?_) (fun c38 => ?_)
              · skip
                have r39 : rg a34 0 0 := rg_eq1 c38 (r35 : rg a34 0 1048575) ((rg_k (by decide)) : rg 0 0 0) (by decide)
                obtain ⟨x41, e42⟩ : ∃ y : Int32, y = a9 + 1 := ⟨_, rfl⟩
                have r43 : rg x41 1 20 := rg_add e42 r15 (rg_k (by decide) : rg 1 1 1) (by decide)
                refine lv_iinc (v := x41) (lv' := [(5, .int x41), (0, .ref (ad 46)), (2, .int p2), (3, .int x29), (4, .int a32), (6, .int x18), (7, .int a34)]) hx hb dX4_findWay_117 hl (k := 4) rfl (by rw [e42]; rfl) (by decide) rfl (fun ls hl => ?_)
                refine lv_goto (tgt := 17) hx hb dX4_findWay_120 (by decide) ?_
                exact ih17 (x29) (a32) (x41) (F36) (L36) (A36) (B36) H locs ls (by have h0 : (1 : Int32).toInt = 1 := rfl; have h1 := ti_addk e42 r15 (by decide); have h2 : rg x41 0 20 := (rg_w r43 (by decide)); unfold rg at h2; omega) r31 r33 (rg_w r43 (by decide)) hq (wI_0 v37 c38) hP hD hS (lv_sub hl [1, 2, 3, 4, 0] rfl)
              · skip
                have r40 : rg a34 1 1048575 := (rg_ne1 c38 (r35 : rg a34 0 1048575) ((rg_k (by decide)) : rg 0 0 0)).1 rfl
                refine lv_iload hx hb dX4_findWay_62 (lv_at hl 6 rfl) ?_
                refine calln_i (As := [.int a34]) (rest := []) hC (c_X11_lowest l D (tysX cA) (wX cA ad F36 L36 A36 B36) H.size (a34)) ⟨va_cnB 1 hg (g_N mw_799) rfl rfl rfl (mn_16 hC.N) (hg _ mw_1) (by decide +kernel) ⟨(Nat.le_of_ble_eq_true rfl), (Nat.le_of_ble_eq_true rfl)⟩, (hg _ mw_798), trivial⟩ hP hD hS hA rfl hl.1 rfl (Nat.le_of_ble_eq_true rfl) dX4_findWay_64 ⟨Nat.zero_le _, Nat.zero_le _⟩ (fun x44 u H locs hw hP hD hS => ?_)
                have e45 := hw
                have hP : va_P D classes (wX cA ad F36 L36 A36 B36) H := hP
                have hD : va_D Af (wX cA ad F36 L36 A36 B36) := hD
                have r46 : rg x44 0 19 := rg_low hw r40 (k := 20) (by decide)
                refine lv_istore (lv' := [(8, .int x44), (0, .ref (ad 46)), (2, .int p2), (3, .int x29), (4, .int a32), (5, .int a9), (6, .int x18), (7, .int a34)]) hx hb dX4_findWay_67 hl (by decide) rfl (fun ls hl => ?_)
                refine lv_aload_n hx hb dX4_findWay_69 rfl (lv_at hl 1 rfl) ?_
                refine va_get (ci := 4) (v := .ref (ad 54)) (C := RX4) (T := TX4) (N := 12) hx hb hg inX4 hown hK hP 46 atX_46 rfl 8 (by decide) (hg _ mw_409) (fun _ h9 => h9) rfl dX4_findWay_70 ?_
                refine lv_iload hx hb dX4_findWay_73 (lv_at hl 0 rfl) ?_
                refine lv_iload hx hb dX4_findWay_75 (lv_at hl 6 rfl) ?_
                refine va_iast hx hb hK hP hD hS 54 41 atX_54 tyX_54 (in_rg r46 (by decide)) dX4_findWay_77 (fun H locs hP hD hS => ?_)
                have hq := hq.ast 54 (x44).toNatClampNeg (x := x18) (by decide) r20
                rw [setX_54] at hP hD
                have k47 : x18 = (va_up A36 54 (upd (A36 54) (x44).toNatClampNeg x18)) 54 (x44).toNatClampNeg := (rdA).symm
                refine lv_iload hx hb dX4_findWay_78 (lv_at hl 0 rfl) ?_
                refine lv_iload_n hx hb dX4_findWay_80 rfl (lv_at hl 2 rfl) ?_
                refine lv_icmp_ne (tgt := 86) hx hb dX4_findWay_81 (by decide) (fun c48 => ?_) (fun c48 => ?_)
                · skip
                  refine lv_iload hx hb dX4_findWay_86 (lv_at hl 4 rfl) ?_
                  refine lv_bipush (v := 20) hx hb dX4_findWay_88 (by decide) ?_
                  have J105 : ∀ (a50 : Int32) (F52 : Nat → Int32) (L52 : Nat → Int64) (A52 : Nat → Nat → Int32) (B52 : Nat → Nat → Int64) (H : Heap) (locs : List Loc) (ls : Array Slot), rg a50 2 20 → qX [] [54, 55] F A F52 A52 → (wI x29 (a34 &&& (a34 - 1)) x18 p1 (A52 54) (A52 55) a50) → va_P D classes (wX cA ad F52 L52 A52 B52) H → va_D Af (wX cA ad F52 L52 A52 B52) → va_S Af s.heap H locs → lv_has ls 9 [(0, .ref (ad 46)), (2, .int p2), (3, .int x29), (4, .int a50), (5, .int a9), (6, .int x18), (7, .int a34)] → W p l e rm_X4_findWay_46 s m args below meth c H locs 0 0 Q (F0 m 105 ls []) := by
                    intro a50 F52 L52 A52 B52 H locs ls r51 hq v53 hP hD hS hl
                    refine lv_iload hx hb dX4_findWay_105 (lv_at hl 6 rfl) ?_
                    refine lv_iload hx hb dX4_findWay_107 (lv_at hl 6 rfl) ?_
                    refine lv_iconst (v := 1) hx hb dX4_findWay_109 (by decide) ?_
                    refine lv_isub hx hb dX4_findWay_110 ?_
                    refine lv_topi (fun x54 e55 => ?_)
                    have r56 : rg x54 0 1048574 := rg_sub e55 r40 ((rg_k (by decide)) : rg 1 1 1) (by decide)
                    refine lv_iand hx hb dX4_findWay_111 ?_
                    refine lv_topi (fun x57 e58 => ?_)
                    have r59 : rg x57 0 1048574 := rg_andr e58 r56 (by decide)
                    refine lv_istore (lv' := [(7, .int x57), (0, .ref (ad 46)), (2, .int p2), (3, .int x29), (4, .int a50), (5, .int a9), (6, .int x18)]) hx hb dX4_findWay_112 hl (by decide) rfl (fun ls hl => ?_)
                    refine lv_goto (tgt := 57) hx hb dX4_findWay_114 (by decide) ?_
                    exact ih57 (a50) (x57) (F52) (L52) (A52) (B52) H locs ls (by have h1 := mask_less (show x57 = a34 &&& (a34 - 1) by rw [← e55]; exact e58) r40 (by decide); omega) (rg_w r51 (by decide)) (rg_w r59 (by decide)) hq (by rw [e58, e55]; exact v53) hP hD hS (lv_sub hl [1, 2, 3, 4, 5, 6, 0] rfl)
                  refine lv_icmp_ge (tgt := 105) hx hb dX4_findWay_90 (by decide) (fun c60 => ?_) (fun c60 => ?_)
                  · skip
                    have r61 : rg a32 20 20 := rg_le2 (iE c60) ((rg_k (by decide)) : rg 20 20 20) (r33 : rg a32 1 20)
                    exact J105 (a32) (F36) (L36) ((va_up A36 54 (upd (A36 54) (x44).toNatClampNeg x18))) (B36) H locs ls (rg_w r61 (by decide)) hq (w_next v37 e45 (r40 : rg a34 1 1048575) (by decide)) hP hD hS (lv_sub hl [1, 2, 3, 4, 5, 6, 7] rfl)
                  · skip
                    have r62 : rg a32 1 19 := rg_lt1 (iNE c60) (r33 : rg a32 1 20) ((rg_k (by decide)) : rg 20 20 20)
                    refine lv_aload_n hx hb dX4_findWay_93 rfl (lv_at hl 1 rfl) ?_
                    refine va_get (ci := 4) (v := .ref (ad 55)) (C := RX4) (T := TX4) (N := 12) hx hb hg inX4 hown hK hP 46 atX_46 rfl 9 (by decide) (hg _ mw_410) (fun _ h9 => h9) rfl dX4_findWay_94 ?_
                    refine lv_iload hx hb dX4_findWay_97 (lv_at hl 4 rfl) ?_
                    refine lv_iload hx hb dX4_findWay_99 (lv_at hl 0 rfl) ?_
                    refine va_iast hx hb hK hP hD hS 55 42 atX_55 tyX_55 (in_rg r62 (by decide)) dX4_findWay_101 (fun H locs hP hD hS => ?_)
                    have hq := hq.ast 55 (a32).toNatClampNeg (x := x44) (by decide) r46
                    rw [setX_55] at hP hD
                    have k63 : x44 = (va_up (va_up A36 54 (upd (A36 54) (x44).toNatClampNeg x18)) 55 (upd ((va_up A36 54 (upd (A36 54) (x44).toNatClampNeg x18)) 55) (a32).toNatClampNeg x44)) 55 (a32).toNatClampNeg := (rdA).symm
                    obtain ⟨x64, e65⟩ : ∃ y : Int32, y = a32 + 1 := ⟨_, rfl⟩
                    have r66 : rg x64 2 20 := rg_add e65 r62 (rg_k (by decide) : rg 1 1 1) (by decide)
                    refine lv_iinc (v := x64) (lv' := [(4, .int x64), (8, .int x44), (0, .ref (ad 46)), (2, .int p2), (3, .int x29), (5, .int a9), (6, .int x18), (7, .int a34)]) hx hb dX4_findWay_102 hl (k := 4) rfl (by rw [e65]; rfl) (by decide) rfl (fun ls hl => ?_)
                    exact J105 (x64) (F36) (L36) ((va_up (va_up A36 54 (upd (A36 54) (x44).toNatClampNeg x18)) 55 (upd ((va_up A36 54 (upd (A36 54) (x44).toNatClampNeg x18)) 55) (a32).toNatClampNeg x44))) (B36) H locs ls r66 hq (w_push (w_next v37 e45 (r40 : rg a34 1 1048575) (by decide)) e45 (r40 : rg a34 1 1048575) (by decide) (w_bit v37 e45 (r40 : rg a34 1 1048575) (by decide)) (rg_w r62 (by decide)) e65) hP hD hS (lv_sub hl [2, 3, 4, 0, 5, 6, 7] rfl)
                · skip
                  have r49 : rg x44 8 19 := rg_eq1 c48 (r46 : rg x44 0 19) (hp2 : rg p2 8 19) (by decide)
                  refine lv_iconst (v := 1) hx hb dX4_findWay_84 (by decide) ?_
                  exact hret (1) (F36, L36, (va_up A36 54 (upd (A36 54) (x44).toNatClampNeg x18)), B36) H locs 85 ls rfl dX4_findWay_85 hP hD hS ⟨hq, (rg_k (by decide)), (Or.inr (w_way v37 e45 (r40 : rg a34 1 1048575) (by decide) c48))⟩
          exact J57 _ (a7) (x26) (F11) (L11) (A11) (B11) H locs ls (Nat.lt_succ_self _) r8 r28 hq (wI_1 v12 e19 (r15 : rg a9 0 19) (by decide) (iNE c13) e25 e27 e30 g23) hP hD hS (lv_sub hl [3, 4, 0, 5, 6, 2, 1] rfl)
  exact J17 _ (x1) (1) (0) (F) (L) ((va_up A 55 (upd (A 55) ((0 : Int32)).toNatClampNeg p1))) (B) H locs ls (Nat.lt_succ_self _) (rg_w r3 (by decide)) (rg_k (by decide)) (rg_k (by decide)) hq (wO_0 hp1 e2) hP hD hS (lv_sub hl [3, 5, 2, 1, 0] rfl)
abbrev rm_X4_step_46 : Room := { frames := 0, cells := 0, slots := 0, locals := 0 }
set_option maxHeartbeats 4000000 in
set_option maxRecDepth 100000 in
theorem c_X4_step_46 (l : Launch) (D : va_G) (cA : Nat → ClassId) (sz : Nat) (ad : Nat → Nat) (F : Nat → Int32) (L : Nat → Int64) (A : Nat → Nat → Int32) (B : Nat → Nat → Int64) (p1 : Int32) (p2 : Int32) (hT : typX F A) (hp1 : rg p1 0 19) (hp2 : rg p2 0 19) (hE : okE p1 p2) : Met l yX4_step (Cond.code yX4_step cX4_step 3 none :: GW) rm_X4_step_46 (mPc D classes (tysX cA) (wX cA ad F L A B) sz [.ref (ad 46), .int p1, .int p2]) (mQv (S := SW) D classes (tysX cA) (wX cA ad F L A B) sz (wfX cA ad) (fun u => qX [] [49, 51] F A u.1 u.2.2.1)) 0 0 (va_A (wX cA ad F L A B) sz) := by
  refine met_v (own := "ShoeingDay$Parting") (by decide +kernel) rfl (Nat.le_of_ble_eq_true rfl) ?_
  intro p e s m args below meth c Q Af ls hC hP hD hS hA hl hret
  have hx := hC.1
  have hb := hC.2.1
  have hown := hC.2.2.2.1
  have hg := hC.g
  have hK := hC.K
  have hl : lv_has ls 3 [(0, .ref (ad 46)), (1, .int p1), (2, .int p2)] := hl
  have hq : qX [] [49, 51] F A F A := qX.rf hT
  obtain ⟨H, hH⟩ : ∃ H, H = s.heap := ⟨_, rfl⟩
  have hP : va_P D classes (wX cA ad F L A B) H := by rw [hH]; exact hP
  have hS : va_S Af s.heap H [] := by rw [hH]; exact hS
  obtain ⟨locs, hlo⟩ : ∃ q : List Loc, q = [] := ⟨_, rfl⟩
  rw [← hH, ← hlo]
  rw [← hlo] at hS
  refine lv_iload_n hx hb dX4_step_0 rfl (lv_at hl 1 rfl) ?_
  refine lv_bipush (v := 8) hx hb dX4_step_1 (by decide) ?_
  have J30 : ∀ (F1 : Nat → Int32) (L1 : Nat → Int64) (A1 : Nat → Nat → Int32) (B1 : Nat → Nat → Int64) (H : Heap) (locs : List Loc) (ls : Array Slot), qX [] [49, 51] F A F1 A1 → va_P D classes (wX cA ad F1 L1 A1 B1) H → va_D Af (wX cA ad F1 L1 A1 B1) → va_S Af s.heap H locs → lv_has ls 3 [(0, .ref (ad 46)), (1, .int p1), (2, .int p2)] → W p l e rm_X4_step_46 s m args below meth c H locs 0 0 Q (F0 m 30 ls []) := by
    intro F1 L1 A1 B1 H locs ls hq hP hD hS hl
    refine lv_iload_n hx hb dX4_step_30 rfl (lv_at hl 1 rfl) ?_
    refine lv_bipush (v := 18) hx hb dX4_step_31 (by decide) ?_
    have J62 : ∀ (F2 : Nat → Int32) (L2 : Nat → Int64) (A2 : Nat → Nat → Int32) (B2 : Nat → Nat → Int64) (H : Heap) (locs : List Loc) (ls : Array Slot), qX [] [49, 51] F A F2 A2 → va_P D classes (wX cA ad F2 L2 A2 B2) H → va_D Af (wX cA ad F2 L2 A2 B2) → va_S Af s.heap H locs → lv_has ls 3 [(0, .ref (ad 46)), (1, .int p1), (2, .int p2)] → W p l e rm_X4_step_46 s m args below meth c H locs 0 0 Q (F0 m 62 ls []) := by
      intro F2 L2 A2 B2 H locs ls hq hP hD hS hl
      refine lv_iload_n hx hb dX4_step_62 rfl (lv_at hl 1 rfl) ?_
      refine lv_bipush (v := 18) hx hb dX4_step_63 (by decide) ?_
      refine lv_icmp_ge (tgt := 91) hx hb dX4_step_65 (by decide) (fun c3 => ?_) (fun c3 => ?_)
      · skip
        have r4 : rg p1 18 19 := rg_le2 (iE c3) ((rg_k (by decide)) : rg 18 18 18) (hp1 : rg p1 0 19)
        refine lv_iload_n hx hb dX4_step_91 rfl (lv_at hl 2 rfl) ?_
        refine lv_bipush (v := 18) hx hb dX4_step_92 (by decide) ?_
        refine lv_icmp_ge (tgt := 120) hx hb dX4_step_94 (by decide) (fun c6 => ?_) (fun c6 => ?_)
        · skip
          have r7 : rg p2 18 19 := rg_le2 (iE c6) ((rg_k (by decide)) : rg 18 18 18) (hp2 : rg p2 0 19)
          refine lv_aload_n hx hb dX4_step_120 rfl (lv_at hl 0 rfl) ?_
          refine va_get (ci := 4) (v := .ref (ad 51)) (C := RX4) (T := TX4) (N := 12) hx hb hg inX4 hown hK hP 46 atX_46 rfl 5 (by decide) (hg _ mw_406) (fun _ h9 => h9) rfl dX4_step_121 ?_
          refine lv_bipush (v := 18) hx hb dX4_step_124 (by decide) ?_
          refine lv_dup2_11 hx hb dX4_step_126 rfl rfl ?_
          refine va_iald hx hb hK hP 51 38 atX_51 tyX_51 (in_rg ((rg_k (by decide)) : rg 18 18 18) (by decide)) dX4_step_127 ?_
          refine lv_topi (fun x9 e10 => ?_)
          refine lv_iload_n hx hb dX4_step_128 rfl (lv_at hl 2 rfl) ?_
          refine lv_bipush (v := 18) hx hb dX4_step_129 (by decide) ?_
          have J139 : ∀ (a11 : Int32) (F13 : Nat → Int32) (L13 : Nat → Int64) (A13 : Nat → Nat → Int32) (B13 : Nat → Nat → Int64) (H : Heap) (locs : List Loc) (ls : Array Slot), rg a11 (-1) 1 → qX [] [49, 51] F A F13 A13 → va_P D classes (wX cA ad F13 L13 A13 B13) H → va_D Af (wX cA ad F13 L13 A13 B13) → va_S Af s.heap H locs → lv_has ls 3 [] → W p l e rm_X4_step_46 s m args below meth c H locs 0 0 Q (F0 m 139 ls [.int a11, .int x9, .int 18, .ref (ad 51)]) := by
            intro a11 F13 L13 A13 B13 H locs ls r12 hq hP hD hS hl
            refine lv_iadd hx hb dX4_step_139 ?_
            refine lv_topi (fun x14 e15 => ?_)
            refine va_iast hx hb hK hP hD hS 51 38 atX_51 tyX_51 (in_rg ((rg_k (by decide)) : rg 18 18 18) (by decide)) dX4_step_140 (fun H locs hP hD hS => ?_)
            have hq := hq.ast 51 ((18 : Int32)).toNatClampNeg (x := x14) (by decide) (rg_top _)
            rw [setX_51] at hP hD
            have k16 : x14 = (va_up A13 51 (upd (A13 51) ((18 : Int32)).toNatClampNeg x14)) 51 ((18 : Int32)).toNatClampNeg := (rdA).symm
            exact hret (F13, L13, (va_up A13 51 (upd (A13 51) ((18 : Int32)).toNatClampNeg x14)), B13) H locs 141 ls dX4_step_141 hP hD hS hq
          refine lv_icmp_ne (tgt := 138) hx hb dX4_step_131 (by decide) (fun c17 => ?_) (fun c17 => ?_)
          · skip
            have r18 : rg p2 19 19 := (rg_ne1 c17 (r7 : rg p2 18 19) ((rg_k (by decide)) : rg 18 18 18)).1 rfl
            refine lv_iconst (v := (-1)) hx hb dX4_step_138 (by decide) ?_
            exact J139 ((-1)) (F2) (L2) (A2) (B2) H locs ls (rg_k (by decide)) hq hP hD hS (lv_sub hl [] rfl)
          · skip
            have r19 : rg p2 18 18 := rg_eq1 c17 (r7 : rg p2 18 19) ((rg_k (by decide)) : rg 18 18 18) (by decide)
            refine lv_iconst (v := 1) hx hb dX4_step_134 (by decide) ?_
            refine lv_goto (tgt := 139) hx hb dX4_step_135 (by decide) ?_
            exact J139 (1) (F2) (L2) (A2) (B2) H locs ls (rg_k (by decide)) hq hP hD hS (lv_sub hl [] rfl)
        · skip
          have r8 : rg p2 0 17 := rg_lt1 (iNE c6) (hp2 : rg p2 0 19) ((rg_k (by decide)) : rg 18 18 18)
          refine lv_aload_n hx hb dX4_step_97 rfl (lv_at hl 0 rfl) ?_
          refine va_get (ci := 4) (v := .ref (ad 51)) (C := RX4) (T := TX4) (N := 12) hx hb hg inX4 hown hK hP 46 atX_46 rfl 5 (by decide) (hg _ mw_406) (fun _ h9 => h9) rfl dX4_step_98 ?_
          refine lv_iload_n hx hb dX4_step_101 rfl (lv_at hl 2 rfl) ?_
          refine lv_dup2_11 hx hb dX4_step_102 rfl rfl ?_
          refine va_iald hx hb hK hP 51 38 atX_51 tyX_51 (in_rg r8 (by decide)) dX4_step_103 ?_
          refine lv_topi (fun x20 e21 => ?_)
          refine lv_iload_n hx hb dX4_step_104 rfl (lv_at hl 1 rfl) ?_
          refine lv_bipush (v := 18) hx hb dX4_step_105 (by decide) ?_
          have J115 : ∀ (a22 : Int32) (F24 : Nat → Int32) (L24 : Nat → Int64) (A24 : Nat → Nat → Int32) (B24 : Nat → Nat → Int64) (H : Heap) (locs : List Loc) (ls : Array Slot), rg a22 (-1) 1 → qX [] [49, 51] F A F24 A24 → va_P D classes (wX cA ad F24 L24 A24 B24) H → va_D Af (wX cA ad F24 L24 A24 B24) → va_S Af s.heap H locs → lv_has ls 3 [] → W p l e rm_X4_step_46 s m args below meth c H locs 0 0 Q (F0 m 115 ls [.int a22, .int x20, .int p2, .ref (ad 51)]) := by
            intro a22 F24 L24 A24 B24 H locs ls r23 hq hP hD hS hl
            refine lv_iadd hx hb dX4_step_115 ?_
            refine lv_topi (fun x25 e26 => ?_)
            refine va_iast hx hb hK hP hD hS 51 38 atX_51 tyX_51 (in_rg r8 (by decide)) dX4_step_116 (fun H locs hP hD hS => ?_)
            have hq := hq.ast 51 (p2).toNatClampNeg (x := x25) (by decide) (rg_top _)
            rw [setX_51] at hP hD
            have k27 : x25 = (va_up A24 51 (upd (A24 51) (p2).toNatClampNeg x25)) 51 (p2).toNatClampNeg := (rdA).symm
            refine lv_goto (tgt := 141) hx hb dX4_step_117 (by decide) ?_
            exact hret (F24, L24, (va_up A24 51 (upd (A24 51) (p2).toNatClampNeg x25)), B24) H locs 141 ls dX4_step_141 hP hD hS hq
          refine lv_icmp_ne (tgt := 114) hx hb dX4_step_107 (by decide) (fun c28 => ?_) (fun c28 => ?_)
          · skip
            have r29 : rg p1 19 19 := (rg_ne1 c28 (r4 : rg p1 18 19) ((rg_k (by decide)) : rg 18 18 18)).1 rfl
            refine lv_iconst (v := (-1)) hx hb dX4_step_114 (by decide) ?_
            exact J115 ((-1)) (F2) (L2) (A2) (B2) H locs ls (rg_k (by decide)) hq hP hD hS (lv_sub hl [] rfl)
          · skip
            have r30 : rg p1 18 18 := rg_eq1 c28 (r4 : rg p1 18 19) ((rg_k (by decide)) : rg 18 18 18) (by decide)
            refine lv_iconst (v := 1) hx hb dX4_step_110 (by decide) ?_
            refine lv_goto (tgt := 115) hx hb dX4_step_111 (by decide) ?_
            exact J115 (1) (F2) (L2) (A2) (B2) H locs ls (rg_k (by decide)) hq hP hD hS (lv_sub hl [] rfl)
      · skip
        have r5 : rg p1 0 17 := rg_lt1 (iNE c3) (hp1 : rg p1 0 19) ((rg_k (by decide)) : rg 18 18 18)
        refine lv_aload_n hx hb dX4_step_68 rfl (lv_at hl 0 rfl) ?_
        refine va_get (ci := 4) (v := .ref (ad 51)) (C := RX4) (T := TX4) (N := 12) hx hb hg inX4 hown hK hP 46 atX_46 rfl 5 (by decide) (hg _ mw_406) (fun _ h9 => h9) rfl dX4_step_69 ?_
        refine lv_iload_n hx hb dX4_step_72 rfl (lv_at hl 1 rfl) ?_
        refine lv_dup2_11 hx hb dX4_step_73 rfl rfl ?_
        refine va_iald hx hb hK hP 51 38 atX_51 tyX_51 (in_rg r5 (by decide)) dX4_step_74 ?_
        refine lv_topi (fun x31 e32 => ?_)
        refine lv_iload_n hx hb dX4_step_75 rfl (lv_at hl 2 rfl) ?_
        refine lv_bipush (v := 19) hx hb dX4_step_76 (by decide) ?_
        have J86 : ∀ (a33 : Int32) (F35 : Nat → Int32) (L35 : Nat → Int64) (A35 : Nat → Nat → Int32) (B35 : Nat → Nat → Int64) (H : Heap) (locs : List Loc) (ls : Array Slot), rg a33 (-1) 1 → qX [] [49, 51] F A F35 A35 → va_P D classes (wX cA ad F35 L35 A35 B35) H → va_D Af (wX cA ad F35 L35 A35 B35) → va_S Af s.heap H locs → lv_has ls 3 [] → W p l e rm_X4_step_46 s m args below meth c H locs 0 0 Q (F0 m 86 ls [.int a33, .int x31, .int p1, .ref (ad 51)]) := by
          intro a33 F35 L35 A35 B35 H locs ls r34 hq hP hD hS hl
          refine lv_iadd hx hb dX4_step_86 ?_
          refine lv_topi (fun x36 e37 => ?_)
          refine va_iast hx hb hK hP hD hS 51 38 atX_51 tyX_51 (in_rg r5 (by decide)) dX4_step_87 (fun H locs hP hD hS => ?_)
          have hq := hq.ast 51 (p1).toNatClampNeg (x := x36) (by decide) (rg_top _)
          rw [setX_51] at hP hD
          have k38 : x36 = (va_up A35 51 (upd (A35 51) (p1).toNatClampNeg x36)) 51 (p1).toNatClampNeg := (rdA).symm
          refine lv_goto (tgt := 141) hx hb dX4_step_88 (by decide) ?_
          exact hret (F35, L35, (va_up A35 51 (upd (A35 51) (p1).toNatClampNeg x36)), B35) H locs 141 ls dX4_step_141 hP hD hS hq
        refine lv_icmp_ne (tgt := 85) hx hb dX4_step_78 (by decide) (fun c39 => ?_) (fun c39 => ?_)
        · skip
          have r40 : rg p2 0 18 := (rg_ne1 c39 (hp2 : rg p2 0 19) ((rg_k (by decide)) : rg 19 19 19)).2 rfl
          refine lv_iconst (v := (-1)) hx hb dX4_step_85 (by decide) ?_
          exact J86 ((-1)) (F2) (L2) (A2) (B2) H locs ls (rg_k (by decide)) hq hP hD hS (lv_sub hl [] rfl)
        · skip
          have r41 : rg p2 19 19 := rg_eq1 c39 (hp2 : rg p2 0 19) ((rg_k (by decide)) : rg 19 19 19) (by decide)
          refine lv_iconst (v := 1) hx hb dX4_step_81 (by decide) ?_
          refine lv_goto (tgt := 86) hx hb dX4_step_82 (by decide) ?_
          exact J86 (1) (F2) (L2) (A2) (B2) H locs ls (rg_k (by decide)) hq hP hD hS (lv_sub hl [] rfl)
    refine lv_icmp_ge (tgt := 62) hx hb dX4_step_33 (by decide) (fun c42 => ?_) (fun c42 => ?_)
    · skip
      have r43 : rg p1 18 19 := rg_le2 (iE c42) ((rg_k (by decide)) : rg 18 18 18) (hp1 : rg p1 0 19)
      exact J62 (F1) (L1) (A1) (B1) H locs ls hq hP hD hS (lv_sub hl [0, 1, 2] rfl)
    · skip
      have r44 : rg p1 0 17 := rg_lt1 (iNE c42) (hp1 : rg p1 0 19) ((rg_k (by decide)) : rg 18 18 18)
      refine lv_iload_n hx hb dX4_step_36 rfl (lv_at hl 2 rfl) ?_
      refine lv_bipush (v := 8) hx hb dX4_step_37 (by decide) ?_
      refine lv_icmp_ge (tgt := 62) hx hb dX4_step_39 (by decide) (fun c45 => ?_) (fun c45 => ?_)
      · skip
        have r46 : rg p2 8 19 := rg_le2 (iE c45) ((rg_k (by decide)) : rg 8 8 8) (hp2 : rg p2 0 19)
        exact J62 (F1) (L1) (A1) (B1) H locs ls hq hP hD hS (lv_sub hl [0, 1, 2] rfl)
      · skip
        have r47 : rg p2 0 7 := rg_lt1 (iNE c45) (hp2 : rg p2 0 19) ((rg_k (by decide)) : rg 8 8 8)
        refine lv_aload_n hx hb dX4_step_42 rfl (lv_at hl 0 rfl) ?_
        refine va_get (ci := 4) (v := .ref (ad 49)) (C := RX4) (T := TX4) (N := 12) hx hb hg inX4 hown hK hP 46 atX_46 rfl 3 (by decide) (hg _ mw_404) (fun _ h9 => h9) rfl dX4_step_43 ?_
        refine lv_iload_n hx hb dX4_step_46 rfl (lv_at hl 2 rfl) ?_
        refine lv_dup2_11 hx hb dX4_step_47 rfl rfl ?_
        refine va_iald hx hb hK hP 49 36 atX_49 tyX_49 (in_rg r47 (by decide)) dX4_step_48 ?_
        refine lv_topi (fun x48 e49 => ?_)
        have r50 : rg x48 0 1023 := rg_e e49 (hq.1.2 49 _)
        refine lv_iconst (v := 1) hx hb dX4_step_49 (by decide) ?_
        refine lv_iload_n hx hb dX4_step_50 rfl (lv_at hl 1 rfl) ?_
        refine lv_bipush (v := 8) hx hb dX4_step_51 (by decide) ?_
        refine lv_isub hx hb dX4_step_53 ?_
        refine lv_topi (fun x51 e52 => ?_)
        have r53 : rg x51 (-8) 9 := rg_sub e52 r44 ((rg_k (by decide)) : rg 8 8 8) (by decide)
        refine lv_ishl hx hb dX4_step_54 ?_
        refine lv_topi (fun x54 e55 => ?_)
        refine lv_iconst (v := (-1)) hx hb dX4_step_55 (by decide) ?_
        refine lv_ixor hx hb dX4_step_56 ?_
        refine lv_topi (fun x56 e57 => ?_)
        refine lv_iand hx hb dX4_step_57 ?_
        refine lv_topi (fun x58 e59 => ?_)
        have r60 : rg x58 0 1023 := rg_andl e59 r50 (by decide)
        refine va_iast hx hb hK hP hD hS 49 36 atX_49 tyX_49 (in_rg r47 (by decide)) dX4_step_58 (fun H locs hP hD hS => ?_)
        have hq := hq.ast 49 (p2).toNatClampNeg (x := x58) (by decide) r60
        rw [setX_49] at hP hD
        have k61 : x58 = (va_up A1 49 (upd (A1 49) (p2).toNatClampNeg x58)) 49 (p2).toNatClampNeg := (rdA).symm
        refine lv_goto (tgt := 141) hx hb dX4_step_59 (by decide) ?_
        exact hret (F1, L1, (va_up A1 49 (upd (A1 49) (p2).toNatClampNeg x58)), B1) H locs 141 ls dX4_step_141 hP hD hS hq
  refine lv_icmp_ge (tgt := 30) hx hb dX4_step_3 (by decide) (fun c62 => ?_) (fun c62 => ?_)
  · skip
    have r63 : rg p1 8 19 := rg_le2 (iE c62) ((rg_k (by decide)) : rg 8 8 8) (hp1 : rg p1 0 19)
    exact J30 (F) (L) (A) (B) H locs ls hq hP hD hS (lv_sub hl [0, 1, 2] rfl)
  · skip
    have r64 : rg p1 0 7 := rg_lt1 (iNE c62) (hp1 : rg p1 0 19) ((rg_k (by decide)) : rg 8 8 8)
    refine lv_iload_n hx hb dX4_step_6 rfl (lv_at hl 2 rfl) ?_
    refine lv_bipush (v := 18) hx hb dX4_step_7 (by decide) ?_
    refine lv_icmp_ge (tgt := 30) hx hb dX4_step_9 (by decide) (fun c65 => ?_) (fun c65 => ?_)
    · skip
      have r66 : rg p2 18 19 := rg_le2 (iE c65) ((rg_k (by decide)) : rg 18 18 18) (hp2 : rg p2 0 19)
      exact J30 (F) (L) (A) (B) H locs ls hq hP hD hS (lv_sub hl [0, 1, 2] rfl)
    · skip
      have r67 : rg p2 0 17 := rg_lt1 (iNE c65) (hp2 : rg p2 0 19) ((rg_k (by decide)) : rg 18 18 18)
      refine lv_aload_n hx hb dX4_step_12 rfl (lv_at hl 0 rfl) ?_
      refine va_get (ci := 4) (v := .ref (ad 49)) (C := RX4) (T := TX4) (N := 12) hx hb hg inX4 hown hK hP 46 atX_46 rfl 3 (by decide) (hg _ mw_404) (fun _ h9 => h9) rfl dX4_step_13 ?_
      refine lv_iload_n hx hb dX4_step_16 rfl (lv_at hl 1 rfl) ?_
      refine lv_dup2_11 hx hb dX4_step_17 rfl rfl ?_
      refine va_iald hx hb hK hP 49 36 atX_49 tyX_49 (in_rg r64 (by decide)) dX4_step_18 ?_
      refine lv_topi (fun x68 e69 => ?_)
      have r70 : rg x68 0 1023 := rg_e e69 (hq.1.2 49 _)
      refine lv_iconst (v := 1) hx hb dX4_step_19 (by decide) ?_
      refine lv_iload_n hx hb dX4_step_20 rfl (lv_at hl 2 rfl) ?_
      refine lv_bipush (v := 8) hx hb dX4_step_21 (by decide) ?_
      refine lv_isub hx hb dX4_step_23 ?_
      refine lv_topi (fun x71 e72 => ?_)
      have r73 : rg x71 0 9 := (by have := tiS e72 (r67 : rg p2 0 17) ((rg_k (by decide)) : rg (8 : Int32) 8 8) (by decide); have := ((r67 : rg p2 0 17)).1; have := ((r67 : rg p2 0 17)).2; have := ((r70 : rg x68 0 1023)).1; have := ((r70 : rg x68 0 1023)).2; have := ((r64 : rg p1 0 7)).1; have := ((r64 : rg p1 0 7)).2; have := (iNE c62); have := (iNE c65); have : (1 : Int32).toInt = 1 := rfl; have : (8 : Int32).toInt = 8 := rfl; have h8 := hE (by have : (8 : Int32).toInt = 8 := rfl; omega) (by have : (18 : Int32).toInt = 18 := rfl; omega); have := tiS e72 (r67 : rg p2 0 17) (rg_k (by decide) : rg 8 8 8) (by decide); have : (8 : Int32).toInt = 8 := rfl; unfold rg; omega)
      refine lv_ishl hx hb dX4_step_24 ?_
      refine lv_topi (fun x74 e75 => ?_)
      have r76 : rg x74 1 512 := rg_shl1 e75 r73 (by decide)
      refine lv_ior hx hb dX4_step_25 ?_
      refine lv_topi (fun x77 e78 => ?_)
      have r79 : rg x77 0 1023 := rg_or 10 e78 r70 r76 (by decide)
      refine va_iast hx hb hK hP hD hS 49 36 atX_49 tyX_49 (in_rg r64 (by decide)) dX4_step_26 (fun H locs hP hD hS => ?_)
      have hq := hq.ast 49 (p1).toNatClampNeg (x := x77) (by decide) r79
      rw [setX_49] at hP hD
      have k80 : x77 = (va_up A 49 (upd (A 49) (p1).toNatClampNeg x77)) 49 (p1).toNatClampNeg := (rdA).symm
      refine lv_goto (tgt := 141) hx hb dX4_step_27 (by decide) ?_
      exact hret (F, L, (va_up A 49 (upd (A 49) (p1).toNatClampNeg x77)), B) H locs 141 ls dX4_step_141 hP hD hS hq
abbrev rm_X4_sendOne_46 : Room := { frames := 3, cells := 0, slots := 0, locals := 74 }
set_option maxHeartbeats 4000000 in
set_option maxRecDepth 100000 in
theorem c_X4_sendOne_46 (l : Launch) (D : va_G) (cA : Nat → ClassId) (sz : Nat) (ad : Nat → Nat) (F : Nat → Int32) (L : Nat → Int64) (A : Nat → Nat → Int32) (B : Nat → Nat → Int64) (p1 : Int32) (p2 : Int32) (hT : typX F A) (hp1 : rg p1 0 19) (hp2 : rg p2 8 19) : Met l yX4_sendOne (Cond.code yX4_sendOne cX4_sendOne 5 (some .boolean) :: GW) rm_X4_sendOne_46 (mPc D classes (tysX cA) (wX cA ad F L A B) sz [.ref (ad 46), .int p1, .int p2]) (mQi (S := SW) D classes (tysX cA) (wX cA ad F L A B) sz (wfX cA ad) (fun r u => qX [] [49, 51, 54, 55] F A u.1 u.2.2.1 ∧ rg r 0 1)) 0 0 (va_A (wX cA ad F L A B) sz) := by
  refine met_i (own := "ShoeingDay$Parting") (by decide +kernel) rfl (Nat.le_of_ble_eq_true rfl) ?_
  intro p e s m args below meth c Q Af ls hC hP hD hS hA hl hret
  have hx := hC.1
  have hb := hC.2.1
  have hown := hC.2.2.2.1
  have hg := hC.g
  have hK := hC.K
  have hl : lv_has ls 5 [(0, .ref (ad 46)), (1, .int p1), (2, .int p2)] := hl
  have hq : qX [] [49, 51, 54, 55] F A F A := qX.rf hT
  obtain ⟨H, hH⟩ : ∃ H, H = s.heap := ⟨_, rfl⟩
  have hP : va_P D classes (wX cA ad F L A B) H := by rw [hH]; exact hP
  have hS : va_S Af s.heap H [] := by rw [hH]; exact hS
  obtain ⟨locs, hlo⟩ : ∃ q : List Loc, q = [] := ⟨_, rfl⟩
  rw [← hH, ← hlo]
  rw [← hlo] at hS
  refine lv_aload_n hx hb dX4_sendOne_0 rfl (lv_at hl 0 rfl) ?_
  refine lv_iload_n hx hb dX4_sendOne_1 rfl (lv_at hl 1 rfl) ?_
  refine lv_iload_n hx hb dX4_sendOne_2 rfl (lv_at hl 2 rfl) ?_
  refine callv_i (As := [.int p1, .int p2]) (rest := []) hC (c_X4_findWay_46 l D cA H.size ad F L A B (p1) (p2) hq.1 hp1 hp2) (cwV 2 hg (g_V mw_886 mw_883 mw_885 ms_30 mw_16) rfl rfl rfl (by decide +kernel) ⟨(Nat.le_of_ble_eq_true rfl), (Nat.le_of_ble_eq_true rfl)⟩) hP hD hS hA atX_46 rfl rfl hl.1 rfl (Nat.le_of_ble_eq_true rfl) dX4_sendOne_3 ⟨Nat.zero_le _, Nat.zero_le _⟩ (fun x1 u H locs hw hP hD hS => ?_)
  obtain ⟨F2, L2, A2, B2⟩ := u
  try dsimp only at hw
  obtain ⟨hq2, r3, g4⟩ := hw
  have hq := hq.call hq2 (by decide)
  have hP : va_P D classes (wX cA ad F2 L2 A2 B2) H := hP
  have hD : va_D Af (wX cA ad F2 L2 A2 B2) := hD
  refine lv_if_ne (tgt := 11) hx hb dX4_sendOne_6 (by decide) (fun c5 => ?_) (fun c5 => ?_)
  · skip
    have r6 : rg x1 1 1 := (rg_ne1 c5 (r3 : rg x1 0 1) ((rg_k (by decide)) : rg 0 0 0)).1 rfl
    obtain ⟨P, hPg, hPs⟩ := (g4).resolve_left c5
    refine lv_iload_n hx hb dX4_sendOne_11 rfl (lv_at hl 2 rfl) ?_
    refine lv_istore_n (lv' := [(3, .int p2), (0, .ref (ad 46)), (1, .int p1), (2, .int p2)]) hx hb dX4_sendOne_12 rfl hl (by decide) rfl (fun ls hl => ?_)
    refine lv_iconst (v := 0) hx hb dX4_sendOne_13 (by decide) ?_
    refine lv_istore (lv' := [(4, .int 0), (3, .int p2), (0, .ref (ad 46)), (1, .int p1), (2, .int p2)]) hx hb dX4_sendOne_14 hl (by decide) rfl (fun ls hl => ?_)
    have J16 : ∀ (n16 : Nat) (a8 : Int32) (a10 : Int32) (F12 : Nat → Int32) (L12 : Nat → Int64) (A12 : Nat → Nat → Int32) (B12 : Nat → Nat → Int64) (H : Heap) (locs : List Loc) (ls : Array Slot), (20 - a10.toInt).toNat < n16 → rg a8 0 19 → rg a10 0 20 → qX [] [49, 51, 54, 55] F A F12 A12 → (P a8 ∧ A12 54 = A2 54) → va_P D classes (wX cA ad F12 L12 A12 B12) H → va_D Af (wX cA ad F12 L12 A12 B12) → va_S Af s.heap H locs → lv_has ls 5 [(0, .ref (ad 46)), (1, .int p1), (3, .int a8), (4, .int a10)] → W p l e rm_X4_sendOne_46 s m args below meth c H locs 0 0 Q (F0 m 16 ls []) := by
      intro n16
      induction n16 with
      | zero =>
        intro _ _ _ _ _ _ _ _ _ hn
        exact absurd hn (Nat.not_lt_zero _)
      | succ n16 ih16 =>
        intro a8 a10 F12 L12 A12 B12 H locs ls hn16 r9 r11 hq v13 hP hD hS hl
        refine lv_iload hx hb dX4_sendOne_16 (lv_at hl 3 rfl) ?_
        refine lv_bipush (v := 20) hx hb dX4_sendOne_18 (by decide) ?_
        have J52 : ∀ (F14 : Nat → Int32) (L14 : Nat → Int64) (A14 : Nat → Nat → Int32) (B14 : Nat → Nat → Int64) (H : Heap) (locs : List Loc) (ls : Array Slot), qX [] [49, 51, 54, 55] F A F14 A14 → va_P D classes (wX cA ad F14 L14 A14 B14) H → va_D Af (wX cA ad F14 L14 A14 B14) → va_S Af s.heap H locs → lv_has ls 5 [] → W p l e rm_X4_sendOne_46 s m args below meth c H locs 0 0 Q (F0 m 52 ls []) := by
          intro F14 L14 A14 B14 H locs ls hq hP hD hS hl
          refine lv_iconst (v := 1) hx hb dX4_sendOne_52 (by decide) ?_
          exact hret (1) (F14, L14, A14, B14) H locs 53 ls rfl dX4_sendOne_53 hP hD hS ⟨hq, (rg_k (by decide))⟩
        refine lv_icmp_ge (tgt := 52) hx hb dX4_sendOne_20 (by decide) (fun c15 => ?_) (fun c15 => ?_)
        · skip
          have r16 : rg a10 20 20 := rg_le2 (iE c15) ((rg_k (by decide)) : rg 20 20 20) (r11 : rg a10 0 20)
          exact J52 (F12) (L12) (A12) (B12) H locs ls hq hP hD hS (lv_sub hl [] rfl)
        · skip
          have r17 : rg a10 0 19 := rg_lt1 (iNE c15) (r11 : rg a10 0 20) ((rg_k (by decide)) : rg 20 20 20)
          refine lv_iload_n hx hb dX4_sendOne_23 rfl (lv_at hl 2 rfl) ?_
          refine lv_iload_n hx hb dX4_sendOne_24 rfl (lv_at hl 1 rfl) ?_
          refine lv_icmp_eq (tgt := 52) hx hb dX4_sendOne_25 (by decide) (fun c18 => ?_) (fun c18 => ?_)
          · skip
            exact J52 (F12) (L12) (A12) (B12) H locs ls hq hP hD hS (lv_sub hl [] rfl)
          · skip
            refine lv_aload_n hx hb dX4_sendOne_28 rfl (lv_at hl 0 rfl) ?_
            refine lv_aload_n hx hb dX4_sendOne_29 rfl (lv_at hl 0 rfl) ?_
            refine va_get (ci := 4) (v := .ref (ad 54)) (C := RX4) (T := TX4) (N := 12) hx hb hg inX4 hown hK hP 46 atX_46 rfl 8 (by decide) (hg _ mw_409) (fun _ h9 => h9) rfl dX4_sendOne_30 ?_
            refine lv_iload_n hx hb dX4_sendOne_33 rfl (lv_at hl 2 rfl) ?_
            refine va_iald hx hb hK hP 54 41 atX_54 tyX_54 (in_rg r9 (by decide)) dX4_sendOne_34 ?_
            refine lv_topi (fun x19 e20 => ?_)
            have r21 : rg x19 0 19 := rg_e e20 (hq.1.2 54 _)
            refine lv_iload_n hx hb dX4_sendOne_35 rfl (lv_at hl 2 rfl) ?_
            refine callv_v (As := [.int x19, .int a8]) (rest := []) hC (c_X4_step_46 l D cA H.size ad F12 L12 A12 B12 (x19) (a8) hq.1 r21 r9 (by rw [e20, v13.2]; exact (hPs _ v13.1 c18).2)) (cwV 2 hg (g_V mw_909 mw_906 mw_908 ms_35 mw_16) rfl rfl rfl (by decide +kernel) ⟨(Nat.le_of_ble_eq_true rfl), (Nat.le_of_ble_eq_true rfl)⟩) hP hD hS hA atX_46 rfl rfl hl.1 rfl (Nat.le_of_ble_eq_true rfl) dX4_sendOne_36 ⟨Nat.zero_le _, Nat.zero_le _⟩ (fun  u H locs hw hP hD hS => ?_)
            obtain ⟨F22, L22, A22, B22⟩ := u
            try dsimp only at hw
            have hq22 := hw
            have hq := hq.call hq22 (by decide)
            have hP : va_P D classes (wX cA ad F22 L22 A22 B22) H := hP
            have hD : va_D Af (wX cA ad F22 L22 A22 B22) := hD
            have wA : A22 54 = A2 54 := (hq22.2.2 54 (by decide)).trans v13.2
            have wP : P x19 := by rw [e20, v13.2]; exact (hPs _ v13.1 c18).1
            refine lv_aload_n hx hb dX4_sendOne_39 rfl (lv_at hl 0 rfl) ?_
            refine va_get (ci := 4) (v := .ref (ad 54)) (C := RX4) (T := TX4) (N := 12) hx hb hg inX4 hown hK hP 46 atX_46 rfl 8 (by decide) (hg _ mw_409) (fun _ h9 => h9) rfl dX4_sendOne_40 ?_
            refine lv_iload_n hx hb dX4_sendOne_43 rfl (lv_at hl 2 rfl) ?_
            refine va_iald hx hb hK hP 54 41 atX_54 tyX_54 (in_rg r9 (by decide)) dX4_sendOne_44 ?_
            refine tope ((e20).trans (congrFun (hq22.2.2 54 (by decide)) _).symm) ?_
            refine lv_istore_n (lv' := [(3, .int x19), (0, .ref (ad 46)), (1, .int p1), (4, .int a10)]) hx hb dX4_sendOne_45 rfl hl (by decide) rfl (fun ls hl => ?_)
            obtain ⟨x23, e24⟩ : ∃ y : Int32, y = a10 + 1 := ⟨_, rfl⟩
            have r25 : rg x23 1 20 := rg_add e24 r17 (rg_k (by decide) : rg 1 1 1) (by decide)
            refine lv_iinc (v := x23) (lv' := [(4, .int x23), (3, .int x19), (0, .ref (ad 46)), (1, .int p1)]) hx hb dX4_sendOne_46 hl (k := 3) rfl (by rw [e24]; rfl) (by decide) rfl (fun ls hl => ?_)
            refine lv_goto (tgt := 16) hx hb dX4_sendOne_49 (by decide) ?_
            exact ih16 (x19) (x23) (F22) (L22) (A22) (B22) H locs ls (by have h0 : (1 : Int32).toInt = 1 := rfl; have h1 := ti_addk e24 r17 (by decide); have h2 : rg x23 0 20 := (rg_w r25 (by decide)); unfold rg at h2; omega) r21 (rg_w r25 (by decide)) hq ⟨wP, wA⟩ hP hD hS (lv_sub hl [2, 3, 1, 0] rfl)
    exact J16 _ (p2) (0) (F2) (L2) (A2) (B2) H locs ls (Nat.lt_succ_self _) (rg_w hp2 (by decide)) (rg_k (by decide)) hq ⟨hPg, rfl⟩ hP hD hS (lv_sub hl [2, 3, 1, 0] rfl)
  · skip
    have r7 : rg x1 0 0 := rg_eq1 c5 (r3 : rg x1 0 1) ((rg_k (by decide)) : rg 0 0 0) (by decide)
    refine lv_iconst (v := 0) hx hb dX4_sendOne_9 (by decide) ?_
    exact hret (0) (F2, L2, A2, B2) H locs 10 ls rfl dX4_sendOne_10 hP hD hS ⟨hq, (rg_k (by decide))⟩
abbrev rm_X4_lowerInOrder_46 : Room := { frames := 4, cells := 0, slots := 0, locals := 98 }
set_option maxHeartbeats 4000000 in
set_option maxRecDepth 100000 in
theorem c_X4_lowerInOrder_46 (l : Launch) (D : va_G) (cA : Nat → ClassId) (sz : Nat) (ad : Nat → Nat) (F : Nat → Int32) (L : Nat → Int64) (A : Nat → Nat → Int32) (B : Nat → Nat → Int64)  (hT : typX F A) : Met l yX4_lowerInOrder (Cond.code yX4_lowerInOrder cX4_lowerInOrder 4 none :: GW) rm_X4_lowerInOrder_46 (mPc D classes (tysX cA) (wX cA ad F L A B) sz [.ref (ad 46)]) (mQv (S := SW) D classes (tysX cA) (wX cA ad F L A B) sz (wfX cA ad) (fun u => qX [] [49, 50, 51, 54, 55] F A u.1 u.2.2.1)) 0 0 (va_A (wX cA ad F L A B) sz) := by
  refine met_v (own := "ShoeingDay$Parting") (by decide +kernel) rfl (Nat.le_of_ble_eq_true rfl) ?_
  intro p e s m args below meth c Q Af ls hC hP hD hS hA hl hret
  have hx := hC.1
  have hb := hC.2.1
  have hown := hC.2.2.2.1
  have hg := hC.g
  have hK := hC.K
  have hl : lv_has ls 4 [(0, .ref (ad 46))] := hl
  have hq : qX [] [49, 50, 51, 54, 55] F A F A := qX.rf hT
  obtain ⟨H, hH⟩ : ∃ H, H = s.heap := ⟨_, rfl⟩
  have hP : va_P D classes (wX cA ad F L A B) H := by rw [hH]; exact hP
  have hS : va_S Af s.heap H [] := by rw [hH]; exact hS
  obtain ⟨locs, hlo⟩ : ∃ q : List Loc, q = [] := ⟨_, rfl⟩
  rw [← hH, ← hlo]
  rw [← hlo] at hS
  refine lv_iconst (v := 0) hx hb dX4_lowerInOrder_0 (by decide) ?_
  refine lv_istore_n (lv' := [(1, .int 0), (0, .ref (ad 46))]) hx hb dX4_lowerInOrder_1 rfl hl (by decide) rfl (fun ls hl => ?_)
  have J2 : ∀ (n2 : Nat) (a1 : Int32) (F3 : Nat → Int32) (L3 : Nat → Int64) (A3 : Nat → Nat → Int32) (B3 : Nat → Nat → Int64) (H : Heap) (locs : List Loc) (ls : Array Slot), (8 - a1.toInt).toNat < n2 → rg a1 0 8 → qX [] [49, 50, 51, 54, 55] F A F3 A3 → va_P D classes (wX cA ad F3 L3 A3 B3) H → va_D Af (wX cA ad F3 L3 A3 B3) → va_S Af s.heap H locs → lv_has ls 4 [(0, .ref (ad 46)), (1, .int a1)] → W p l e rm_X4_lowerInOrder_46 s m args below meth c H locs 0 0 Q (F0 m 2 ls []) := by
    intro n2
    induction n2 with
    | zero =>
      intro _ _ _ _ _ _ _ _ hn
      exact absurd hn (Nat.not_lt_zero _)
    | succ n2 ih2 =>
      intro a1 F3 L3 A3 B3 H locs ls hn2 r2 hq hP hD hS hl
      refine lv_iload_n hx hb dX4_lowerInOrder_2 rfl (lv_at hl 1 rfl) ?_
      refine lv_aload_n hx hb dX4_lowerInOrder_3 rfl (lv_at hl 0 rfl) ?_
      refine va_get (ci := 4) (v := .int (F3 37)) (C := RX4) (T := TX4) (N := 12) hx hb hg inX4 hown hK hP 46 atX_46 rfl 10 (by decide) (hg _ mw_411) (fun _ h9 => h9) rfl dX4_lowerInOrder_4 ?_
      refine lv_topi (fun x4 e5 => ?_)
      have r6 : rg x4 0 8 := rg_e e5 (hq.1.1 37)
      refine lv_icmp_ge (tgt := 91) hx hb dX4_lowerInOrder_7 (by decide) (fun c7 => ?_) (fun c7 => ?_)
      · skip
        exact hret (F3, L3, A3, B3) H locs 91 ls dX4_lowerInOrder_91 hP hD hS hq
      · skip
        have r8 : rg a1 0 7 := rg_lt1 (iNE c7) (r2 : rg a1 0 8) (r6 : rg x4 0 8)
        have r9 : rg x4 1 8 := rg_lt2 (iNE c7) (r2 : rg a1 0 8) (r6 : rg x4 0 8)
        refine lv_aload_n hx hb dX4_lowerInOrder_10 rfl (lv_at hl 0 rfl) ?_
        refine va_get (ci := 4) (v := .ref (ad 50)) (C := RX4) (T := TX4) (N := 12) hx hb hg inX4 hown hK hP 46 atX_46 rfl 4 (by decide) (hg _ mw_405) (fun _ h9 => h9) rfl dX4_lowerInOrder_11 ?_
        refine lv_iload_n hx hb dX4_lowerInOrder_14 rfl (lv_at hl 1 rfl) ?_
        refine va_iald hx hb hK hP 50 37 atX_50 tyX_50 (in_rg r8 (by decide)) dX4_lowerInOrder_15 ?_
        refine lv_topi (fun x10 e11 => ?_)
        have r12 : rg x10 0 1023 := rg_e e11 (hq.1.2 50 _)
        refine lv_istore_n (lv' := [(2, .int x10), (0, .ref (ad 46)), (1, .int a1)]) hx hb dX4_lowerInOrder_16 rfl hl (by decide) rfl (fun ls hl => ?_)
        have J17 : ∀ (n17 : Nat) (a13 : Int32) (F15 : Nat → Int32) (L15 : Nat → Int64) (A15 : Nat → Nat → Int32) (B15 : Nat → Nat → Int64) (H : Heap) (locs : List Loc) (ls : Array Slot), a13.toInt.toNat < n17 → rg a13 0 1023 → qX [] [49, 50, 51, 54, 55] F A F15 A15 → F15 37 = x4 → va_P D classes (wX cA ad F15 L15 A15 B15) H → va_D Af (wX cA ad F15 L15 A15 B15) → va_S Af s.heap H locs → lv_has ls 4 [(0, .ref (ad 46)), (1, .int a1), (2, .int a13)] → W p l e rm_X4_lowerInOrder_46 s m args below meth c H locs 0 0 Q (F0 m 17 ls []) := by
          intro n17
          induction n17 with
          | zero =>
            intro _ _ _ _ _ _ _ _ hn
            exact absurd hn (Nat.not_lt_zero _)
          | succ n17 ih17 =>
            intro a13 F15 L15 A15 B15 H locs ls hn17 r14 hq f16 hP hD hS hl
            refine lv_iload_n hx hb dX4_lowerInOrder_17 rfl (lv_at hl 2 rfl) ?_
            refine lv_if_eq (tgt := 85) hx hb dX4_lowerInOrder_18 (by decide) (fun c17 => ?_) (fun c17 => ?_)
            · skip
              have r18 : rg a13 0 0 := rg_eq1 c17 (r14 : rg a13 0 1023) ((rg_k (by decide)) : rg 0 0 0) (by decide)
              obtain ⟨x20, e21⟩ : ∃ y : Int32, y = a1 + 1 := ⟨_, rfl⟩
              have r22 : rg x20 1 8 := rg_add e21 r8 (rg_k (by decide) : rg 1 1 1) (by decide)
              refine lv_iinc (v := x20) (lv' := [(1, .int x20), (0, .ref (ad 46)), (2, .int a13)]) hx hb dX4_lowerInOrder_85 hl (k := 1) rfl (by rw [e21]; rfl) (by decide) rfl (fun ls hl => ?_)
              refine lv_goto (tgt := 2) hx hb dX4_lowerInOrder_88 (by decide) ?_
              exact ih2 (x20) (F15) (L15) (A15) (B15) H locs ls (by have h0 : (1 : Int32).toInt = 1 := rfl; have h1 := ti_addk e21 r8 (by decide); have h2 : rg x20 0 8 := (rg_w r22 (by decide)); unfold rg at h2; omega) (rg_w r22 (by decide)) hq hP hD hS (lv_sub hl [1, 0] rfl)
            · skip
              have r19 : rg a13 1 1023 := (rg_ne1 c17 (r14 : rg a13 0 1023) ((rg_k (by decide)) : rg 0 0 0)).1 rfl
              refine lv_iload_n hx hb dX4_lowerInOrder_21 rfl (lv_at hl 2 rfl) ?_
              refine lv_iload_n hx hb dX4_lowerInOrder_22 rfl (lv_at hl 2 rfl) ?_
              refine lv_ineg hx hb dX4_lowerInOrder_23 ?_
              refine lv_topi (fun x23 e24 => ?_)
              refine lv_iand hx hb dX4_lowerInOrder_24 ?_
              refine lv_topi (fun x25 e26 => ?_)
              have r27 : rg x25 0 1023 := rg_andl e26 r19 (by decide)
              refine lv_istore_n (lv' := [(3, .int x25), (0, .ref (ad 46)), (1, .int a1), (2, .int a13)]) hx hb dX4_lowerInOrder_25 rfl hl (by decide) rfl (fun ls hl => ?_)
              refine lv_aload_n hx hb dX4_lowerInOrder_26 rfl (lv_at hl 1 rfl) ?_
              refine va_get (ci := 4) (v := .ref (ad 50)) (C := RX4) (T := TX4) (N := 12) hx hb hg inX4 hown hK hP 46 atX_46 rfl 4 (by decide) (hg _ mw_405) (fun _ h9 => h9) rfl dX4_lowerInOrder_27 ?_
              refine lv_iload_n hx hb dX4_lowerInOrder_30 rfl (lv_at hl 2 rfl) ?_
              refine lv_dup2_11 hx hb dX4_lowerInOrder_31 rfl rfl ?_
              refine va_iald hx hb hK hP 50 37 atX_50 tyX_50 (in_rg r8 (by decide)) dX4_lowerInOrder_32 ?_
              refine lv_topi (fun x28 e29 => ?_)
              have r30 : rg x28 0 1023 := rg_e e29 (hq.1.2 50 _)
              refine lv_iload_n hx hb dX4_lowerInOrder_33 rfl (lv_at hl 0 rfl) ?_
              refine lv_iconst (v := (-1)) hx hb dX4_lowerInOrder_34 (by decide) ?_
              refine lv_ixor hx hb dX4_lowerInOrder_35 ?_
              refine lv_topi (fun x31 e32 => ?_)
              refine lv_iand hx hb dX4_lowerInOrder_36 ?_
              refine lv_topi (fun x33 e34 => ?_)
              have r35 : rg x33 0 1023 := rg_andl e34 r30 (by decide)
              refine va_iast hx hb hK hP hD hS 50 37 atX_50 tyX_50 (in_rg r8 (by decide)) dX4_lowerInOrder_37 (fun H locs hP hD hS => ?_)
              have hq := hq.ast 50 (a1).toNatClampNeg (x := x33) (by decide) r35
              rw [setX_50] at hP hD
              have k36 : x33 = (va_up A15 50 (upd (A15 50) (a1).toNatClampNeg x33)) 50 (a1).toNatClampNeg := (rdA).symm
              refine lv_aload_n hx hb dX4_lowerInOrder_38 rfl (lv_at hl 1 rfl) ?_
              refine va_get (ci := 4) (v := .ref (ad 49)) (C := RX4) (T := TX4) (N := 12) hx hb hg inX4 hown hK hP 46 atX_46 rfl 3 (by decide) (hg _ mw_404) (fun _ h9 => h9) rfl dX4_lowerInOrder_39 ?_
              refine lv_iload_n hx hb dX4_lowerInOrder_42 rfl (lv_at hl 2 rfl) ?_
              refine va_iald hx hb hK hP 49 36 atX_49 tyX_49 (in_rg r8 (by decide)) dX4_lowerInOrder_43 ?_
              refine lv_topi (fun x37 e38 => ?_)
              have r39 : rg x37 0 1023 := rg_e e38 (hq.1.2 49 _)
              refine lv_iload_n hx hb dX4_lowerInOrder_44 rfl (lv_at hl 0 rfl) ?_
              refine lv_iand hx hb dX4_lowerInOrder_45 ?_
              refine lv_topi (fun x40 e41 => ?_)
              have r42 : rg x40 0 1023 := rg_andr e41 r27 (by decide)
              have J76 : ∀ (F43 : Nat → Int32) (L43 : Nat → Int64) (A43 : Nat → Nat → Int32) (B43 : Nat → Nat → Int64) (H : Heap) (locs : List Loc) (ls : Array Slot), qX [] [49, 50, 51, 54, 55] F A F43 A43 → F43 37 = x4 → va_P D classes (wX cA ad F43 L43 A43 B43) H → va_D Af (wX cA ad F43 L43 A43 B43) → va_S Af s.heap H locs → lv_has ls 4 [(0, .ref (ad 46)), (1, .int a1), (2, .int a13)] → W p l e rm_X4_lowerInOrder_46 s m args below meth c H locs 0 0 Q (F0 m 76 ls []) := by
                intro F43 L43 A43 B43 H locs ls hq f44 hP hD hS hl
                refine lv_iload_n hx hb dX4_lowerInOrder_76 rfl (lv_at hl 2 rfl) ?_
                refine lv_iload_n hx hb dX4_lowerInOrder_77 rfl (lv_at hl 2 rfl) ?_
                refine lv_iconst (v := 1) hx hb dX4_lowerInOrder_78 (by decide) ?_
                refine lv_isub hx hb dX4_lowerInOrder_79 ?_
                refine lv_topi (fun x45 e46 => ?_)
                have r47 : rg x45 0 1022 := rg_sub e46 r19 ((rg_k (by decide)) : rg 1 1 1) (by decide)
                refine lv_iand hx hb dX4_lowerInOrder_80 ?_
                refine lv_topi (fun x48 e49 => ?_)
                have r50 : rg x48 0 1022 := rg_andr e49 r47 (by decide)
                refine lv_istore_n (lv' := [(2, .int x48), (0, .ref (ad 46)), (1, .int a1)]) hx hb dX4_lowerInOrder_81 rfl hl (by decide) rfl (fun ls hl => ?_)
                refine lv_goto (tgt := 17) hx hb dX4_lowerInOrder_82 (by decide) ?_
                exact ih17 (x48) (F43) (L43) (A43) (B43) H locs ls (by have h1 := mask_less (show x48 = a13 &&& (a13 - 1) by rw [← e46]; exact e49) r19 (by decide); omega) (rg_w r50 (by decide)) hq (f44) hP hD hS (lv_sub hl [1, 2, 0] rfl)
              refine lv_if_eq (tgt := 76) hx hb dX4_lowerInOrder_46 (by decide) (fun c51 => ?_) (fun c51 => ?_)
              · skip
                have r52 : rg x40 0 0 := rg_eq1 c51 (r42 : rg x40 0 1023) ((rg_k (by decide)) : rg 0 0 0) (by decide)
                exact J76 (F15) (L15) ((va_up A15 50 (upd (A15 50) (a1).toNatClampNeg x33))) (B15) H locs ls hq (f16) hP hD hS (lv_sub hl [1, 2, 3] rfl)
              · skip
                have r53 : rg x40 1 1023 := (rg_ne1 c51 (r42 : rg x40 0 1023) ((rg_k (by decide)) : rg 0 0 0)).1 rfl
                refine lv_aload_n hx hb dX4_lowerInOrder_49 rfl (lv_at hl 1 rfl) ?_
                refine lv_iload_n hx hb dX4_lowerInOrder_50 rfl (lv_at hl 2 rfl) ?_
                refine lv_bipush (v := 8) hx hb dX4_lowerInOrder_51 (by decide) ?_
                refine lv_iload_n hx hb dX4_lowerInOrder_53 rfl (lv_at hl 3 rfl) ?_
                refine calln_i (As := [.int a13]) (rest := [.int 8, .int a1, .ref (ad 46)]) hC (c_X11_lowest l D (tysX cA) (wX cA ad F15 L15 (va_up A15 50 (upd (A15 50) (a1).toNatClampNeg x33)) B15) H.size (a13)) ⟨va_cnB 1 hg (g_N mw_799) rfl rfl rfl (mn_16 hC.N) (hg _ mw_1) (by decide +kernel) ⟨(Nat.le_of_ble_eq_true rfl), (Nat.le_of_ble_eq_true rfl)⟩, (hg _ mw_798), trivial⟩ hP hD hS hA rfl hl.1 rfl (Nat.le_of_ble_eq_true rfl) dX4_lowerInOrder_54 ⟨Nat.zero_le _, Nat.zero_le _⟩ (fun x54 u H locs hw hP hD hS => ?_)
                have e55 := hw
                have hP : va_P D classes (wX cA ad F15 L15 (va_up A15 50 (upd (A15 50) (a1).toNatClampNeg x33)) B15) H := hP
                have hD : va_D Af (wX cA ad F15 L15 (va_up A15 50 (upd (A15 50) (a1).toNatClampNeg x33)) B15) := hD
                have r56 : rg x54 0 9 := rg_low hw r19 (k := 10) (by decide)
                refine lv_iadd hx hb dX4_lowerInOrder_57 ?_
                refine lv_topi (fun x57 e58 => ?_)
                have r59 : rg x57 8 17 := rg_add e58 ((rg_k (by decide)) : rg 8 8 8) r56 (by decide)
                refine callv_i (As := [.int a1, .int x57]) (rest := []) hC (c_X4_sendOne_46 l D cA H.size ad F15 L15 (va_up A15 50 (upd (A15 50) (a1).toNatClampNeg x33)) B15 (a1) (x57) hq.1 (rg_w r8 (by decide)) (rg_w r59 (by decide))) (cwV 2 hg (g_V mw_882 mw_879 mw_881 ms_29 mw_16) rfl rfl rfl (by decide +kernel) ⟨(Nat.le_of_ble_eq_true rfl), (Nat.le_of_ble_eq_true rfl)⟩) hP hD hS hA atX_46 rfl rfl hl.1 rfl (Nat.le_of_ble_eq_true rfl) dX4_lowerInOrder_58 ⟨Nat.zero_le _, Nat.zero_le _⟩ (fun x60 u H locs hw hP hD hS => ?_)
                obtain ⟨F61, L61, A61, B61⟩ := u
                try dsimp only at hw
                obtain ⟨hq61, r62⟩ := hw
                have hq := hq.call hq61 (by decide)
                have hP : va_P D classes (wX cA ad F61 L61 A61 B61) H := hP
                have hD : va_D Af (wX cA ad F61 L61 A61 B61) := hD
                refine lv_if_eq (tgt := 76) hx hb dX4_lowerInOrder_61 (by decide) (fun c63 => ?_) (fun c63 => ?_)
                · skip
                  have r64 : rg x60 0 0 := rg_eq1 c63 (r62 : rg x60 0 1) ((rg_k (by decide)) : rg 0 0 0) (by decide)
                  exact J76 (F61) (L61) (A61) (B61) H locs ls hq ((hq61.2.1 37 (by decide)).trans (f16)) hP hD hS (lv_sub hl [1, 2, 3] rfl)
                · skip
                  have r65 : rg x60 1 1 := (rg_ne1 c63 (r62 : rg x60 0 1) ((rg_k (by decide)) : rg 0 0 0)).1 rfl
                  refine lv_aload_n hx hb dX4_lowerInOrder_64 rfl (lv_at hl 1 rfl) ?_
                  refine va_get (ci := 4) (v := .ref (ad 49)) (C := RX4) (T := TX4) (N := 12) hx hb hg inX4 hown hK hP 46 atX_46 rfl 3 (by decide) (hg _ mw_404) (fun _ h9 => h9) rfl dX4_lowerInOrder_65 ?_
                  refine lv_iload_n hx hb dX4_lowerInOrder_68 rfl (lv_at hl 2 rfl) ?_
                  refine lv_dup2_11 hx hb dX4_lowerInOrder_69 rfl rfl ?_
                  refine va_iald hx hb hK hP 49 36 atX_49 tyX_49 (in_rg r8 (by decide)) dX4_lowerInOrder_70 ?_
                  refine lv_topi (fun x66 e67 => ?_)
                  have r68 : rg x66 0 1023 := rg_e e67 (hq.1.2 49 _)
                  refine lv_iload_n hx hb dX4_lowerInOrder_71 rfl (lv_at hl 0 rfl) ?_
                  refine lv_iconst (v := (-1)) hx hb dX4_lowerInOrder_72 (by decide) ?_
                  refine lv_ixor hx hb dX4_lowerInOrder_73 ?_
                  refine tope e32 ?_
                  refine lv_iand hx hb dX4_lowerInOrder_74 ?_
                  refine lv_topi (fun x69 e70 => ?_)
                  have r71 : rg x69 0 1023 := rg_andl e70 r68 (by decide)
                  refine va_iast hx hb hK hP hD hS 49 36 atX_49 tyX_49 (in_rg r8 (by decide)) dX4_lowerInOrder_75 (fun H locs hP hD hS => ?_)
                  have hq := hq.ast 49 (a1).toNatClampNeg (x := x69) (by decide) r71
                  rw [setX_49] at hP hD
                  have k72 : x69 = (va_up A61 49 (upd (A61 49) (a1).toNatClampNeg x69)) 49 (a1).toNatClampNeg := (rdA).symm
                  exact J76 (F61) (L61) ((va_up A61 49 (upd (A61 49) (a1).toNatClampNeg x69))) (B61) H locs ls hq ((hq61.2.1 37 (by decide)).trans (f16)) hP hD hS (lv_sub hl [1, 2, 3] rfl)
        exact J17 _ (x10) (F3) (L3) (A3) (B3) H locs ls (Nat.lt_succ_self _) r12 hq (e5.symm) hP hD hS (lv_sub hl [1, 2, 0] rfl)
  exact J2 _ (0) (F) (L) (A) (B) H locs ls (Nat.lt_succ_self _) (rg_k (by decide)) hq hP hD hS (lv_sub hl [1, 0] rfl)
abbrev rm_X4_raise_46 : Room := { frames := 4, cells := 0, slots := 0, locals := 98 }
set_option maxHeartbeats 4000000 in
set_option maxRecDepth 100000 in
theorem c_X4_raise_46 (l : Launch) (D : va_G) (cA : Nat → ClassId) (sz : Nat) (ad : Nat → Nat) (F : Nat → Int32) (L : Nat → Int64) (A : Nat → Nat → Int32) (B : Nat → Nat → Int64) (p1 : Int32) (p2 : Int32) (p3 : Int32) (hT : typX F A) (hp1 : rg p1 0 18) (hp2 : rg p2 0 19) (hp3 : rg p3 8 19) : Met l yX4_raise (Cond.code yX4_raise cX4_raise 5 none :: GW) rm_X4_raise_46 (mPc D classes (tysX cA) (wX cA ad F L A B) sz [.ref (ad 46), .int p1, .int p2, .int p3]) (mQv (S := SW) D classes (tysX cA) (wX cA ad F L A B) sz (wfX cA ad) (fun u => qX [] [49, 51, 54, 55] F A u.1 u.2.2.1)) 0 0 (va_A (wX cA ad F L A B) sz) := by
  refine met_v (own := "ShoeingDay$Parting") (by decide +kernel) rfl (Nat.le_of_ble_eq_true rfl) ?_
  intro p e s m args below meth c Q Af ls hC hP hD hS hA hl hret
  have hx := hC.1
  have hb := hC.2.1
  have hown := hC.2.2.2.1
  have hg := hC.g
  have hK := hC.K
  have hl : lv_has ls 5 [(0, .ref (ad 46)), (1, .int p1), (2, .int p2), (3, .int p3)] := hl
  have hq : qX [] [49, 51, 54, 55] F A F A := qX.rf hT
  obtain ⟨H, hH⟩ : ∃ H, H = s.heap := ⟨_, rfl⟩
  have hP : va_P D classes (wX cA ad F L A B) H := by rw [hH]; exact hP
  have hS : va_S Af s.heap H [] := by rw [hH]; exact hS
  obtain ⟨locs, hlo⟩ : ∃ q : List Loc, q = [] := ⟨_, rfl⟩
  rw [← hH, ← hlo]
  rw [← hlo] at hS
  refine lv_iconst (v := 0) hx hb dX4_raise_0 (by decide) ?_
  refine lv_istore (lv' := [(4, .int 0), (0, .ref (ad 46)), (1, .int p1), (2, .int p2), (3, .int p3)]) hx hb dX4_raise_1 hl (by decide) rfl (fun ls hl => ?_)
  have J3 : ∀ (n3 : Nat) (a1 : Int32) (F3 : Nat → Int32) (L3 : Nat → Int64) (A3 : Nat → Nat → Int32) (B3 : Nat → Nat → Int64) (H : Heap) (locs : List Loc) (ls : Array Slot), (99 - a1.toInt).toNat < n3 → rg a1 0 99 → qX [] [49, 51, 54, 55] F A F3 A3 → va_P D classes (wX cA ad F3 L3 A3 B3) H → va_D Af (wX cA ad F3 L3 A3 B3) → va_S Af s.heap H locs → lv_has ls 5 [(0, .ref (ad 46)), (1, .int p1), (2, .int p2), (3, .int p3), (4, .int a1)] → W p l e rm_X4_raise_46 s m args below meth c H locs 0 0 Q (F0 m 3 ls []) := by
    intro n3
    induction n3 with
    | zero =>
      intro _ _ _ _ _ _ _ _ hn
      exact absurd hn (Nat.not_lt_zero _)
    | succ n3 ih3 =>
      intro a1 F3 L3 A3 B3 H locs ls hn3 r2 hq hP hD hS hl
      refine lv_iload hx hb dX4_raise_3 (lv_at hl 4 rfl) ?_
      refine lv_bipush (v := 82) hx hb dX4_raise_5 (by decide) ?_
      refine lv_icmp_ge (tgt := 51) hx hb dX4_raise_7 (by decide) (fun c4 => ?_) (fun c4 => ?_)
      · skip
        have r5 : rg a1 82 99 := rg_le2 (iE c4) ((rg_k (by decide)) : rg 82 82 82) (r2 : rg a1 0 99)
        exact hret (F3, L3, A3, B3) H locs 51 ls dX4_raise_51 hP hD hS hq
      · skip
        have r6 : rg a1 0 81 := rg_lt1 (iNE c4) (r2 : rg a1 0 99) ((rg_k (by decide)) : rg 82 82 82)
        refine lv_aload_n hx hb dX4_raise_10 rfl (lv_at hl 0 rfl) ?_
        refine va_get (ci := 4) (v := .ref (ad 51)) (C := RX4) (T := TX4) (N := 12) hx hb hg inX4 hown hK hP 46 atX_46 rfl 5 (by decide) (hg _ mw_406) (fun _ h9 => h9) rfl dX4_raise_11 ?_
        refine lv_iload_n hx hb dX4_raise_14 rfl (lv_at hl 1 rfl) ?_
        refine va_iald hx hb hK hP 51 38 atX_51 tyX_51 (in_rg hp1 (by decide)) dX4_raise_15 ?_
        refine lv_topi (fun x7 e8 => ?_)
        refine lv_aload_n hx hb dX4_raise_16 rfl (lv_at hl 0 rfl) ?_
        refine va_get (ci := 4) (v := .ref (ad 52)) (C := RX4) (T := TX4) (N := 12) hx hb hg inX4 hown hK hP 46 atX_46 rfl 6 (by decide) (hg _ mw_407) (fun _ h9 => h9) rfl dX4_raise_17 ?_
        refine lv_iload_n hx hb dX4_raise_20 rfl (lv_at hl 1 rfl) ?_
        refine va_iald hx hb hK hP 52 39 atX_52 tyX_52 (in_rg hp1 (by decide)) dX4_raise_21 ?_
        refine lv_topi (fun x9 e10 => ?_)
        refine lv_icmp_ge (tgt := 51) hx hb dX4_raise_22 (by decide) (fun c11 => ?_) (fun c11 => ?_)
        · skip
          exact hret (F3, L3, A3, B3) H locs 51 ls dX4_raise_51 hP hD hS hq
        · skip
          have r12 : rg x7 (-2147483648) 2147483646 := rg_lt1 (iNE c11) ((rg_top _) : rg x7 (-2147483648) 2147483647) ((rg_top _) : rg x9 (-2147483648) 2147483647)
          have r13 : rg x9 (-2147483647) 2147483647 := rg_lt2 (iNE c11) ((rg_top _) : rg x7 (-2147483648) 2147483647) ((rg_top _) : rg x9 (-2147483648) 2147483647)
          refine lv_aload_n hx hb dX4_raise_25 rfl (lv_at hl 0 rfl) ?_
          refine lv_iload_n hx hb dX4_raise_26 rfl (lv_at hl 2 rfl) ?_
          refine lv_iload_n hx hb dX4_raise_27 rfl (lv_at hl 3 rfl) ?_
          refine callv_i (As := [.int p2, .int p3]) (rest := []) hC (c_X4_sendOne_46 l D cA H.size ad F3 L3 A3 B3 (p2) (p3) hq.1 hp2 hp3) (cwV 2 hg (g_V mw_882 mw_879 mw_881 ms_29 mw_16) rfl rfl rfl (by decide +kernel) ⟨(Nat.le_of_ble_eq_true rfl), (Nat.le_of_ble_eq_true rfl)⟩) hP hD hS hA atX_46 rfl rfl hl.1 rfl (Nat.le_of_ble_eq_true rfl) dX4_raise_28 ⟨Nat.zero_le _, Nat.zero_le _⟩ (fun x14 u H locs hw hP hD hS => ?_)
          obtain ⟨F15, L15, A15, B15⟩ := u
          try dsimp only at hw
          obtain ⟨hq15, r16⟩ := hw
          have hq := hq.call hq15 (by decide)
          have hP : va_P D classes (wX cA ad F15 L15 A15 B15) H := hP
          have hD : va_D Af (wX cA ad F15 L15 A15 B15) := hD
          refine lv_if_ne (tgt := 35) hx hb dX4_raise_31 (by decide) (fun c17 => ?_) (fun c17 => ?_)
          · skip
            have r18 : rg x14 1 1 := (rg_ne1 c17 (r16 : rg x14 0 1) ((rg_k (by decide)) : rg 0 0 0)).1 rfl
            refine lv_aload_n hx hb dX4_raise_35 rfl (lv_at hl 0 rfl) ?_
            refine va_get (ci := 4) (v := .ref (ad 51)) (C := RX4) (T := TX4) (N := 12) hx hb hg inX4 hown hK hP 46 atX_46 rfl 5 (by decide) (hg _ mw_406) (fun _ h9 => h9) rfl dX4_raise_36 ?_
            refine lv_iload_n hx hb dX4_raise_39 rfl (lv_at hl 1 rfl) ?_
            refine lv_dup2_11 hx hb dX4_raise_40 rfl rfl ?_
            refine va_iald hx hb hK hP 51 38 atX_51 tyX_51 (in_rg hp1 (by decide)) dX4_raise_41 ?_
            refine lv_topi (fun x20 e21 => ?_)
            refine lv_iconst (v := 1) hx hb dX4_raise_42 (by decide) ?_
            refine lv_iadd hx hb dX4_raise_43 ?_
            refine lv_topi (fun x22 e23 => ?_)
            refine va_iast hx hb hK hP hD hS 51 38 atX_51 tyX_51 (in_rg hp1 (by decide)) dX4_raise_44 (fun H locs hP hD hS => ?_)
            have hq := hq.ast 51 (p1).toNatClampNeg (x := x22) (by decide) (rg_top _)
            rw [setX_51] at hP hD
            have k24 : x22 = (va_up A15 51 (upd (A15 51) (p1).toNatClampNeg x22)) 51 (p1).toNatClampNeg := (rdA).symm
            obtain ⟨x25, e26⟩ : ∃ y : Int32, y = a1 + 1 := ⟨_, rfl⟩
            have r27 : rg x25 1 82 := rg_add e26 r6 (rg_k (by decide) : rg 1 1 1) (by decide)
            refine lv_iinc (v := x25) (lv' := [(4, .int x25), (0, .ref (ad 46)), (1, .int p1), (2, .int p2), (3, .int p3)]) hx hb dX4_raise_45 hl (k := 4) rfl (by rw [e26]; rfl) (by decide) rfl (fun ls hl => ?_)
            refine lv_goto (tgt := 3) hx hb dX4_raise_48 (by decide) ?_
            exact ih3 (x25) (F15) (L15) ((va_up A15 51 (upd (A15 51) (p1).toNatClampNeg x22))) (B15) H locs ls (by have h0 : (1 : Int32).toInt = 1 := rfl; have h1 := ti_addk e26 r6 (by decide); have h2 : rg x25 0 99 := (rg_w r27 (by decide)); unfold rg at h2; omega) (rg_w r27 (by decide)) hq hP hD hS (lv_sub hl [1, 2, 3, 4, 0] rfl)
          · skip
            have r19 : rg x14 0 0 := rg_eq1 c17 (r16 : rg x14 0 1) ((rg_k (by decide)) : rg 0 0 0) (by decide)
            exact hret (F15, L15, A15, B15) H locs 34 ls dX4_raise_34 hP hD hS hq
  exact J3 _ (0) (F) (L) (A) (B) H locs ls (Nat.lt_succ_self _) (rg_k (by decide)) hq hP hD hS (lv_sub hl [1, 2, 3, 4, 0] rfl)
abbrev rm_X4_raiseLows_46 : Room := { frames := 5, cells := 0, slots := 0, locals := 122 }
set_option maxHeartbeats 4000000 in
set_option maxRecDepth 100000 in
theorem c_X4_raiseLows_46 (l : Launch) (D : va_G) (cA : Nat → ClassId) (sz : Nat) (ad : Nat → Nat) (F : Nat → Int32) (L : Nat → Int64) (A : Nat → Nat → Int32) (B : Nat → Nat → Int64)  (hT : typX F A) : Met l yX4_raiseLows (Cond.code yX4_raiseLows cX4_raiseLows 2 none :: GW) rm_X4_raiseLows_46 (mPc D classes (tysX cA) (wX cA ad F L A B) sz [.ref (ad 46)]) (mQv (S := SW) D classes (tysX cA) (wX cA ad F L A B) sz (wfX cA ad) (fun u => qX [] [49, 51, 54, 55] F A u.1 u.2.2.1)) 0 0 (va_A (wX cA ad F L A B) sz) := by
  refine met_v (own := "ShoeingDay$Parting") (by decide +kernel) rfl (Nat.le_of_ble_eq_true rfl) ?_
  intro p e s m args below meth c Q Af ls hC hP hD hS hA hl hret
  have hx := hC.1
  have hb := hC.2.1
  have hown := hC.2.2.2.1
  have hg := hC.g
  have hK := hC.K
  have hl : lv_has ls 2 [(0, .ref (ad 46))] := hl
  have hq : qX [] [49, 51, 54, 55] F A F A := qX.rf hT
  obtain ⟨H, hH⟩ : ∃ H, H = s.heap := ⟨_, rfl⟩
  have hP : va_P D classes (wX cA ad F L A B) H := by rw [hH]; exact hP
  have hS : va_S Af s.heap H [] := by rw [hH]; exact hS
  obtain ⟨locs, hlo⟩ : ∃ q : List Loc, q = [] := ⟨_, rfl⟩
  rw [← hH, ← hlo]
  rw [← hlo] at hS
  refine lv_iconst (v := 0) hx hb dX4_raiseLows_0 (by decide) ?_
  refine lv_istore_n (lv' := [(1, .int 0), (0, .ref (ad 46))]) hx hb dX4_raiseLows_1 rfl hl (by decide) rfl (fun ls hl => ?_)
  have J2 : ∀ (n2 : Nat) (a1 : Int32) (F3 : Nat → Int32) (L3 : Nat → Int64) (A3 : Nat → Nat → Int32) (B3 : Nat → Nat → Int64) (H : Heap) (locs : List Loc) (ls : Array Slot), (8 - a1.toInt).toNat < n2 → rg a1 0 8 → qX [] [49, 51, 54, 55] F A F3 A3 → va_P D classes (wX cA ad F3 L3 A3 B3) H → va_D Af (wX cA ad F3 L3 A3 B3) → va_S Af s.heap H locs → lv_has ls 2 [(0, .ref (ad 46)), (1, .int a1)] → W p l e rm_X4_raiseLows_46 s m args below meth c H locs 0 0 Q (F0 m 2 ls []) := by
    intro n2
    induction n2 with
    | zero =>
      intro _ _ _ _ _ _ _ _ hn
      exact absurd hn (Nat.not_lt_zero _)
    | succ n2 ih2 =>
      intro a1 F3 L3 A3 B3 H locs ls hn2 r2 hq hP hD hS hl
      refine lv_iload_n hx hb dX4_raiseLows_2 rfl (lv_at hl 1 rfl) ?_
      refine lv_aload_n hx hb dX4_raiseLows_3 rfl (lv_at hl 0 rfl) ?_
      refine va_get (ci := 4) (v := .int (F3 37)) (C := RX4) (T := TX4) (N := 12) hx hb hg inX4 hown hK hP 46 atX_46 rfl 10 (by decide) (hg _ mw_411) (fun _ h9 => h9) rfl dX4_raiseLows_4 ?_
      refine lv_topi (fun x4 e5 => ?_)
      have r6 : rg x4 0 8 := rg_e e5 (hq.1.1 37)
      refine lv_icmp_ge (tgt := 24) hx hb dX4_raiseLows_7 (by decide) (fun c7 => ?_) (fun c7 => ?_)
      · skip
        refine lv_iconst (v := 0) hx hb dX4_raiseLows_24 (by decide) ?_
        refine lv_istore_n (lv' := [(1, .int 0), (0, .ref (ad 46))]) hx hb dX4_raiseLows_25 rfl hl (by decide) rfl (fun ls hl => ?_)
        have J26 : ∀ (n26 : Nat) (a10 : Int32) (F12 : Nat → Int32) (L12 : Nat → Int64) (A12 : Nat → Nat → Int32) (B12 : Nat → Nat → Int64) (H : Heap) (locs : List Loc) (ls : Array Slot), (10 - a10.toInt).toNat < n26 → rg a10 0 10 → qX [] [49, 51, 54, 55] F A F12 A12 → va_P D classes (wX cA ad F12 L12 A12 B12) H → va_D Af (wX cA ad F12 L12 A12 B12) → va_S Af s.heap H locs → lv_has ls 2 [(0, .ref (ad 46)), (1, .int a10)] → W p l e rm_X4_raiseLows_46 s m args below meth c H locs 0 0 Q (F0 m 26 ls []) := by
          intro n26
          induction n26 with
          | zero =>
            intro _ _ _ _ _ _ _ _ hn
            exact absurd hn (Nat.not_lt_zero _)
          | succ n26 ih26 =>
            intro a10 F12 L12 A12 B12 H locs ls hn26 r11 hq hP hD hS hl
            refine lv_iload_n hx hb dX4_raiseLows_26 rfl (lv_at hl 1 rfl) ?_
            refine lv_aload_n hx hb dX4_raiseLows_27 rfl (lv_at hl 0 rfl) ?_
            refine va_get (ci := 4) (v := .int (F12 38)) (C := RX4) (T := TX4) (N := 12) hx hb hg inX4 hown hK hP 46 atX_46 rfl 11 (by decide) (hg _ mw_412) (fun _ h9 => h9) rfl dX4_raiseLows_28 ?_
            refine lv_topi (fun x13 e14 => ?_)
            have r15 : rg x13 0 10 := rg_e e14 (hq.1.1 38)
            refine lv_icmp_ge (tgt := 54) hx hb dX4_raiseLows_31 (by decide) (fun c16 => ?_) (fun c16 => ?_)
            · skip
              refine lv_aload_n hx hb dX4_raiseLows_54 rfl (lv_at hl 0 rfl) ?_
              refine lv_bipush (v := 18) hx hb dX4_raiseLows_55 (by decide) ?_
              refine lv_bipush (v := 18) hx hb dX4_raiseLows_57 (by decide) ?_
              refine lv_bipush (v := 19) hx hb dX4_raiseLows_59 (by decide) ?_
              refine callv_v (As := [.int 18, .int 18, .int 19]) (rest := []) hC (c_X4_raise_46 l D cA H.size ad F12 L12 A12 B12 (18) (18) (19) hq.1 (rg_k (by decide)) (rg_k (by decide)) (rg_k (by decide))) (cwV 3 hg (g_V mw_878 mw_875 mw_877 ms_28 mw_16) rfl rfl rfl (by decide +kernel) ⟨(Nat.le_of_ble_eq_true rfl), (Nat.le_of_ble_eq_true rfl)⟩) hP hD hS hA atX_46 rfl rfl hl.1 rfl (Nat.le_of_ble_eq_true rfl) dX4_raiseLows_61 ⟨Nat.zero_le _, Nat.zero_le _⟩ (fun  u H locs hw hP hD hS => ?_)
              obtain ⟨F19, L19, A19, B19⟩ := u
              try dsimp only at hw
              have hq19 := hw
              have hq := hq.call hq19 (by decide)
              have hP : va_P D classes (wX cA ad F19 L19 A19 B19) H := hP
              have hD : va_D Af (wX cA ad F19 L19 A19 B19) := hD
              exact hret (F19, L19, A19, B19) H locs 64 ls dX4_raiseLows_64 hP hD hS hq
            · skip
              have r17 : rg a10 0 9 := rg_lt1 (iNE c16) (r11 : rg a10 0 10) (r15 : rg x13 0 10)
              have r18 : rg x13 1 10 := rg_lt2 (iNE c16) (r11 : rg a10 0 10) (r15 : rg x13 0 10)
              refine lv_aload_n hx hb dX4_raiseLows_34 rfl (lv_at hl 0 rfl) ?_
              refine lv_bipush (v := 8) hx hb dX4_raiseLows_35 (by decide) ?_
              refine lv_iload_n hx hb dX4_raiseLows_37 rfl (lv_at hl 1 rfl) ?_
              refine lv_iadd hx hb dX4_raiseLows_38 ?_
              refine lv_topi (fun x20 e21 => ?_)
              have r22 : rg x20 8 17 := rg_add e21 ((rg_k (by decide)) : rg 8 8 8) r17 (by decide)
              refine lv_bipush (v := 19) hx hb dX4_raiseLows_39 (by decide) ?_
              refine lv_bipush (v := 8) hx hb dX4_raiseLows_41 (by decide) ?_
              refine lv_iload_n hx hb dX4_raiseLows_43 rfl (lv_at hl 1 rfl) ?_
              refine lv_iadd hx hb dX4_raiseLows_44 ?_
              refine tope e21 ?_
              refine callv_v (As := [.int x20, .int 19, .int x20]) (rest := []) hC (c_X4_raise_46 l D cA H.size ad F12 L12 A12 B12 (x20) (19) (x20) hq.1 (rg_w r22 (by decide)) (rg_k (by decide)) (rg_w r22 (by decide))) (cwV 3 hg (g_V mw_878 mw_875 mw_877 ms_28 mw_16) rfl rfl rfl (by decide +kernel) ⟨(Nat.le_of_ble_eq_true rfl), (Nat.le_of_ble_eq_true rfl)⟩) hP hD hS hA atX_46 rfl rfl hl.1 rfl (Nat.le_of_ble_eq_true rfl) dX4_raiseLows_45 ⟨Nat.zero_le _, Nat.zero_le _⟩ (fun  u H locs hw hP hD hS => ?_)
              obtain ⟨F23, L23, A23, B23⟩ := u
              try dsimp only at hw
              have hq23 := hw
              have hq := hq.call hq23 (by decide)
              have hP : va_P D classes (wX cA ad F23 L23 A23 B23) H := hP
              have hD : va_D Af (wX cA ad F23 L23 A23 B23) := hD
              obtain ⟨x24, e25⟩ : ∃ y : Int32, y = a10 + 1 := ⟨_, rfl⟩
              have r26 : rg x24 1 10 := rg_add e25 r17 (rg_k (by decide) : rg 1 1 1) (by decide)
              refine lv_iinc (v := x24) (lv' := [(1, .int x24), (0, .ref (ad 46))]) hx hb dX4_raiseLows_48 hl (k := 1) rfl (by rw [e25]; rfl) (by decide) rfl (fun ls hl => ?_)
              refine lv_goto (tgt := 26) hx hb dX4_raiseLows_51 (by decide) ?_
              exact ih26 (x24) (F23) (L23) (A23) (B23) H locs ls (by have h0 : (1 : Int32).toInt = 1 := rfl; have h1 := ti_addk e25 r17 (by decide); have h2 : rg x24 0 10 := (rg_w r26 (by decide)); unfold rg at h2; omega) (rg_w r26 (by decide)) hq hP hD hS (lv_sub hl [1, 0] rfl)
        exact J26 _ (0) (F3) (L3) (A3) (B3) H locs ls (Nat.lt_succ_self _) (rg_k (by decide)) hq hP hD hS (lv_sub hl [1, 0] rfl)
      · skip
        have r8 : rg a1 0 7 := rg_lt1 (iNE c7) (r2 : rg a1 0 8) (r6 : rg x4 0 8)
        have r9 : rg x4 1 8 := rg_lt2 (iNE c7) (r2 : rg a1 0 8) (r6 : rg x4 0 8)
        refine lv_aload_n hx hb dX4_raiseLows_10 rfl (lv_at hl 0 rfl) ?_
        refine lv_iload_n hx hb dX4_raiseLows_11 rfl (lv_at hl 1 rfl) ?_
        refine lv_iload_n hx hb dX4_raiseLows_12 rfl (lv_at hl 1 rfl) ?_
        refine lv_bipush (v := 18) hx hb dX4_raiseLows_13 (by decide) ?_
        refine callv_v (As := [.int a1, .int a1, .int 18]) (rest := []) hC (c_X4_raise_46 l D cA H.size ad F3 L3 A3 B3 (a1) (a1) (18) hq.1 (rg_w r8 (by decide)) (rg_w r8 (by decide)) (rg_k (by decide))) (cwV 3 hg (g_V mw_878 mw_875 mw_877 ms_28 mw_16) rfl rfl rfl (by decide +kernel) ⟨(Nat.le_of_ble_eq_true rfl), (Nat.le_of_ble_eq_true rfl)⟩) hP hD hS hA atX_46 rfl rfl hl.1 rfl (Nat.le_of_ble_eq_true rfl) dX4_raiseLows_15 ⟨Nat.zero_le _, Nat.zero_le _⟩ (fun  u H locs hw hP hD hS => ?_)
        obtain ⟨F27, L27, A27, B27⟩ := u
        try dsimp only at hw
        have hq27 := hw
        have hq := hq.call hq27 (by decide)
        have hP : va_P D classes (wX cA ad F27 L27 A27 B27) H := hP
        have hD : va_D Af (wX cA ad F27 L27 A27 B27) := hD
        obtain ⟨x28, e29⟩ : ∃ y : Int32, y = a1 + 1 := ⟨_, rfl⟩
        have r30 : rg x28 1 8 := rg_add e29 r8 (rg_k (by decide) : rg 1 1 1) (by decide)
        refine lv_iinc (v := x28) (lv' := [(1, .int x28), (0, .ref (ad 46))]) hx hb dX4_raiseLows_18 hl (k := 1) rfl (by rw [e29]; rfl) (by decide) rfl (fun ls hl => ?_)
        refine lv_goto (tgt := 2) hx hb dX4_raiseLows_21 (by decide) ?_
        exact ih2 (x28) (F27) (L27) (A27) (B27) H locs ls (by have h0 : (1 : Int32).toInt = 1 := rfl; have h1 := ti_addk e29 r8 (by decide); have h2 : rg x28 0 8 := (rg_w r30 (by decide)); unfold rg at h2; omega) (rg_w r30 (by decide)) hq hP hD hS (lv_sub hl [1, 0] rfl)
  exact J2 _ (0) (F) (L) (A) (B) H locs ls (Nat.lt_succ_self _) (rg_k (by decide)) hq hP hD hS (lv_sub hl [1, 0] rfl)
abbrev rm_X4_cutUp_46_18 : Room := { frames := 6, cells := 0, slots := 0, locals := 143 }
set_option maxHeartbeats 4000000 in
set_option maxRecDepth 100000 in
theorem c_X4_cutUp_46_18 (l : Launch) (D : va_G) (cA : Nat → ClassId) (sz : Nat) (ad : Nat → Nat) (F : Nat → Int32) (L : Nat → Int64) (A : Nat → Nat → Int32) (B : Nat → Nat → Int64) (p1 : Int32) (hT : typX F A) (hp1 : rg p1 1 9) : Met l yX4_cutUp (Cond.code yX4_cutUp cX4_cutUp 4 none :: GW) rm_X4_cutUp_46_18 (mPc D classes (tysX cA) (wX cA ad F L A B) sz [.ref (ad 46), .int p1, .ref (ad 18)]) (mQv (S := SW) D classes (tysX cA) (wX cA ad F L A B) sz (wfX cA ad) (fun u => qX [36, 37, 38] [47, 48, 49, 50, 51, 52, 53, 54, 55] F A u.1 u.2.2.1)) 0 0 (va_A (wX cA ad F L A B) sz) := by
  refine met_v (own := "ShoeingDay$Parting") (by decide +kernel) rfl (Nat.le_of_ble_eq_true rfl) ?_
  intro p e s m args below meth c Q Af ls hC hP hD hS hA hl hret
  have hx := hC.1
  have hb := hC.2.1
  have hown := hC.2.2.2.1
  have hg := hC.g
  have hK := hC.K
  have hl : lv_has ls 4 [(0, .ref (ad 46)), (1, .int p1), (2, .ref (ad 18))] := hl
  have hq : qX [36, 37, 38] [47, 48, 49, 50, 51, 52, 53, 54, 55] F A F A := qX.rf hT
  obtain ⟨H, hH⟩ : ∃ H, H = s.heap := ⟨_, rfl⟩
  have hP : va_P D classes (wX cA ad F L A B) H := by rw [hH]; exact hP
  have hS : va_S Af s.heap H [] := by rw [hH]; exact hS
  obtain ⟨locs, hlo⟩ : ∃ q : List Loc, q = [] := ⟨_, rfl⟩
  rw [← hH, ← hlo]
  rw [← hlo] at hS
  refine lv_aload_n hx hb dX4_cutUp_0 rfl (lv_at hl 0 rfl) ?_
  refine va_get (ci := 4) (v := .int (F 36)) (C := RX4) (T := TX4) (N := 12) hx hb hg inX4 hown hK hP 46 atX_46 rfl 1 (by decide) (hg _ mw_401) (fun _ h9 => h9) rfl dX4_cutUp_1 ?_
  refine lv_topi (fun x1 e2 => ?_)
  refine lv_iload_n hx hb dX4_cutUp_4 rfl (lv_at hl 1 rfl) ?_
  refine lv_icmp_eq (tgt := 19) hx hb dX4_cutUp_5 (by decide) (fun c3 => ?_) (fun c3 => ?_)
  · skip
    have r4 : rg x1 1 9 := rg_eq1 c3 ((rg_top _) : rg x1 (-2147483648) 2147483647) (hp1 : rg p1 1 9) (by decide)
    exact hret (F, L, A, B) H locs 19 ls dX4_cutUp_19 hP hD hS hq
  · skip
    refine lv_iload_n hx hb dX4_cutUp_8 rfl (lv_at hl 1 rfl) ?_
    refine lv_iconst (v := 1) hx hb dX4_cutUp_9 (by decide) ?_
    refine lv_icmp_lt (tgt := 19) hx hb dX4_cutUp_10 (by decide) (fun c5 => ?_) (fun c5 => ?_)
    · skip
      exact rg_emp (rg_lt1 (iL c5) (hp1 : rg p1 1 9) ((rg_k (by decide)) : rg 1 1 1)) (by decide)
    · skip
      refine lv_iload_n hx hb dX4_cutUp_13 rfl (lv_at hl 1 rfl) ?_
      refine lv_bipush (v := 9) hx hb dX4_cutUp_14 (by decide) ?_
      refine lv_icmp_le (tgt := 20) hx hb dX4_cutUp_16 (by decide) (fun c6 => ?_) (fun c6 => ?_)
      · skip
        refine lv_aload_n hx hb dX4_cutUp_20 rfl (lv_at hl 0 rfl) ?_
        refine lv_iload_n hx hb dX4_cutUp_21 rfl (lv_at hl 1 rfl) ?_
        refine va_put (ci := 4) (v := .int p1) (ty := .int) (C := RX4) (T := TX4) (N := 12) hx hb hg inX4 tyX4 tyX4_ok nmX4 hown hK hP hD hS 46 atX_46 rfl 1 (by decide) (hg _ mw_401) (fun _ h9 => h9) rfl (by decide +kernel) rfl rfl (Nat.le_of_ble_eq_true rfl) dX4_cutUp_22 (fun H locs hP hD hS => ?_)
        have hq := hq.put 36 (x := p1) (by decide) (rg_top _)
        rw [setFX_36] at hP hD
        refine lv_aload_n hx hb dX4_cutUp_25 rfl (lv_at hl 0 rfl) ?_
        refine lv_aload_n hx hb dX4_cutUp_26 rfl (lv_at hl 2 rfl) ?_
        refine va_get (ci := 3) (v := .int (F 21)) (C := RX3) (T := TX3) (N := 4) hx hb hg inX3 hown hK hP 18 atX_18 rfl 1 (by decide) (hg _ mw_240) (fun _ h9 => h9) rfl dX4_cutUp_27 ?_
        refine lv_topi (fun x7 e8 => ?_)
        have r9 : rg x7 0 8 := rg_e e8 (hq.1.1 21)
        refine va_put (ci := 4) (v := .int x7) (ty := .int) (C := RX4) (T := TX4) (N := 12) hx hb hg inX4 tyX4 tyX4_ok nmX4 hown hK hP hD hS 46 atX_46 rfl 10 (by decide) (hg _ mw_411) (fun _ h9 => h9) rfl (by decide +kernel) rfl rfl (Nat.le_of_ble_eq_true rfl) dX4_cutUp_30 (fun H locs hP hD hS => ?_)
        have hq := hq.put 37 (x := x7) (by decide) r9
        rw [setFX_37] at hP hD
        refine lv_aload_n hx hb dX4_cutUp_33 rfl (lv_at hl 0 rfl) ?_
        refine lv_aload_n hx hb dX4_cutUp_34 rfl (lv_at hl 2 rfl) ?_
        refine va_get (ci := 3) (v := .int (F 22)) (C := RX3) (T := TX3) (N := 4) hx hb hg inX3 hown hK hP 18 atX_18 rfl 2 (by decide) (hg _ mw_244) (fun _ h9 => h9) rfl dX4_cutUp_35 ?_
        refine lv_topi (fun x10 e11 => ?_)
        have r12 : rg x10 0 10 := rg_e e11 (hq.1.1 22)
        refine va_put (ci := 4) (v := .int x10) (ty := .int) (C := RX4) (T := TX4) (N := 12) hx hb hg inX4 tyX4 tyX4_ok nmX4 hown hK hP hD hS 46 atX_46 rfl 11 (by decide) (hg _ mw_412) (fun _ h9 => h9) rfl (by decide +kernel) rfl rfl (Nat.le_of_ble_eq_true rfl) dX4_cutUp_38 (fun H locs hP hD hS => ?_)
        have hq := hq.put 38 (x := x10) (by decide) r12
        rw [setFX_38] at hP hD
        refine lv_aload_n hx hb dX4_cutUp_41 rfl (lv_at hl 2 rfl) ?_
        refine va_get (ci := 3) (v := .ref (ad 19)) (C := RX3) (T := TX3) (N := 4) hx hb hg inX3 hown hK hP 18 atX_18 rfl 0 (by decide) (hg _ mw_234) (fun _ h9 => h9) rfl dX4_cutUp_42 ?_
        refine lv_iconst (v := 0) hx hb dX4_cutUp_45 (by decide) ?_
        refine lv_aload_n hx hb dX4_cutUp_46 rfl (lv_at hl 0 rfl) ?_
        refine va_get (ci := 4) (v := .ref (ad 48)) (C := RX4) (T := TX4) (N := 12) hx hb hg inX4 hown hK hP 46 atX_46 rfl 2 (by decide) (hg _ mw_403) (fun _ h9 => h9) rfl dX4_cutUp_47 ?_
        refine lv_iconst (v := 0) hx hb dX4_cutUp_50 (by decide) ?_
        refine lv_bipush (v := 80) hx hb dX4_cutUp_51 (by decide) ?_
        refine va_copyi hx hb (hC.2.2.1.trans hl.1.symm) hown (hg _ mw_857) (hg _ mw_524) (hg _ mw_523) (hg _ mw_19) hK hP hD hS 19 48 13 35 atX_19 atX_48 tyX_19 tyX_48 rfl (nn_rg ((rg_k (by decide)) : rg 0 0 0) (by decide)) (nn_rg ((rg_k (by decide)) : rg 0 0 0) (by decide)) (nn_rg ((rg_k (by decide)) : rg 80 80 80) (by decide)) (cp_rg ((rg_k (by decide)) : rg 0 0 0) ((rg_k (by decide)) : rg 80 80 80) (by decide)) (cp_rg ((rg_k (by decide)) : rg 0 0 0) ((rg_k (by decide)) : rg 80 80 80) (by decide)) (fun _ _ => rfl) (Nat.le_of_ble_eq_true rfl) (Nat.le_of_ble_eq_true rfl) dX4_cutUp_53 (fun H locs hP hD hS => ?_)
        have hq := hq.cpy 48 19 (a := ((0 : Int32)).toNatClampNeg) (b := ((0 : Int32)).toNatClampNeg) (n := ((80 : Int32)).toNatClampNeg) (by decide) (by decide)
        rw [setX_48] at hP hD
        refine lv_iconst (v := 0) hx hb dX4_cutUp_56 (by decide) ?_
        refine lv_istore_n (lv' := [(3, .int 0), (0, .ref (ad 46)), (1, .int p1), (2, .ref (ad 18))]) hx hb dX4_cutUp_57 rfl hl (by decide) rfl (fun ls hl => ?_)
        have J58 : ∀ (n58 : Nat) (a13 : Int32) (F15 : Nat → Int32) (L15 : Nat → Int64) (A15 : Nat → Nat → Int32) (B15 : Nat → Nat → Int64) (H : Heap) (locs : List Loc) (ls : Array Slot), (9 - a13.toInt).toNat < n58 → rg a13 0 9 → qX [36, 37, 38] [47, 48, 49, 50, 51, 52, 53, 54, 55] F A F15 A15 → va_P D classes (wX cA ad F15 L15 A15 B15) H → va_D Af (wX cA ad F15 L15 A15 B15) → va_S Af s.heap H locs → lv_has ls 4 [(0, .ref (ad 46)), (1, .int p1), (3, .int a13)] → W p l e rm_X4_cutUp_46_18 s m args below meth c H locs 0 0 Q (F0 m 58 ls []) := by
          intro n58
          induction n58 with
          | zero =>
            intro _ _ _ _ _ _ _ _ hn
            exact absurd hn (Nat.not_lt_zero _)
          | succ n58 ih58 =>
            intro a13 F15 L15 A15 B15 H locs ls hn58 r14 hq hP hD hS hl
            refine lv_iload_n hx hb dX4_cutUp_58 rfl (lv_at hl 2 rfl) ?_
            refine lv_iload_n hx hb dX4_cutUp_59 rfl (lv_at hl 1 rfl) ?_
            refine lv_icmp_ge (tgt := 98) hx hb dX4_cutUp_60 (by decide) (fun c16 => ?_) (fun c16 => ?_)
            · skip
              have r17 : rg a13 1 9 := rg_le2 (iE c16) (hp1 : rg p1 1 9) (r14 : rg a13 0 9)
              exact hret (F15, L15, A15, B15) H locs 98 ls dX4_cutUp_98 hP hD hS hq
            · skip
              have r18 : rg a13 0 8 := rg_lt1 (iNE c16) (r14 : rg a13 0 9) (hp1 : rg p1 1 9)
              refine lv_aload_n hx hb dX4_cutUp_63 rfl (lv_at hl 0 rfl) ?_
              refine lv_iload_n hx hb dX4_cutUp_64 rfl (lv_at hl 2 rfl) ?_
              refine lv_iload_n hx hb dX4_cutUp_65 rfl (lv_at hl 1 rfl) ?_
              refine lv_iload_n hx hb dX4_cutUp_66 rfl (lv_at hl 2 rfl) ?_
              refine lv_isub hx hb dX4_cutUp_67 ?_
              refine lv_topi (fun x19 e20 => ?_)
              have r21 : rg x19 (-7) 9 := rg_sub e20 hp1 r18 (by decide)
              refine callv_v (As := [.int a13, .int x19]) (rest := []) hC (c_X4_giveWhole_46 l D cA H.size ad F15 L15 A15 B15 (a13) (x19) hq.1 r18 (rg_w r21 (by decide))) (cwV 2 hg (g_V mw_861 mw_858 mw_860 ms_24 mw_16) rfl rfl rfl (by decide +kernel) ⟨(Nat.le_of_ble_eq_true rfl), (Nat.le_of_ble_eq_true rfl)⟩) hP hD hS hA atX_46 rfl rfl hl.1 rfl (Nat.le_of_ble_eq_true rfl) dX4_cutUp_68 ⟨Nat.zero_le _, Nat.zero_le _⟩ (fun  u H locs hw hP hD hS => ?_)
              obtain ⟨F22, L22, A22, B22⟩ := u
              try dsimp only at hw
              have hq22 := hw
              have hq := hq.call hq22 (by decide)
              have hP : va_P D classes (wX cA ad F22 L22 A22 B22) H := hP
              have hD : va_D Af (wX cA ad F22 L22 A22 B22) := hD
              refine lv_aload_n hx hb dX4_cutUp_71 rfl (lv_at hl 0 rfl) ?_
              refine lv_iload_n hx hb dX4_cutUp_72 rfl (lv_at hl 2 rfl) ?_
              refine lv_iload_n hx hb dX4_cutUp_73 rfl (lv_at hl 1 rfl) ?_
              refine lv_iload_n hx hb dX4_cutUp_74 rfl (lv_at hl 2 rfl) ?_
              refine lv_isub hx hb dX4_cutUp_75 ?_
              refine tope e20 ?_
              refine callv_v (As := [.int a13, .int x19]) (rest := []) hC (c_X4_boundSums_46 l D cA H.size ad F22 L22 A22 B22 (a13) (x19) hq.1 r18 (rg_w r21 (by decide))) (cwV 2 hg (g_V mw_866 mw_863 mw_865 ms_25 mw_16) rfl rfl rfl (by decide +kernel) ⟨(Nat.le_of_ble_eq_true rfl), (Nat.le_of_ble_eq_true rfl)⟩) hP hD hS hA atX_46 rfl rfl hl.1 rfl (Nat.le_of_ble_eq_true rfl) dX4_cutUp_76 ⟨Nat.zero_le _, Nat.zero_le _⟩ (fun  u H locs hw hP hD hS => ?_)
              obtain ⟨F23, L23, A23, B23⟩ := u
              try dsimp only at hw
              have hq23 := hw
              have hq := hq.call hq23 (by decide)
              have hP : va_P D classes (wX cA ad F23 L23 A23 B23) H := hP
              have hD : va_D Af (wX cA ad F23 L23 A23 B23) := hD
              refine lv_aload_n hx hb dX4_cutUp_79 rfl (lv_at hl 0 rfl) ?_
              refine callv_v (As := []) (rest := []) hC (c_X4_raiseLows_46 l D cA H.size ad F23 L23 A23 B23  hq.1) (cwV 0 hg (g_V mw_874 mw_871 mw_873 ms_27 mw_16) rfl rfl rfl (by decide +kernel) ⟨(Nat.le_of_ble_eq_true rfl), (Nat.le_of_ble_eq_true rfl)⟩) hP hD hS hA atX_46 rfl rfl hl.1 rfl (Nat.le_of_ble_eq_true rfl) dX4_cutUp_80 ⟨Nat.zero_le _, Nat.zero_le _⟩ (fun  u H locs hw hP hD hS => ?_)
              obtain ⟨F24, L24, A24, B24⟩ := u
              try dsimp only at hw
              have hq24 := hw
              have hq := hq.call hq24 (by decide)
              have hP : va_P D classes (wX cA ad F24 L24 A24 B24) H := hP
              have hD : va_D Af (wX cA ad F24 L24 A24 B24) := hD
              refine lv_aload_n hx hb dX4_cutUp_83 rfl (lv_at hl 0 rfl) ?_
              refine callv_v (As := []) (rest := []) hC (c_X4_lowerInOrder_46 l D cA H.size ad F24 L24 A24 B24  hq.1) (cwV 0 hg (g_V mw_913 mw_910 mw_912 ms_36 mw_16) rfl rfl rfl (by decide +kernel) ⟨(Nat.le_of_ble_eq_true rfl), (Nat.le_of_ble_eq_true rfl)⟩) hP hD hS hA atX_46 rfl rfl hl.1 rfl (Nat.le_of_ble_eq_true rfl) dX4_cutUp_84 ⟨Nat.zero_le _, Nat.zero_le _⟩ (fun  u H locs hw hP hD hS => ?_)
              obtain ⟨F25, L25, A25, B25⟩ := u
              try dsimp only at hw
              have hq25 := hw
              have hq := hq.call hq25 (by decide)
              have hP : va_P D classes (wX cA ad F25 L25 A25 B25) H := hP
              have hD : va_D Af (wX cA ad F25 L25 A25 B25) := hD
              refine lv_aload_n hx hb dX4_cutUp_87 rfl (lv_at hl 0 rfl) ?_
              refine lv_iload_n hx hb dX4_cutUp_88 rfl (lv_at hl 2 rfl) ?_
              refine callv_v (As := [.int a13]) (rest := []) hC (c_X4_giveExtra_46 l D cA H.size ad F25 L25 A25 B25 (a13) hq.1 r18) (cwV 1 hg (g_V mw_917 mw_914 mw_916 ms_37 mw_16) rfl rfl rfl (by decide +kernel) ⟨(Nat.le_of_ble_eq_true rfl), (Nat.le_of_ble_eq_true rfl)⟩) hP hD hS hA atX_46 rfl rfl hl.1 rfl (Nat.le_of_ble_eq_true rfl) dX4_cutUp_89 ⟨Nat.zero_le _, Nat.zero_le _⟩ (fun  u H locs hw hP hD hS => ?_)
              obtain ⟨F26, L26, A26, B26⟩ := u
              try dsimp only at hw
              have hq26 := hw
              have hq := hq.call hq26 (by decide)
              have hP : va_P D classes (wX cA ad F26 L26 A26 B26) H := hP
              have hD : va_D Af (wX cA ad F26 L26 A26 B26) := hD
              obtain ⟨x27, e28⟩ : ∃ y : Int32, y = a13 + 1 := ⟨_, rfl⟩
              have r29 : rg x27 1 9 := rg_add e28 r18 (rg_k (by decide) : rg 1 1 1) (by decide)
              refine lv_iinc (v := x27) (lv' := [(3, .int x27), (0, .ref (ad 46)), (1, .int p1)]) hx hb dX4_cutUp_92 hl (k := 2) rfl (by rw [e28]; rfl) (by decide) rfl (fun ls hl => ?_)
              refine lv_goto (tgt := 58) hx hb dX4_cutUp_95 (by decide) ?_
              exact ih58 (x27) (F26) (L26) (A26) (B26) H locs ls (by have h0 : (1 : Int32).toInt = 1 := rfl; have h1 := ti_addk e28 r18 (by decide); have h2 : rg x27 0 9 := (rg_w r29 (by decide)); unfold rg at h2; omega) (rg_w r29 (by decide)) hq hP hD hS (lv_sub hl [1, 2, 0] rfl)
        exact J58 _ (0) ((upd (upd (upd F 36 p1) 37 x7) 38 x10)) (L) ((va_up A 48 (va_cpy (A 19) (A 48) ((0 : Int32)).toNatClampNeg ((0 : Int32)).toNatClampNeg ((80 : Int32)).toNatClampNeg))) (B) H locs ls (Nat.lt_succ_self _) (rg_k (by decide)) hq hP hD hS (lv_sub hl [1, 2, 0] rfl)
      · skip
        exact rg_emp (rg_lt1 (iNE c6) ((rg_k (by decide)) : rg 9 9 9) (hp1 : rg p1 1 9)) (by decide)
abbrev rm_X11_parted_0 : Room := { frames := 7, cells := 0, slots := 0, locals := 166 }
set_option maxHeartbeats 4000000 in
set_option maxRecDepth 100000 in
theorem c_X11_parted_0 (l : Launch) (D : va_G) (cA : Nat → ClassId) (sz : Nat) (ad : Nat → Nat) (F : Nat → Int32) (L : Nat → Int64) (A : Nat → Nat → Int32) (B : Nat → Nat → Int64) (p1 : Int32) (p2 : Int32) (p3 : Int32) (p4 : Int32) (hT : typX F A) : Met l yX11_parted (Cond.code yX11_parted cX11_parted 5 (some .int) :: GW) rm_X11_parted_0 (mPc D classes (tysX cA) (wX cA ad F L A B) sz [.ref (ad 0), .int p1, .int p2, .int p3, .int p4]) (mQi (S := SW) D classes (tysX cA) (wX cA ad F L A B) sz (wfX cA ad) (fun r u => qX [36, 37, 38] [47, 48, 49, 50, 51, 52, 53, 54, 55] F A u.1 u.2.2.1)) 0 0 (va_A (wX cA ad F L A B) sz) := by
  refine met_i (own := "ShoeingDay") (by decide +kernel) rfl (Nat.le_of_ble_eq_true rfl) ?_
  intro p e s m args below meth c Q Af ls hC hP hD hS hA hl hret
  have hx := hC.1
  have hb := hC.2.1
  have hown := hC.2.2.2.1
  have hg := hC.g
  have hK := hC.K
  have hl : lv_has ls 5 [(0, .ref (ad 0)), (1, .int p1), (2, .int p2), (3, .int p3), (4, .int p4)] := hl
  have hq : qX [36, 37, 38] [47, 48, 49, 50, 51, 52, 53, 54, 55] F A F A := qX.rf hT
  obtain ⟨H, hH⟩ : ∃ H, H = s.heap := ⟨_, rfl⟩
  have hP : va_P D classes (wX cA ad F L A B) H := by rw [hH]; exact hP
  have hS : va_S Af s.heap H [] := by rw [hH]; exact hS
  obtain ⟨locs, hlo⟩ : ∃ q : List Loc, q = [] := ⟨_, rfl⟩
  rw [← hH, ← hlo]
  rw [← hlo] at hS
  refine lv_iload_n hx hb dX11_parted_0 rfl (lv_at hl 1 rfl) ?_
  refine lv_iconst (v := 1) hx hb dX11_parted_1 (by decide) ?_
  have J30 : ∀ (F1 : Nat → Int32) (L1 : Nat → Int64) (A1 : Nat → Nat → Int32) (B1 : Nat → Nat → Int64) (H : Heap) (locs : List Loc) (ls : Array Slot), qX [36, 37, 38] [47, 48, 49, 50, 51, 52, 53, 54, 55] F A F1 A1 → va_P D classes (wX cA ad F1 L1 A1 B1) H → va_D Af (wX cA ad F1 L1 A1 B1) → va_S Af s.heap H locs → lv_has ls 5 [] → W p l e rm_X11_parted_0 s m args below meth c H locs 0 0 Q (F0 m 30 ls []) := by
    intro F1 L1 A1 B1 H locs ls hq hP hD hS hl
    refine lv_iconst (v := (-1)) hx hb dX11_parted_30 (by decide) ?_
    exact hret ((-1)) (F1, L1, A1, B1) H locs 31 ls rfl dX11_parted_31 hP hD hS hq
  refine lv_icmp_lt (tgt := 30) hx hb dX11_parted_2 (by decide) (fun c2 => ?_) (fun c2 => ?_)
  · skip
    have r3 : rg p1 (-2147483648) 0 := rg_lt1 (iL c2) ((rg_top _) : rg p1 (-2147483648) 2147483647) ((rg_k (by decide)) : rg 1 1 1)
    exact J30 (F) (L) (A) (B) H locs ls hq hP hD hS (lv_sub hl [] rfl)
  · skip
    have r4 : rg p1 1 2147483647 := rg_le2 (iNL c2) ((rg_k (by decide)) : rg 1 1 1) ((rg_top _) : rg p1 (-2147483648) 2147483647)
    refine lv_iload_n hx hb dX11_parted_5 rfl (lv_at hl 1 rfl) ?_
    refine lv_bipush (v := 9) hx hb dX11_parted_6 (by decide) ?_
    refine lv_icmp_gt (tgt := 30) hx hb dX11_parted_8 (by decide) (fun c5 => ?_) (fun c5 => ?_)
    · skip
      have r6 : rg p1 10 2147483647 := rg_lt2 (iL c5) ((rg_k (by decide)) : rg 9 9 9) (r4 : rg p1 1 2147483647)
      exact J30 (F) (L) (A) (B) H locs ls hq hP hD hS (lv_sub hl [] rfl)
    · skip
      have r7 : rg p1 1 9 := rg_le1 (iNL c5) (r4 : rg p1 1 2147483647) ((rg_k (by decide)) : rg 9 9 9)
      refine lv_iload_n hx hb dX11_parted_11 rfl (lv_at hl 2 rfl) ?_
      refine lv_if_lt (tgt := 30) hx hb dX11_parted_12 (by decide) (fun c8 => ?_) (fun c8 => ?_)
      · skip
        have r9 : rg p2 (-2147483648) (-1) := rg_lt1 (iL c8) ((rg_top _) : rg p2 (-2147483648) 2147483647) ((rg_k (by decide)) : rg 0 0 0)
        exact J30 (F) (L) (A) (B) H locs ls hq hP hD hS (lv_sub hl [] rfl)
      · skip
        have r10 : rg p2 0 2147483647 := rg_le2 (iNL c8) ((rg_k (by decide)) : rg 0 0 0) ((rg_top _) : rg p2 (-2147483648) 2147483647)
        refine lv_iload_n hx hb dX11_parted_15 rfl (lv_at hl 2 rfl) ?_
        refine lv_iload_n hx hb dX11_parted_16 rfl (lv_at hl 1 rfl) ?_
        refine lv_icmp_ge (tgt := 30) hx hb dX11_parted_17 (by decide) (fun c11 => ?_) (fun c11 => ?_)
        · skip
          have r12 : rg p2 1 2147483647 := rg_le2 (iE c11) (r7 : rg p1 1 9) (r10 : rg p2 0 2147483647)
          exact J30 (F) (L) (A) (B) H locs ls hq hP hD hS (lv_sub hl [] rfl)
        · skip
          have r13 : rg p2 0 8 := rg_lt1 (iNE c11) (r10 : rg p2 0 2147483647) (r7 : rg p1 1 9)
          refine lv_aload_n hx hb dX11_parted_20 rfl (lv_at hl 0 rfl) ?_
          refine lv_iload_n hx hb dX11_parted_21 rfl (lv_at hl 3 rfl) ?_
          refine lv_iload hx hb dX11_parted_22 (lv_at hl 4 rfl) ?_
          refine callv_i (As := [.int p3, .int p4]) (rest := []) hC (c_X11_isPair_0 l D cA H.size ad F L A B (p3) (p4) hq.1) (cwV 2 hg (g_V mw_727 mw_724 mw_726 ms_18 mw_1) rfl rfl rfl (by decide +kernel) ⟨(Nat.le_of_ble_eq_true rfl), (Nat.le_of_ble_eq_true rfl)⟩) hP hD hS hA atX_0 rfl rfl hl.1 rfl (Nat.le_of_ble_eq_true rfl) dX11_parted_24 ⟨Nat.zero_le _, Nat.zero_le _⟩ (fun x14 u H locs hw hP hD hS => ?_)
          obtain ⟨r15, g16⟩ := hw
          have hP : va_P D classes (wX cA ad F L A B) H := hP
          have hD : va_D Af (wX cA ad F L A B) := hD
          refine lv_if_ne (tgt := 32) hx hb dX11_parted_27 (by decide) (fun c17 => ?_) (fun c17 => ?_)
          · skip
            have g18 := g16.resolve_left c17
            refine lv_aload_n hx hb dX11_parted_32 rfl (lv_at hl 0 rfl) ?_
            refine va_get (ci := 11) (v := .ref (ad 46)) (C := RX11) (T := TX11) (N := 13) hx hb hg inX11 hown hK hP 0 atX_0 rfl 6 (by decide) (hg _ mw_531) (fun _ h9 => h9) rfl dX11_parted_33 ?_
            refine lv_iload_n hx hb dX11_parted_36 rfl (lv_at hl 1 rfl) ?_
            refine lv_aload_n hx hb dX11_parted_37 rfl (lv_at hl 0 rfl) ?_
            refine va_get (ci := 11) (v := .ref (ad 18)) (C := RX11) (T := TX11) (N := 13) hx hb hg inX11 hown hK hP 0 atX_0 rfl 2 (by decide) (hg _ mw_527) (fun _ h9 => h9) rfl dX11_parted_38 ?_
            refine callv_v (As := [.int p1, .ref (ad 18)]) (rest := []) hC (c_X4_cutUp_46_18 l D cA H.size ad F L A B (p1) hq.1 r7) (cwV 2 hg (g_V mw_856 mw_853 mw_854 mw_855 mw_16) rfl rfl rfl (by decide +kernel) ⟨(Nat.le_of_ble_eq_true rfl), (Nat.le_of_ble_eq_true rfl)⟩) hP hD hS hA atX_46 rfl rfl hl.1 rfl (Nat.le_of_ble_eq_true rfl) dX11_parted_41 ⟨Nat.zero_le _, Nat.zero_le _⟩ (fun  u H locs hw hP hD hS => ?_)
            obtain ⟨F20, L20, A20, B20⟩ := u
            try dsimp only at hw
            have hq20 := hw
            have hq := hq.call hq20 (by decide)
            have hP : va_P D classes (wX cA ad F20 L20 A20 B20) H := hP
            have hD : va_D Af (wX cA ad F20 L20 A20 B20) := hD
            refine lv_aload_n hx hb dX11_parted_44 rfl (lv_at hl 0 rfl) ?_
            refine va_get (ci := 11) (v := .ref (ad 46)) (C := RX11) (T := TX11) (N := 13) hx hb hg inX11 hown hK hP 0 atX_0 rfl 6 (by decide) (hg _ mw_531) (fun _ h9 => h9) rfl dX11_parted_45 ?_
            refine va_get (ci := 4) (v := .ref (ad 47)) (C := RX4) (T := TX4) (N := 12) hx hb hg inX4 hown hK hP 46 atX_46 rfl 0 (by decide) (hg _ mw_400) (fun _ h9 => h9) rfl dX11_parted_48 ?_
            refine lv_iload_n hx hb dX11_parted_51 rfl (lv_at hl 2 rfl) ?_
            refine lv_bipush (v := 80) hx hb dX11_parted_52 (by decide) ?_
            refine lv_imul hx hb dX11_parted_54 ?_
            refine lv_topi (fun x21 e22 => ?_)
            have r23 : rg x21 0 640 := rg_mul e22 r13 ((rg_k (by decide)) : rg 80 80 80) (by decide)
            refine lv_iload_n hx hb dX11_parted_55 rfl (lv_at hl 3 rfl) ?_
            refine lv_iload hx hb dX11_parted_56 (lv_at hl 4 rfl) ?_
            refine calls_i (As := [.int p3, .int p4]) (rest := [.int x21, .ref (ad 47)]) hC (c_X11_cellOf l D (tysX cA) (wX cA ad F20 L20 A20 B20) H.size (p3) (p4)) (cwS 2 hg (g_S mw_681 mw_736 mw_680 mw_1) rfl rfl rfl (by decide +kernel) ⟨(Nat.le_of_ble_eq_true rfl), (Nat.le_of_ble_eq_true rfl)⟩) hP hD hS hA rfl hl.1 rfl (Nat.le_of_ble_eq_true rfl) dX11_parted_58 ⟨Nat.zero_le _, Nat.zero_le _⟩ (fun x24 u H locs hw hP hD hS => ?_)
            have e25 := hw
            have hP : va_P D classes (wX cA ad F20 L20 A20 B20) H := hP
            have hD : va_D Af (wX cA ad F20 L20 A20 B20) := hD
            have r26 : rg x24 0 79 := rg_cell hw (g18.1 : rg p3 0 7) (g18.2 : rg p4 0 9) (by decide)
            refine lv_iadd hx hb dX11_parted_61 ?_
            refine lv_topi (fun x27 e28 => ?_)
            have r29 : rg x27 0 719 := rg_add e28 r23 r26 (by decide)
            refine va_iald hx hb hK hP 47 34 atX_47 tyX_47 (in_rg r29 (by decide)) dX11_parted_62 ?_
            refine lv_topi (fun x30 e31 => ?_)
            exact hret (x30) (F20, L20, A20, B20) H locs 63 ls rfl dX11_parted_63 hP hD hS hq
          · skip
            have r19 : rg x14 0 0 := rg_eq1 c17 (r15 : rg x14 0 1) ((rg_k (by decide)) : rg 0 0 0) (by decide)
            exact J30 (F) (L) (A) (B) H locs ls hq hP hD hS (lv_sub hl [] rfl)
abbrev rm_X11_mustDo_0 : Room := { frames := 1, cells := 0, slots := 0, locals := 20 }
set_option maxHeartbeats 4000000 in
set_option maxRecDepth 100000 in
theorem c_X11_mustDo_0 (l : Launch) (D : va_G) (cA : Nat → ClassId) (sz : Nat) (ad : Nat → Nat) (F : Nat → Int32) (L : Nat → Int64) (A : Nat → Nat → Int32) (B : Nat → Nat → Int64) (p1 : Int32) (hT : typX F A) (hp1 : rg p1 0 255) : Met l yX11_mustDo (Cond.code yX11_mustDo cX11_mustDo 5 (some .int) :: GW) rm_X11_mustDo_0 (mPc D classes (tysX cA) (wX cA ad F L A B) sz [.ref (ad 0), .int p1]) (mQi (S := Unit) D classes (tysX cA) (wX cA ad F L A B) sz (fun _ : Unit => wX cA ad F L A B) (fun r u => True)) 0 0 (va_A (wX cA ad F L A B) sz) := by
  refine met_i (own := "ShoeingDay") (by decide +kernel) rfl (Nat.le_of_ble_eq_true rfl) ?_
  intro p e s m args below meth c Q Af ls hC hP hD hS hA hl hret
  have hx := hC.1
  have hb := hC.2.1
  have hown := hC.2.2.2.1
  have hg := hC.g
  have hK := hC.K
  have hl : lv_has ls 5 [(0, .ref (ad 0)), (1, .int p1)] := hl
  have hq : qX [] [] F A F A := qX.rf hT
  obtain ⟨H, hH⟩ : ∃ H, H = s.heap := ⟨_, rfl⟩
  have hP : va_P D classes (wX cA ad F L A B) H := by rw [hH]; exact hP
  have hS : va_S Af s.heap H [] := by rw [hH]; exact hS
  obtain ⟨locs, hlo⟩ : ∃ q : List Loc, q = [] := ⟨_, rfl⟩
  rw [← hH, ← hlo]
  rw [← hlo] at hS
  refine lv_iconst (v := 0) hx hb dX11_mustDo_0 (by decide) ?_
  refine lv_istore_n (lv' := [(2, .int 0), (0, .ref (ad 0)), (1, .int p1)]) hx hb dX11_mustDo_1 rfl hl (by decide) rfl (fun ls hl => ?_)
  refine lv_iconst (v := 0) hx hb dX11_mustDo_2 (by decide) ?_
  refine lv_istore_n (lv' := [(3, .int 0), (2, .int 0), (0, .ref (ad 0)), (1, .int p1)]) hx hb dX11_mustDo_3 rfl hl (by decide) rfl (fun ls hl => ?_)
  have J4 : ∀ (n4 : Nat) (a1 : Int32) (a2 : Int32) (H : Heap) (locs : List Loc) (ls : Array Slot), (8 - a2.toInt).toNat < n4 → rg a2 0 8 → va_P D classes (wX cA ad F L A B) H → va_D Af (wX cA ad F L A B) → va_S Af s.heap H locs → lv_has ls 5 [(0, .ref (ad 0)), (1, .int p1), (2, .int a1), (3, .int a2)] → W p l e rm_X11_mustDo_0 s m args below meth c H locs 0 0 Q (F0 m 4 ls []) := by
    intro n4
    induction n4 with
    | zero =>
      intro _ _ _ _ _ hn
      exact absurd hn (Nat.not_lt_zero _)
    | succ n4 ih4 =>
      intro a1 a2 H locs ls hn4 r3 hP hD hS hl
      refine lv_iload_n hx hb dX11_mustDo_4 rfl (lv_at hl 3 rfl) ?_
      refine lv_aload_n hx hb dX11_mustDo_5 rfl (lv_at hl 0 rfl) ?_
      refine va_get (ci := 11) (v := .ref (ad 11)) (C := RX11) (T := TX11) (N := 13) hx hb hg inX11 hown hK hP 0 atX_0 rfl 10 (by decide) (hg _ mw_535) (fun _ h9 => h9) rfl dX11_mustDo_6 ?_
      refine va_get (ci := 10) (v := .int (F 15)) (C := RX10) (T := TX10) (N := 12) hx hb hg inX10 hown hK hP 11 atX_11 rfl 6 (by decide) (hg _ mw_169) (fun _ h9 => h9) rfl dX11_mustDo_9 ?_
      refine lv_topi (fun x4 e5 => ?_)
      have r6 : rg x4 0 8 := rg_e e5 (hq.1.1 15)
      refine lv_icmp_ge (tgt := 54) hx hb dX11_mustDo_12 (by decide) (fun c7 => ?_) (fun c7 => ?_)
      · skip
        refine lv_iload_n hx hb dX11_mustDo_54 rfl (lv_at hl 1 rfl) ?_
        refine calls_i (As := [.int p1]) (rest := []) hC (c_J6_bitCount_0f7a4 l D (tysX cA) (wX cA ad F L A B) H.size (p1)) (cwF 1 hg mw_800 mw_801 mw_21 mw_802 ⟨rfl, rfl⟩ (by decide +kernel) ⟨(Nat.le_of_ble_eq_true rfl), (Nat.le_of_ble_eq_true rfl)⟩) hP hD hS hA rfl hl.1 rfl (Nat.le_of_ble_eq_true rfl) dX11_mustDo_55 ⟨Nat.zero_le _, Nat.zero_le _⟩ (fun x10 u H locs hw hP hD hS => ?_)
        have e11 := hw
        have hP : va_P D classes (wX cA ad F L A B) H := hP
        have hD : va_D Af (wX cA ad F L A B) := hD
        have r12 : rg x10 0 63 := rg_bc hw
        refine lv_istore_n (lv' := [(3, .int x10), (0, .ref (ad 0)), (1, .int p1), (2, .int a1)]) hx hb dX11_mustDo_58 rfl hl (by decide) rfl (fun ls hl => ?_)
        refine lv_iload_n hx hb dX11_mustDo_59 rfl (lv_at hl 0 rfl) ?_
        refine lv_if_ne (tgt := 67) hx hb dX11_mustDo_60 (by decide) (fun c13 => ?_) (fun c13 => ?_)
        · skip
          have r14 : rg x10 1 63 := (rg_ne1 c13 (r12 : rg x10 0 63) ((rg_k (by decide)) : rg 0 0 0)).1 rfl
          refine lv_iload_n hx hb dX11_mustDo_67 rfl (lv_at hl 3 rfl) ?_
          refine lv_iload_n hx hb dX11_mustDo_68 rfl (lv_at hl 0 rfl) ?_
          refine lv_iadd hx hb dX11_mustDo_69 ?_
          refine lv_topi (fun x16 e17 => ?_)
          refine lv_iconst (v := 1) hx hb dX11_mustDo_70 (by decide) ?_
          refine lv_isub hx hb dX11_mustDo_71 ?_
          refine lv_topi (fun x18 e19 => ?_)
          refine lv_iload_n hx hb dX11_mustDo_72 rfl (lv_at hl 0 rfl) ?_
          refine lv_idiv hx hb dX11_mustDo_73 (ne0_rg r14 (by decide)) ?_
          refine lv_topi (fun x20 e21 => ?_)
          exact hret (x20) () H locs 74 ls rfl dX11_mustDo_74 hP hD hS trivial
        · skip
          have r15 : rg x10 0 0 := rg_eq1 c13 (r12 : rg x10 0 63) ((rg_k (by decide)) : rg 0 0 0) (by decide)
          refine lv_iconst (v := 0) hx hb dX11_mustDo_63 (by decide) ?_
          refine lv_goto (tgt := 74) hx hb dX11_mustDo_64 (by decide) ?_
          exact hret (0) () H locs 74 ls rfl dX11_mustDo_74 hP hD hS trivial
      · skip
        have r8 : rg a2 0 7 := rg_lt1 (iNE c7) (r3 : rg a2 0 8) (r6 : rg x4 0 8)
        have r9 : rg x4 1 8 := rg_lt2 (iNE c7) (r3 : rg a2 0 8) (r6 : rg x4 0 8)
        refine lv_aload_n hx hb dX11_mustDo_15 rfl (lv_at hl 0 rfl) ?_
        refine va_get (ci := 11) (v := .ref (ad 11)) (C := RX11) (T := TX11) (N := 13) hx hb hg inX11 hown hK hP 0 atX_0 rfl 10 (by decide) (hg _ mw_535) (fun _ h9 => h9) rfl dX11_mustDo_16 ?_
        refine va_get (ci := 10) (v := .ref (ad 15)) (C := RX10) (T := TX10) (N := 12) hx hb hg inX10 hown hK hP 11 atX_11 rfl 3 (by decide) (hg _ mw_160) (fun _ h9 => h9) rfl dX11_mustDo_19 ?_
        refine lv_iload_n hx hb dX11_mustDo_22 rfl (lv_at hl 3 rfl) ?_
        refine va_iald hx hb hK hP 15 10 atX_15 tyX_15 (in_rg r8 (by decide)) dX11_mustDo_23 ?_
        refine lv_topi (fun x22 e23 => ?_)
        refine lv_iconst (v := 1) hx hb dX11_mustDo_24 (by decide) ?_
        refine lv_iload_n hx hb dX11_mustDo_25 rfl (lv_at hl 3 rfl) ?_
        refine lv_ishl hx hb dX11_mustDo_26 ?_
        refine lv_topi (fun x24 e25 => ?_)
        have r26 : rg x24 1 128 := rg_shl1 e25 r8 (by decide)
        refine lv_ior hx hb dX11_mustDo_27 ?_
        refine lv_topi (fun x27 e28 => ?_)
        refine lv_istore (lv' := [(4, .int x27), (0, .ref (ad 0)), (1, .int p1), (2, .int a1), (3, .int a2)]) hx hb dX11_mustDo_28 hl (by decide) rfl (fun ls hl => ?_)
        refine lv_iload hx hb dX11_mustDo_30 (lv_at hl 0 rfl) ?_
        refine lv_iload_n hx hb dX11_mustDo_32 rfl (lv_at hl 2 rfl) ?_
        refine lv_iconst (v := (-1)) hx hb dX11_mustDo_33 (by decide) ?_
        refine lv_ixor hx hb dX11_mustDo_34 ?_
        refine lv_topi (fun x29 e30 => ?_)
        refine lv_iand hx hb dX11_mustDo_35 ?_
        refine lv_topi (fun x31 e32 => ?_)
        have J48 : ∀ (a33 : Int32) (H : Heap) (locs : List Loc) (ls : Array Slot), va_P D classes (wX cA ad F L A B) H → va_D Af (wX cA ad F L A B) → va_S Af s.heap H locs → lv_has ls 5 [(0, .ref (ad 0)), (1, .int p1), (2, .int a33), (3, .int a2)] → W p l e rm_X11_mustDo_0 s m args below meth c H locs 0 0 Q (F0 m 48 ls []) := by
          intro a33 H locs ls hP hD hS hl
          obtain ⟨x34, e35⟩ : ∃ y : Int32, y = a2 + 1 := ⟨_, rfl⟩
          have r36 : rg x34 1 8 := rg_add e35 r8 (rg_k (by decide) : rg 1 1 1) (by decide)
          refine lv_iinc (v := x34) (lv' := [(3, .int x34), (0, .ref (ad 0)), (1, .int p1), (2, .int a33)]) hx hb dX11_mustDo_48 hl (k := 3) rfl (by rw [e35]; rfl) (by decide) rfl (fun ls hl => ?_)
          refine lv_goto (tgt := 4) hx hb dX11_mustDo_51 (by decide) ?_
          exact ih4 (a33) (x34) H locs ls (by have h0 : (1 : Int32).toInt = 1 := rfl; have h1 := ti_addk e35 r8 (by decide); have h2 : rg x34 0 8 := (rg_w r36 (by decide)); unfold rg at h2; omega) (rg_w r36 (by decide)) hP hD hS (lv_sub hl [1, 2, 3, 0] rfl)
        refine lv_if_ne (tgt := 48) hx hb dX11_mustDo_36 (by decide) (fun c37 => ?_) (fun c37 => ?_)
        · skip
          exact J48 (a1) H locs ls  hP hD hS (lv_sub hl [1, 2, 3, 4] rfl)
        · skip
          have r38 : rg x31 0 0 := rg_eq1 c37 ((rg_top _) : rg x31 (-2147483648) 2147483647) ((rg_k (by decide)) : rg 0 0 0) (by decide)
          refine lv_iload_n hx hb dX11_mustDo_39 rfl (lv_at hl 3 rfl) ?_
          refine lv_aload_n hx hb dX11_mustDo_40 rfl (lv_at hl 1 rfl) ?_
          refine va_get (ci := 11) (v := .ref (ad 70)) (C := RX11) (T := TX11) (N := 13) hx hb hg inX11 hown hK hP 0 atX_0 rfl 9 (by decide) (hg _ mw_534) (fun _ h9 => h9) rfl dX11_mustDo_41 ?_
          refine lv_iload_n hx hb dX11_mustDo_44 rfl (lv_at hl 4 rfl) ?_
          refine va_iald hx hb hK hP 70 55 atX_70 tyX_70 (in_rg r8 (by decide)) dX11_mustDo_45 ?_
          refine lv_topi (fun x39 e40 => ?_)
          refine lv_iadd hx hb dX11_mustDo_46 ?_
          refine lv_topi (fun x41 e42 => ?_)
          refine lv_istore_n (lv' := [(2, .int x41), (4, .int x27), (0, .ref (ad 0)), (1, .int p1), (3, .int a2)]) hx hb dX11_mustDo_47 rfl hl (by decide) rfl (fun ls hl => ?_)
          exact J48 (x41) H locs ls  hP hD hS (lv_sub hl [2, 3, 0, 4] rfl)
  exact J4 _ (0) (0) H locs ls (Nat.lt_succ_self _) (rg_k (by decide)) hP hD hS (lv_sub hl [2, 3, 1, 0] rfl)
