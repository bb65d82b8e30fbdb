abbrev rm_X11_putFour_0 : Room := { frames := 0, cells := 0, slots := 0, locals := 0 }
set_option maxHeartbeats 4000000 in
set_option maxRecDepth 100000 in
theorem c_X11_putFour_0 (l : Launch) (D : va_G) (cA : Nat → ClassId) (sz : Nat) (ad : Nat → Nat) (F : Nat → Int32) (L : Nat → Int64) (A : Nat → Nat → Int32) (B : Nat → Nat → Int64) (p1 : Int32) (hT : typX F A) : Met l yX11_putFour (Cond.code yX11_putFour cX11_putFour 3 none :: GW) rm_X11_putFour_0 (mPc D classes (tysX cA) (wX cA ad F L A B) sz [.ref (ad 0), .int p1]) (mQv (S := SW) D classes (tysX cA) (wX cA ad F L A B) sz (wfX cA ad) (fun u => qX [0] [1] F A u.1 u.2.2.1)) 0 0 (va_A (wX cA ad F L A B) sz) := by
  refine met_v (own := "ShoeingDay") (by decide +kernel) rfl (Nat.le_of_ble_eq_true rfl) ?_
  intro p e s m args below meth c Q Af ls hC hP hD hS hA hl hret
  have hx := hC.1
  have hb := hC.2.1
  have hown := hC.2.2.2.1
  have hg := hC.g
  have hK := hC.K
  have hl : lv_has ls 3 [(0, .ref (ad 0)), (1, .int p1)] := hl
  have hq : qX [0] [1] F A F A := qX.rf hT
  obtain ⟨H, hH⟩ : ∃ H, H = s.heap := ⟨_, rfl⟩
  have hP : va_P D classes (wX cA ad F L A B) H := by rw [hH]; exact hP
  have hS : va_S Af s.heap H [] := by rw [hH]; exact hS
  obtain ⟨locs, hlo⟩ : ∃ q : List Loc, q = [] := ⟨_, rfl⟩
  rw [← hH, ← hlo]
  rw [← hlo] at hS
  refine lv_bipush (v := 24) hx hb dX11_putFour_0 (by decide) ?_
  refine lv_istore_n (lv' := [(2, .int 24), (0, .ref (ad 0)), (1, .int p1)]) hx hb dX11_putFour_2 rfl hl (by decide) rfl (fun ls hl => ?_)
  have J3 : ∀ (n3 : Nat) (a1 : Int32) (F3 : Nat → Int32) (L3 : Nat → Int64) (A3 : Nat → Nat → Int32) (B3 : Nat → Nat → Int64) (H : Heap) (locs : List Loc) (ls : Array Slot), (a1.toInt - (-8)).toNat < n3 → rg a1 (-8) 24 → qX [0] [1] F A F3 A3 → va_P D classes (wX cA ad F3 L3 A3 B3) H → va_D Af (wX cA ad F3 L3 A3 B3) → va_S Af s.heap H locs → lv_has ls 3 [(0, .ref (ad 0)), (1, .int p1), (2, .int a1)] → W p l e rm_X11_putFour_0 s m args below meth c H locs 0 0 Q (F0 m 3 ls []) := by
    intro n3
    induction n3 with
    | zero =>
      intro _ _ _ _ _ _ _ _ hn
      exact absurd hn (Nat.not_lt_zero _)
    | succ n3 ih3 =>
      intro a1 F3 L3 A3 B3 H locs ls hn3 r2 hq hP hD hS hl
      refine lv_iload_n hx hb dX11_putFour_3 rfl (lv_at hl 2 rfl) ?_
      refine lv_if_lt (tgt := 48) hx hb dX11_putFour_4 (by decide) (fun c4 => ?_) (fun c4 => ?_)
      · skip
        have r5 : rg a1 (-8) (-1) := rg_lt1 (iL c4) (r2 : rg a1 (-8) 24) ((rg_k (by decide)) : rg 0 0 0)
        exact hret (F3, L3, A3, B3) H locs 48 ls dX11_putFour_48 hP hD hS hq
      · skip
        have r6 : rg a1 0 24 := rg_le2 (iNL c4) ((rg_k (by decide)) : rg 0 0 0) (r2 : rg a1 (-8) 24)
        refine lv_aload_n hx hb dX11_putFour_7 rfl (lv_at hl 0 rfl) ?_
        refine va_get (ci := 11) (v := .int (F3 0)) (C := RX11) (T := TX11) (N := 13) hx hb hg inX11 hown hK hP 0 atX_0 rfl 11 (by decide) (hg _ mw_536) (fun _ h9 => h9) rfl dX11_putFour_8 ?_
        refine lv_topi (fun x7 e8 => ?_)
        have r9 : rg x7 0 1700 := rg_e e8 (hq.1.1 0)
        refine lv_aload_n hx hb dX11_putFour_11 rfl (lv_at hl 0 rfl) ?_
        refine va_get (ci := 11) (v := .ref (ad 1)) (C := RX11) (T := TX11) (N := 13) hx hb hg inX11 hown hK hP 0 atX_0 rfl 0 (by decide) (hg _ mw_525) (fun _ h9 => h9) rfl dX11_putFour_12 ?_
        refine va_alen (v := 1700) hx hb hK hP 1 0 atX_1 tyX_1 rfl dX11_putFour_15 ?_
        refine lv_icmp_ge (tgt := 48) hx hb dX11_putFour_16 (by decide) (fun c10 => ?_) (fun c10 => ?_)
        · skip
          have r11 : rg x7 1700 1700 := rg_le2 (iE c10) ((rg_k (by decide)) : rg 1700 1700 1700) (r9 : rg x7 0 1700)
          exact hret (F3, L3, A3, B3) H locs 48 ls dX11_putFour_48 hP hD hS hq
        · skip
          have r12 : rg x7 0 1699 := rg_lt1 (iNE c10) (r9 : rg x7 0 1700) ((rg_k (by decide)) : rg 1700 1700 1700)
          refine lv_aload_n hx hb dX11_putFour_19 rfl (lv_at hl 0 rfl) ?_
          refine va_get (ci := 11) (v := .ref (ad 1)) (C := RX11) (T := TX11) (N := 13) hx hb hg inX11 hown hK hP 0 atX_0 rfl 0 (by decide) (hg _ mw_525) (fun _ h9 => h9) rfl dX11_putFour_20 ?_
          refine lv_aload_n hx hb dX11_putFour_23 rfl (lv_at hl 0 rfl) ?_
          refine va_get (ci := 11) (v := .int x7) (C := RX11) (T := TX11) (N := 13) hx hb hg inX11 hown hK hP 0 atX_0 rfl 11 (by decide) (hg _ mw_536) (fun _ h9 => h9) (congrArg (fun z => some (Value.int z)) (e8.symm)) dX11_putFour_24 ?_
          refine lv_iload_n hx hb dX11_putFour_27 rfl (lv_at hl 1 rfl) ?_
          refine lv_iload_n hx hb dX11_putFour_28 rfl (lv_at hl 2 rfl) ?_
          refine lv_ishr hx hb dX11_putFour_29 ?_
          refine lv_topi (fun x13 e14 => ?_)
          refine lv_i2b hx hb dX11_putFour_30 rfl ?_
          refine lv_topi (fun x15 e16 => ?_)
          refine va_bast hx hb hK hP hD hS 1 0 atX_1 tyX_1 (in_rg r12 (by decide)) dX11_putFour_31 (fun H locs hP hD hS => ?_)
          have hq := hq.ast 1 (x7).toNatClampNeg (x := (vp_nar .byte x15)) (by decide) (rg_top _)
          rw [setX_1] at hP hD
          refine lv_aload_n hx hb dX11_putFour_32 rfl (lv_at hl 0 rfl) ?_
          refine lv_dup hx hb dX11_putFour_33 rfl ?_
          refine va_get (ci := 11) (v := .int x7) (C := RX11) (T := TX11) (N := 13) hx hb hg inX11 hown hK hP 0 atX_0 rfl 11 (by decide) (hg _ mw_536) (fun _ h9 => h9) (congrArg (fun z => some (Value.int z)) (e8.symm)) dX11_putFour_34 ?_
          refine lv_iconst (v := 1) hx hb dX11_putFour_37 (by decide) ?_
          refine lv_iadd hx hb dX11_putFour_38 ?_
          refine lv_topi (fun x17 e18 => ?_)
          have r19 : rg x17 1 1700 := rg_add e18 r12 ((rg_k (by decide)) : rg 1 1 1) (by decide)
          refine va_put (ci := 11) (v := .int x17) (ty := .int) (C := RX11) (T := TX11) (N := 13) hx hb hg inX11 tyX11 tyX11_ok nmX11 hown hK hP hD hS 0 atX_0 rfl 11 (by decide) (hg _ mw_536) (fun _ h9 => h9) rfl (by decide +kernel) rfl rfl (Nat.le_of_ble_eq_true rfl) dX11_putFour_39 (fun H locs hP hD hS => ?_)
          have hq := hq.put 0 (x := x17) (by decide) (rg_w r19 (by decide))
          rw [setFX_0] at hP hD
          obtain ⟨x20, e21⟩ : ∃ y : Int32, y = a1 + (-8) := ⟨_, rfl⟩
          have r22 : rg x20 (-8) 16 := rg_add e21 r6 (rg_k (by decide) : rg (-8) (-8) (-8)) (by decide)
          refine lv_iinc (v := x20) (lv' := [(2, .int x20), (0, .ref (ad 0)), (1, .int p1)]) hx hb dX11_putFour_42 hl (k := 2) rfl (by rw [e21]; rfl) (by decide) rfl (fun ls hl => ?_)
          refine lv_goto (tgt := 3) hx hb dX11_putFour_45 (by decide) ?_
          exact ih3 (x20) ((upd F3 0 x17)) (L3) ((va_up A3 1 (upd (A3 1) (x7).toNatClampNeg (vp_nar .byte x15)))) (B3) H locs ls (by have h0 : ((-8) : Int32).toInt = (-8) := rfl; have h1 := ti_addk e21 r6 (by decide); have h2 : rg x20 (-8) 24 := (rg_w r22 (by decide)); unfold rg at h2; omega) (rg_w r22 (by decide)) hq hP hD hS (lv_sub hl [1, 2, 0] rfl)
  exact J3 _ (24) (F) (L) (A) (B) H locs ls (Nat.lt_succ_self _) (rg_k (by decide)) hq hP hD hS (lv_sub hl [1, 2, 0] rfl)
abbrev rm_X11_feed_0 : Room := { frames := 1, cells := 0, slots := 0, locals := 22 }
set_option maxHeartbeats 4000000 in
set_option maxRecDepth 100000 in
theorem c_X11_feed_0 (l : Launch) (D : va_G) (cA : Nat → ClassId) (sz : Nat) (ad : Nat → Nat) (F : Nat → Int32) (L : Nat → Int64) (A : Nat → Nat → Int32) (B : Nat → Nat → Int64) (p1 : Int32) (p2 : Int32) (p3 : Int32) (p4 : Int32) (p5 : Int32) (hT : typX F A) : Met l yX11_feed (Cond.code yX11_feed cX11_feed 6 (some .int) :: GW) rm_X11_feed_0 (mPc D classes (tysX cA) (wX cA ad F L A B) sz [.ref (ad 0), .int p1, .int p2, .int p3, .int p4, .int p5]) (mQi (S := SW) D classes (tysX cA) (wX cA ad F L A B) sz (wfX cA ad) (fun r u => qX [0] [1] F A u.1 u.2.2.1 ∧ rg r (-1) 1700)) 0 0 (va_A (wX cA ad F L A B) sz) := by
  refine met_i (own := "ShoeingDay") (by decide +kernel) rfl (Nat.le_of_ble_eq_true rfl) ?_
  intro p e s m args below meth c Q Af ls hC hP hD hS hA hl hret
  have hx := hC.1
  have hb := hC.2.1
  have hown := hC.2.2.2.1
  have hg := hC.g
  have hK := hC.K
  have hl : lv_has ls 6 [(0, .ref (ad 0)), (1, .int p1), (2, .int p2), (3, .int p3), (4, .int p4), (5, .int p5)] := hl
  have hq : qX [0] [1] F A F A := qX.rf hT
  obtain ⟨H, hH⟩ : ∃ H, H = s.heap := ⟨_, rfl⟩
  have hP : va_P D classes (wX cA ad F L A B) H := by rw [hH]; exact hP
  have hS : va_S Af s.heap H [] := by rw [hH]; exact hS
  obtain ⟨locs, hlo⟩ : ∃ q : List Loc, q = [] := ⟨_, rfl⟩
  rw [← hH, ← hlo]
  rw [← hlo] at hS
  refine lv_aload_n hx hb dX11_feed_0 rfl (lv_at hl 0 rfl) ?_
  refine va_get (ci := 11) (v := .int (F 0)) (C := RX11) (T := TX11) (N := 13) hx hb hg inX11 hown hK hP 0 atX_0 rfl 11 (by decide) (hg _ mw_536) (fun _ h9 => h9) rfl dX11_feed_1 ?_
  refine lv_topi (fun x1 e2 => ?_)
  have r3 : rg x1 0 1700 := rg_e e2 (hq.1.1 0)
  refine lv_bipush (v := 20) hx hb dX11_feed_4 (by decide) ?_
  refine lv_iadd hx hb dX11_feed_6 ?_
  refine lv_topi (fun x4 e5 => ?_)
  have r6 : rg x4 20 1720 := rg_add e5 r3 ((rg_k (by decide)) : rg 20 20 20) (by decide)
  refine lv_sipush (v := 1700) hx hb dX11_feed_7 (by decide) ?_
  refine lv_icmp_le (tgt := 15) hx hb dX11_feed_10 (by decide) (fun c7 => ?_) (fun c7 => ?_)
  · skip
    have r8 : rg x4 20 1700 := rg_le1 (iE c7) (r6 : rg x4 20 1720) ((rg_k (by decide)) : rg 1700 1700 1700)
    refine lv_aload_n hx hb dX11_feed_15 rfl (lv_at hl 0 rfl) ?_
    refine lv_iload_n hx hb dX11_feed_16 rfl (lv_at hl 1 rfl) ?_
    refine callv_v (As := [.int p1]) (rest := []) hC (c_X11_putFour_0 l D cA H.size ad F L A B (p1) hq.1) (cwV 1 hg (g_V mw_572 mw_569 mw_571 ms_0 mw_1) rfl rfl rfl (by decide +kernel) ⟨(Nat.le_of_ble_eq_true rfl), (Nat.le_of_ble_eq_true rfl)⟩) hP hD hS hA atX_0 rfl rfl hl.1 rfl (Nat.le_of_ble_eq_true rfl) dX11_feed_17 ⟨Nat.zero_le _, Nat.zero_le _⟩ (fun  u H locs hw hP hD hS => ?_)
    obtain ⟨F10, L10, A10, B10⟩ := u
    try dsimp only at hw
    have hq10 := hw
    have hq := hq.call hq10 (by decide)
    have hP : va_P D classes (wX cA ad F10 L10 A10 B10) H := hP
    have hD : va_D Af (wX cA ad F10 L10 A10 B10) := hD
    refine lv_aload_n hx hb dX11_feed_20 rfl (lv_at hl 0 rfl) ?_
    refine lv_iload_n hx hb dX11_feed_21 rfl (lv_at hl 2 rfl) ?_
    refine callv_v (As := [.int p2]) (rest := []) hC (c_X11_putFour_0 l D cA H.size ad F10 L10 A10 B10 (p2) hq.1) (cwV 1 hg (g_V mw_572 mw_569 mw_571 ms_0 mw_1) rfl rfl rfl (by decide +kernel) ⟨(Nat.le_of_ble_eq_true rfl), (Nat.le_of_ble_eq_true rfl)⟩) hP hD hS hA atX_0 rfl rfl hl.1 rfl (Nat.le_of_ble_eq_true rfl) dX11_feed_22 ⟨Nat.zero_le _, Nat.zero_le _⟩ (fun  u H locs hw hP hD hS => ?_)
    obtain ⟨F11, L11, A11, B11⟩ := u
    try dsimp only at hw
    have hq11 := hw
    have hq := hq.call hq11 (by decide)
    have hP : va_P D classes (wX cA ad F11 L11 A11 B11) H := hP
    have hD : va_D Af (wX cA ad F11 L11 A11 B11) := hD
    refine lv_aload_n hx hb dX11_feed_25 rfl (lv_at hl 0 rfl) ?_
    refine lv_iload_n hx hb dX11_feed_26 rfl (lv_at hl 3 rfl) ?_
    refine callv_v (As := [.int p3]) (rest := []) hC (c_X11_putFour_0 l D cA H.size ad F11 L11 A11 B11 (p3) hq.1) (cwV 1 hg (g_V mw_572 mw_569 mw_571 ms_0 mw_1) rfl rfl rfl (by decide +kernel) ⟨(Nat.le_of_ble_eq_true rfl), (Nat.le_of_ble_eq_true rfl)⟩) hP hD hS hA atX_0 rfl rfl hl.1 rfl (Nat.le_of_ble_eq_true rfl) dX11_feed_27 ⟨Nat.zero_le _, Nat.zero_le _⟩ (fun  u H locs hw hP hD hS => ?_)
    obtain ⟨F12, L12, A12, B12⟩ := u
    try dsimp only at hw
    have hq12 := hw
    have hq := hq.call hq12 (by decide)
    have hP : va_P D classes (wX cA ad F12 L12 A12 B12) H := hP
    have hD : va_D Af (wX cA ad F12 L12 A12 B12) := hD
    refine lv_aload_n hx hb dX11_feed_30 rfl (lv_at hl 0 rfl) ?_
    refine lv_iload hx hb dX11_feed_31 (lv_at hl 4 rfl) ?_
    refine callv_v (As := [.int p4]) (rest := []) hC (c_X11_putFour_0 l D cA H.size ad F12 L12 A12 B12 (p4) hq.1) (cwV 1 hg (g_V mw_572 mw_569 mw_571 ms_0 mw_1) rfl rfl rfl (by decide +kernel) ⟨(Nat.le_of_ble_eq_true rfl), (Nat.le_of_ble_eq_true rfl)⟩) hP hD hS hA atX_0 rfl rfl hl.1 rfl (Nat.le_of_ble_eq_true rfl) dX11_feed_33 ⟨Nat.zero_le _, Nat.zero_le _⟩ (fun  u H locs hw hP hD hS => ?_)
    obtain ⟨F13, L13, A13, B13⟩ := u
    try dsimp only at hw
    have hq13 := hw
    have hq := hq.call hq13 (by decide)
    have hP : va_P D classes (wX cA ad F13 L13 A13 B13) H := hP
    have hD : va_D Af (wX cA ad F13 L13 A13 B13) := hD
    refine lv_aload_n hx hb dX11_feed_36 rfl (lv_at hl 0 rfl) ?_
    refine lv_iload hx hb dX11_feed_37 (lv_at hl 5 rfl) ?_
    refine callv_v (As := [.int p5]) (rest := []) hC (c_X11_putFour_0 l D cA H.size ad F13 L13 A13 B13 (p5) hq.1) (cwV 1 hg (g_V mw_572 mw_569 mw_571 ms_0 mw_1) rfl rfl rfl (by decide +kernel) ⟨(Nat.le_of_ble_eq_true rfl), (Nat.le_of_ble_eq_true rfl)⟩) hP hD hS hA atX_0 rfl rfl hl.1 rfl (Nat.le_of_ble_eq_true rfl) dX11_feed_39 ⟨Nat.zero_le _, Nat.zero_le _⟩ (fun  u H locs hw hP hD hS => ?_)
    obtain ⟨F14, L14, A14, B14⟩ := u
    try dsimp only at hw
    have hq14 := hw
    have hq := hq.call hq14 (by decide)
    have hP : va_P D classes (wX cA ad F14 L14 A14 B14) H := hP
    have hD : va_D Af (wX cA ad F14 L14 A14 B14) := hD
    refine lv_aload_n hx hb dX11_feed_42 rfl (lv_at hl 0 rfl) ?_
    refine va_get (ci := 11) (v := .int (F14 0)) (C := RX11) (T := TX11) (N := 13) hx hb hg inX11 hown hK hP 0 atX_0 rfl 11 (by decide) (hg _ mw_536) (fun _ h9 => h9) rfl dX11_feed_43 ?_
    refine lv_topi (fun x15 e16 => ?_)
    have r17 : rg x15 0 1700 := rg_e e16 (hq.1.1 0)
    exact hret (x15) (F14, L14, A14, B14) H locs 46 ls rfl dX11_feed_46 hP hD hS ⟨hq, (rg_w r17 (by decide))⟩
  · skip
    have r9 : rg x4 1701 1720 := rg_lt2 (iNE c7) ((rg_k (by decide)) : rg 1700 1700 1700) (r6 : rg x4 20 1720)
    refine lv_iconst (v := (-1)) hx hb dX11_feed_13 (by decide) ?_
    exact hret ((-1)) (F, L, A, B) H locs 14 ls rfl dX11_feed_14 hP hD hS ⟨hq, (rg_k (by decide))⟩
abbrev rm_X11_end_0 : Room := { frames := 0, cells := 0, slots := 0, locals := 0 }
set_option maxHeartbeats 4000000 in
set_option maxRecDepth 100000 in
theorem c_X11_end_0 (l : Launch) (D : va_G) (cA : Nat → ClassId) (sz : Nat) (ad : Nat → Nat) (F : Nat → Int32) (L : Nat → Int64) (A : Nat → Nat → Int32) (B : Nat → Nat → Int64) (p1 : Int32) (hT : typX F A) : Met l yX11_end (Cond.code yX11_end cX11_end 2 (some .int) :: GW) rm_X11_end_0 (mPc D classes (tysX cA) (wX cA ad F L A B) sz [.ref (ad 0), .int p1]) (mQi (S := SW) D classes (tysX cA) (wX cA ad F L A B) sz (wfX cA ad) (fun r u => qX [0] [] F A u.1 u.2.2.1 ∧ rg r (-1) 1700)) 0 0 (va_A (wX cA ad F L A B) sz) := by
  refine met_i (own := "ShoeingDay") (by decide +kernel) rfl (Nat.le_of_ble_eq_true rfl) ?_
  intro p e s m args below meth c Q Af ls hC hP hD hS hA hl hret
  have hx := hC.1
  have hb := hC.2.1
  have hown := hC.2.2.2.1
  have hg := hC.g
  have hK := hC.K
  have hl : lv_has ls 2 [(0, .ref (ad 0)), (1, .int p1)] := hl
  have hq : qX [0] [] F A F A := qX.rf hT
  obtain ⟨H, hH⟩ : ∃ H, H = s.heap := ⟨_, rfl⟩
  have hP : va_P D classes (wX cA ad F L A B) H := by rw [hH]; exact hP
  have hS : va_S Af s.heap H [] := by rw [hH]; exact hS
  obtain ⟨locs, hlo⟩ : ∃ q : List Loc, q = [] := ⟨_, rfl⟩
  rw [← hH, ← hlo]
  rw [← hlo] at hS
  refine lv_iload_n hx hb dX11_end_0 rfl (lv_at hl 1 rfl) ?_
  have J12 : ∀ (F1 : Nat → Int32) (L1 : Nat → Int64) (A1 : Nat → Nat → Int32) (B1 : Nat → Nat → Int64) (H : Heap) (locs : List Loc) (ls : Array Slot), qX [0] [] F A F1 A1 → va_P D classes (wX cA ad F1 L1 A1 B1) H → va_D Af (wX cA ad F1 L1 A1 B1) → va_S Af s.heap H locs → lv_has ls 2 [] → W p l e rm_X11_end_0 s m args below meth c H locs 0 0 Q (F0 m 12 ls []) := by
    intro F1 L1 A1 B1 H locs ls hq hP hD hS hl
    refine lv_iconst (v := (-1)) hx hb dX11_end_12 (by decide) ?_
    exact hret ((-1)) (F1, L1, A1, B1) H locs 13 ls rfl dX11_end_13 hP hD hS ⟨hq, (rg_k (by decide))⟩
  refine lv_if_lt (tgt := 12) hx hb dX11_end_1 (by decide) (fun c2 => ?_) (fun c2 => ?_)
  · skip
    have r3 : rg p1 (-2147483648) (-1) := rg_lt1 (iL c2) ((rg_top _) : rg p1 (-2147483648) 2147483647) ((rg_k (by decide)) : rg 0 0 0)
    exact J12 (F) (L) (A) (B) H locs ls hq hP hD hS (lv_sub hl [] rfl)
  · skip
    have r4 : rg p1 0 2147483647 := rg_le2 (iNL c2) ((rg_k (by decide)) : rg 0 0 0) ((rg_top _) : rg p1 (-2147483648) 2147483647)
    refine lv_iload_n hx hb dX11_end_4 rfl (lv_at hl 1 rfl) ?_
    refine lv_aload_n hx hb dX11_end_5 rfl (lv_at hl 0 rfl) ?_
    refine va_get (ci := 11) (v := .int (F 0)) (C := RX11) (T := TX11) (N := 13) hx hb hg inX11 hown hK hP 0 atX_0 rfl 11 (by decide) (hg _ mw_536) (fun _ h9 => h9) rfl dX11_end_6 ?_
    refine lv_topi (fun x5 e6 => ?_)
    have r7 : rg x5 0 1700 := rg_e e6 (hq.1.1 0)
    refine lv_icmp_le (tgt := 14) hx hb dX11_end_9 (by decide) (fun c8 => ?_) (fun c8 => ?_)
    · skip
      have r9 : rg p1 0 1700 := rg_le1 (iE c8) (r4 : rg p1 0 2147483647) (r7 : rg x5 0 1700)
      refine lv_aload_n hx hb dX11_end_14 rfl (lv_at hl 0 rfl) ?_
      refine lv_iload_n hx hb dX11_end_15 rfl (lv_at hl 1 rfl) ?_
      refine va_put (ci := 11) (v := .int p1) (ty := .int) (C := RX11) (T := TX11) (N := 13) hx hb hg inX11 tyX11 tyX11_ok nmX11 hown hK hP hD hS 0 atX_0 rfl 11 (by decide) (hg _ mw_536) (fun _ h9 => h9) rfl (by decide +kernel) rfl rfl (Nat.le_of_ble_eq_true rfl) dX11_end_16 (fun H locs hP hD hS => ?_)
      have hq := hq.put 0 (x := p1) (by decide) r9
      rw [setFX_0] at hP hD
      refine lv_iload_n hx hb dX11_end_19 rfl (lv_at hl 1 rfl) ?_
      exact hret (p1) ((upd F 0 p1), L, A, B) H locs 20 ls rfl dX11_end_20 hP hD hS ⟨hq, (rg_w r9 (by decide))⟩
    · skip
      have r10 : rg p1 1 2147483647 := rg_lt2 (iNE c8) (r7 : rg x5 0 1700) (r4 : rg p1 0 2147483647)
      exact J12 (F) (L) (A) (B) H locs ls hq hP hD hS (lv_sub hl [] rfl)
abbrev rm_X7_keep_21_18 : Room := { frames := 1, cells := 0, slots := 0, locals := 44 }
set_option maxHeartbeats 4000000 in
set_option maxRecDepth 100000 in
theorem c_X7_keep_21_18 (l : Launch) (D : va_G) (cA : Nat → ClassId) (sz : Nat) (ad : Nat → Nat) (F : Nat → Int32) (L : Nat → Int64) (A : Nat → Nat → Int32) (B : Nat → Nat → Int64) (p1 : Int32) (hT : typX F A) (hp1 : rg p1 0 40) : Met l yX7_keep (Cond.code yX7_keep cX7_keep 3 none :: GW) rm_X7_keep_21_18 (mPc D classes (tysX cA) (wX cA ad F L A B) sz [.ref (ad 21), .int p1, .ref (ad 18)]) (mQv (S := SW) D classes (tysX cA) (wX cA ad F L A B) sz (wfX cA ad) (fun u => qX [] [22, 23] F A u.1 u.2.2.1)) 0 0 (va_A (wX cA ad F L A B) sz) := by
  refine met_v (own := "ShoeingDay$Shelf") (by decide +kernel) rfl (Nat.le_of_ble_eq_true rfl) ?_
  intro p e s m args below meth c Q Af ls hC hP hD hS hA hl hret
  have hx := hC.1
  have hb := hC.2.1
  have hown := hC.2.2.2.1
  have hg := hC.g
  have hK := hC.K
  have hl : lv_has ls 3 [(0, .ref (ad 21)), (1, .int p1), (2, .ref (ad 18))] := hl
  have hq : qX [] [22, 23] F A F A := qX.rf hT
  obtain ⟨H, hH⟩ : ∃ H, H = s.heap := ⟨_, rfl⟩
  have hP : va_P D classes (wX cA ad F L A B) H := by rw [hH]; exact hP
  have hS : va_S Af s.heap H [] := by rw [hH]; exact hS
  obtain ⟨locs, hlo⟩ : ∃ q : List Loc, q = [] := ⟨_, rfl⟩
  rw [← hH, ← hlo]
  rw [← hlo] at hS
  refine lv_iload_n hx hb dX7_keep_0 rfl (lv_at hl 1 rfl) ?_
  refine lv_if_lt (tgt := 40) hx hb dX7_keep_1 (by decide) (fun c1 => ?_) (fun c1 => ?_)
  · skip
    exact rg_emp (rg_lt1 (iL c1) (hp1 : rg p1 0 40) ((rg_k (by decide)) : rg 0 0 0)) (by decide)
  · skip
    refine lv_iload_n hx hb dX7_keep_4 rfl (lv_at hl 1 rfl) ?_
    refine lv_aload_n hx hb dX7_keep_5 rfl (lv_at hl 0 rfl) ?_
    refine va_get (ci := 7) (v := .int (F 27)) (C := RX7) (T := TX7) (N := 3) hx hb hg inX7 hown hK hP 21 atX_21 rfl 0 (by decide) (hg _ mw_281) (fun _ h9 => h9) rfl dX7_keep_6 ?_
    refine lv_topi (fun x2 e3 => ?_)
    have r4 : rg x2 41 41 := rg_e e3 (hq.1.1 27)
    refine lv_icmp_ge (tgt := 40) hx hb dX7_keep_9 (by decide) (fun c5 => ?_) (fun c5 => ?_)
    · skip
      exact rg_emp (rg_le1 (iE c5) (r4 : rg x2 41 41) (hp1 : rg p1 0 40)) (by decide)
    · skip
      refine lv_aload_n hx hb dX7_keep_12 rfl (lv_at hl 2 rfl) ?_
      refine va_get (ci := 3) (v := .ref (ad 19)) (C := RX3) (T := TX3) (N := 4) hx hb hg inX3 hown hK hP 18 atX_18 rfl 0 (by decide) (hg _ mw_235) (fun _ h9 => h9) rfl dX7_keep_13 ?_
      refine lv_iconst (v := 0) hx hb dX7_keep_16 (by decide) ?_
      refine lv_aload_n hx hb dX7_keep_17 rfl (lv_at hl 0 rfl) ?_
      refine va_get (ci := 7) (v := .ref (ad 22)) (C := RX7) (T := TX7) (N := 3) hx hb hg inX7 hown hK hP 21 atX_21 rfl 1 (by decide) (hg _ mw_282) (fun _ h9 => h9) rfl dX7_keep_18 ?_
      refine lv_iload_n hx hb dX7_keep_21 rfl (lv_at hl 1 rfl) ?_
      refine lv_bipush (v := 80) hx hb dX7_keep_22 (by decide) ?_
      refine lv_imul hx hb dX7_keep_24 ?_
      refine lv_topi (fun x6 e7 => ?_)
      have r8 : rg x6 0 3200 := rg_mul e7 hp1 ((rg_k (by decide)) : rg 80 80 80) (by decide)
      refine lv_bipush (v := 80) hx hb dX7_keep_25 (by decide) ?_
      refine va_copyi hx hb (hC.2.2.1.trans hl.1.symm) hown (hg _ mw_522) (hg _ mw_524) (hg _ mw_523) (hg _ mw_19) hK hP hD hS 19 22 13 14 atX_19 atX_22 tyX_19 tyX_22 rfl (nn_rg ((rg_k (by decide)) : rg 0 0 0) (by decide)) (nn_rg (r8 : rg x6 0 3200) (by decide)) (nn_rg ((rg_k (by decide)) : rg 80 80 80) (by decide)) (cp_rg ((rg_k (by decide)) : rg 0 0 0) ((rg_k (by decide)) : rg 80 80 80) (by decide)) (cp_rg (r8 : rg x6 0 3200) ((rg_k (by decide)) : rg 80 80 80) (by decide)) (fun _ _ => rfl) (Nat.le_of_ble_eq_true rfl) (Nat.le_of_ble_eq_true rfl) dX7_keep_27 (fun H locs hP hD hS => ?_)
      have hq := hq.cpy 22 19 (a := ((0 : Int32)).toNatClampNeg) (b := (x6).toNatClampNeg) (n := ((80 : Int32)).toNatClampNeg) (by decide) (by decide)
      rw [setX_22] at hP hD
      refine lv_aload_n hx hb dX7_keep_30 rfl (lv_at hl 0 rfl) ?_
      refine va_get (ci := 7) (v := .ref (ad 23)) (C := RX7) (T := TX7) (N := 3) hx hb hg inX7 hown hK hP 21 atX_21 rfl 2 (by decide) (hg _ mw_283) (fun _ h9 => h9) rfl dX7_keep_31 ?_
      refine lv_iload_n hx hb dX7_keep_34 rfl (lv_at hl 1 rfl) ?_
      refine lv_aload_n hx hb dX7_keep_35 rfl (lv_at hl 2 rfl) ?_
      refine va_get (ci := 3) (v := .int (F 23)) (C := RX3) (T := TX3) (N := 4) hx hb hg inX3 hown hK hP 18 atX_18 rfl 3 (by decide) (hg _ mw_248) (fun _ h9 => h9) rfl dX7_keep_36 ?_
      refine lv_topi (fun x9 e10 => ?_)
      refine va_iast hx hb hK hP hD hS 23 15 atX_23 tyX_23 (in_rg hp1 (by decide)) dX7_keep_39 (fun H locs hP hD hS => ?_)
      have hq := hq.ast 23 (p1).toNatClampNeg (x := x9) (by decide) (rg_top _)
      rw [setX_23] at hP hD
      have k11 : x9 = (va_up (va_up A 22 (va_cpy (A 19) (A 22) ((0 : Int32)).toNatClampNeg (x6).toNatClampNeg ((80 : Int32)).toNatClampNeg)) 23 (upd ((va_up A 22 (va_cpy (A 19) (A 22) ((0 : Int32)).toNatClampNeg (x6).toNatClampNeg ((80 : Int32)).toNatClampNeg)) 23) (p1).toNatClampNeg x9)) 23 (p1).toNatClampNeg := (rdA).symm
      exact hret (F, L, (va_up (va_up A 22 (va_cpy (A 19) (A 22) ((0 : Int32)).toNatClampNeg (x6).toNatClampNeg ((80 : Int32)).toNatClampNeg)) 23 (upd ((va_up A 22 (va_cpy (A 19) (A 22) ((0 : Int32)).toNatClampNeg (x6).toNatClampNeg ((80 : Int32)).toNatClampNeg)) 23) (p1).toNatClampNeg x9)), B) H locs 40 ls dX7_keep_40 hP hD hS hq
abbrev rm_X0_forget_20_18 : Room := { frames := 2, cells := 0, slots := 0, locals := 66 }
set_option maxHeartbeats 4000000 in
set_option maxRecDepth 100000 in
theorem c_X0_forget_20_18 (l : Launch) (D : va_G) (cA : Nat → ClassId) (sz : Nat) (ad : Nat → Nat) (F : Nat → Int32) (L : Nat → Int64) (A : Nat → Nat → Int32) (B : Nat → Nat → Int64)  (hT : typX F A) (hI : xX F) : Met l yX0_forget (Cond.code yX0_forget cX0_forget 2 none :: GW) rm_X0_forget_20_18 (mPc D classes (tysX cA) (wX cA ad F L A B) sz [.ref (ad 20), .ref (ad 18)]) (mQv (S := SW) D classes (tysX cA) (wX cA ad F L A B) sz (wfX cA ad) (fun u => qX [24, 25, 26] [22, 23] F A u.1 u.2.2.1 ∧ xX u.1)) 0 0 (va_A (wX cA ad F L A B) sz) := by
  refine met_v (own := "ShoeingDay$Acts") (by decide +kernel) rfl (Nat.le_of_ble_eq_true rfl) ?_
  intro p e s m args below meth c Q Af ls hC hP hD hS hA hl hret
  have hx := hC.1
  have hb := hC.2.1
  have hown := hC.2.2.2.1
  have hg := hC.g
  have hK := hC.K
  have hl : lv_has ls 2 [(0, .ref (ad 20)), (1, .ref (ad 18))] := hl
  have hq : qX [24, 25, 26] [22, 23] F A F A := qX.rf hT
  obtain ⟨H, hH⟩ : ∃ H, H = s.heap := ⟨_, rfl⟩
  have hP : va_P D classes (wX cA ad F L A B) H := by rw [hH]; exact hP
  have hS : va_S Af s.heap H [] := by rw [hH]; exact hS
  obtain ⟨locs, hlo⟩ : ∃ q : List Loc, q = [] := ⟨_, rfl⟩
  rw [← hH, ← hlo]
  rw [← hlo] at hS
  refine lv_aload_n hx hb dX0_forget_0 rfl (lv_at hl 0 rfl) ?_
  refine lv_iconst (v := 0) hx hb dX0_forget_1 (by decide) ?_
  refine va_put (ci := 0) (v := .int 0) (ty := .int) (C := RX0) (T := TX0) (N := 4) hx hb hg inX0 tyX0 tyX0_ok nmX0 hown hK hP hD hS 20 atX_20 rfl 1 (by decide) (hg _ mw_292) (fun _ h9 => h9) rfl (by decide +kernel) rfl rfl (Nat.le_of_ble_eq_true rfl) dX0_forget_2 (fun H locs hP hD hS => ?_)
  have hq := hq.put 24 (x := 0) (by decide) (rg_k (by decide))
  rw [setFX_24] at hP hD
  refine lv_aload_n hx hb dX0_forget_5 rfl (lv_at hl 0 rfl) ?_
  refine lv_iconst (v := 0) hx hb dX0_forget_6 (by decide) ?_
  refine va_put (ci := 0) (v := .int 0) (ty := .int) (C := RX0) (T := TX0) (N := 4) hx hb hg inX0 tyX0 tyX0_ok nmX0 hown hK hP hD hS 20 atX_20 rfl 2 (by decide) (hg _ mw_293) (fun _ h9 => h9) rfl (by decide +kernel) rfl rfl (Nat.le_of_ble_eq_true rfl) dX0_forget_7 (fun H locs hP hD hS => ?_)
  have hq := hq.put 25 (x := 0) (by decide) (rg_k (by decide))
  rw [setFX_25] at hP hD
  refine lv_aload_n hx hb dX0_forget_10 rfl (lv_at hl 0 rfl) ?_
  refine lv_iconst (v := 0) hx hb dX0_forget_11 (by decide) ?_
  refine va_put (ci := 0) (v := .int 0) (ty := .int) (C := RX0) (T := TX0) (N := 4) hx hb hg inX0 tyX0 tyX0_ok nmX0 hown hK hP hD hS 20 atX_20 rfl 3 (by decide) (hg _ mw_295) (fun _ h9 => h9) rfl (by decide +kernel) rfl rfl (Nat.le_of_ble_eq_true rfl) dX0_forget_12 (fun H locs hP hD hS => ?_)
  have hq := hq.put 26 (x := 0) (by decide) (rg_k (by decide))
  rw [setFX_26] at hP hD
  refine lv_aload_n hx hb dX0_forget_15 rfl (lv_at hl 0 rfl) ?_
  refine va_get (ci := 0) (v := .ref (ad 21)) (C := RX0) (T := TX0) (N := 4) hx hb hg inX0 hown hK hP 20 atX_20 rfl 0 (by decide) (hg _ mw_291) (fun _ h9 => h9) rfl dX0_forget_16 ?_
  refine lv_iconst (v := 0) hx hb dX0_forget_19 (by decide) ?_
  refine lv_aload_n hx hb dX0_forget_20 rfl (lv_at hl 1 rfl) ?_
  refine callv_v (As := [.int 0, .ref (ad 18)]) (rest := []) hC (c_X7_keep_21_18 l D cA H.size ad (upd (upd (upd F 24 (0 : Int32)) 25 (0 : Int32)) 26 (0 : Int32)) L A B (0) hq.1 (rg_k (by decide))) (cwV 2 hg (g_V mw_521 mw_518 mw_519 mw_520 mw_11) rfl rfl rfl (by decide +kernel) ⟨(Nat.le_of_ble_eq_true rfl), (Nat.le_of_ble_eq_true rfl)⟩) hP hD hS hA atX_21 rfl rfl hl.1 rfl (Nat.le_of_ble_eq_true rfl) dX0_forget_21 ⟨Nat.zero_le _, Nat.zero_le _⟩ (fun  u H locs hw hP hD hS => ?_)
  obtain ⟨F1, L1, A1, B1⟩ := u
  try dsimp only at hw
  have hq1 := hw
  have hq := hq.call hq1 (by decide)
  have hP : va_P D classes (wX cA ad F1 L1 A1 B1) H := hP
  have hD : va_D Af (wX cA ad F1 L1 A1 B1) := hD
  exact hret (F1, L1, A1, B1) H locs 24 ls dX0_forget_24 hP hD hS ⟨hq, (xX.of (a := (0 : Int32)) (b := (0 : Int32)) ((hq1.2.1 25 (by decide)).trans (rfl)) ((hq1.2.1 26 (by decide)).trans (rfl)) (by have h1 := ((rg_k (by decide)) : rg (0 : Int32) 0 0); have h2 := ((rg_k (by decide)) : rg (0 : Int32) 0 0); unfold rg at h1 h2; omega))⟩
abbrev rm_X11_lackIsNew_0 : Room := { frames := 0, cells := 0, slots := 0, locals := 0 }
set_option maxHeartbeats 4000000 in
set_option maxRecDepth 100000 in
theorem c_X11_lackIsNew_0 (l : Launch) (D : va_G) (cA : Nat → ClassId) (sz : Nat) (ad : Nat → Nat) (F : Nat → Int32) (L : Nat → Int64) (A : Nat → Nat → Int32) (B : Nat → Nat → Int64)  (hT : typX F A) : Met l yX11_lackIsNew (Cond.code yX11_lackIsNew cX11_lackIsNew 1 none :: GW) rm_X11_lackIsNew_0 (mPc D classes (tysX cA) (wX cA ad F L A B) sz [.ref (ad 0)]) (mQv (S := SW) D classes (tysX cA) (wX cA ad F L A B) sz (wfX cA ad) (fun u => qX [32, 36] [] F A u.1 u.2.2.1)) 0 0 (va_A (wX cA ad F L A B) sz) := by
  refine met_v (own := "ShoeingDay") (by decide +kernel) rfl (Nat.le_of_ble_eq_true rfl) ?_
  intro p e s m args below meth c Q Af ls hC hP hD hS hA hl hret
  have hx := hC.1
  have hb := hC.2.1
  have hown := hC.2.2.2.1
  have hg := hC.g
  have hK := hC.K
  have hl : lv_has ls 1 [(0, .ref (ad 0))] := hl
  have hq : qX [32, 36] [] F A F A := qX.rf hT
  obtain ⟨H, hH⟩ : ∃ H, H = s.heap := ⟨_, rfl⟩
  have hP : va_P D classes (wX cA ad F L A B) H := by rw [hH]; exact hP
  have hS : va_S Af s.heap H [] := by rw [hH]; exact hS
  obtain ⟨locs, hlo⟩ : ∃ q : List Loc, q = [] := ⟨_, rfl⟩
  rw [← hH, ← hlo]
  rw [← hlo] at hS
  refine lv_aload_n hx hb dX11_lackIsNew_0 rfl (lv_at hl 0 rfl) ?_
  refine va_get (ci := 11) (v := .ref (ad 27)) (C := RX11) (T := TX11) (N := 13) hx hb hg inX11 hown hK hP 0 atX_0 rfl 5 (by decide) (hg _ mw_530) (fun _ h9 => h9) rfl dX11_lackIsNew_1 ?_
  refine lv_iconst (v := 0) hx hb dX11_lackIsNew_4 (by decide) ?_
  refine va_put (ci := 2) (v := .int 0) (ty := .boolean) (C := RX2) (T := TX2) (N := 15) hx hb hg inX2 tyX2 tyX2_ok nmX2 hown hK hP hD hS 27 atX_27 rfl 7 (by decide) (hg _ mw_354) (fun _ h9 => h9) rfl (by decide +kernel) rfl rfl (Nat.le_of_ble_eq_true rfl) dX11_lackIsNew_5 (fun H locs hP hD hS => ?_)
  have hq := hq.put 32 (x := 0) (by decide) (rg_k (by decide))
  rw [setFX_32] at hP hD
  refine lv_aload_n hx hb dX11_lackIsNew_8 rfl (lv_at hl 0 rfl) ?_
  refine va_get (ci := 11) (v := .ref (ad 46)) (C := RX11) (T := TX11) (N := 13) hx hb hg inX11 hown hK hP 0 atX_0 rfl 6 (by decide) (hg _ mw_531) (fun _ h9 => h9) rfl dX11_lackIsNew_9 ?_
  refine lv_iconst (v := 0) hx hb dX11_lackIsNew_12 (by decide) ?_
  refine va_put (ci := 4) (v := .int 0) (ty := .int) (C := RX4) (T := TX4) (N := 12) hx hb hg inX4 tyX4 tyX4_ok nmX4 hown hK hP hD hS 46 atX_46 rfl 1 (by decide) (hg _ mw_402) (fun _ h9 => h9) rfl (by decide +kernel) rfl rfl (Nat.le_of_ble_eq_true rfl) dX11_lackIsNew_13 (fun H locs hP hD hS => ?_)
  have hq := hq.put 36 (x := 0) (by decide) (rg_k (by decide))
  rw [setFX_36] at hP hD
  exact hret ((upd (upd F 32 (0 : Int32)) 36 (0 : Int32)), L, A, B) H locs 16 ls dX11_lackIsNew_16 hP hD hS hq
abbrev rm_X3_begin_18_11 : Room := { frames := 1, cells := 0, slots := 0, locals := 44 }
set_option maxHeartbeats 4000000 in
set_option maxRecDepth 100000 in
theorem c_X3_begin_18_11 (l : Launch) (D : va_G) (cA : Nat → ClassId) (sz : Nat) (ad : Nat → Nat) (F : Nat → Int32) (L : Nat → Int64) (A : Nat → Nat → Int32) (B : Nat → Nat → Int64)  (hT : typX F A) : Met l yX3_begin (Cond.code yX3_begin cX3_begin 2 none :: GW) rm_X3_begin_18_11 (mPc D classes (tysX cA) (wX cA ad F L A B) sz [.ref (ad 18), .ref (ad 11)]) (mQv (S := SW) D classes (tysX cA) (wX cA ad F L A B) sz (wfX cA ad) (fun u => qX [21, 22, 23] [19] F A u.1 u.2.2.1)) 0 0 (va_A (wX cA ad F L A B) sz) := by
  refine met_v (own := "ShoeingDay$Ledger") (by decide +kernel) rfl (Nat.le_of_ble_eq_true rfl) ?_
  intro p e s m args below meth c Q Af ls hC hP hD hS hA hl hret
  have hx := hC.1
  have hb := hC.2.1
  have hown := hC.2.2.2.1
  have hg := hC.g
  have hK := hC.K
  have hl : lv_has ls 2 [(0, .ref (ad 18)), (1, .ref (ad 11))] := hl
  have hq : qX [21, 22, 23] [19] F A F A := qX.rf hT
  obtain ⟨H, hH⟩ : ∃ H, H = s.heap := ⟨_, rfl⟩
  have hP : va_P D classes (wX cA ad F L A B) H := by rw [hH]; exact hP
  have hS : va_S Af s.heap H [] := by rw [hH]; exact hS
  obtain ⟨locs, hlo⟩ : ∃ q : List Loc, q = [] := ⟨_, rfl⟩
  rw [← hH, ← hlo]
  rw [← hlo] at hS
  refine lv_aload_n hx hb dX3_begin_0 rfl (lv_at hl 1 rfl) ?_
  refine va_get (ci := 10) (v := .ref (ad 17)) (C := RX10) (T := TX10) (N := 12) hx hb hg inX10 hown hK hP 11 atX_11 rfl 5 (by decide) (hg _ mw_164) (fun _ h9 => h9) rfl dX3_begin_1 ?_
  refine lv_iconst (v := 0) hx hb dX3_begin_4 (by decide) ?_
  refine lv_aload_n hx hb dX3_begin_5 rfl (lv_at hl 0 rfl) ?_
  refine va_get (ci := 3) (v := .ref (ad 19)) (C := RX3) (T := TX3) (N := 4) hx hb hg inX3 hown hK hP 18 atX_18 rfl 0 (by decide) (hg _ mw_233) (fun _ h9 => h9) rfl dX3_begin_6 ?_
  refine lv_iconst (v := 0) hx hb dX3_begin_9 (by decide) ?_
  refine lv_bipush (v := 80) hx hb dX3_begin_10 (by decide) ?_
  refine va_copyi hx hb (hC.2.2.1.trans hl.1.symm) hown (hg _ mw_706) (hg _ mw_524) (hg _ mw_523) (hg _ mw_19) hK hP hD hS 17 19 12 13 atX_17 atX_19 tyX_17 tyX_19 rfl (nn_rg ((rg_k (by decide)) : rg 0 0 0) (by decide)) (nn_rg ((rg_k (by decide)) : rg 0 0 0) (by decide)) (nn_rg ((rg_k (by decide)) : rg 80 80 80) (by decide)) (cp_rg ((rg_k (by decide)) : rg 0 0 0) ((rg_k (by decide)) : rg 80 80 80) (by decide)) (cp_rg ((rg_k (by decide)) : rg 0 0 0) ((rg_k (by decide)) : rg 80 80 80) (by decide)) (fun _ _ => rfl) (Nat.le_of_ble_eq_true rfl) (Nat.le_of_ble_eq_true rfl) dX3_begin_12 (fun H locs hP hD hS => ?_)
  have hq := hq.cpy 19 17 (a := ((0 : Int32)).toNatClampNeg) (b := ((0 : Int32)).toNatClampNeg) (n := ((80 : Int32)).toNatClampNeg) (by decide) (by decide)
  rw [setX_19] at hP hD
  refine lv_aload_n hx hb dX3_begin_15 rfl (lv_at hl 0 rfl) ?_
  refine lv_aload_n hx hb dX3_begin_16 rfl (lv_at hl 1 rfl) ?_
  refine va_get (ci := 10) (v := .int (F 15)) (C := RX10) (T := TX10) (N := 12) hx hb hg inX10 hown hK hP 11 atX_11 rfl 6 (by decide) (hg _ mw_167) (fun _ h9 => h9) rfl dX3_begin_17 ?_
  refine lv_topi (fun x1 e2 => ?_)
  have r3 : rg x1 0 8 := rg_e e2 (hq.1.1 15)
  refine va_put (ci := 3) (v := .int x1) (ty := .int) (C := RX3) (T := TX3) (N := 4) hx hb hg inX3 tyX3 tyX3_ok nmX3 hown hK hP hD hS 18 atX_18 rfl 1 (by decide) (hg _ mw_239) (fun _ h9 => h9) rfl (by decide +kernel) rfl rfl (Nat.le_of_ble_eq_true rfl) dX3_begin_20 (fun H locs hP hD hS => ?_)
  have hq := hq.put 21 (x := x1) (by decide) r3
  rw [setFX_21] at hP hD
  refine lv_aload_n hx hb dX3_begin_23 rfl (lv_at hl 0 rfl) ?_
  refine lv_aload_n hx hb dX3_begin_24 rfl (lv_at hl 1 rfl) ?_
  refine va_get (ci := 10) (v := .int (F 16)) (C := RX10) (T := TX10) (N := 12) hx hb hg inX10 hown hK hP 11 atX_11 rfl 7 (by decide) (hg _ mw_172) (fun _ h9 => h9) rfl dX3_begin_25 ?_
  refine lv_topi (fun x4 e5 => ?_)
  have r6 : rg x4 0 10 := rg_e e5 (hq.1.1 16)
  refine va_put (ci := 3) (v := .int x4) (ty := .int) (C := RX3) (T := TX3) (N := 4) hx hb hg inX3 tyX3 tyX3_ok nmX3 hown hK hP hD hS 18 atX_18 rfl 2 (by decide) (hg _ mw_243) (fun _ h9 => h9) rfl (by decide +kernel) rfl rfl (Nat.le_of_ble_eq_true rfl) dX3_begin_28 (fun H locs hP hD hS => ?_)
  have hq := hq.put 22 (x := x4) (by decide) r6
  rw [setFX_22] at hP hD
  refine lv_aload_n hx hb dX3_begin_31 rfl (lv_at hl 0 rfl) ?_
  refine lv_iconst (v := 0) hx hb dX3_begin_32 (by decide) ?_
  refine va_put (ci := 3) (v := .int 0) (ty := .int) (C := RX3) (T := TX3) (N := 4) hx hb hg inX3 tyX3 tyX3_ok nmX3 hown hK hP hD hS 18 atX_18 rfl 3 (by decide) (hg _ mw_247) (fun _ h9 => h9) rfl (by decide +kernel) rfl rfl (Nat.le_of_ble_eq_true rfl) dX3_begin_33 (fun H locs hP hD hS => ?_)
  have hq := hq.put 23 (x := 0) (by decide) (rg_k (by decide))
  rw [setFX_23] at hP hD
  exact hret ((upd (upd (upd F 21 x1) 22 x4) 23 (0 : Int32)), L, (va_up A 19 (va_cpy (A 17) (A 19) ((0 : Int32)).toNatClampNeg ((0 : Int32)).toNatClampNeg ((80 : Int32)).toNatClampNeg)), B) H locs 36 ls dX3_begin_36 hP hD hS hq
abbrev rm_X10_clear_4 : Room := { frames := 1, cells := 0, slots := 0, locals := 23 }
set_option maxHeartbeats 4000000 in
set_option maxRecDepth 100000 in
theorem c_X10_clear_4 (l : Launch) (D : va_G) (cA : Nat → ClassId) (sz : Nat) (ad : Nat → Nat) (F : Nat → Int32) (L : Nat → Int64) (A : Nat → Nat → Int32) (B : Nat → Nat → Int64)  (hT : typX F A) : Met l yX10_clear (Cond.code yX10_clear cX10_clear 1 none :: GW) rm_X10_clear_4 (mPc D classes (tysX cA) (wX cA ad F L A B) sz [.ref (ad 4)]) (mQv (S := SW) D classes (tysX cA) (wX cA ad F L A B) sz (wfX cA ad) (fun u => qX [9, 10, 11, 12, 13, 14] [8, 9, 10] F A u.1 u.2.2.1)) 0 0 (va_A (wX cA ad F L A B) sz) := by
  refine met_v (own := "ShoeingDay$Yard") (by decide +kernel) rfl (Nat.le_of_ble_eq_true rfl) ?_
  intro p e s m args below meth c Q Af ls hC hP hD hS hA hl hret
  have hx := hC.1
  have hb := hC.2.1
  have hown := hC.2.2.2.1
  have hg := hC.g
  have hK := hC.K
  have hl : lv_has ls 1 [(0, .ref (ad 4))] := hl
  have hq : qX [9, 10, 11, 12, 13, 14] [8, 9, 10] F A F A := qX.rf hT
  obtain ⟨H, hH⟩ : ∃ H, H = s.heap := ⟨_, rfl⟩
  have hP : va_P D classes (wX cA ad F L A B) H := by rw [hH]; exact hP
  have hS : va_S Af s.heap H [] := by rw [hH]; exact hS
  obtain ⟨locs, hlo⟩ : ∃ q : List Loc, q = [] := ⟨_, rfl⟩
  rw [← hH, ← hlo]
  rw [← hlo] at hS
  refine lv_aload_n hx hb dX10_clear_0 rfl (lv_at hl 0 rfl) ?_
  refine lv_iconst (v := 0) hx hb dX10_clear_1 (by decide) ?_
  refine va_put (ci := 10) (v := .int 0) (ty := .int) (C := RX10) (T := TX10) (N := 12) hx hb hg inX10 tyX10 tyX10_ok nmX10 hown hK hP hD hS 4 atX_4 rfl 6 (by decide) (hg _ mw_166) (fun _ h9 => h9) rfl (by decide +kernel) rfl rfl (Nat.le_of_ble_eq_true rfl) dX10_clear_2 (fun H locs hP hD hS => ?_)
  have hq := hq.put 9 (x := 0) (by decide) (rg_k (by decide))
  rw [setFX_9] at hP hD
  refine lv_aload_n hx hb dX10_clear_5 rfl (lv_at hl 0 rfl) ?_
  refine lv_iconst (v := 0) hx hb dX10_clear_6 (by decide) ?_
  refine va_put (ci := 10) (v := .int 0) (ty := .int) (C := RX10) (T := TX10) (N := 12) hx hb hg inX10 tyX10 tyX10_ok nmX10 hown hK hP hD hS 4 atX_4 rfl 7 (by decide) (hg _ mw_171) (fun _ h9 => h9) rfl (by decide +kernel) rfl rfl (Nat.le_of_ble_eq_true rfl) dX10_clear_7 (fun H locs hP hD hS => ?_)
  have hq := hq.put 10 (x := 0) (by decide) (rg_k (by decide))
  rw [setFX_10] at hP hD
  refine lv_aload_n hx hb dX10_clear_10 rfl (lv_at hl 0 rfl) ?_
  refine lv_iconst (v := 0) hx hb dX10_clear_11 (by decide) ?_
  refine va_put (ci := 10) (v := .int 0) (ty := .int) (C := RX10) (T := TX10) (N := 12) hx hb hg inX10 tyX10 tyX10_ok nmX10 hown hK hP hD hS 4 atX_4 rfl 8 (by decide) (hg _ mw_175) (fun _ h9 => h9) rfl (by decide +kernel) rfl rfl (Nat.le_of_ble_eq_true rfl) dX10_clear_12 (fun H locs hP hD hS => ?_)
  have hq := hq.put 11 (x := 0) (by decide) (rg_k (by decide))
  rw [setFX_11] at hP hD
  refine lv_aload_n hx hb dX10_clear_15 rfl (lv_at hl 0 rfl) ?_
  refine lv_iconst (v := 0) hx hb dX10_clear_16 (by decide) ?_
  refine va_put (ci := 10) (v := .int 0) (ty := .int) (C := RX10) (T := TX10) (N := 12) hx hb hg inX10 tyX10 tyX10_ok nmX10 hown hK hP hD hS 4 atX_4 rfl 9 (by decide) (hg _ mw_177) (fun _ h9 => h9) rfl (by decide +kernel) rfl rfl (Nat.le_of_ble_eq_true rfl) dX10_clear_17 (fun H locs hP hD hS => ?_)
  have hq := hq.put 12 (x := 0) (by decide) (rg_k (by decide))
  rw [setFX_12] at hP hD
  refine lv_aload_n hx hb dX10_clear_20 rfl (lv_at hl 0 rfl) ?_
  refine lv_iconst (v := 0) hx hb dX10_clear_21 (by decide) ?_
  refine va_put (ci := 10) (v := .int 0) (ty := .int) (C := RX10) (T := TX10) (N := 12) hx hb hg inX10 tyX10 tyX10_ok nmX10 hown hK hP hD hS 4 atX_4 rfl 10 (by decide) (hg _ mw_179) (fun _ h9 => h9) rfl (by decide +kernel) rfl rfl (Nat.le_of_ble_eq_true rfl) dX10_clear_22 (fun H locs hP hD hS => ?_)
  have hq := hq.put 13 (x := 0) (by decide) (rg_k (by decide))
  rw [setFX_13] at hP hD
  refine lv_aload_n hx hb dX10_clear_25 rfl (lv_at hl 0 rfl) ?_
  refine lv_iconst (v := (-1)) hx hb dX10_clear_26 (by decide) ?_
  refine va_put (ci := 10) (v := .int (-1)) (ty := .int) (C := RX10) (T := TX10) (N := 12) hx hb hg inX10 tyX10 tyX10_ok nmX10 hown hK hP hD hS 4 atX_4 rfl 11 (by decide) (hg _ mw_181) (fun _ h9 => h9) rfl (by decide +kernel) rfl rfl (Nat.le_of_ble_eq_true rfl) dX10_clear_27 (fun H locs hP hD hS => ?_)
  have hq := hq.put 14 (x := (-1)) (by decide) (rg_k (by decide))
  rw [setFX_14] at hP hD
  refine lv_aload_n hx hb dX10_clear_30 rfl (lv_at hl 0 rfl) ?_
  refine va_get (ci := 10) (v := .ref (ad 8)) (C := RX10) (T := TX10) (N := 12) hx hb hg inX10 hown hK hP 4 atX_4 rfl 3 (by decide) (hg _ mw_158) (fun _ h9 => h9) rfl dX10_clear_31 ?_
  refine lv_iconst (v := 0) hx hb dX10_clear_34 (by decide) ?_
  refine calls_v (As := [.ref (ad 8), .int 0]) (rest := []) hC (c_fill l D (tysX cA) (wX cA ad (upd (upd (upd (upd (upd (upd F 9 (0 : Int32)) 10 (0 : Int32)) 11 (0 : Int32)) 12 (0 : Int32)) 13 (0 : Int32)) 14 ((-1) : Int32)) L A B) 8 4 H.size (ad 8) 8 (0 : Int32) atX_8 tyX_8 (by decide)) (cwF 2 hg mw_589 mw_279 mw_13 mw_280 ⟨rfl, rfl⟩ (by decide +kernel) ⟨(Nat.le_of_ble_eq_true rfl), (Nat.le_of_ble_eq_true rfl)⟩) hP hD hS hA rfl hl.1 rfl (Nat.le_of_ble_eq_true rfl) dX10_clear_35 ⟨Nat.zero_le _, Nat.zero_le _⟩ (fun u H locs _ hP hD hS => ?_)
  have hq := hq.fill 8 8 (x := (0 : Int32)) (by decide) (rg_k (by decide))
  rw [setX_8] at hP hD
  have hP : va_P D classes (wX cA ad (upd (upd (upd (upd (upd (upd F 9 (0 : Int32)) 10 (0 : Int32)) 11 (0 : Int32)) 12 (0 : Int32)) 13 (0 : Int32)) 14 ((-1) : Int32)) L (va_up A 8 (fun j => if j < 8 then (0 : Int32) else A 8 j)) B) H := hP
  have hD : va_D Af (wX cA ad (upd (upd (upd (upd (upd (upd F 9 (0 : Int32)) 10 (0 : Int32)) 11 (0 : Int32)) 12 (0 : Int32)) 13 (0 : Int32)) 14 ((-1) : Int32)) L (va_up A 8 (fun j => if j < 8 then (0 : Int32) else A 8 j)) B) := hD
  refine lv_aload_n hx hb dX10_clear_38 rfl (lv_at hl 0 rfl) ?_
  refine va_get (ci := 10) (v := .ref (ad 9)) (C := RX10) (T := TX10) (N := 12) hx hb hg inX10 hown hK hP 4 atX_4 rfl 4 (by decide) (hg _ mw_161) (fun _ h9 => h9) rfl dX10_clear_39 ?_
  refine lv_iconst (v := 0) hx hb dX10_clear_42 (by decide) ?_
  refine calls_v (As := [.ref (ad 9), .int 0]) (rest := []) hC (c_fill l D (tysX cA) (wX cA ad (upd (upd (upd (upd (upd (upd F 9 (0 : Int32)) 10 (0 : Int32)) 11 (0 : Int32)) 12 (0 : Int32)) 13 (0 : Int32)) 14 ((-1) : Int32)) L (va_up A 8 (fun j => if j < 8 then (0 : Int32) else A 8 j)) B) 9 5 H.size (ad 9) 8 (0 : Int32) atX_9 tyX_9 (by decide)) (cwF 2 hg mw_589 mw_279 mw_13 mw_280 ⟨rfl, rfl⟩ (by decide +kernel) ⟨(Nat.le_of_ble_eq_true rfl), (Nat.le_of_ble_eq_true rfl)⟩) hP hD hS hA rfl hl.1 rfl (Nat.le_of_ble_eq_true rfl) dX10_clear_43 ⟨Nat.zero_le _, Nat.zero_le _⟩ (fun u H locs _ hP hD hS => ?_)
  have hq := hq.fill 9 8 (x := (0 : Int32)) (by decide) (rg_k (by decide))
  rw [setX_9] at hP hD
  have hP : va_P D classes (wX cA ad (upd (upd (upd (upd (upd (upd F 9 (0 : Int32)) 10 (0 : Int32)) 11 (0 : Int32)) 12 (0 : Int32)) 13 (0 : Int32)) 14 ((-1) : Int32)) L (va_up (va_up A 8 (fun j => if j < 8 then (0 : Int32) else A 8 j)) 9 (fun j => if j < 8 then (0 : Int32) else (va_up A 8 (fun j => if j < 8 then (0 : Int32) else A 8 j)) 9 j)) B) H := hP
  have hD : va_D Af (wX cA ad (upd (upd (upd (upd (upd (upd F 9 (0 : Int32)) 10 (0 : Int32)) 11 (0 : Int32)) 12 (0 : Int32)) 13 (0 : Int32)) 14 ((-1) : Int32)) L (va_up (va_up A 8 (fun j => if j < 8 then (0 : Int32) else A 8 j)) 9 (fun j => if j < 8 then (0 : Int32) else (va_up A 8 (fun j => if j < 8 then (0 : Int32) else A 8 j)) 9 j)) B) := hD
  refine lv_aload_n hx hb dX10_clear_46 rfl (lv_at hl 0 rfl) ?_
  refine va_get (ci := 10) (v := .ref (ad 10)) (C := RX10) (T := TX10) (N := 12) hx hb hg inX10 hown hK hP 4 atX_4 rfl 5 (by decide) (hg _ mw_163) (fun _ h9 => h9) rfl dX10_clear_47 ?_
  refine lv_iconst (v := 0) hx hb dX10_clear_50 (by decide) ?_
  refine calls_v (As := [.ref (ad 10), .int 0]) (rest := []) hC (c_fill l D (tysX cA) (wX cA ad (upd (upd (upd (upd (upd (upd F 9 (0 : Int32)) 10 (0 : Int32)) 11 (0 : Int32)) 12 (0 : Int32)) 13 (0 : Int32)) 14 ((-1) : Int32)) L (va_up (va_up A 8 (fun j => if j < 8 then (0 : Int32) else A 8 j)) 9 (fun j => if j < 8 then (0 : Int32) else (va_up A 8 (fun j => if j < 8 then (0 : Int32) else A 8 j)) 9 j)) B) 10 6 H.size (ad 10) 80 (0 : Int32) atX_10 tyX_10 (by decide)) (cwF 2 hg mw_589 mw_279 mw_13 mw_280 ⟨rfl, rfl⟩ (by decide +kernel) ⟨(Nat.le_of_ble_eq_true rfl), (Nat.le_of_ble_eq_true rfl)⟩) hP hD hS hA rfl hl.1 rfl (Nat.le_of_ble_eq_true rfl) dX10_clear_51 ⟨Nat.zero_le _, Nat.zero_le _⟩ (fun u H locs _ hP hD hS => ?_)
  have hq := hq.fill 10 80 (x := (0 : Int32)) (by decide) (rg_k (by decide))
  rw [setX_10] at hP hD
  have hP : va_P D classes (wX cA ad (upd (upd (upd (upd (upd (upd F 9 (0 : Int32)) 10 (0 : Int32)) 11 (0 : Int32)) 12 (0 : Int32)) 13 (0 : Int32)) 14 ((-1) : Int32)) L (va_up (va_up (va_up A 8 (fun j => if j < 8 then (0 : Int32) else A 8 j)) 9 (fun j => if j < 8 then (0 : Int32) else (va_up A 8 (fun j => if j < 8 then (0 : Int32) else A 8 j)) 9 j)) 10 (fun j => if j < 80 then (0 : Int32) else (va_up (va_up A 8 (fun j => if j < 8 then (0 : Int32) else A 8 j)) 9 (fun j => if j < 8 then (0 : Int32) else (va_up A 8 (fun j => if j < 8 then (0 : Int32) else A 8 j)) 9 j)) 10 j)) B) H := hP
  have hD : va_D Af (wX cA ad (upd (upd (upd (upd (upd (upd F 9 (0 : Int32)) 10 (0 : Int32)) 11 (0 : Int32)) 12 (0 : Int32)) 13 (0 : Int32)) 14 ((-1) : Int32)) L (va_up (va_up (va_up A 8 (fun j => if j < 8 then (0 : Int32) else A 8 j)) 9 (fun j => if j < 8 then (0 : Int32) else (va_up A 8 (fun j => if j < 8 then (0 : Int32) else A 8 j)) 9 j)) 10 (fun j => if j < 80 then (0 : Int32) else (va_up (va_up A 8 (fun j => if j < 8 then (0 : Int32) else A 8 j)) 9 (fun j => if j < 8 then (0 : Int32) else (va_up A 8 (fun j => if j < 8 then (0 : Int32) else A 8 j)) 9 j)) 10 j)) B) := hD
  exact hret ((upd (upd (upd (upd (upd (upd F 9 (0 : Int32)) 10 (0 : Int32)) 11 (0 : Int32)) 12 (0 : Int32)) 13 (0 : Int32)) 14 ((-1) : Int32)), L, (va_up (va_up (va_up A 8 (fun j => if j < 8 then (0 : Int32) else A 8 j)) 9 (fun j => if j < 8 then (0 : Int32) else (va_up A 8 (fun j => if j < 8 then (0 : Int32) else A 8 j)) 9 j)) 10 (fun j => if j < 80 then (0 : Int32) else (va_up (va_up A 8 (fun j => if j < 8 then (0 : Int32) else A 8 j)) 9 (fun j => if j < 8 then (0 : Int32) else (va_up A 8 (fun j => if j < 8 then (0 : Int32) else A 8 j)) 9 j)) 10 j)), B) H locs 54 ls dX10_clear_54 hP hD hS hq
abbrev rm_X5_isDigit : Room := { frames := 0, cells := 0, slots := 0, locals := 0 }
set_option maxHeartbeats 4000000 in
set_option maxRecDepth 100000 in
theorem c_X5_isDigit (l : Launch) (D : va_G) (tys : List (ClassId × FieldType)) (ws : va_W) (sz : Nat) (p0 : Int32)  : Met l yX5_isDigit (Cond.code yX5_isDigit cX5_isDigit 1 (some .boolean) :: GW) rm_X5_isDigit (mPc D classes tys (ws) sz [.int p0]) (mQi (S := Unit) D classes tys (ws) sz (fun _ : Unit => ws) (fun r u => rg r 0 1 ∧ (r = 0 ∨ (rg p0 48 57)))) 0 0 (va_A (ws) sz) := by
  refine met_i (own := "ShoeingDay$Reader") (by decide +kernel) rfl (Nat.le_of_ble_eq_true rfl) ?_
  intro p e s m args below meth c Q Af ls hC hP hD hS hA hl hret
  have hx := hC.1
  have hb := hC.2.1
  have hown := hC.2.2.2.1
  have hg := hC.g
  have hK := hC.K
  have hl : lv_has ls 1 [(0, .int p0)] := hl
  obtain ⟨H, hH⟩ : ∃ H, H = s.heap := ⟨_, rfl⟩
  have hP : va_P D classes (ws) H := by rw [hH]; exact hP
  have hS : va_S Af s.heap H [] := by rw [hH]; exact hS
  obtain ⟨locs, hlo⟩ : ∃ q : List Loc, q = [] := ⟨_, rfl⟩
  rw [← hH, ← hlo]
  rw [← hlo] at hS
  refine lv_iload_n hx hb dX5_isDigit_0 rfl (lv_at hl 0 rfl) ?_
  refine lv_bipush (v := 48) hx hb dX5_isDigit_1 (by decide) ?_
  have J16 : ∀ (H : Heap) (locs : List Loc) (ls : Array Slot), va_P D classes (ws) H → va_D Af (ws) → va_S Af s.heap H locs → lv_has ls 1 [] → W p l e rm_X5_isDigit s m args below meth c H locs 0 0 Q (F0 m 16 ls []) := by
    intro H locs ls hP hD hS hl
    refine lv_iconst (v := 0) hx hb dX5_isDigit_16 (by decide) ?_
    exact hret (0) () H locs 17 ls rfl dX5_isDigit_17 hP hD hS ⟨(rg_k (by decide)), Or.inl rfl⟩
  refine lv_icmp_lt (tgt := 16) hx hb dX5_isDigit_3 (by decide) (fun c1 => ?_) (fun c1 => ?_)
  · skip
    have r2 : rg p0 (-2147483648) 47 := rg_lt1 (iL c1) ((rg_top _) : rg p0 (-2147483648) 2147483647) ((rg_k (by decide)) : rg 48 48 48)
    exact J16  H locs ls  hP hD hS (lv_sub hl [] rfl)
  · skip
    have r3 : rg p0 48 2147483647 := rg_le2 (iNL c1) ((rg_k (by decide)) : rg 48 48 48) ((rg_top _) : rg p0 (-2147483648) 2147483647)
    refine lv_iload_n hx hb dX5_isDigit_6 rfl (lv_at hl 0 rfl) ?_
    refine lv_bipush (v := 57) hx hb dX5_isDigit_7 (by decide) ?_
    refine lv_icmp_gt (tgt := 16) hx hb dX5_isDigit_9 (by decide) (fun c4 => ?_) (fun c4 => ?_)
    · skip
      have r5 : rg p0 58 2147483647 := rg_lt2 (iL c4) ((rg_k (by decide)) : rg 57 57 57) (r3 : rg p0 48 2147483647)
      exact J16  H locs ls  hP hD hS (lv_sub hl [] rfl)
    · skip
      have r6 : rg p0 48 57 := rg_le1 (iNL c4) (r3 : rg p0 48 2147483647) ((rg_k (by decide)) : rg 57 57 57)
      refine lv_iconst (v := 1) hx hb dX5_isDigit_12 (by decide) ?_
      refine lv_goto (tgt := 17) hx hb dX5_isDigit_13 (by decide) ?_
      exact hret (1) () H locs 17 ls rfl dX5_isDigit_17 hP hD hS ⟨(rg_k (by decide)), Or.inr r6⟩
abbrev rm_X5_isLetter : Room := { frames := 0, cells := 0, slots := 0, locals := 0 }
set_option maxHeartbeats 4000000 in
set_option maxRecDepth 100000 in
theorem c_X5_isLetter (l : Launch) (D : va_G) (tys : List (ClassId × FieldType)) (ws : va_W) (sz : Nat) (p0 : Int32)  : Met l yX5_isLetter (Cond.code yX5_isLetter cX5_isLetter 1 (some .boolean) :: GW) rm_X5_isLetter (mPc D classes tys (ws) sz [.int p0]) (mQi (S := Unit) D classes tys (ws) sz (fun _ : Unit => ws) (fun r u => rg r 0 1 ∧ (r = 0 ∨ (rg p0 97 122)))) 0 0 (va_A (ws) sz) := by
  refine met_i (own := "ShoeingDay$Reader") (by decide +kernel) rfl (Nat.le_of_ble_eq_true rfl) ?_
  intro p e s m args below meth c Q Af ls hC hP hD hS hA hl hret
  have hx := hC.1
  have hb := hC.2.1
  have hown := hC.2.2.2.1
  have hg := hC.g
  have hK := hC.K
  have hl : lv_has ls 1 [(0, .int p0)] := hl
  obtain ⟨H, hH⟩ : ∃ H, H = s.heap := ⟨_, rfl⟩
  have hP : va_P D classes (ws) H := by rw [hH]; exact hP
  have hS : va_S Af s.heap H [] := by rw [hH]; exact hS
  obtain ⟨locs, hlo⟩ : ∃ q : List Loc, q = [] := ⟨_, rfl⟩
  rw [← hH, ← hlo]
  rw [← hlo] at hS
  refine lv_iload_n hx hb dX5_isLetter_0 rfl (lv_at hl 0 rfl) ?_
  refine lv_bipush (v := 97) hx hb dX5_isLetter_1 (by decide) ?_
  have J16 : ∀ (H : Heap) (locs : List Loc) (ls : Array Slot), va_P D classes (ws) H → va_D Af (ws) → va_S Af s.heap H locs → lv_has ls 1 [] → W p l e rm_X5_isLetter s m args below meth c H locs 0 0 Q (F0 m 16 ls []) := by
    intro H locs ls hP hD hS hl
    refine lv_iconst (v := 0) hx hb dX5_isLetter_16 (by decide) ?_
    exact hret (0) () H locs 17 ls rfl dX5_isLetter_17 hP hD hS ⟨(rg_k (by decide)), Or.inl rfl⟩
  refine lv_icmp_lt (tgt := 16) hx hb dX5_isLetter_3 (by decide) (fun c1 => ?_) (fun c1 => ?_)
  · skip
    have r2 : rg p0 (-2147483648) 96 := rg_lt1 (iL c1) ((rg_top _) : rg p0 (-2147483648) 2147483647) ((rg_k (by decide)) : rg 97 97 97)
    exact J16  H locs ls  hP hD hS (lv_sub hl [] rfl)
  · skip
    have r3 : rg p0 97 2147483647 := rg_le2 (iNL c1) ((rg_k (by decide)) : rg 97 97 97) ((rg_top _) : rg p0 (-2147483648) 2147483647)
    refine lv_iload_n hx hb dX5_isLetter_6 rfl (lv_at hl 0 rfl) ?_
    refine lv_bipush (v := 122) hx hb dX5_isLetter_7 (by decide) ?_
    refine lv_icmp_gt (tgt := 16) hx hb dX5_isLetter_9 (by decide) (fun c4 => ?_) (fun c4 => ?_)
    · skip
      have r5 : rg p0 123 2147483647 := rg_lt2 (iL c4) ((rg_k (by decide)) : rg 122 122 122) (r3 : rg p0 97 2147483647)
      exact J16  H locs ls  hP hD hS (lv_sub hl [] rfl)
    · skip
      have r6 : rg p0 97 122 := rg_le1 (iNL c4) (r3 : rg p0 97 2147483647) ((rg_k (by decide)) : rg 122 122 122)
      refine lv_iconst (v := 1) hx hb dX5_isLetter_12 (by decide) ?_
      refine lv_goto (tgt := 17) hx hb dX5_isLetter_13 (by decide) ?_
      exact hret (1) () H locs 17 ls rfl dX5_isLetter_17 hP hD hS ⟨(rg_k (by decide)), Or.inr r6⟩
abbrev rm_X5_readNumber_3 : Room := { frames := 1, cells := 0, slots := 0, locals := 20 }
set_option maxHeartbeats 4000000 in
set_option maxRecDepth 100000 in
theorem c_X5_readNumber_3 (l : Launch) (D : va_G) (cA : Nat → ClassId) (sz : Nat) (ad : Nat → Nat) (F : Nat → Int32) (L : Nat → Int64) (A : Nat → Nat → Int32) (B : Nat → Nat → Int64)  (hT : typX F A) (htx : ad 71 = ad 1) : Met l yX5_readNumber (Cond.code yX5_readNumber cX5_readNumber 2 none :: GW) rm_X5_readNumber_3 (mPc D classes (tysX cA) (wX cA ad F L A B) sz [.ref (ad 3)]) (mQv (S := SW) D classes (tysX cA) (wX cA ad F L A B) sz (wfX cA ad) (fun u => qX [5, 6, 8] [] F A u.1 u.2.2.1)) 0 0 (va_A (wX cA ad F L A B) sz) := by
  refine met_v (own := "ShoeingDay$Reader") (by decide +kernel) rfl (Nat.le_of_ble_eq_true rfl) ?_
  intro p e s m args below meth c Q Af ls hC hP hD hS hA hl hret
  have hx := hC.1
  have hb := hC.2.1
  have hown := hC.2.2.2.1
  have hg := hC.g
  have hK := hC.K
  have hl : lv_has ls 2 [(0, .ref (ad 3))] := hl
  have hq : qX [5, 6, 8] [] F A F A := qX.rf hT
  obtain ⟨H, hH⟩ : ∃ H, H = s.heap := ⟨_, rfl⟩
  have hP : va_P D classes (wX cA ad F L A B) H := by rw [hH]; exact hP
  have hS : va_S Af s.heap H [] := by rw [hH]; exact hS
  obtain ⟨locs, hlo⟩ : ∃ q : List Loc, q = [] := ⟨_, rfl⟩
  rw [← hH, ← hlo]
  rw [← hlo] at hS
  refine lv_aload_n hx hb dX5_readNumber_0 rfl (lv_at hl 0 rfl) ?_
  refine lv_iconst (v := 0) hx hb dX5_readNumber_1 (by decide) ?_
  refine va_put (ci := 5) (v := .int 0) (ty := .int) (C := RX5) (T := TX5) (N := 14) hx hb hg inX5 tyX5 tyX5_ok nmX5 hown hK hP hD hS 3 atX_3 rfl 13 (by decide) (hg _ mw_116) (fun _ h9 => h9) rfl (by decide +kernel) rfl rfl (Nat.le_of_ble_eq_true rfl) dX5_readNumber_2 (fun H locs hP hD hS => ?_)
  have hq := hq.put 8 (x := 0) (by decide) (rg_k (by decide))
  rw [setFX_8] at hP hD
  have J5 : ∀ (n5 : Nat) (F1 : Nat → Int32) (L1 : Nat → Int64) (A1 : Nat → Nat → Int32) (B1 : Nat → Nat → Int64) (H : Heap) (locs : List Loc) (ls : Array Slot), (1700 - (F1 5).toInt).toNat < n5 → qX [5, 6, 8] [] F A F1 A1 → va_P D classes (wX cA ad F1 L1 A1 B1) H → va_D Af (wX cA ad F1 L1 A1 B1) → va_S Af s.heap H locs → lv_has ls 2 [(0, .ref (ad 3))] → W p l e rm_X5_readNumber_3 s m args below meth c H locs 0 0 Q (F0 m 5 ls []) := by
    intro n5
    induction n5 with
    | zero =>
      intro _ _ _ _ _ _ _ hn
      exact absurd hn (Nat.not_lt_zero _)
    | succ n5 ih5 =>
      intro F1 L1 A1 B1 H locs ls hn5 hq hP hD hS hl
      refine lv_aload_n hx hb dX5_readNumber_5 rfl (lv_at hl 0 rfl) ?_
      refine va_get (ci := 5) (v := .int (F1 5)) (C := RX5) (T := TX5) (N := 14) hx hb hg inX5 hown hK hP 3 atX_3 rfl 9 (by decide) (hg _ mw_109) (fun _ h9 => h9) rfl dX5_readNumber_6 ?_
      refine lv_topi (fun x2 e3 => ?_)
      have r4 : rg x2 0 1700 := rg_e e3 (hq.1.1 5)
      refine lv_aload_n hx hb dX5_readNumber_9 rfl (lv_at hl 0 rfl) ?_
      refine va_get (ci := 5) (v := .int (F1 4)) (C := RX5) (T := TX5) (N := 14) hx hb hg inX5 hown hK hP 3 atX_3 rfl 8 (by decide) (hg _ mw_108) (fun _ h9 => h9) rfl dX5_readNumber_10 ?_
      refine lv_topi (fun x5 e6 => ?_)
      have r7 : rg x5 0 1700 := rg_e e6 (hq.1.1 4)
      have J68 : ∀ (F8 : Nat → Int32) (L8 : Nat → Int64) (A8 : Nat → Nat → Int32) (B8 : Nat → Nat → Int64) (H : Heap) (locs : List Loc) (ls : Array Slot), qX [5, 6, 8] [] F A F8 A8 → F8 4 = x5 → F8 5 = x2 → va_P D classes (wX cA ad F8 L8 A8 B8) H → va_D Af (wX cA ad F8 L8 A8 B8) → va_S Af s.heap H locs → lv_has ls 2 [(0, .ref (ad 3))] → W p l e rm_X5_readNumber_3 s m args below meth c H locs 0 0 Q (F0 m 68 ls []) := by
        intro F8 L8 A8 B8 H locs ls hq f9 f10 hP hD hS hl
        refine lv_aload_n hx hb dX5_readNumber_68 rfl (lv_at hl 0 rfl) ?_
        refine va_get (ci := 5) (v := .int x2) (C := RX5) (T := TX5) (N := 14) hx hb hg inX5 hown hK hP 3 atX_3 rfl 9 (by decide) (hg _ mw_109) (fun _ h9 => h9) (congrArg (fun z => some (Value.int z)) (f10)) dX5_readNumber_69 ?_
        refine lv_aload_n hx hb dX5_readNumber_72 rfl (lv_at hl 0 rfl) ?_
        refine va_get (ci := 5) (v := .int x5) (C := RX5) (T := TX5) (N := 14) hx hb hg inX5 hown hK hP 3 atX_3 rfl 8 (by decide) (hg _ mw_108) (fun _ h9 => h9) (congrArg (fun z => some (Value.int z)) (f9)) dX5_readNumber_73 ?_
        have J99 : ∀ (a11 : Int32) (F13 : Nat → Int32) (L13 : Nat → Int64) (A13 : Nat → Nat → Int32) (B13 : Nat → Nat → Int64) (H : Heap) (locs : List Loc) (ls : Array Slot), rg a11 0 1 → qX [5, 6, 8] [] F A F13 A13 → F13 5 = x2 → va_P D classes (wX cA ad F13 L13 A13 B13) H → va_D Af (wX cA ad F13 L13 A13 B13) → va_S Af s.heap H locs → lv_has ls 2 [(0, .ref (ad 3))] → W p l e rm_X5_readNumber_3 s m args below meth c H locs 0 0 Q (F0 m 99 ls [.int a11]) := by
          intro a11 F13 L13 A13 B13 H locs ls r12 hq f14 hP hD hS hl
          refine lv_istore_n (lv' := [(1, .int a11), (0, .ref (ad 3))]) hx hb dX5_readNumber_99 rfl hl (by decide) rfl (fun ls hl => ?_)
          refine lv_aload_n hx hb dX5_readNumber_100 rfl (lv_at hl 1 rfl) ?_
          refine lv_iload_n hx hb dX5_readNumber_101 rfl (lv_at hl 0 rfl) ?_
          have J123 : ∀ (a15 : Int32) (F17 : Nat → Int32) (L17 : Nat → Int64) (A17 : Nat → Nat → Int32) (B17 : Nat → Nat → Int64) (H : Heap) (locs : List Loc) (ls : Array Slot), rg a15 1 2 → qX [5, 6, 8] [] F A F17 A17 → va_P D classes (wX cA ad F17 L17 A17 B17) H → va_D Af (wX cA ad F17 L17 A17 B17) → va_S Af s.heap H locs → lv_has ls 2 [] → W p l e rm_X5_readNumber_3 s m args below meth c H locs 0 0 Q (F0 m 123 ls [.int a15, .ref (ad 3)]) := by
            intro a15 F17 L17 A17 B17 H locs ls r16 hq hP hD hS hl
            refine va_put (ci := 5) (v := .int a15) (ty := .int) (C := RX5) (T := TX5) (N := 14) hx hb hg inX5 tyX5 tyX5_ok nmX5 hown hK hP hD hS 3 atX_3 rfl 10 (by decide) (hg _ mw_110) (fun _ h9 => h9) rfl (by decide +kernel) rfl rfl (Nat.le_of_ble_eq_true rfl) dX5_readNumber_123 (fun H locs hP hD hS => ?_)
            have hq := hq.put 6 (x := a15) (by decide) (rg_top _)
            rw [setFX_6] at hP hD
            exact hret ((upd F17 6 a15), L17, A17, B17) H locs 126 ls dX5_readNumber_126 hP hD hS hq
          have J118 : ∀ (F18 : Nat → Int32) (L18 : Nat → Int64) (A18 : Nat → Nat → Int32) (B18 : Nat → Nat → Int64) (H : Heap) (locs : List Loc) (ls : Array Slot), qX [5, 6, 8] [] F A F18 A18 → va_P D classes (wX cA ad F18 L18 A18 B18) H → va_D Af (wX cA ad F18 L18 A18 B18) → va_S Af s.heap H locs → lv_has ls 2 [] → W p l e rm_X5_readNumber_3 s m args below meth c H locs 0 0 Q (F0 m 118 ls [.ref (ad 3)]) := by
            intro F18 L18 A18 B18 H locs ls hq hP hD hS hl
            refine lv_iconst (v := 1) hx hb dX5_readNumber_118 (by decide) ?_
            refine lv_goto (tgt := 123) hx hb dX5_readNumber_119 (by decide) ?_
            exact J123 (1) (F18) (L18) (A18) (B18) H locs ls (rg_k (by decide)) hq hP hD hS (lv_sub hl [] rfl)
          refine lv_if_ne (tgt := 118) hx hb dX5_readNumber_102 (by decide) (fun c19 => ?_) (fun c19 => ?_)
          · skip
            have r20 : rg a11 1 1 := (rg_ne1 c19 (r12 : rg a11 0 1) ((rg_k (by decide)) : rg 0 0 0)).1 rfl
            exact J118 (F13) (L13) (A13) (B13) H locs ls hq hP hD hS (lv_sub hl [] rfl)
          · skip
            have r21 : rg a11 0 0 := rg_eq1 c19 (r12 : rg a11 0 1) ((rg_k (by decide)) : rg 0 0 0) (by decide)
            refine lv_aload_n hx hb dX5_readNumber_105 rfl (lv_at hl 1 rfl) ?_
            refine va_get (ci := 5) (v := .int x2) (C := RX5) (T := TX5) (N := 14) hx hb hg inX5 hown hK hP 3 atX_3 rfl 9 (by decide) (hg _ mw_109) (fun _ h9 => h9) (congrArg (fun z => some (Value.int z)) (f14)) dX5_readNumber_106 ?_
            refine lv_aload_n hx hb dX5_readNumber_109 rfl (lv_at hl 1 rfl) ?_
            refine va_get (ci := 5) (v := .int (F13 7)) (C := RX5) (T := TX5) (N := 14) hx hb hg inX5 hown hK hP 3 atX_3 rfl 11 (by decide) (hg _ mw_112) (fun _ h9 => h9) rfl dX5_readNumber_110 ?_
            refine lv_topi (fun x22 e23 => ?_)
            refine lv_isub hx hb dX5_readNumber_113 ?_
            refine lv_topi (fun x24 e25 => ?_)
            refine lv_iconst (v := 4) hx hb dX5_readNumber_114 (by decide) ?_
            refine lv_icmp_le (tgt := 122) hx hb dX5_readNumber_115 (by decide) (fun c26 => ?_) (fun c26 => ?_)
            · skip
              have r27 : rg x24 (-2147483648) 4 := rg_le1 (iE c26) ((rg_top _) : rg x24 (-2147483648) 2147483647) ((rg_k (by decide)) : rg 4 4 4)
              refine lv_iconst (v := 2) hx hb dX5_readNumber_122 (by decide) ?_
              exact J123 (2) (F13) (L13) (A13) (B13) H locs ls (rg_k (by decide)) hq hP hD hS (lv_sub hl [] rfl)
            · skip
              have r28 : rg x24 5 2147483647 := rg_lt2 (iNE c26) ((rg_k (by decide)) : rg 4 4 4) ((rg_top _) : rg x24 (-2147483648) 2147483647)
              exact J118 (F13) (L13) (A13) (B13) H locs ls hq hP hD hS (lv_sub hl [] rfl)
        have J98 : ∀ (F29 : Nat → Int32) (L29 : Nat → Int64) (A29 : Nat → Nat → Int32) (B29 : Nat → Nat → Int64) (H : Heap) (locs : List Loc) (ls : Array Slot), qX [5, 6, 8] [] F A F29 A29 → F29 5 = x2 → va_P D classes (wX cA ad F29 L29 A29 B29) H → va_D Af (wX cA ad F29 L29 A29 B29) → va_S Af s.heap H locs → lv_has ls 2 [(0, .ref (ad 3))] → W p l e rm_X5_readNumber_3 s m args below meth c H locs 0 0 Q (F0 m 98 ls []) := by
          intro F29 L29 A29 B29 H locs ls hq f30 hP hD hS hl
          refine lv_iconst (v := 0) hx hb dX5_readNumber_98 (by decide) ?_
          exact J99 (0) (F29) (L29) (A29) (B29) H locs ls (rg_k (by decide)) hq (f30) hP hD hS (lv_sub hl [0] rfl)
        refine lv_icmp_ge (tgt := 98) hx hb dX5_readNumber_76 (by decide) (fun c31 => ?_) (fun c31 => ?_)
        · skip
          exact J98 (F8) (L8) (A8) (B8) H locs ls hq (f10) hP hD hS (lv_sub hl [0] rfl)
        · skip
          have r32 : rg x2 0 1699 := rg_lt1 (iNE c31) (r4 : rg x2 0 1700) (r7 : rg x5 0 1700)
          have r33 : rg x5 1 1700 := rg_lt2 (iNE c31) (r4 : rg x2 0 1700) (r7 : rg x5 0 1700)
          refine lv_aload_n hx hb dX5_readNumber_79 rfl (lv_at hl 0 rfl) ?_
          refine va_get (ci := 5) (v := .ref (ad 1)) (C := RX5) (T := TX5) (N := 14) hx hb hg inX5 hown hK hP 3 atX_3 rfl 7 (by decide) (hg _ mw_107) (fun _ h9 => h9) (congrArg (fun z => some (Value.ref z)) htx) dX5_readNumber_80 ?_
          refine lv_aload_n hx hb dX5_readNumber_83 rfl (lv_at hl 0 rfl) ?_
          refine va_get (ci := 5) (v := .int x2) (C := RX5) (T := TX5) (N := 14) hx hb hg inX5 hown hK hP 3 atX_3 rfl 9 (by decide) (hg _ mw_109) (fun _ h9 => h9) (congrArg (fun z => some (Value.int z)) (f10)) dX5_readNumber_84 ?_
          refine va_bald hx hb hK hP 1 0 atX_1 tyX_1 (in_rg r32 (by decide)) dX5_readNumber_87 ?_
          refine lv_topi (fun x34 e35 => ?_)
          refine calls_i (As := [.int x34]) (rest := []) hC (c_X5_isLetter l D (tysX cA) (wX cA ad F8 L8 A8 B8) H.size (x34)) (cwS 1 hg (g_S mw_603 mw_601 mw_602 mw_3) rfl rfl rfl (by decide +kernel) ⟨(Nat.le_of_ble_eq_true rfl), (Nat.le_of_ble_eq_true rfl)⟩) hP hD hS hA rfl hl.1 rfl (Nat.le_of_ble_eq_true rfl) dX5_readNumber_88 ⟨Nat.zero_le _, Nat.zero_le _⟩ (fun x36 u H locs hw hP hD hS => ?_)
          obtain ⟨r37, g38⟩ := hw
          have hP : va_P D classes (wX cA ad F8 L8 A8 B8) H := hP
          have hD : va_D Af (wX cA ad F8 L8 A8 B8) := hD
          refine lv_if_eq (tgt := 98) hx hb dX5_readNumber_91 (by decide) (fun c39 => ?_) (fun c39 => ?_)
          · skip
            have r40 : rg x36 0 0 := rg_eq1 c39 (r37 : rg x36 0 1) ((rg_k (by decide)) : rg 0 0 0) (by decide)
            exact J98 (F8) (L8) (A8) (B8) H locs ls hq (f10) hP hD hS (lv_sub hl [0] rfl)
          · skip
            have g41 := g38.resolve_left c39
            refine lv_iconst (v := 1) hx hb dX5_readNumber_94 (by decide) ?_
            refine lv_goto (tgt := 99) hx hb dX5_readNumber_95 (by decide) ?_
            exact J99 (1) (F8) (L8) (A8) (B8) H locs ls (rg_k (by decide)) hq (f10) hP hD hS (lv_sub hl [0] rfl)
      refine lv_icmp_ge (tgt := 68) hx hb dX5_readNumber_13 (by decide) (fun c42 => ?_) (fun c42 => ?_)
      · skip
        exact J68 (F1) (L1) (A1) (B1) H locs ls hq (e6.symm) (e3.symm) hP hD hS (lv_sub hl [0] rfl)
      · skip
        have r43 : rg x2 0 1699 := rg_lt1 (iNE c42) (r4 : rg x2 0 1700) (r7 : rg x5 0 1700)
        have r44 : rg x5 1 1700 := rg_lt2 (iNE c42) (r4 : rg x2 0 1700) (r7 : rg x5 0 1700)
        refine lv_aload_n hx hb dX5_readNumber_16 rfl (lv_at hl 0 rfl) ?_
        refine va_get (ci := 5) (v := .ref (ad 1)) (C := RX5) (T := TX5) (N := 14) hx hb hg inX5 hown hK hP 3 atX_3 rfl 7 (by decide) (hg _ mw_107) (fun _ h9 => h9) (congrArg (fun z => some (Value.ref z)) htx) dX5_readNumber_17 ?_
        refine lv_aload_n hx hb dX5_readNumber_20 rfl (lv_at hl 0 rfl) ?_
        refine va_get (ci := 5) (v := .int x2) (C := RX5) (T := TX5) (N := 14) hx hb hg inX5 hown hK hP 3 atX_3 rfl 9 (by decide) (hg _ mw_109) (fun _ h9 => h9) (congrArg (fun z => some (Value.int z)) (e3.symm)) dX5_readNumber_21 ?_
        refine va_bald hx hb hK hP 1 0 atX_1 tyX_1 (in_rg r43 (by decide)) dX5_readNumber_24 ?_
        refine lv_topi (fun x45 e46 => ?_)
        refine calls_i (As := [.int x45]) (rest := []) hC (c_X5_isDigit l D (tysX cA) (wX cA ad F1 L1 A1 B1) H.size (x45)) (cwS 1 hg (g_S mw_614 mw_612 mw_613 mw_3) rfl rfl rfl (by decide +kernel) ⟨(Nat.le_of_ble_eq_true rfl), (Nat.le_of_ble_eq_true rfl)⟩) hP hD hS hA rfl hl.1 rfl (Nat.le_of_ble_eq_true rfl) dX5_readNumber_25 ⟨Nat.zero_le _, Nat.zero_le _⟩ (fun x47 u H locs hw hP hD hS => ?_)
        obtain ⟨r48, g49⟩ := hw
        have hP : va_P D classes (wX cA ad F1 L1 A1 B1) H := hP
        have hD : va_D Af (wX cA ad F1 L1 A1 B1) := hD
        refine lv_if_eq (tgt := 68) hx hb dX5_readNumber_28 (by decide) (fun c50 => ?_) (fun c50 => ?_)
        · skip
          have r51 : rg x47 0 0 := rg_eq1 c50 (r48 : rg x47 0 1) ((rg_k (by decide)) : rg 0 0 0) (by decide)
          exact J68 (F1) (L1) (A1) (B1) H locs ls hq (e6.symm) (e3.symm) hP hD hS (lv_sub hl [0] rfl)
        · skip
          have g52 := g49.resolve_left c50
          refine lv_aload_n hx hb dX5_readNumber_31 rfl (lv_at hl 0 rfl) ?_
          refine lv_aload_n hx hb dX5_readNumber_32 rfl (lv_at hl 0 rfl) ?_
          refine va_get (ci := 5) (v := .int (F1 8)) (C := RX5) (T := TX5) (N := 14) hx hb hg inX5 hown hK hP 3 atX_3 rfl 13 (by decide) (hg _ mw_116) (fun _ h9 => h9) rfl dX5_readNumber_33 ?_
          refine lv_topi (fun x53 e54 => ?_)
          refine lv_bipush (v := 10) hx hb dX5_readNumber_36 (by decide) ?_
          refine lv_imul hx hb dX5_readNumber_38 ?_
          refine lv_topi (fun x55 e56 => ?_)
          refine lv_aload_n hx hb dX5_readNumber_39 rfl (lv_at hl 0 rfl) ?_
          refine va_get (ci := 5) (v := .ref (ad 1)) (C := RX5) (T := TX5) (N := 14) hx hb hg inX5 hown hK hP 3 atX_3 rfl 7 (by decide) (hg _ mw_107) (fun _ h9 => h9) (congrArg (fun z => some (Value.ref z)) htx) dX5_readNumber_40 ?_
          refine lv_aload_n hx hb dX5_readNumber_43 rfl (lv_at hl 0 rfl) ?_
          refine va_get (ci := 5) (v := .int x2) (C := RX5) (T := TX5) (N := 14) hx hb hg inX5 hown hK hP 3 atX_3 rfl 9 (by decide) (hg _ mw_109) (fun _ h9 => h9) (congrArg (fun z => some (Value.int z)) (e3.symm)) dX5_readNumber_44 ?_
          refine va_bald hx hb hK hP 1 0 atX_1 tyX_1 (in_rg r43 (by decide)) dX5_readNumber_47 ?_
          refine tope (e46) ?_
          refine lv_iadd hx hb dX5_readNumber_48 ?_
          refine lv_topi (fun x57 e58 => ?_)
          refine lv_bipush (v := 48) hx hb dX5_readNumber_49 (by decide) ?_
          refine lv_isub hx hb dX5_readNumber_51 ?_
          refine lv_topi (fun x59 e60 => ?_)
          refine va_put (ci := 5) (v := .int x59) (ty := .int) (C := RX5) (T := TX5) (N := 14) hx hb hg inX5 tyX5 tyX5_ok nmX5 hown hK hP hD hS 3 atX_3 rfl 13 (by decide) (hg _ mw_116) (fun _ h9 => h9) rfl (by decide +kernel) rfl rfl (Nat.le_of_ble_eq_true rfl) dX5_readNumber_52 (fun H locs hP hD hS => ?_)
          have hq := hq.put 8 (x := x59) (by decide) (rg_top _)
          rw [setFX_8] at hP hD
          refine lv_aload_n hx hb dX5_readNumber_55 rfl (lv_at hl 0 rfl) ?_
          refine lv_dup hx hb dX5_readNumber_56 rfl ?_
          refine va_get (ci := 5) (v := .int x2) (C := RX5) (T := TX5) (N := 14) hx hb hg inX5 hown hK hP 3 atX_3 rfl 9 (by decide) (hg _ mw_109) (fun _ h9 => h9) (congrArg (fun z => some (Value.int z)) (e3.symm)) dX5_readNumber_57 ?_
          refine lv_iconst (v := 1) hx hb dX5_readNumber_60 (by decide) ?_
          refine lv_iadd hx hb dX5_readNumber_61 ?_
          refine lv_topi (fun x61 e62 => ?_)
          have r63 : rg x61 1 1700 := rg_add e62 r43 ((rg_k (by decide)) : rg 1 1 1) (by decide)
          refine va_put (ci := 5) (v := .int x61) (ty := .int) (C := RX5) (T := TX5) (N := 14) hx hb hg inX5 tyX5 tyX5_ok nmX5 hown hK hP hD hS 3 atX_3 rfl 9 (by decide) (hg _ mw_109) (fun _ h9 => h9) rfl (by decide +kernel) rfl rfl (Nat.le_of_ble_eq_true rfl) dX5_readNumber_62 (fun H locs hP hD hS => ?_)
          have hq := hq.put 5 (x := x61) (by decide) (rg_w r63 (by decide))
          rw [setFX_5] at hP hD
          refine lv_goto (tgt := 5) hx hb dX5_readNumber_65 (by decide) ?_
          exact ih5 ((upd (upd F1 8 x59) 5 x61)) (L1) (A1) (B1) H locs ls (by have h0 : (1 : Int32).toInt = 1 := rfl; have h1 := ti_addk e62 r43 (by decide); have h2 := ((rg_w r63 (by decide)) : rg x61 0 1700); have h3 : (upd (upd F1 8 x59) 5 x61) 5 = x61 := rfl; have h4 := hn5; have h5 := (e3).symm; rw [h3]; rw [h5] at h4; unfold rg at h2; omega) hq hP hD hS (lv_sub hl [0] rfl)
  exact J5 _ ((upd F 8 (0 : Int32))) (L) (A) (B) H locs ls (Nat.lt_succ_self _) hq hP hD hS (lv_sub hl [0] rfl)
abbrev rm_X5_kindOfWord_3 : Room := { frames := 0, cells := 0, slots := 0, locals := 0 }
set_option maxHeartbeats 4000000 in
set_option maxRecDepth 100000 in
theorem c_X5_kindOfWord_3 (l : Launch) (D : va_G) (cA : Nat → ClassId) (sz : Nat) (ad : Nat → Nat) (F : Nat → Int32) (L : Nat → Int64) (A : Nat → Nat → Int32) (B : Nat → Nat → Int64)  (hT : typX F A) : Met l yX5_kindOfWord (Cond.code yX5_kindOfWord cX5_kindOfWord 1 (some .int) :: GW) rm_X5_kindOfWord_3 (mPc D classes (tysX cA) (wX cA ad F L A B) sz [.ref (ad 3)]) (mQi (S := Unit) D classes (tysX cA) (wX cA ad F L A B) sz (fun _ : Unit => wX cA ad F L A B) (fun r u => rg r 4 11)) 0 0 (va_A (wX cA ad F L A B) sz) := by
  refine met_i (own := "ShoeingDay$Reader") (by decide +kernel) rfl (Nat.le_of_ble_eq_true rfl) ?_
  intro p e s m args below meth c Q Af ls hC hP hD hS hA hl hret
  have hx := hC.1
  have hb := hC.2.1
  have hown := hC.2.2.2.1
  have hg := hC.g
  have hK := hC.K
  have hl : lv_has ls 1 [(0, .ref (ad 3))] := hl
  have hq : qX [] [] F A F A := qX.rf hT
  obtain ⟨H, hH⟩ : ∃ H, H = s.heap := ⟨_, rfl⟩
  have hP : va_P D classes (wX cA ad F L A B) H := by rw [hH]; exact hP
  have hS : va_S Af s.heap H [] := by rw [hH]; exact hS
  obtain ⟨locs, hlo⟩ : ∃ q : List Loc, q = [] := ⟨_, rfl⟩
  rw [← hH, ← hlo]
  rw [← hlo] at hS
  refine lv_aload_n hx hb dX5_kindOfWord_0 rfl (lv_at hl 0 rfl) ?_
  refine va_get (ci := 5) (v := .long (L 7)) (C := RX5) (T := TX5) (N := 14) hx hb hg inX5 hown hK hP 3 atX_3 rfl 12 (by decide) (hg _ mw_114) (fun _ h9 => h9) rfl dX5_kindOfWord_1 ?_
  refine lv_topl (fun z1 e2 => ?_)
  refine lv_aload_n hx hb dX5_kindOfWord_4 rfl (lv_at hl 0 rfl) ?_
  refine va_get (ci := 5) (v := .long (L 0)) (C := RX5) (T := TX5) (N := 14) hx hb hg inX5 hown hK hP 3 atX_3 rfl 0 (by decide) (hg _ mw_100) (fun _ h9 => h9) rfl dX5_kindOfWord_5 ?_
  refine lv_topl (fun z3 e4 => ?_)
  refine W.lcmp hx hb dX5_kindOfWord_8 ?_
  refine lv_topi (fun x5 e6 => ?_)
  refine lv_if_ne (tgt := 14) hx hb dX5_kindOfWord_9 (by decide) (fun c7 => ?_) (fun c7 => ?_)
  · skip
    refine lv_aload_n hx hb dX5_kindOfWord_14 rfl (lv_at hl 0 rfl) ?_
    refine va_get (ci := 5) (v := .long (L 7)) (C := RX5) (T := TX5) (N := 14) hx hb hg inX5 hown hK hP 3 atX_3 rfl 12 (by decide) (hg _ mw_114) (fun _ h9 => h9) rfl dX5_kindOfWord_15 ?_
    refine lv_topl (fun z9 e10 => ?_)
    refine lv_aload_n hx hb dX5_kindOfWord_18 rfl (lv_at hl 0 rfl) ?_
    refine va_get (ci := 5) (v := .long (L 1)) (C := RX5) (T := TX5) (N := 14) hx hb hg inX5 hown hK hP 3 atX_3 rfl 1 (by decide) (hg _ mw_101) (fun _ h9 => h9) rfl dX5_kindOfWord_19 ?_
    refine lv_topl (fun z11 e12 => ?_)
    refine W.lcmp hx hb dX5_kindOfWord_22 ?_
    refine lv_topi (fun x13 e14 => ?_)
    refine lv_if_ne (tgt := 29) hx hb dX5_kindOfWord_23 (by decide) (fun c15 => ?_) (fun c15 => ?_)
    · skip
      refine lv_aload_n hx hb dX5_kindOfWord_29 rfl (lv_at hl 0 rfl) ?_
      refine va_get (ci := 5) (v := .long (L 7)) (C := RX5) (T := TX5) (N := 14) hx hb hg inX5 hown hK hP 3 atX_3 rfl 12 (by decide) (hg _ mw_114) (fun _ h9 => h9) rfl dX5_kindOfWord_30 ?_
      refine lv_topl (fun z17 e18 => ?_)
      refine lv_aload_n hx hb dX5_kindOfWord_33 rfl (lv_at hl 0 rfl) ?_
      refine va_get (ci := 5) (v := .long (L 2)) (C := RX5) (T := TX5) (N := 14) hx hb hg inX5 hown hK hP 3 atX_3 rfl 2 (by decide) (hg _ mw_102) (fun _ h9 => h9) rfl dX5_kindOfWord_34 ?_
      refine lv_topl (fun z19 e20 => ?_)
      refine W.lcmp hx hb dX5_kindOfWord_37 ?_
      refine lv_topi (fun x21 e22 => ?_)
      refine lv_if_ne (tgt := 44) hx hb dX5_kindOfWord_38 (by decide) (fun c23 => ?_) (fun c23 => ?_)
      · skip
        refine lv_aload_n hx hb dX5_kindOfWord_44 rfl (lv_at hl 0 rfl) ?_
        refine va_get (ci := 5) (v := .long (L 7)) (C := RX5) (T := TX5) (N := 14) hx hb hg inX5 hown hK hP 3 atX_3 rfl 12 (by decide) (hg _ mw_114) (fun _ h9 => h9) rfl dX5_kindOfWord_45 ?_
        refine lv_topl (fun z25 e26 => ?_)
        refine lv_aload_n hx hb dX5_kindOfWord_48 rfl (lv_at hl 0 rfl) ?_
        refine va_get (ci := 5) (v := .long (L 3)) (C := RX5) (T := TX5) (N := 14) hx hb hg inX5 hown hK hP 3 atX_3 rfl 3 (by decide) (hg _ mw_103) (fun _ h9 => h9) rfl dX5_kindOfWord_49 ?_
        refine lv_topl (fun z27 e28 => ?_)
        refine W.lcmp hx hb dX5_kindOfWord_52 ?_
        refine lv_topi (fun x29 e30 => ?_)
        refine lv_if_ne (tgt := 59) hx hb dX5_kindOfWord_53 (by decide) (fun c31 => ?_) (fun c31 => ?_)
        · skip
          refine lv_aload_n hx hb dX5_kindOfWord_59 rfl (lv_at hl 0 rfl) ?_
          refine va_get (ci := 5) (v := .long (L 7)) (C := RX5) (T := TX5) (N := 14) hx hb hg inX5 hown hK hP 3 atX_3 rfl 12 (by decide) (hg _ mw_114) (fun _ h9 => h9) rfl dX5_kindOfWord_60 ?_
          refine lv_topl (fun z33 e34 => ?_)
          refine lv_aload_n hx hb dX5_kindOfWord_63 rfl (lv_at hl 0 rfl) ?_
          refine va_get (ci := 5) (v := .long (L 4)) (C := RX5) (T := TX5) (N := 14) hx hb hg inX5 hown hK hP 3 atX_3 rfl 4 (by decide) (hg _ mw_104) (fun _ h9 => h9) rfl dX5_kindOfWord_64 ?_
          refine lv_topl (fun z35 e36 => ?_)
          refine W.lcmp hx hb dX5_kindOfWord_67 ?_
          refine lv_topi (fun x37 e38 => ?_)
          refine lv_if_ne (tgt := 74) hx hb dX5_kindOfWord_68 (by decide) (fun c39 => ?_) (fun c39 => ?_)
          · skip
            refine lv_aload_n hx hb dX5_kindOfWord_74 rfl (lv_at hl 0 rfl) ?_
            refine va_get (ci := 5) (v := .long (L 7)) (C := RX5) (T := TX5) (N := 14) hx hb hg inX5 hown hK hP 3 atX_3 rfl 12 (by decide) (hg _ mw_114) (fun _ h9 => h9) rfl dX5_kindOfWord_75 ?_
            refine lv_topl (fun z41 e42 => ?_)
            refine lv_aload_n hx hb dX5_kindOfWord_78 rfl (lv_at hl 0 rfl) ?_
            refine va_get (ci := 5) (v := .long (L 5)) (C := RX5) (T := TX5) (N := 14) hx hb hg inX5 hown hK hP 3 atX_3 rfl 5 (by decide) (hg _ mw_105) (fun _ h9 => h9) rfl dX5_kindOfWord_79 ?_
            refine lv_topl (fun z43 e44 => ?_)
            refine W.lcmp hx hb dX5_kindOfWord_82 ?_
            refine lv_topi (fun x45 e46 => ?_)
            refine lv_if_ne (tgt := 89) hx hb dX5_kindOfWord_83 (by decide) (fun c47 => ?_) (fun c47 => ?_)
            · skip
              refine lv_aload_n hx hb dX5_kindOfWord_89 rfl (lv_at hl 0 rfl) ?_
              refine va_get (ci := 5) (v := .long (L 7)) (C := RX5) (T := TX5) (N := 14) hx hb hg inX5 hown hK hP 3 atX_3 rfl 12 (by decide) (hg _ mw_114) (fun _ h9 => h9) rfl dX5_kindOfWord_90 ?_
              refine lv_topl (fun z49 e50 => ?_)
              refine lv_aload_n hx hb dX5_kindOfWord_93 rfl (lv_at hl 0 rfl) ?_
              refine va_get (ci := 5) (v := .long (L 6)) (C := RX5) (T := TX5) (N := 14) hx hb hg inX5 hown hK hP 3 atX_3 rfl 6 (by decide) (hg _ mw_106) (fun _ h9 => h9) rfl dX5_kindOfWord_94 ?_
              refine lv_topl (fun z51 e52 => ?_)
              refine W.lcmp hx hb dX5_kindOfWord_97 ?_
              refine lv_topi (fun x53 e54 => ?_)
              refine lv_if_ne (tgt := 106) hx hb dX5_kindOfWord_98 (by decide) (fun c55 => ?_) (fun c55 => ?_)
              · skip
                refine lv_iconst (v := 4) hx hb dX5_kindOfWord_106 (by decide) ?_
                exact hret (4) () H locs 107 ls rfl dX5_kindOfWord_107 hP hD hS (rg_k (by decide))
              · skip
                have r56 : rg x53 0 0 := rg_eq1 c55 ((rg_top _) : rg x53 (-2147483648) 2147483647) ((rg_k (by decide)) : rg 0 0 0) (by decide)
                refine lv_bipush (v := 11) hx hb dX5_kindOfWord_101 (by decide) ?_
                refine lv_goto (tgt := 107) hx hb dX5_kindOfWord_103 (by decide) ?_
                exact hret (11) () H locs 107 ls rfl dX5_kindOfWord_107 hP hD hS (rg_k (by decide))
            · skip
              have r48 : rg x45 0 0 := rg_eq1 c47 ((rg_top _) : rg x45 (-2147483648) 2147483647) ((rg_k (by decide)) : rg 0 0 0) (by decide)
              refine lv_bipush (v := 10) hx hb dX5_kindOfWord_86 (by decide) ?_
              exact hret (10) () H locs 88 ls rfl dX5_kindOfWord_88 hP hD hS (rg_k (by decide))
          · skip
            have r40 : rg x37 0 0 := rg_eq1 c39 ((rg_top _) : rg x37 (-2147483648) 2147483647) ((rg_k (by decide)) : rg 0 0 0) (by decide)
            refine lv_bipush (v := 9) hx hb dX5_kindOfWord_71 (by decide) ?_
            exact hret (9) () H locs 73 ls rfl dX5_kindOfWord_73 hP hD hS (rg_k (by decide))
        · skip
          have r32 : rg x29 0 0 := rg_eq1 c31 ((rg_top _) : rg x29 (-2147483648) 2147483647) ((rg_k (by decide)) : rg 0 0 0) (by decide)
          refine lv_bipush (v := 8) hx hb dX5_kindOfWord_56 (by decide) ?_
          exact hret (8) () H locs 58 ls rfl dX5_kindOfWord_58 hP hD hS (rg_k (by decide))
      · skip
        have r24 : rg x21 0 0 := rg_eq1 c23 ((rg_top _) : rg x21 (-2147483648) 2147483647) ((rg_k (by decide)) : rg 0 0 0) (by decide)
        refine lv_bipush (v := 7) hx hb dX5_kindOfWord_41 (by decide) ?_
        exact hret (7) () H locs 43 ls rfl dX5_kindOfWord_43 hP hD hS (rg_k (by decide))
    · skip
      have r16 : rg x13 0 0 := rg_eq1 c15 ((rg_top _) : rg x13 (-2147483648) 2147483647) ((rg_k (by decide)) : rg 0 0 0) (by decide)
      refine lv_bipush (v := 6) hx hb dX5_kindOfWord_26 (by decide) ?_
      exact hret (6) () H locs 28 ls rfl dX5_kindOfWord_28 hP hD hS (rg_k (by decide))
  · skip
    have r8 : rg x5 0 0 := rg_eq1 c7 ((rg_top _) : rg x5 (-2147483648) 2147483647) ((rg_k (by decide)) : rg 0 0 0) (by decide)
    refine lv_iconst (v := 5) hx hb dX5_kindOfWord_12 (by decide) ?_
    exact hret (5) () H locs 13 ls rfl dX5_kindOfWord_13 hP hD hS (rg_k (by decide))
abbrev rm_X5_readWord_3 : Room := { frames := 1, cells := 0, slots := 0, locals := 20 }
set_option maxHeartbeats 4000000 in
set_option maxRecDepth 100000 in
theorem c_X5_readWord_3 (l : Launch) (D : va_G) (cA : Nat → ClassId) (sz : Nat) (ad : Nat → Nat) (F : Nat → Int32) (L : Nat → Int64) (A : Nat → Nat → Int32) (B : Nat → Nat → Int64)  (hT : typX F A) (htx : ad 71 = ad 1) : Met l yX5_readWord (Cond.code yX5_readWord cX5_readWord 1 none :: GW) rm_X5_readWord_3 (mPc D classes (tysX cA) (wX cA ad F L A B) sz [.ref (ad 3)]) (mQv (S := SW) D classes (tysX cA) (wX cA ad F L A B) sz (wfX cA ad) (fun u => qX [5, 6] [] F A u.1 u.2.2.1)) 0 0 (va_A (wX cA ad F L A B) sz) := by
  refine met_v (own := "ShoeingDay$Reader") (by decide +kernel) rfl (Nat.le_of_ble_eq_true rfl) ?_
  intro p e s m args below meth c Q Af ls hC hP hD hS hA hl hret
  have hx := hC.1
  have hb := hC.2.1
  have hown := hC.2.2.2.1
  have hg := hC.g
  have hK := hC.K
  have hl : lv_has ls 1 [(0, .ref (ad 3))] := hl
  have hq : qX [5, 6] [] F A F A := qX.rf hT
  obtain ⟨H, hH⟩ : ∃ H, H = s.heap := ⟨_, rfl⟩
  have hP : va_P D classes (wX cA ad F L A B) H := by rw [hH]; exact hP
  have hS : va_S Af s.heap H [] := by rw [hH]; exact hS
  obtain ⟨locs, hlo⟩ : ∃ q : List Loc, q = [] := ⟨_, rfl⟩
  rw [← hH, ← hlo]
  rw [← hlo] at hS
  refine lv_aload_n hx hb dX5_readWord_0 rfl (lv_at hl 0 rfl) ?_
  refine lv_lconst (v := 0) hx hb dX5_readWord_1 rfl ?_
  refine va_put (ci := 5) (v := .long (0 : Int64)) (ty := .long) (C := RX5) (T := TX5) (N := 14) hx hb hg inX5 tyX5 tyX5_ok nmX5 hown hK hP hD hS 3 atX_3 rfl 12 (by decide) (hg _ mw_114) (fun _ h9 => h9) rfl (by decide +kernel) rfl rfl (Nat.le_of_ble_eq_true rfl) dX5_readWord_2 (fun H locs hP hD hS => ?_)
  rw [setLX_7] at hP hD
  have J5 : ∀ (n5 : Nat) (F1 : Nat → Int32) (L1 : Nat → Int64) (A1 : Nat → Nat → Int32) (B1 : Nat → Nat → Int64) (H : Heap) (locs : List Loc) (ls : Array Slot), (1700 - (F1 5).toInt).toNat < n5 → qX [5, 6] [] F A F1 A1 → va_P D classes (wX cA ad F1 L1 A1 B1) H → va_D Af (wX cA ad F1 L1 A1 B1) → va_S Af s.heap H locs → lv_has ls 1 [(0, .ref (ad 3))] → W p l e rm_X5_readWord_3 s m args below meth c H locs 0 0 Q (F0 m 5 ls []) := by
    intro n5
    induction n5 with
    | zero =>
      intro _ _ _ _ _ _ _ hn
      exact absurd hn (Nat.not_lt_zero _)
    | succ n5 ih5 =>
      intro F1 L1 A1 B1 H locs ls hn5 hq hP hD hS hl
      refine lv_aload_n hx hb dX5_readWord_5 rfl (lv_at hl 0 rfl) ?_
      refine va_get (ci := 5) (v := .int (F1 5)) (C := RX5) (T := TX5) (N := 14) hx hb hg inX5 hown hK hP 3 atX_3 rfl 9 (by decide) (hg _ mw_109) (fun _ h9 => h9) rfl dX5_readWord_6 ?_
      refine lv_topi (fun x2 e3 => ?_)
      have r4 : rg x2 0 1700 := rg_e e3 (hq.1.1 5)
      refine lv_aload_n hx hb dX5_readWord_9 rfl (lv_at hl 0 rfl) ?_
      refine va_get (ci := 5) (v := .int (F1 4)) (C := RX5) (T := TX5) (N := 14) hx hb hg inX5 hown hK hP 3 atX_3 rfl 8 (by decide) (hg _ mw_108) (fun _ h9 => h9) rfl dX5_readWord_10 ?_
      refine lv_topi (fun x5 e6 => ?_)
      have r7 : rg x5 0 1700 := rg_e e6 (hq.1.1 4)
      have J70 : ∀ (F8 : Nat → Int32) (L8 : Nat → Int64) (A8 : Nat → Nat → Int32) (B8 : Nat → Nat → Int64) (H : Heap) (locs : List Loc) (ls : Array Slot), qX [5, 6] [] F A F8 A8 → F8 5 = x2 → va_P D classes (wX cA ad F8 L8 A8 B8) H → va_D Af (wX cA ad F8 L8 A8 B8) → va_S Af s.heap H locs → lv_has ls 1 [(0, .ref (ad 3))] → W p l e rm_X5_readWord_3 s m args below meth c H locs 0 0 Q (F0 m 70 ls []) := by
        intro F8 L8 A8 B8 H locs ls hq f9 hP hD hS hl
        refine lv_aload_n hx hb dX5_readWord_70 rfl (lv_at hl 0 rfl) ?_
        refine lv_aload_n hx hb dX5_readWord_71 rfl (lv_at hl 0 rfl) ?_
        refine va_get (ci := 5) (v := .int x2) (C := RX5) (T := TX5) (N := 14) hx hb hg inX5 hown hK hP 3 atX_3 rfl 9 (by decide) (hg _ mw_109) (fun _ h9 => h9) (congrArg (fun z => some (Value.int z)) (f9)) dX5_readWord_72 ?_
        refine lv_aload_n hx hb dX5_readWord_75 rfl (lv_at hl 0 rfl) ?_
        refine va_get (ci := 5) (v := .int (F8 7)) (C := RX5) (T := TX5) (N := 14) hx hb hg inX5 hown hK hP 3 atX_3 rfl 11 (by decide) (hg _ mw_112) (fun _ h9 => h9) rfl dX5_readWord_76 ?_
        refine lv_topi (fun x10 e11 => ?_)
        refine lv_isub hx hb dX5_readWord_79 ?_
        refine lv_topi (fun x12 e13 => ?_)
        refine lv_bipush (v := 8) hx hb dX5_readWord_80 (by decide) ?_
        have J93 : ∀ (a14 : Int32) (F16 : Nat → Int32) (L16 : Nat → Int64) (A16 : Nat → Nat → Int32) (B16 : Nat → Nat → Int64) (H : Heap) (locs : List Loc) (ls : Array Slot), rg a14 1 11 → qX [5, 6] [] F A F16 A16 → va_P D classes (wX cA ad F16 L16 A16 B16) H → va_D Af (wX cA ad F16 L16 A16 B16) → va_S Af s.heap H locs → lv_has ls 1 [] → W p l e rm_X5_readWord_3 s m args below meth c H locs 0 0 Q (F0 m 93 ls [.int a14, .ref (ad 3)]) := by
          intro a14 F16 L16 A16 B16 H locs ls r15 hq hP hD hS hl
          refine va_put (ci := 5) (v := .int a14) (ty := .int) (C := RX5) (T := TX5) (N := 14) hx hb hg inX5 tyX5 tyX5_ok nmX5 hown hK hP hD hS 3 atX_3 rfl 10 (by decide) (hg _ mw_110) (fun _ h9 => h9) rfl (by decide +kernel) rfl rfl (Nat.le_of_ble_eq_true rfl) dX5_readWord_93 (fun H locs hP hD hS => ?_)
          have hq := hq.put 6 (x := a14) (by decide) (rg_top _)
          rw [setFX_6] at hP hD
          exact hret ((upd F16 6 a14), L16, A16, B16) H locs 96 ls dX5_readWord_96 hP hD hS hq
        refine lv_icmp_le (tgt := 89) hx hb dX5_readWord_82 (by decide) (fun c17 => ?_) (fun c17 => ?_)
        · skip
          have r18 : rg x12 (-2147483648) 8 := rg_le1 (iE c17) ((rg_top _) : rg x12 (-2147483648) 2147483647) ((rg_k (by decide)) : rg 8 8 8)
          refine lv_aload_n hx hb dX5_readWord_89 rfl (lv_at hl 0 rfl) ?_
          refine callv_i (As := []) (rest := [.ref (ad 3)]) hC (c_X5_kindOfWord_3 l D cA H.size ad F8 L8 A8 B8  hq.1) (cwV 0 hg (g_V mw_611 mw_608 mw_610 ms_2 mw_3) rfl rfl rfl (by decide +kernel) ⟨(Nat.le_of_ble_eq_true rfl), (Nat.le_of_ble_eq_true rfl)⟩) hP hD hS hA atX_3 rfl rfl hl.1 rfl (Nat.le_of_ble_eq_true rfl) dX5_readWord_90 ⟨Nat.zero_le _, Nat.zero_le _⟩ (fun x20 u H locs hw hP hD hS => ?_)
          have r21 := hw
          have hP : va_P D classes (wX cA ad F8 L8 A8 B8) H := hP
          have hD : va_D Af (wX cA ad F8 L8 A8 B8) := hD
          exact J93 (x20) (F8) (L8) (A8) (B8) H locs ls (rg_w r21 (by decide)) hq hP hD hS (lv_sub hl [] rfl)
        · skip
          have r19 : rg x12 9 2147483647 := rg_lt2 (iNE c17) ((rg_k (by decide)) : rg 8 8 8) ((rg_top _) : rg x12 (-2147483648) 2147483647)
          refine lv_iconst (v := 1) hx hb dX5_readWord_85 (by decide) ?_
          refine lv_goto (tgt := 93) hx hb dX5_readWord_86 (by decide) ?_
          exact J93 (1) (F8) (L8) (A8) (B8) H locs ls (rg_k (by decide)) hq hP hD hS (lv_sub hl [] rfl)
      refine lv_icmp_ge (tgt := 70) hx hb dX5_readWord_13 (by decide) (fun c22 => ?_) (fun c22 => ?_)
      · skip
        exact J70 (F1) (L1) (A1) (B1) H locs ls hq (e3.symm) hP hD hS (lv_sub hl [0] rfl)
      · skip
        have r23 : rg x2 0 1699 := rg_lt1 (iNE c22) (r4 : rg x2 0 1700) (r7 : rg x5 0 1700)
        have r24 : rg x5 1 1700 := rg_lt2 (iNE c22) (r4 : rg x2 0 1700) (r7 : rg x5 0 1700)
        refine lv_aload_n hx hb dX5_readWord_16 rfl (lv_at hl 0 rfl) ?_
        refine va_get (ci := 5) (v := .ref (ad 1)) (C := RX5) (T := TX5) (N := 14) hx hb hg inX5 hown hK hP 3 atX_3 rfl 7 (by decide) (hg _ mw_107) (fun _ h9 => h9) (congrArg (fun z => some (Value.ref z)) htx) dX5_readWord_17 ?_
        refine lv_aload_n hx hb dX5_readWord_20 rfl (lv_at hl 0 rfl) ?_
        refine va_get (ci := 5) (v := .int x2) (C := RX5) (T := TX5) (N := 14) hx hb hg inX5 hown hK hP 3 atX_3 rfl 9 (by decide) (hg _ mw_109) (fun _ h9 => h9) (congrArg (fun z => some (Value.int z)) (e3.symm)) dX5_readWord_21 ?_
        refine va_bald hx hb hK hP 1 0 atX_1 tyX_1 (in_rg r23 (by decide)) dX5_readWord_24 ?_
        refine lv_topi (fun x25 e26 => ?_)
        refine calls_i (As := [.int x25]) (rest := []) hC (c_X5_isLetter l D (tysX cA) (wX cA ad F1 L1 A1 B1) H.size (x25)) (cwS 1 hg (g_S mw_603 mw_601 mw_602 mw_3) rfl rfl rfl (by decide +kernel) ⟨(Nat.le_of_ble_eq_true rfl), (Nat.le_of_ble_eq_true rfl)⟩) hP hD hS hA rfl hl.1 rfl (Nat.le_of_ble_eq_true rfl) dX5_readWord_25 ⟨Nat.zero_le _, Nat.zero_le _⟩ (fun x27 u H locs hw hP hD hS => ?_)
        obtain ⟨r28, g29⟩ := hw
        have hP : va_P D classes (wX cA ad F1 L1 A1 B1) H := hP
        have hD : va_D Af (wX cA ad F1 L1 A1 B1) := hD
        refine lv_if_eq (tgt := 70) hx hb dX5_readWord_28 (by decide) (fun c30 => ?_) (fun c30 => ?_)
        · skip
          have r31 : rg x27 0 0 := rg_eq1 c30 (r28 : rg x27 0 1) ((rg_k (by decide)) : rg 0 0 0) (by decide)
          exact J70 (F1) (L1) (A1) (B1) H locs ls hq (e3.symm) hP hD hS (lv_sub hl [0] rfl)
        · skip
          have g32 := g29.resolve_left c30
          refine lv_aload_n hx hb dX5_readWord_31 rfl (lv_at hl 0 rfl) ?_
          refine lv_aload_n hx hb dX5_readWord_32 rfl (lv_at hl 0 rfl) ?_
          refine va_get (ci := 5) (v := .long (L1 7)) (C := RX5) (T := TX5) (N := 14) hx hb hg inX5 hown hK hP 3 atX_3 rfl 12 (by decide) (hg _ mw_114) (fun _ h9 => h9) rfl dX5_readWord_33 ?_
          refine lv_topl (fun z33 e34 => ?_)
          refine lv_iconst (v := 5) hx hb dX5_readWord_36 (by decide) ?_
          refine lv_lshl hx hb dX5_readWord_37 rfl ?_
          refine lv_topl (fun z35 _ => ?_)
          refine lv_aload_n hx hb dX5_readWord_38 rfl (lv_at hl 0 rfl) ?_
          refine va_get (ci := 5) (v := .ref (ad 1)) (C := RX5) (T := TX5) (N := 14) hx hb hg inX5 hown hK hP 3 atX_3 rfl 7 (by decide) (hg _ mw_107) (fun _ h9 => h9) (congrArg (fun z => some (Value.ref z)) htx) dX5_readWord_39 ?_
          refine lv_aload_n hx hb dX5_readWord_42 rfl (lv_at hl 0 rfl) ?_
          refine va_get (ci := 5) (v := .int x2) (C := RX5) (T := TX5) (N := 14) hx hb hg inX5 hown hK hP 3 atX_3 rfl 9 (by decide) (hg _ mw_109) (fun _ h9 => h9) (congrArg (fun z => some (Value.int z)) (e3.symm)) dX5_readWord_43 ?_
          refine va_bald hx hb hK hP 1 0 atX_1 tyX_1 (in_rg r23 (by decide)) dX5_readWord_46 ?_
          refine tope (e26) ?_
          refine lv_bipush (v := 97) hx hb dX5_readWord_47 (by decide) ?_
          refine lv_isub hx hb dX5_readWord_49 ?_
          refine lv_topi (fun x36 e37 => ?_)
          have r38 : rg x36 0 25 := rg_sub e37 g32 ((rg_k (by decide)) : rg 97 97 97) (by decide)
          refine lv_iconst (v := 1) hx hb dX5_readWord_50 (by decide) ?_
          refine lv_iadd hx hb dX5_readWord_51 ?_
          refine lv_topi (fun x39 e40 => ?_)
          have r41 : rg x39 1 26 := rg_add e40 r38 ((rg_k (by decide)) : rg 1 1 1) (by decide)
          refine lv_i2l hx hb dX5_readWord_52 rfl ?_
          refine lv_topl (fun z42 _ => ?_)
          refine lv_lor hx hb dX5_readWord_53 ?_
          refine lv_topl (fun z43 _ => ?_)
          refine va_put (ci := 5) (v := .long z43) (ty := .long) (C := RX5) (T := TX5) (N := 14) hx hb hg inX5 tyX5 tyX5_ok nmX5 hown hK hP hD hS 3 atX_3 rfl 12 (by decide) (hg _ mw_114) (fun _ h9 => h9) rfl (by decide +kernel) rfl rfl (Nat.le_of_ble_eq_true rfl) dX5_readWord_54 (fun H locs hP hD hS => ?_)
          rw [setLX_7] at hP hD
          refine lv_aload_n hx hb dX5_readWord_57 rfl (lv_at hl 0 rfl) ?_
          refine lv_dup hx hb dX5_readWord_58 rfl ?_
          refine va_get (ci := 5) (v := .int x2) (C := RX5) (T := TX5) (N := 14) hx hb hg inX5 hown hK hP 3 atX_3 rfl 9 (by decide) (hg _ mw_109) (fun _ h9 => h9) (congrArg (fun z => some (Value.int z)) (e3.symm)) dX5_readWord_59 ?_
          refine lv_iconst (v := 1) hx hb dX5_readWord_62 (by decide) ?_
          refine lv_iadd hx hb dX5_readWord_63 ?_
          refine lv_topi (fun x44 e45 => ?_)
          have r46 : rg x44 1 1700 := rg_add e45 r23 ((rg_k (by decide)) : rg 1 1 1) (by decide)
          refine va_put (ci := 5) (v := .int x44) (ty := .int) (C := RX5) (T := TX5) (N := 14) hx hb hg inX5 tyX5 tyX5_ok nmX5 hown hK hP hD hS 3 atX_3 rfl 9 (by decide) (hg _ mw_109) (fun _ h9 => h9) rfl (by decide +kernel) rfl rfl (Nat.le_of_ble_eq_true rfl) dX5_readWord_64 (fun H locs hP hD hS => ?_)
          have hq := hq.put 5 (x := x44) (by decide) (rg_w r46 (by decide))
          rw [setFX_5] at hP hD
          refine lv_goto (tgt := 5) hx hb dX5_readWord_67 (by decide) ?_
          exact ih5 ((upd F1 5 x44)) ((vp_updL L1 7 z43)) (A1) (B1) H locs ls (by have h0 : (1 : Int32).toInt = 1 := rfl; have h1 := ti_addk e45 r23 (by decide); have h2 := ((rg_w r46 (by decide)) : rg x44 0 1700); have h3 : (upd F1 5 x44) 5 = x44 := rfl; have h4 := hn5; have h5 := (e3).symm; rw [h3]; rw [h5] at h4; unfold rg at h2; omega) hq hP hD hS (lv_sub hl [0] rfl)
  exact J5 _ (F) ((vp_updL L 7 (0 : Int64))) (A) (B) H locs ls (Nat.lt_succ_self _) hq hP hD hS (lv_sub hl [0] rfl)
abbrev rm_X5_next_3 : Room := { frames := 2, cells := 0, slots := 0, locals := 41 }
set_option maxHeartbeats 4000000 in
set_option maxRecDepth 100000 in
theorem c_X5_next_3 (l : Launch) (D : va_G) (cA : Nat → ClassId) (sz : Nat) (ad : Nat → Nat) (F : Nat → Int32) (L : Nat → Int64) (A : Nat → Nat → Int32) (B : Nat → Nat → Int64)  (hT : typX F A) (htx : ad 71 = ad 1) : Met l yX5_next (Cond.code yX5_next cX5_next 1 none :: GW) rm_X5_next_3 (mPc D classes (tysX cA) (wX cA ad F L A B) sz [.ref (ad 3)]) (mQv (S := SW) D classes (tysX cA) (wX cA ad F L A B) sz (wfX cA ad) (fun u => qX [5, 6, 7, 8] [] F A u.1 u.2.2.1)) 0 0 (va_A (wX cA ad F L A B) sz) := by
  refine met_v (own := "ShoeingDay$Reader") (by decide +kernel) rfl (Nat.le_of_ble_eq_true rfl) ?_
  intro p e s m args below meth c Q Af ls hC hP hD hS hA hl hret
  have hx := hC.1
  have hb := hC.2.1
  have hown := hC.2.2.2.1
  have hg := hC.g
  have hK := hC.K
  have hl : lv_has ls 1 [(0, .ref (ad 3))] := hl
  have hq : qX [5, 6, 7, 8] [] F A F A := qX.rf hT
  obtain ⟨H, hH⟩ : ∃ H, H = s.heap := ⟨_, rfl⟩
  have hP : va_P D classes (wX cA ad F L A B) H := by rw [hH]; exact hP
  have hS : va_S Af s.heap H [] := by rw [hH]; exact hS
  obtain ⟨locs, hlo⟩ : ∃ q : List Loc, q = [] := ⟨_, rfl⟩
  rw [← hH, ← hlo]
  rw [← hlo] at hS
  have J0 : ∀ (n0 : Nat) (F1 : Nat → Int32) (L1 : Nat → Int64) (A1 : Nat → Nat → Int32) (B1 : Nat → Nat → Int64) (H : Heap) (locs : List Loc) (ls : Array Slot), (1700 - (F1 5).toInt).toNat < n0 → qX [5, 6, 7, 8] [] F A F1 A1 → va_P D classes (wX cA ad F1 L1 A1 B1) H → va_D Af (wX cA ad F1 L1 A1 B1) → va_S Af s.heap H locs → lv_has ls 1 [(0, .ref (ad 3))] → W p l e rm_X5_next_3 s m args below meth c H locs 0 0 Q (F0 m 0 ls []) := by
    intro n0
    induction n0 with
    | zero =>
      intro _ _ _ _ _ _ _ hn
      exact absurd hn (Nat.not_lt_zero _)
    | succ n0 ih0 =>
      intro F1 L1 A1 B1 H locs ls hn0 hq hP hD hS hl
      refine lv_aload_n hx hb dX5_next_0 rfl (lv_at hl 0 rfl) ?_
      refine va_get (ci := 5) (v := .int (F1 5)) (C := RX5) (T := TX5) (N := 14) hx hb hg inX5 hown hK hP 3 atX_3 rfl 9 (by decide) (hg _ mw_109) (fun _ h9 => h9) rfl dX5_next_1 ?_
      refine lv_topi (fun x2 e3 => ?_)
      have r4 : rg x2 0 1700 := rg_e e3 (hq.1.1 5)
      refine lv_aload_n hx hb dX5_next_4 rfl (lv_at hl 0 rfl) ?_
      refine va_get (ci := 5) (v := .int (F1 4)) (C := RX5) (T := TX5) (N := 14) hx hb hg inX5 hown hK hP 3 atX_3 rfl 8 (by decide) (hg _ mw_108) (fun _ h9 => h9) rfl dX5_next_5 ?_
      refine lv_topi (fun x5 e6 => ?_)
      have r7 : rg x5 0 1700 := rg_e e6 (hq.1.1 4)
      have J52 : ∀ (F8 : Nat → Int32) (L8 : Nat → Int64) (A8 : Nat → Nat → Int32) (B8 : Nat → Nat → Int64) (H : Heap) (locs : List Loc) (ls : Array Slot), qX [5, 6, 7, 8] [] F A F8 A8 → F8 4 = x5 → F8 5 = x2 → va_P D classes (wX cA ad F8 L8 A8 B8) H → va_D Af (wX cA ad F8 L8 A8 B8) → va_S Af s.heap H locs → lv_has ls 1 [(0, .ref (ad 3))] → W p l e rm_X5_next_3 s m args below meth c H locs 0 0 Q (F0 m 52 ls []) := by
        intro F8 L8 A8 B8 H locs ls hq f9 f10 hP hD hS hl
        refine lv_aload_n hx hb dX5_next_52 rfl (lv_at hl 0 rfl) ?_
        refine lv_aload_n hx hb dX5_next_53 rfl (lv_at hl 0 rfl) ?_
        refine va_get (ci := 5) (v := .int x2) (C := RX5) (T := TX5) (N := 14) hx hb hg inX5 hown hK hP 3 atX_3 rfl 9 (by decide) (hg _ mw_109) (fun _ h9 => h9) (congrArg (fun z => some (Value.int z)) (f10)) dX5_next_54 ?_
        refine va_put (ci := 5) (v := .int x2) (ty := .int) (C := RX5) (T := TX5) (N := 14) hx hb hg inX5 tyX5 tyX5_ok nmX5 hown hK hP hD hS 3 atX_3 rfl 11 (by decide) (hg _ mw_112) (fun _ h9 => h9) rfl (by decide +kernel) rfl rfl (Nat.le_of_ble_eq_true rfl) dX5_next_57 (fun H locs hP hD hS => ?_)
        have hq := hq.put 7 (x := x2) (by decide) (rg_top _)
        rw [setFX_7] at hP hD
        refine lv_aload_n hx hb dX5_next_60 rfl (lv_at hl 0 rfl) ?_
        refine va_get (ci := 5) (v := .int x2) (C := RX5) (T := TX5) (N := 14) hx hb hg inX5 hown hK hP 3 atX_3 rfl 9 (by decide) (hg _ mw_109) (fun _ h9 => h9) (congrArg (fun z => some (Value.int z)) (f10)) dX5_next_61 ?_
        refine lv_aload_n hx hb dX5_next_64 rfl (lv_at hl 0 rfl) ?_
        refine va_get (ci := 5) (v := .int x5) (C := RX5) (T := TX5) (N := 14) hx hb hg inX5 hown hK hP 3 atX_3 rfl 8 (by decide) (hg _ mw_108) (fun _ h9 => h9) (congrArg (fun z => some (Value.int z)) (f9)) dX5_next_65 ?_
        refine lv_icmp_lt (tgt := 79) hx hb dX5_next_68 (by decide) (fun c11 => ?_) (fun c11 => ?_)
        · skip
          have r12 : rg x2 0 1699 := rg_lt1 (iL c11) (r4 : rg x2 0 1700) (r7 : rg x5 0 1700)
          have r13 : rg x5 1 1700 := rg_lt2 (iL c11) (r4 : rg x2 0 1700) (r7 : rg x5 0 1700)
          refine lv_aload_n hx hb dX5_next_79 rfl (lv_at hl 0 rfl) ?_
          refine va_get (ci := 5) (v := .ref (ad 1)) (C := RX5) (T := TX5) (N := 14) hx hb hg inX5 hown hK hP 3 atX_3 rfl 7 (by decide) (hg _ mw_107) (fun _ h9 => h9) (congrArg (fun z => some (Value.ref z)) htx) dX5_next_80 ?_
          refine lv_aload_n hx hb dX5_next_83 rfl (lv_at hl 0 rfl) ?_
          refine va_get (ci := 5) (v := .int x2) (C := RX5) (T := TX5) (N := 14) hx hb hg inX5 hown hK hP 3 atX_3 rfl 9 (by decide) (hg _ mw_109) (fun _ h9 => h9) (congrArg (fun z => some (Value.int z)) (f10)) dX5_next_84 ?_
          refine va_bald hx hb hK hP 1 0 atX_1 tyX_1 (in_rg r12 (by decide)) dX5_next_87 ?_
          refine lv_topi (fun x14 e15 => ?_)
          refine calls_i (As := [.int x14]) (rest := []) hC (c_X5_isLetter l D (tysX cA) (wX cA ad (upd F8 7 x2) L8 A8 B8) H.size (x14)) (cwS 1 hg (g_S mw_603 mw_601 mw_602 mw_3) rfl rfl rfl (by decide +kernel) ⟨(Nat.le_of_ble_eq_true rfl), (Nat.le_of_ble_eq_true rfl)⟩) hP hD hS hA rfl hl.1 rfl (Nat.le_of_ble_eq_true rfl) dX5_next_88 ⟨Nat.zero_le _, Nat.zero_le _⟩ (fun x16 u H locs hw hP hD hS => ?_)
          obtain ⟨r17, g18⟩ := hw
          have hP : va_P D classes (wX cA ad (upd F8 7 x2) L8 A8 B8) H := hP
          have hD : va_D Af (wX cA ad (upd F8 7 x2) L8 A8 B8) := hD
          refine lv_if_eq (tgt := 101) hx hb dX5_next_91 (by decide) (fun c19 => ?_) (fun c19 => ?_)
          · skip
            have r20 : rg x16 0 0 := rg_eq1 c19 (r17 : rg x16 0 1) ((rg_k (by decide)) : rg 0 0 0) (by decide)
            refine lv_aload_n hx hb dX5_next_101 rfl (lv_at hl 0 rfl) ?_
            refine va_get (ci := 5) (v := .ref (ad 1)) (C := RX5) (T := TX5) (N := 14) hx hb hg inX5 hown hK hP 3 atX_3 rfl 7 (by decide) (hg _ mw_107) (fun _ h9 => h9) (congrArg (fun z => some (Value.ref z)) htx) dX5_next_102 ?_
            refine lv_aload_n hx hb dX5_next_105 rfl (lv_at hl 0 rfl) ?_
            refine va_get (ci := 5) (v := .int x2) (C := RX5) (T := TX5) (N := 14) hx hb hg inX5 hown hK hP 3 atX_3 rfl 9 (by decide) (hg _ mw_109) (fun _ h9 => h9) (congrArg (fun z => some (Value.int z)) (f10)) dX5_next_106 ?_
            refine va_bald hx hb hK hP 1 0 atX_1 tyX_1 (in_rg r12 (by decide)) dX5_next_109 ?_
            refine tope (e15) ?_
            refine calls_i (As := [.int x14]) (rest := []) hC (c_X5_isDigit l D (tysX cA) (wX cA ad (upd F8 7 x2) L8 A8 B8) H.size (x14)) (cwS 1 hg (g_S mw_614 mw_612 mw_613 mw_3) rfl rfl rfl (by decide +kernel) ⟨(Nat.le_of_ble_eq_true rfl), (Nat.le_of_ble_eq_true rfl)⟩) hP hD hS hA rfl hl.1 rfl (Nat.le_of_ble_eq_true rfl) dX5_next_110 ⟨Nat.zero_le _, Nat.zero_le _⟩ (fun x22 u H locs hw hP hD hS => ?_)
            obtain ⟨r23, g24⟩ := hw
            have hP : va_P D classes (wX cA ad (upd F8 7 x2) L8 A8 B8) H := hP
            have hD : va_D Af (wX cA ad (upd F8 7 x2) L8 A8 B8) := hD
            refine lv_if_eq (tgt := 123) hx hb dX5_next_113 (by decide) (fun c25 => ?_) (fun c25 => ?_)
            · skip
              have r26 : rg x22 0 0 := rg_eq1 c25 (r23 : rg x22 0 1) ((rg_k (by decide)) : rg 0 0 0) (by decide)
              refine lv_aload_n hx hb dX5_next_123 rfl (lv_at hl 0 rfl) ?_
              refine lv_aload_n hx hb dX5_next_124 rfl (lv_at hl 0 rfl) ?_
              refine va_get (ci := 5) (v := .ref (ad 1)) (C := RX5) (T := TX5) (N := 14) hx hb hg inX5 hown hK hP 3 atX_3 rfl 7 (by decide) (hg _ mw_107) (fun _ h9 => h9) (congrArg (fun z => some (Value.ref z)) htx) dX5_next_125 ?_
              refine lv_aload_n hx hb dX5_next_128 rfl (lv_at hl 0 rfl) ?_
              refine va_get (ci := 5) (v := .int x2) (C := RX5) (T := TX5) (N := 14) hx hb hg inX5 hown hK hP 3 atX_3 rfl 9 (by decide) (hg _ mw_109) (fun _ h9 => h9) (congrArg (fun z => some (Value.int z)) (f10)) dX5_next_129 ?_
              refine va_bald hx hb hK hP 1 0 atX_1 tyX_1 (in_rg r12 (by decide)) dX5_next_132 ?_
              refine tope (e15) ?_
              refine lv_bipush (v := 59) hx hb dX5_next_133 (by decide) ?_
              have J143 : ∀ (a28 : Int32) (F30 : Nat → Int32) (L30 : Nat → Int64) (A30 : Nat → Nat → Int32) (B30 : Nat → Nat → Int64) (H : Heap) (locs : List Loc) (ls : Array Slot), rg a28 1 3 → qX [5, 6, 7, 8] [] F A F30 A30 → F30 5 = x2 → va_P D classes (wX cA ad F30 L30 A30 B30) H → va_D Af (wX cA ad F30 L30 A30 B30) → va_S Af s.heap H locs → lv_has ls 1 [(0, .ref (ad 3))] → W p l e rm_X5_next_3 s m args below meth c H locs 0 0 Q (F0 m 143 ls [.int a28, .ref (ad 3)]) := by
                intro a28 F30 L30 A30 B30 H locs ls r29 hq f31 hP hD hS hl
                refine va_put (ci := 5) (v := .int a28) (ty := .int) (C := RX5) (T := TX5) (N := 14) hx hb hg inX5 tyX5 tyX5_ok nmX5 hown hK hP hD hS 3 atX_3 rfl 10 (by decide) (hg _ mw_110) (fun _ h9 => h9) rfl (by decide +kernel) rfl rfl (Nat.le_of_ble_eq_true rfl) dX5_next_143 (fun H locs hP hD hS => ?_)
                have hq := hq.put 6 (x := a28) (by decide) (rg_top _)
                rw [setFX_6] at hP hD
                refine lv_aload_n hx hb dX5_next_146 rfl (lv_at hl 0 rfl) ?_
                refine lv_dup hx hb dX5_next_147 rfl ?_
                refine va_get (ci := 5) (v := .int x2) (C := RX5) (T := TX5) (N := 14) hx hb hg inX5 hown hK hP 3 atX_3 rfl 9 (by decide) (hg _ mw_109) (fun _ h9 => h9) (congrArg (fun z => some (Value.int z)) (f31)) dX5_next_148 ?_
                refine lv_iconst (v := 1) hx hb dX5_next_151 (by decide) ?_
                refine lv_iadd hx hb dX5_next_152 ?_
                refine lv_topi (fun x32 e33 => ?_)
                have r34 : rg x32 1 1700 := rg_add e33 r12 ((rg_k (by decide)) : rg 1 1 1) (by decide)
                refine va_put (ci := 5) (v := .int x32) (ty := .int) (C := RX5) (T := TX5) (N := 14) hx hb hg inX5 tyX5 tyX5_ok nmX5 hown hK hP hD hS 3 atX_3 rfl 9 (by decide) (hg _ mw_109) (fun _ h9 => h9) rfl (by decide +kernel) rfl rfl (Nat.le_of_ble_eq_true rfl) dX5_next_153 (fun H locs hP hD hS => ?_)
                have hq := hq.put 5 (x := x32) (by decide) (rg_w r34 (by decide))
                rw [setFX_5] at hP hD
                exact hret ((upd (upd F30 6 a28) 5 x32), L30, A30, B30) H locs 156 ls dX5_next_156 hP hD hS hq
              refine lv_icmp_ne (tgt := 142) hx hb dX5_next_135 (by decide) (fun c35 => ?_) (fun c35 => ?_)
              · skip
                refine lv_iconst (v := 1) hx hb dX5_next_142 (by decide) ?_
                exact J143 (1) ((upd F8 7 x2)) (L8) (A8) (B8) H locs ls (rg_k (by decide)) hq (f10) hP hD hS (lv_sub hl [0] rfl)
              · skip
                have r36 : rg x14 59 59 := rg_eq1 c35 ((rg_top _) : rg x14 (-2147483648) 2147483647) ((rg_k (by decide)) : rg 59 59 59) (by decide)
                refine lv_iconst (v := 3) hx hb dX5_next_138 (by decide) ?_
                refine lv_goto (tgt := 143) hx hb dX5_next_139 (by decide) ?_
                exact J143 (3) ((upd F8 7 x2)) (L8) (A8) (B8) H locs ls (rg_k (by decide)) hq (f10) hP hD hS (lv_sub hl [0] rfl)
            · skip
              have g27 := g24.resolve_left c25
              refine lv_aload_n hx hb dX5_next_116 rfl (lv_at hl 0 rfl) ?_
              refine callv_v (As := []) (rest := []) hC (c_X5_readNumber_3 l D cA H.size ad (upd F8 7 x2) L8 A8 B8  hq.1 htx) (cwV 0 hg (g_V mw_618 mw_615 mw_617 ms_3 mw_3) rfl rfl rfl (by decide +kernel) ⟨(Nat.le_of_ble_eq_true rfl), (Nat.le_of_ble_eq_true rfl)⟩) hP hD hS hA atX_3 rfl rfl hl.1 rfl (Nat.le_of_ble_eq_true rfl) dX5_next_117 ⟨Nat.zero_le _, Nat.zero_le _⟩ (fun  u H locs hw hP hD hS => ?_)
              obtain ⟨F37, L37, A37, B37⟩ := u
              try dsimp only at hw
              have hq37 := hw
              have hq := hq.call hq37 (by decide)
              have hP : va_P D classes (wX cA ad F37 L37 A37 B37) H := hP
              have hD : va_D Af (wX cA ad F37 L37 A37 B37) := hD
              refine lv_goto (tgt := 156) hx hb dX5_next_120 (by decide) ?_
              exact hret (F37, L37, A37, B37) H locs 156 ls dX5_next_156 hP hD hS hq
          · skip
            have g21 := g18.resolve_left c19
            refine lv_aload_n hx hb dX5_next_94 rfl (lv_at hl 0 rfl) ?_
            refine callv_v (As := []) (rest := []) hC (c_X5_readWord_3 l D cA H.size ad (upd F8 7 x2) L8 A8 B8  hq.1 htx) (cwV 0 hg (g_V mw_607 mw_604 mw_606 ms_1 mw_3) rfl rfl rfl (by decide +kernel) ⟨(Nat.le_of_ble_eq_true rfl), (Nat.le_of_ble_eq_true rfl)⟩) hP hD hS hA atX_3 rfl rfl hl.1 rfl (Nat.le_of_ble_eq_true rfl) dX5_next_95 ⟨Nat.zero_le _, Nat.zero_le _⟩ (fun  u H locs hw hP hD hS => ?_)
            obtain ⟨F38, L38, A38, B38⟩ := u
            try dsimp only at hw
            have hq38 := hw
            have hq := hq.call hq38 (by decide)
            have hP : va_P D classes (wX cA ad F38 L38 A38 B38) H := hP
            have hD : va_D Af (wX cA ad F38 L38 A38 B38) := hD
            refine lv_goto (tgt := 156) hx hb dX5_next_98 (by decide) ?_
            exact hret (F38, L38, A38, B38) H locs 156 ls dX5_next_156 hP hD hS hq
        · skip
          refine lv_aload_n hx hb dX5_next_71 rfl (lv_at hl 0 rfl) ?_
          refine lv_iconst (v := 0) hx hb dX5_next_72 (by decide) ?_
          refine va_put (ci := 5) (v := .int 0) (ty := .int) (C := RX5) (T := TX5) (N := 14) hx hb hg inX5 tyX5 tyX5_ok nmX5 hown hK hP hD hS 3 atX_3 rfl 10 (by decide) (hg _ mw_110) (fun _ h9 => h9) rfl (by decide +kernel) rfl rfl (Nat.le_of_ble_eq_true rfl) dX5_next_73 (fun H locs hP hD hS => ?_)
          have hq := hq.put 6 (x := 0) (by decide) (rg_k (by decide))
          rw [setFX_6] at hP hD
          refine lv_goto (tgt := 156) hx hb dX5_next_76 (by decide) ?_
          exact hret ((upd (upd F8 7 x2) 6 (0 : Int32)), L8, A8, B8) H locs 156 ls dX5_next_156 hP hD hS hq
      refine lv_icmp_ge (tgt := 52) hx hb dX5_next_8 (by decide) (fun c39 => ?_) (fun c39 => ?_)
      · skip
        exact J52 (F1) (L1) (A1) (B1) H locs ls hq (e6.symm) (e3.symm) hP hD hS (lv_sub hl [0] rfl)
      · skip
        have r40 : rg x2 0 1699 := rg_lt1 (iNE c39) (r4 : rg x2 0 1700) (r7 : rg x5 0 1700)
        have r41 : rg x5 1 1700 := rg_lt2 (iNE c39) (r4 : rg x2 0 1700) (r7 : rg x5 0 1700)
        refine lv_aload_n hx hb dX5_next_11 rfl (lv_at hl 0 rfl) ?_
        refine va_get (ci := 5) (v := .ref (ad 1)) (C := RX5) (T := TX5) (N := 14) hx hb hg inX5 hown hK hP 3 atX_3 rfl 7 (by decide) (hg _ mw_107) (fun _ h9 => h9) (congrArg (fun z => some (Value.ref z)) htx) dX5_next_12 ?_
        refine lv_aload_n hx hb dX5_next_15 rfl (lv_at hl 0 rfl) ?_
        refine va_get (ci := 5) (v := .int x2) (C := RX5) (T := TX5) (N := 14) hx hb hg inX5 hown hK hP 3 atX_3 rfl 9 (by decide) (hg _ mw_109) (fun _ h9 => h9) (congrArg (fun z => some (Value.int z)) (e3.symm)) dX5_next_16 ?_
        refine va_bald hx hb hK hP 1 0 atX_1 tyX_1 (in_rg r40 (by decide)) dX5_next_19 ?_
        refine lv_topi (fun x42 e43 => ?_)
        refine lv_bipush (v := 32) hx hb dX5_next_20 (by decide) ?_
        have J39 : ∀ (F44 : Nat → Int32) (L44 : Nat → Int64) (A44 : Nat → Nat → Int32) (B44 : Nat → Nat → Int64) (H : Heap) (locs : List Loc) (ls : Array Slot), qX [5, 6, 7, 8] [] F A F44 A44 → F44 4 = x5 → F44 5 = x2 → va_P D classes (wX cA ad F44 L44 A44 B44) H → va_D Af (wX cA ad F44 L44 A44 B44) → va_S Af s.heap H locs → lv_has ls 1 [(0, .ref (ad 3))] → W p l e rm_X5_next_3 s m args below meth c H locs 0 0 Q (F0 m 39 ls []) := by
          intro F44 L44 A44 B44 H locs ls hq f45 f46 hP hD hS hl
          refine lv_aload_n hx hb dX5_next_39 rfl (lv_at hl 0 rfl) ?_
          refine lv_dup hx hb dX5_next_40 rfl ?_
          refine va_get (ci := 5) (v := .int x2) (C := RX5) (T := TX5) (N := 14) hx hb hg inX5 hown hK hP 3 atX_3 rfl 9 (by decide) (hg _ mw_109) (fun _ h9 => h9) (congrArg (fun z => some (Value.int z)) (f46)) dX5_next_41 ?_
          refine lv_iconst (v := 1) hx hb dX5_next_44 (by decide) ?_
          refine lv_iadd hx hb dX5_next_45 ?_
          refine lv_topi (fun x47 e48 => ?_)
          have r49 : rg x47 1 1700 := rg_add e48 r40 ((rg_k (by decide)) : rg 1 1 1) (by decide)
          refine va_put (ci := 5) (v := .int x47) (ty := .int) (C := RX5) (T := TX5) (N := 14) hx hb hg inX5 tyX5 tyX5_ok nmX5 hown hK hP hD hS 3 atX_3 rfl 9 (by decide) (hg _ mw_109) (fun _ h9 => h9) rfl (by decide +kernel) rfl rfl (Nat.le_of_ble_eq_true rfl) dX5_next_46 (fun H locs hP hD hS => ?_)
          have hq := hq.put 5 (x := x47) (by decide) (rg_w r49 (by decide))
          rw [setFX_5] at hP hD
          refine lv_goto (tgt := 0) hx hb dX5_next_49 (by decide) ?_
          exact ih0 ((upd F44 5 x47)) (L44) (A44) (B44) H locs ls (by have h0 : (1 : Int32).toInt = 1 := rfl; have h1 := ti_addk e48 r40 (by decide); have h2 := ((rg_w r49 (by decide)) : rg x47 0 1700); have h3 : (upd F44 5 x47) 5 = x47 := rfl; have h4 := hn0; have h5 := (e3).symm; rw [h3]; rw [h5] at h4; unfold rg at h2; omega) hq hP hD hS (lv_sub hl [0] rfl)
        refine lv_icmp_eq (tgt := 39) hx hb dX5_next_22 (by decide) (fun c50 => ?_) (fun c50 => ?_)
        · skip
          have r51 : rg x42 32 32 := rg_eq1 c50 ((rg_top _) : rg x42 (-2147483648) 2147483647) ((rg_k (by decide)) : rg 32 32 32) (by decide)
          exact J39 (F1) (L1) (A1) (B1) H locs ls hq (e6.symm) (e3.symm) hP hD hS (lv_sub hl [0] rfl)
        · skip
          refine lv_aload_n hx hb dX5_next_25 rfl (lv_at hl 0 rfl) ?_
          refine va_get (ci := 5) (v := .ref (ad 1)) (C := RX5) (T := TX5) (N := 14) hx hb hg inX5 hown hK hP 3 atX_3 rfl 7 (by decide) (hg _ mw_107) (fun _ h9 => h9) (congrArg (fun z => some (Value.ref z)) htx) dX5_next_26 ?_
          refine lv_aload_n hx hb dX5_next_29 rfl (lv_at hl 0 rfl) ?_
          refine va_get (ci := 5) (v := .int x2) (C := RX5) (T := TX5) (N := 14) hx hb hg inX5 hown hK hP 3 atX_3 rfl 9 (by decide) (hg _ mw_109) (fun _ h9 => h9) (congrArg (fun z => some (Value.int z)) (e3.symm)) dX5_next_30 ?_
          refine va_bald hx hb hK hP 1 0 atX_1 tyX_1 (in_rg r40 (by decide)) dX5_next_33 ?_
          refine tope (e43) ?_
          refine lv_bipush (v := 10) hx hb dX5_next_34 (by decide) ?_
          refine lv_icmp_ne (tgt := 52) hx hb dX5_next_36 (by decide) (fun c52 => ?_) (fun c52 => ?_)
          · skip
            exact J52 (F1) (L1) (A1) (B1) H locs ls hq (e6.symm) (e3.symm) hP hD hS (lv_sub hl [0] rfl)
          · skip
            have r53 : rg x42 10 10 := rg_eq1 c52 ((rg_top _) : rg x42 (-2147483648) 2147483647) ((rg_k (by decide)) : rg 10 10 10) (by decide)
            exact J39 (F1) (L1) (A1) (B1) H locs ls hq (e6.symm) (e3.symm) hP hD hS (lv_sub hl [0] rfl)
  exact J0 _ (F) (L) (A) (B) H locs ls (Nat.lt_succ_self _) hq hP hD hS (lv_sub hl [0] rfl)
abbrev rm_X5_open_3_1 : Room := { frames := 1, cells := 0, slots := 0, locals := 21 }
set_option maxHeartbeats 4000000 in
set_option maxRecDepth 100000 in
theorem c_X5_open_3_1 (l : Launch) (D : va_G) (cA : Nat → ClassId) (sz : Nat) (ad : Nat → Nat) (F : Nat → Int32) (L : Nat → Int64) (A : Nat → Nat → Int32) (B : Nat → Nat → Int64) (p2 : Int32) (hT : typX F A) (hp2 : rg p2 0 1700) : Met l yX5_open (Cond.code yX5_open cX5_open 3 none :: GW) rm_X5_open_3_1 (mPc D classes (tysX cA) (wX cA ad F L A B) sz [.ref (ad 3), .ref (ad 1), .int p2]) (mQv (S := SW) D classes (tysX cA) (wX cA ad F L A B) sz (wfX cA (adT ad)) (fun u => qX [4, 5] [] F A u.1 u.2.2.1)) 0 0 (va_A (wX cA ad F L A B) sz) := by
  refine met_v (own := "ShoeingDay$Reader") (by decide +kernel) rfl (Nat.le_of_ble_eq_true rfl) ?_
  intro p e s m args below meth c Q Af ls hC hP hD hS hA hl hret
  have hx := hC.1
  have hb := hC.2.1
  have hown := hC.2.2.2.1
  have hg := hC.g
  have hK := hC.K
  have hl : lv_has ls 3 [(0, .ref (ad 3)), (1, .ref (ad 1)), (2, .int p2)] := hl
  have hq : qX [4, 5] [] F A F A := qX.rf hT
  obtain ⟨H, hH⟩ : ∃ H, H = s.heap := ⟨_, rfl⟩
  have hP : va_P D classes (wX cA ad F L A B) H := by rw [hH]; exact hP
  have hS : va_S Af s.heap H [] := by rw [hH]; exact hS
  obtain ⟨locs, hlo⟩ : ∃ q : List Loc, q = [] := ⟨_, rfl⟩
  rw [← hH, ← hlo]
  rw [← hlo] at hS
  refine lv_aload_n hx hb dX5_open_0 rfl (lv_at hl 0 rfl) ?_
  refine lv_aload_n hx hb dX5_open_1 rfl (lv_at hl 1 rfl) ?_
  refine va_put (ci := 5) (v := .ref (ad 1)) (ty := .array .byte) (C := RX5) (T := TX5) (N := 14) hx hb hg inX5 tyX5 tyX5_ok nmX5 hown hK hP hD hS 3 atX_3 rfl 7 (by decide) (hg _ mw_107) (fun _ h9 => h9) rfl (by decide +kernel) rfl rfl (Nat.le_of_ble_eq_true rfl) dX5_open_2 (fun H locs hP hD hS => ?_)
  rw [setTX] at hP hD
  have hP : va_P D classes (wX cA (adT ad) F L A B) H := hP
  have hD : va_D Af (wX cA (adT ad) F L A B) := hD
  have hl : lv_has ls 3 [(0, .ref (adT ad 3)), (1, .ref (adT ad 1)), (2, .int p2)] := hl
  have htx : adT ad 71 = adT ad 1 := rfl
  generalize adT ad = ad at hP hD hl htx hret
  refine lv_aload_n hx hb dX5_open_5 rfl (lv_at hl 0 rfl) ?_
  refine lv_iload_n hx hb dX5_open_6 rfl (lv_at hl 2 rfl) ?_
  refine lv_aload_n hx hb dX5_open_7 rfl (lv_at hl 1 rfl) ?_
  refine va_alen (v := 1700) hx hb hK hP 1 0 atX_1 tyX_1 rfl dX5_open_8 ?_
  refine va_mmin hx hb (hC.2.2.1.trans hl.1.symm) hown (hg _ mw_594) (hg _ mw_595) (hg _ mw_12) (hg _ mw_596) (Nat.le_of_ble_eq_true rfl) (Nat.le_of_ble_eq_true rfl) (Nat.zero_le _) (Nat.zero_le _) dX5_open_9 ?_
  refine lv_topi (fun x1 e2 => ?_)
  have r3 : rg x1 0 1700 := rg_min e2 (hp2 : rg p2 0 1700) ((rg_k (by decide)) : rg 1700 1700 1700) (by decide)
  refine va_put (ci := 5) (v := .int x1) (ty := .int) (C := RX5) (T := TX5) (N := 14) hx hb hg inX5 tyX5 tyX5_ok nmX5 hown hK hP hD hS 3 atX_3 rfl 8 (by decide) (hg _ mw_108) (fun _ h9 => h9) rfl (by decide +kernel) rfl rfl (Nat.le_of_ble_eq_true rfl) dX5_open_12 (fun H locs hP hD hS => ?_)
  have hq := hq.put 4 (x := x1) (by decide) r3
  rw [setFX_4] at hP hD
  refine lv_aload_n hx hb dX5_open_15 rfl (lv_at hl 0 rfl) ?_
  refine lv_iconst (v := 0) hx hb dX5_open_16 (by decide) ?_
  refine va_put (ci := 5) (v := .int 0) (ty := .int) (C := RX5) (T := TX5) (N := 14) hx hb hg inX5 tyX5 tyX5_ok nmX5 hown hK hP hD hS 3 atX_3 rfl 9 (by decide) (hg _ mw_109) (fun _ h9 => h9) rfl (by decide +kernel) rfl rfl (Nat.le_of_ble_eq_true rfl) dX5_open_17 (fun H locs hP hD hS => ?_)
  have hq := hq.put 5 (x := 0) (by decide) (rg_k (by decide))
  rw [setFX_5] at hP hD
  exact hret ((upd (upd F 4 x1) 5 (0 : Int32)), L, A, B) H locs 20 ls dX5_open_20 hP hD hS hq
abbrev rm_X10_addHorse_4 : Room := { frames := 0, cells := 0, slots := 0, locals := 0 }
set_option maxHeartbeats 4000000 in
set_option maxRecDepth 100000 in
theorem c_X10_addHorse_4 (l : Launch) (D : va_G) (cA : Nat → ClassId) (sz : Nat) (ad : Nat → Nat) (F : Nat → Int32) (L : Nat → Int64) (A : Nat → Nat → Int32) (B : Nat → Nat → Int64) (p1 : Int64) (hT : typX F A) : Met l yX10_addHorse (Cond.code yX10_addHorse cX10_addHorse 3 none :: GW) rm_X10_addHorse_4 (mPc D classes (tysX cA) (wX cA ad F L A B) sz [.ref (ad 4), .long p1]) (mQv (S := SW) D classes (tysX cA) (wX cA ad F L A B) sz (wfX cA ad) (fun u => qX [10] [6] F A u.1 u.2.2.1)) 0 0 (va_A (wX cA ad F L A B) sz) := by
  refine met_v (own := "ShoeingDay$Yard") (by decide +kernel) rfl (Nat.le_of_ble_eq_true rfl) ?_
  intro p e s m args below meth c Q Af ls hC hP hD hS hA hl hret
  have hx := hC.1
  have hb := hC.2.1
  have hown := hC.2.2.2.1
  have hg := hC.g
  have hK := hC.K
  have hl : lv_has ls 3 [(0, .ref (ad 4)), (1, .long p1)] := hl
  have hq : qX [10] [6] F A F A := qX.rf hT
  obtain ⟨H, hH⟩ : ∃ H, H = s.heap := ⟨_, rfl⟩
  have hP : va_P D classes (wX cA ad F L A B) H := by rw [hH]; exact hP
  have hS : va_S Af s.heap H [] := by rw [hH]; exact hS
  obtain ⟨locs, hlo⟩ : ∃ q : List Loc, q = [] := ⟨_, rfl⟩
  rw [← hH, ← hlo]
  rw [← hlo] at hS
  refine lv_aload_n hx hb dX10_addHorse_0 rfl (lv_at hl 0 rfl) ?_
  refine va_get (ci := 10) (v := .int (F 10)) (C := RX10) (T := TX10) (N := 12) hx hb hg inX10 hown hK hP 4 atX_4 rfl 7 (by decide) (hg _ mw_171) (fun _ h9 => h9) rfl dX10_addHorse_1 ?_
  refine lv_topi (fun x1 e2 => ?_)
  have r3 : rg x1 0 10 := rg_e e2 (hq.1.1 10)
  refine lv_bipush (v := 10) hx hb dX10_addHorse_4 (by decide) ?_
  refine lv_icmp_ge (tgt := 29) hx hb dX10_addHorse_6 (by decide) (fun c4 => ?_) (fun c4 => ?_)
  · skip
    have r5 : rg x1 10 10 := rg_le2 (iE c4) ((rg_k (by decide)) : rg 10 10 10) (r3 : rg x1 0 10)
    exact hret (F, L, A, B) H locs 29 ls dX10_addHorse_29 hP hD hS hq
  · skip
    have r6 : rg x1 0 9 := rg_lt1 (iNE c4) (r3 : rg x1 0 10) ((rg_k (by decide)) : rg 10 10 10)
    refine lv_aload_n hx hb dX10_addHorse_9 rfl (lv_at hl 0 rfl) ?_
    refine va_get (ci := 10) (v := .ref (ad 6)) (C := RX10) (T := TX10) (N := 12) hx hb hg inX10 hown hK hP 4 atX_4 rfl 1 (by decide) (hg _ mw_155) (fun _ h9 => h9) rfl dX10_addHorse_10 ?_
    refine lv_aload_n hx hb dX10_addHorse_13 rfl (lv_at hl 0 rfl) ?_
    refine va_get (ci := 10) (v := .int x1) (C := RX10) (T := TX10) (N := 12) hx hb hg inX10 hown hK hP 4 atX_4 rfl 7 (by decide) (hg _ mw_171) (fun _ h9 => h9) (congrArg (fun z => some (Value.int z)) (e2.symm)) dX10_addHorse_14 ?_
    refine lv_lload_n hx hb dX10_addHorse_17 rfl (lv_at hl 1 rfl) ?_
    refine va_last hx hb hK hP hD hS 6 2 atX_6 tyX_6 (in_rg r6 (by decide)) dX10_addHorse_18 (fun H locs hP hD hS => ?_)
    rw [setBX_6] at hP hD
    refine lv_aload_n hx hb dX10_addHorse_19 rfl (lv_at hl 0 rfl) ?_
    refine lv_dup hx hb dX10_addHorse_20 rfl ?_
    refine va_get (ci := 10) (v := .int x1) (C := RX10) (T := TX10) (N := 12) hx hb hg inX10 hown hK hP 4 atX_4 rfl 7 (by decide) (hg _ mw_171) (fun _ h9 => h9) (congrArg (fun z => some (Value.int z)) (e2.symm)) dX10_addHorse_21 ?_
    refine lv_iconst (v := 1) hx hb dX10_addHorse_24 (by decide) ?_
    refine lv_iadd hx hb dX10_addHorse_25 ?_
    refine lv_topi (fun x7 e8 => ?_)
    have r9 : rg x7 1 10 := rg_add e8 r6 ((rg_k (by decide)) : rg 1 1 1) (by decide)
    refine va_put (ci := 10) (v := .int x7) (ty := .int) (C := RX10) (T := TX10) (N := 12) hx hb hg inX10 tyX10 tyX10_ok nmX10 hown hK hP hD hS 4 atX_4 rfl 7 (by decide) (hg _ mw_171) (fun _ h9 => h9) rfl (by decide +kernel) rfl rfl (Nat.le_of_ble_eq_true rfl) dX10_addHorse_26 (fun H locs hP hD hS => ?_)
    have hq := hq.put 10 (x := x7) (by decide) (rg_w r9 (by decide))
    rw [setFX_10] at hP hD
    exact hret ((upd F 10 x7), L, A, (va_up B 6 (vp_updL (B 6) (x1).toNatClampNeg p1))) H locs 29 ls dX10_addHorse_29 hP hD hS hq
abbrev rm_X10_horseNamed_4 : Room := { frames := 0, cells := 0, slots := 0, locals := 0 }
set_option maxHeartbeats 4000000 in
set_option maxRecDepth 100000 in
theorem c_X10_horseNamed_4 (l : Launch) (D : va_G) (cA : Nat → ClassId) (sz : Nat) (ad : Nat → Nat) (F : Nat → Int32) (L : Nat → Int64) (A : Nat → Nat → Int32) (B : Nat → Nat → Int64) (p1 : Int64) (hT : typX F A) : Met l yX10_horseNamed (Cond.code yX10_horseNamed cX10_horseNamed 4 (some .int) :: GW) rm_X10_horseNamed_4 (mPc D classes (tysX cA) (wX cA ad F L A B) sz [.ref (ad 4), .long p1]) (mQi (S := Unit) D classes (tysX cA) (wX cA ad F L A B) sz (fun _ : Unit => wX cA ad F L A B) (fun r u => rg r (-1) 9)) 0 0 (va_A (wX cA ad F L A B) sz) := by
  refine met_i (own := "ShoeingDay$Yard") (by decide +kernel) rfl (Nat.le_of_ble_eq_true rfl) ?_
  intro p e s m args below meth c Q Af ls hC hP hD hS hA hl hret
  have hx := hC.1
  have hb := hC.2.1
  have hown := hC.2.2.2.1
  have hg := hC.g
  have hK := hC.K
  have hl : lv_has ls 4 [(0, .ref (ad 4)), (1, .long p1)] := hl
  have hq : qX [] [] F A F A := qX.rf hT
  obtain ⟨H, hH⟩ : ∃ H, H = s.heap := ⟨_, rfl⟩
  have hP : va_P D classes (wX cA ad F L A B) H := by rw [hH]; exact hP
  have hS : va_S Af s.heap H [] := by rw [hH]; exact hS
  obtain ⟨locs, hlo⟩ : ∃ q : List Loc, q = [] := ⟨_, rfl⟩
  rw [← hH, ← hlo]
  rw [← hlo] at hS
  refine lv_iconst (v := 0) hx hb dX10_horseNamed_0 (by decide) ?_
  refine lv_istore_n (lv' := [(3, .int 0), (0, .ref (ad 4)), (1, .long p1)]) hx hb dX10_horseNamed_1 rfl hl (by decide) rfl (fun ls hl => ?_)
  have J2 : ∀ (n2 : Nat) (a1 : Int32) (H : Heap) (locs : List Loc) (ls : Array Slot), (10 - a1.toInt).toNat < n2 → rg a1 0 10 → va_P D classes (wX cA ad F L A B) H → va_D Af (wX cA ad F L A B) → va_S Af s.heap H locs → lv_has ls 4 [(0, .ref (ad 4)), (1, .long p1), (3, .int a1)] → W p l e rm_X10_horseNamed_4 s m args below meth c H locs 0 0 Q (F0 m 2 ls []) := by
    intro n2
    induction n2 with
    | zero =>
      intro _ _ _ _ hn
      exact absurd hn (Nat.not_lt_zero _)
    | succ n2 ih2 =>
      intro a1 H locs ls hn2 r2 hP hD hS hl
      refine lv_iload_n hx hb dX10_horseNamed_2 rfl (lv_at hl 2 rfl) ?_
      refine lv_aload_n hx hb dX10_horseNamed_3 rfl (lv_at hl 0 rfl) ?_
      refine va_get (ci := 10) (v := .int (F 10)) (C := RX10) (T := TX10) (N := 12) hx hb hg inX10 hown hK hP 4 atX_4 rfl 7 (by decide) (hg _ mw_171) (fun _ h9 => h9) rfl dX10_horseNamed_4 ?_
      refine lv_topi (fun x3 e4 => ?_)
      have r5 : rg x3 0 10 := rg_e e4 (hq.1.1 10)
      refine lv_icmp_ge (tgt := 29) hx hb dX10_horseNamed_7 (by decide) (fun c6 => ?_) (fun c6 => ?_)
      · skip
        refine lv_iconst (v := (-1)) hx hb dX10_horseNamed_29 (by decide) ?_
        exact hret ((-1)) () H locs 30 ls rfl dX10_horseNamed_30 hP hD hS (rg_k (by decide))
      · skip
        have r7 : rg a1 0 9 := rg_lt1 (iNE c6) (r2 : rg a1 0 10) (r5 : rg x3 0 10)
        have r8 : rg x3 1 10 := rg_lt2 (iNE c6) (r2 : rg a1 0 10) (r5 : rg x3 0 10)
        refine lv_aload_n hx hb dX10_horseNamed_10 rfl (lv_at hl 0 rfl) ?_
        refine va_get (ci := 10) (v := .ref (ad 6)) (C := RX10) (T := TX10) (N := 12) hx hb hg inX10 hown hK hP 4 atX_4 rfl 1 (by decide) (hg _ mw_155) (fun _ h9 => h9) rfl dX10_horseNamed_11 ?_
        refine lv_iload_n hx hb dX10_horseNamed_14 rfl (lv_at hl 2 rfl) ?_
        refine va_lald hx hb hK hP 6 2 atX_6 tyX_6 (in_rg r7 (by decide)) dX10_horseNamed_15 ?_
        refine lv_topl (fun z9 _ => ?_)
        refine lv_lload_n hx hb dX10_horseNamed_16 rfl (lv_at hl 1 rfl) ?_
        refine W.lcmp hx hb dX10_horseNamed_17 ?_
        refine lv_topi (fun x10 e11 => ?_)
        refine lv_if_ne (tgt := 23) hx hb dX10_horseNamed_18 (by decide) (fun c12 => ?_) (fun c12 => ?_)
        · skip
          obtain ⟨x14, e15⟩ : ∃ y : Int32, y = a1 + 1 := ⟨_, rfl⟩
          have r16 : rg x14 1 10 := rg_add e15 r7 (rg_k (by decide) : rg 1 1 1) (by decide)
          refine lv_iinc (v := x14) (lv' := [(3, .int x14), (0, .ref (ad 4)), (1, .long p1)]) hx hb dX10_horseNamed_23 hl (k := 2) rfl (by rw [e15]; rfl) (by decide) rfl (fun ls hl => ?_)
          refine lv_goto (tgt := 2) hx hb dX10_horseNamed_26 (by decide) ?_
          exact ih2 (x14) H locs ls (by have h0 : (1 : Int32).toInt = 1 := rfl; have h1 := ti_addk e15 r7 (by decide); have h2 : rg x14 0 10 := (rg_w r16 (by decide)); unfold rg at h2; omega) (rg_w r16 (by decide)) hP hD hS (lv_sub hl [1, 2, 0] rfl)
        · skip
          have r13 : rg x10 0 0 := rg_eq1 c12 ((rg_top _) : rg x10 (-2147483648) 2147483647) ((rg_k (by decide)) : rg 0 0 0) (by decide)
          refine lv_iload_n hx hb dX10_horseNamed_21 rfl (lv_at hl 2 rfl) ?_
          exact hret (a1) () H locs 22 ls rfl dX10_horseNamed_22 hP hD hS (rg_w r7 (by decide))
  exact J2 _ (0) H locs ls (Nat.lt_succ_self _) (rg_k (by decide)) hP hD hS (lv_sub hl [1, 2, 0] rfl)
abbrev rm_X6_refuse_2 : Room := { frames := 0, cells := 0, slots := 0, locals := 0 }
set_option maxHeartbeats 4000000 in
set_option maxRecDepth 100000 in
theorem c_X6_refuse_2 (l : Launch) (D : va_G) (cA : Nat → ClassId) (sz : Nat) (ad : Nat → Nat) (F : Nat → Int32) (L : Nat → Int64) (A : Nat → Nat → Int32) (B : Nat → Nat → Int64) (p1 : Int32) (hT : typX F A) (hp1 : rg p1 1 6) : Met l yX6_refuse (Cond.code yX6_refuse cX6_refuse 2 none :: GW) rm_X6_refuse_2 (mPc D classes (tysX cA) (wX cA ad F L A B) sz [.ref (ad 2), .int p1]) (mQv (S := SW) D classes (tysX cA) (wX cA ad F L A B) sz (wfX cA ad) (fun u => qX [2, 3] [] F A u.1 u.2.2.1)) 0 0 (va_A (wX cA ad F L A B) sz) := by
  refine met_v (own := "ShoeingDay$Scribe") (by decide +kernel) rfl (Nat.le_of_ble_eq_true rfl) ?_
  intro p e s m args below meth c Q Af ls hC hP hD hS hA hl hret
  have hx := hC.1
  have hb := hC.2.1
  have hown := hC.2.2.2.1
  have hg := hC.g
  have hK := hC.K
  have hl : lv_has ls 2 [(0, .ref (ad 2)), (1, .int p1)] := hl
  have hq : qX [2, 3] [] F A F A := qX.rf hT
  obtain ⟨H, hH⟩ : ∃ H, H = s.heap := ⟨_, rfl⟩
  have hP : va_P D classes (wX cA ad F L A B) H := by rw [hH]; exact hP
  have hS : va_S Af s.heap H [] := by rw [hH]; exact hS
  obtain ⟨locs, hlo⟩ : ∃ q : List Loc, q = [] := ⟨_, rfl⟩
  rw [← hH, ← hlo]
  rw [← hlo] at hS
  refine lv_aload_n hx hb dX6_refuse_0 rfl (lv_at hl 0 rfl) ?_
  refine va_get (ci := 6) (v := .int (F 2)) (C := RX6) (T := TX6) (N := 4) hx hb hg inX6 hown hK hP 2 atX_2 rfl 2 (by decide) (hg _ mw_214) (fun _ h9 => h9) rfl dX6_refuse_1 ?_
  refine lv_topi (fun x1 e2 => ?_)
  refine lv_if_ne (tgt := 23) hx hb dX6_refuse_4 (by decide) (fun c3 => ?_) (fun c3 => ?_)
  · skip
    exact hret (F, L, A, B) H locs 23 ls dX6_refuse_23 hP hD hS hq
  · skip
    have r4 : rg x1 0 0 := rg_eq1 c3 ((rg_top _) : rg x1 (-2147483648) 2147483647) ((rg_k (by decide)) : rg 0 0 0) (by decide)
    refine lv_aload_n hx hb dX6_refuse_7 rfl (lv_at hl 0 rfl) ?_
    refine lv_iload_n hx hb dX6_refuse_8 rfl (lv_at hl 1 rfl) ?_
    refine va_put (ci := 6) (v := .int p1) (ty := .int) (C := RX6) (T := TX6) (N := 4) hx hb hg inX6 tyX6 tyX6_ok nmX6 hown hK hP hD hS 2 atX_2 rfl 2 (by decide) (hg _ mw_214) (fun _ h9 => h9) rfl (by decide +kernel) rfl rfl (Nat.le_of_ble_eq_true rfl) dX6_refuse_9 (fun H locs hP hD hS => ?_)
    have hq := hq.put 2 (x := p1) (by decide) (rg_top _)
    rw [setFX_2] at hP hD
    refine lv_aload_n hx hb dX6_refuse_12 rfl (lv_at hl 0 rfl) ?_
    refine lv_aload_n hx hb dX6_refuse_13 rfl (lv_at hl 0 rfl) ?_
    refine va_get (ci := 6) (v := .ref (ad 3)) (C := RX6) (T := TX6) (N := 4) hx hb hg inX6 hown hK hP 2 atX_2 rfl 0 (by decide) (hg _ mw_212) (fun _ h9 => h9) rfl dX6_refuse_14 ?_
    refine va_get (ci := 5) (v := .int (F 7)) (C := RX5) (T := TX5) (N := 14) hx hb hg inX5 hown hK hP 3 atX_3 rfl 11 (by decide) (hg _ mw_113) (fun _ h9 => h9) rfl dX6_refuse_17 ?_
    refine lv_topi (fun x5 e6 => ?_)
    refine va_put (ci := 6) (v := .int x5) (ty := .int) (C := RX6) (T := TX6) (N := 4) hx hb hg inX6 tyX6 tyX6_ok nmX6 hown hK hP hD hS 2 atX_2 rfl 3 (by decide) (hg _ mw_216) (fun _ h9 => h9) rfl (by decide +kernel) rfl rfl (Nat.le_of_ble_eq_true rfl) dX6_refuse_20 (fun H locs hP hD hS => ?_)
    have hq := hq.put 3 (x := x5) (by decide) (rg_top _)
    rw [setFX_3] at hP hD
    exact hret ((upd (upd F 2 p1) 3 x5), L, A, B) H locs 23 ls dX6_refuse_23 hP hD hS hq
abbrev rm_X6_roomFor_2 : Room := { frames := 1, cells := 0, slots := 0, locals := 21 }
set_option maxHeartbeats 4000000 in
set_option maxRecDepth 100000 in
theorem c_X6_roomFor_2 (l : Launch) (D : va_G) (cA : Nat → ClassId) (sz : Nat) (ad : Nat → Nat) (F : Nat → Int32) (L : Nat → Int64) (A : Nat → Nat → Int32) (B : Nat → Nat → Int64) (p1 : Int32) (p2 : Int32) (hT : typX F A) (hp2 : rg p2 1 60) : Met l yX6_roomFor (Cond.code yX6_roomFor cX6_roomFor 3 (some .boolean) :: GW) rm_X6_roomFor_2 (mPc D classes (tysX cA) (wX cA ad F L A B) sz [.ref (ad 2), .int p1, .int p2]) (mQi (S := SW) D classes (tysX cA) (wX cA ad F L A B) sz (wfX cA ad) (fun r u => qX [2, 3] [] F A u.1 u.2.2.1 ∧ rg r 0 1 ∧ (r = 0 ∨ (rg p1 (-2147483648) 59)))) 0 0 (va_A (wX cA ad F L A B) sz) := by
  refine met_i (own := "ShoeingDay$Scribe") (by decide +kernel) rfl (Nat.le_of_ble_eq_true rfl) ?_
  intro p e s m args below meth c Q Af ls hC hP hD hS hA hl hret
  have hx := hC.1
  have hb := hC.2.1
  have hown := hC.2.2.2.1
  have hg := hC.g
  have hK := hC.K
  have hl : lv_has ls 3 [(0, .ref (ad 2)), (1, .int p1), (2, .int p2)] := hl
  have hq : qX [2, 3] [] F A F A := qX.rf hT
  obtain ⟨H, hH⟩ : ∃ H, H = s.heap := ⟨_, rfl⟩
  have hP : va_P D classes (wX cA ad F L A B) H := by rw [hH]; exact hP
  have hS : va_S Af s.heap H [] := by rw [hH]; exact hS
  obtain ⟨locs, hlo⟩ : ∃ q : List Loc, q = [] := ⟨_, rfl⟩
  rw [← hH, ← hlo]
  rw [← hlo] at hS
  refine lv_iload_n hx hb dX6_roomFor_0 rfl (lv_at hl 1 rfl) ?_
  refine lv_iload_n hx hb dX6_roomFor_1 rfl (lv_at hl 2 rfl) ?_
  have J10 : ∀ (F1 : Nat → Int32) (L1 : Nat → Int64) (A1 : Nat → Nat → Int32) (B1 : Nat → Nat → Int64) (H : Heap) (locs : List Loc) (ls : Array Slot), qX [2, 3] [] F A F1 A1 → va_P D classes (wX cA ad F1 L1 A1 B1) H → va_D Af (wX cA ad F1 L1 A1 B1) → va_S Af s.heap H locs → lv_has ls 3 [(1, .int p1), (2, .int p2)] → W p l e rm_X6_roomFor_2 s m args below meth c H locs 0 0 Q (F0 m 10 ls []) := by
    intro F1 L1 A1 B1 H locs ls hq hP hD hS hl
    refine lv_iload_n hx hb dX6_roomFor_10 rfl (lv_at hl 0 rfl) ?_
    refine lv_iload_n hx hb dX6_roomFor_11 rfl (lv_at hl 1 rfl) ?_
    refine lv_icmp_ge (tgt := 19) hx hb dX6_roomFor_12 (by decide) (fun c2 => ?_) (fun c2 => ?_)
    · skip
      have r3 : rg p1 1 2147483647 := rg_le2 (iE c2) (hp2 : rg p2 1 60) ((rg_top _) : rg p1 (-2147483648) 2147483647)
      refine lv_iconst (v := 0) hx hb dX6_roomFor_19 (by decide) ?_
      exact hret (0) (F1, L1, A1, B1) H locs 20 ls rfl dX6_roomFor_20 hP hD hS ⟨hq, (rg_k (by decide)), Or.inl rfl⟩
    · skip
      have r4 : rg p1 (-2147483648) 59 := rg_lt1 (iNE c2) ((rg_top _) : rg p1 (-2147483648) 2147483647) (hp2 : rg p2 1 60)
      refine lv_iconst (v := 1) hx hb dX6_roomFor_15 (by decide) ?_
      refine lv_goto (tgt := 20) hx hb dX6_roomFor_16 (by decide) ?_
      exact hret (1) (F1, L1, A1, B1) H locs 20 ls rfl dX6_roomFor_20 hP hD hS ⟨hq, (rg_k (by decide)), Or.inr r4⟩
  refine lv_icmp_lt (tgt := 10) hx hb dX6_roomFor_2 (by decide) (fun c5 => ?_) (fun c5 => ?_)
  · skip
    have r6 : rg p1 (-2147483648) 59 := rg_lt1 (iL c5) ((rg_top _) : rg p1 (-2147483648) 2147483647) (hp2 : rg p2 1 60)
    exact J10 (F) (L) (A) (B) H locs ls hq hP hD hS (lv_sub hl [1, 2] rfl)
  · skip
    have r7 : rg p1 1 2147483647 := rg_le2 (iNL c5) (hp2 : rg p2 1 60) ((rg_top _) : rg p1 (-2147483648) 2147483647)
    refine lv_aload_n hx hb dX6_roomFor_5 rfl (lv_at hl 0 rfl) ?_
    refine lv_iconst (v := 2) hx hb dX6_roomFor_6 (by decide) ?_
    refine callv_v (As := [.int 2]) (rest := []) hC (c_X6_refuse_2 l D cA H.size ad F L A B (2) hq.1 (rg_k (by decide))) (cwV 1 hg (g_V mw_630 mw_627 mw_629 ms_6 mw_2) rfl rfl rfl (by decide +kernel) ⟨(Nat.le_of_ble_eq_true rfl), (Nat.le_of_ble_eq_true rfl)⟩) hP hD hS hA atX_2 rfl rfl hl.1 rfl (Nat.le_of_ble_eq_true rfl) dX6_roomFor_7 ⟨Nat.zero_le _, Nat.zero_le _⟩ (fun  u H locs hw hP hD hS => ?_)
    obtain ⟨F8, L8, A8, B8⟩ := u
    try dsimp only at hw
    have hq8 := hw
    have hq := hq.call hq8 (by decide)
    have hP : va_P D classes (wX cA ad F8 L8 A8 B8) H := hP
    have hD : va_D Af (wX cA ad F8 L8 A8 B8) := hD
    exact J10 (F8) (L8) (A8) (B8) H locs ls hq hP hD hS (lv_sub hl [1, 2] rfl)
