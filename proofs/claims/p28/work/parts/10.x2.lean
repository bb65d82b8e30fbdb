abbrev rm_X7_empty_24 : Room := { frames := 1, cells := 0, slots := 0, locals := 23 }
set_option maxHeartbeats 4000000 in
set_option maxRecDepth 100000 in
theorem c_X7_empty_24 (l : Launch) (D : va_G) (cA : Nat → ClassId) (sz : Nat) (ad : Nat → Nat) (F : Nat → Int32) (L : Nat → Int64) (A : Nat → Nat → Int32) (B : Nat → Nat → Int64)  (hT : typX F A) : Met l yX7_empty (Cond.code yX7_empty cX7_empty 1 none :: GW) rm_X7_empty_24 (mPc D classes (tysX cA) (wX cA ad F L A B) sz [.ref (ad 24)]) (mQv (S := SW) D classes (tysX cA) (wX cA ad F L A B) sz (wfX cA ad) (fun u => qX [] [26] F A u.1 u.2.2.1)) 0 0 (va_A (wX cA ad F L A B) sz) := by
  refine met_v (own := "ShoeingDay$Shelf") (by decide +kernel) rfl (Nat.le_of_ble_eq_true rfl) ?_
  intro p e s m args below meth c Q Af ls hC hP hD hS hA hl hret
  have hx := hC.1
  have hb := hC.2.1
  have hown := hC.2.2.2.1
  have hg := hC.g
  have hK := hC.K
  have hl : lv_has ls 1 [(0, .ref (ad 24))] := hl
  have hq : qX [] [26] F A F A := qX.rf hT
  obtain ⟨H, hH⟩ : ∃ H, H = s.heap := ⟨_, rfl⟩
  have hP : va_P D classes (wX cA ad F L A B) H := by rw [hH]; exact hP
  have hS : va_S Af s.heap H [] := by rw [hH]; exact hS
  obtain ⟨locs, hlo⟩ : ∃ q : List Loc, q = [] := ⟨_, rfl⟩
  rw [← hH, ← hlo]
  rw [← hlo] at hS
  refine lv_aload_n hx hb dX7_empty_0 rfl (lv_at hl 0 rfl) ?_
  refine va_get (ci := 7) (v := .ref (ad 26)) (C := RX7) (T := TX7) (N := 3) hx hb hg inX7 hown hK hP 24 atX_24 rfl 2 (by decide) (hg _ mw_283) (fun _ h9 => h9) rfl dX7_empty_1 ?_
  refine lv_iconst (v := (-1)) hx hb dX7_empty_4 (by decide) ?_
  refine calls_v (As := [.ref (ad 26), .int (-1)]) (rest := []) hC (c_fill l D (tysX cA) (wX cA ad F L A B) 26 17 H.size (ad 26) 3 ((-1) : Int32) atX_26 tyX_26 (by decide)) (cwF 2 hg mw_278 mw_279 mw_13 mw_280 ⟨rfl, rfl⟩ (by decide +kernel) ⟨(Nat.le_of_ble_eq_true rfl), (Nat.le_of_ble_eq_true rfl)⟩) hP hD hS hA rfl hl.1 rfl (Nat.le_of_ble_eq_true rfl) dX7_empty_5 ⟨Nat.zero_le _, Nat.zero_le _⟩ (fun u H locs _ hP hD hS => ?_)
  have hq := hq.fill 26 3 (x := ((-1) : Int32)) (by decide) (rg_k (by decide))
  rw [setX_26] at hP hD
  have hP : va_P D classes (wX cA ad F L (va_up A 26 (fun j => if j < 3 then ((-1) : Int32) else A 26 j)) B) H := hP
  have hD : va_D Af (wX cA ad F L (va_up A 26 (fun j => if j < 3 then ((-1) : Int32) else A 26 j)) B) := hD
  exact hret (F, L, (va_up A 26 (fun j => if j < 3 then ((-1) : Int32) else A 26 j)), B) H locs 8 ls dX7_empty_8 hP hD hS hq
abbrev rm_X8_forget_61 : Room := { frames := 1, cells := 0, slots := 0, locals := 23 }
set_option maxHeartbeats 4000000 in
set_option maxRecDepth 100000 in
theorem c_X8_forget_61 (l : Launch) (D : va_G) (cA : Nat → ClassId) (sz : Nat) (ad : Nat → Nat) (F : Nat → Int32) (L : Nat → Int64) (A : Nat → Nat → Int32) (B : Nat → Nat → Int64)  (hT : typX F A) : Met l yX8_forget (Cond.code yX8_forget cX8_forget 1 none :: GW) rm_X8_forget_61 (mPc D classes (tysX cA) (wX cA ad F L A B) sz [.ref (ad 61)]) (mQv (S := SW) D classes (tysX cA) (wX cA ad F L A B) sz (wfX cA ad) (fun u => qX [43] [68] F A u.1 u.2.2.1)) 0 0 (va_A (wX cA ad F L A B) sz) := by
  refine met_v (own := "ShoeingDay$Sights") (by decide +kernel) rfl (Nat.le_of_ble_eq_true rfl) ?_
  intro p e s m args below meth c Q Af ls hC hP hD hS hA hl hret
  have hx := hC.1
  have hb := hC.2.1
  have hown := hC.2.2.2.1
  have hg := hC.g
  have hK := hC.K
  have hl : lv_has ls 1 [(0, .ref (ad 61))] := hl
  have hq : qX [43] [68] F A F A := qX.rf hT
  obtain ⟨H, hH⟩ : ∃ H, H = s.heap := ⟨_, rfl⟩
  have hP : va_P D classes (wX cA ad F L A B) H := by rw [hH]; exact hP
  have hS : va_S Af s.heap H [] := by rw [hH]; exact hS
  obtain ⟨locs, hlo⟩ : ∃ q : List Loc, q = [] := ⟨_, rfl⟩
  rw [← hH, ← hlo]
  rw [← hlo] at hS
  refine lv_aload_n hx hb dX8_forget_0 rfl (lv_at hl 0 rfl) ?_
  refine lv_iconst (v := 0) hx hb dX8_forget_1 (by decide) ?_
  refine va_put (ci := 8) (v := .int 0) (ty := .int) (C := RX8) (T := TX8) (N := 9) hx hb hg inX8 tyX8 tyX8_ok nmX8 hown hK hP hD hS 61 atX_61 rfl 8 (by decide) (hg _ mw_491) (fun _ h9 => h9) rfl (by decide +kernel) rfl rfl (Nat.le_of_ble_eq_true rfl) dX8_forget_2 (fun H locs hP hD hS => ?_)
  have hq := hq.put 43 (x := 0) (by decide) (rg_k (by decide))
  rw [setFX_43] at hP hD
  refine lv_aload_n hx hb dX8_forget_5 rfl (lv_at hl 0 rfl) ?_
  refine va_get (ci := 8) (v := .ref (ad 68)) (C := RX8) (T := TX8) (N := 9) hx hb hg inX8 hown hK hP 61 atX_61 rfl 6 (by decide) (hg _ mw_487) (fun _ h9 => h9) rfl dX8_forget_6 ?_
  refine lv_iconst (v := (-1)) hx hb dX8_forget_9 (by decide) ?_
  refine calls_v (As := [.ref (ad 68), .int (-1)]) (rest := []) hC (c_fill l D (tysX cA) (wX cA ad (upd F 43 (0 : Int32)) L A B) 68 53 H.size (ad 68) 80 ((-1) : Int32) atX_68 tyX_68 (by decide)) (cwF 2 hg mw_479 mw_279 mw_13 mw_280 ⟨rfl, rfl⟩ (by decide +kernel) ⟨(Nat.le_of_ble_eq_true rfl), (Nat.le_of_ble_eq_true rfl)⟩) hP hD hS hA rfl hl.1 rfl (Nat.le_of_ble_eq_true rfl) dX8_forget_10 ⟨Nat.zero_le _, Nat.zero_le _⟩ (fun u H locs _ hP hD hS => ?_)
  have hq := hq.fill 68 80 (x := ((-1) : Int32)) (by decide) (rg_k (by decide))
  rw [setX_68] at hP hD
  have hP : va_P D classes (wX cA ad (upd F 43 (0 : Int32)) L (va_up A 68 (fun j => if j < 80 then ((-1) : Int32) else A 68 j)) B) H := hP
  have hD : va_D Af (wX cA ad (upd F 43 (0 : Int32)) L (va_up A 68 (fun j => if j < 80 then ((-1) : Int32) else A 68 j)) B) := hD
  exact hret ((upd F 43 (0 : Int32)), L, (va_up A 68 (fun j => if j < 80 then ((-1) : Int32) else A 68 j)), B) H locs 13 ls dX8_forget_13 hP hD hS hq
abbrev rm_X11_yard_0 : Room := { frames := 7, cells := 0, slots := 0, locals := 149 }
set_option maxHeartbeats 4000000 in
set_option maxRecDepth 100000 in
theorem c_X11_yard_0 (l : Launch) (D : va_G) (cA : Nat → ClassId) (sz : Nat) (ad : Nat → Nat) (F : Nat → Int32) (L : Nat → Int64) (A : Nat → Nat → Int32) (B : Nat → Nat → Int64) (hT : typX F A) (hI : xX F) : Met l yX11_yard (Cond.code yX11_yard cX11_yard 1 (some .int) :: GW) rm_X11_yard_0 (mPc D classes (tysX cA) (wX cA ad F L A B) sz [.ref (ad 0)]) (mQi (S := SW × (Nat → ClassId) × (Nat → Nat)) D classes (tysX cA) (wX cA ad F L A B) sz (fun u => wX u.2.1 u.2.2 u.1.1 u.1.2.1 u.1.2.2.1 u.1.2.2.2) (fun r u => typX u.1.1 u.1.2.2.1 ∧ xX u.1.1 ∧ u.1.1 1 = F 1 ∧ (u.2.1 = cA ∨ u.2.1 = fun i => cA (sw i)) ∧ u.2.2 0 = ad 0 ∧ rg r (-1) 8)) 0 0 (va_A (wX cA ad F L A B) sz) := by
  refine met_i (own := "ShoeingDay") (by decide +kernel) rfl (Nat.le_of_ble_eq_true rfl) ?_
  intro p e s m args below meth c Q Af ls hC hP hD hS hA hl hret
  have hx := hC.1
  have hb := hC.2.1
  have hown := hC.2.2.2.1
  have hg := hC.g
  have hK := hC.K
  have hl : lv_has ls 1 [(0, .ref (ad 0))] := hl
  have hq : qX [0, 2, 3, 4, 5, 6, 7, 8, 9, 10, 11, 12, 13, 14, 21, 22, 23, 24, 25, 26, 32, 36, 39, 43] [5, 6, 7, 8, 9, 10, 19, 22, 23, 26, 68] F A F A := qX.rf hT
  obtain ⟨H, hH⟩ : ∃ H, H = s.heap := ⟨_, rfl⟩
  have hP : va_P D classes (wX cA ad F L A B) H := by rw [hH]; exact hP
  have hS : va_S Af s.heap H [] := by rw [hH]; exact hS
  obtain ⟨locs, hlo⟩ : ∃ q : List Loc, q = [] := ⟨_, rfl⟩
  rw [← hH, ← hlo]
  rw [← hlo] at hS
  refine lv_aload_n hx hb dX11_yard_0 rfl (lv_at hl 0 rfl) ?_
  refine va_get (ci := 11) (v := .ref (ad 2)) (C := RX11) (T := TX11) (N := 13) hx hb hg inX11 hown hK hP 0 atX_0 rfl 1 (by decide) (hg _ mw_526) (fun _ h9 => h9) rfl dX11_yard_1 ?_
  refine lv_aload_n hx hb dX11_yard_4 rfl (lv_at hl 0 rfl) ?_
  refine va_get (ci := 11) (v := .ref (ad 1)) (C := RX11) (T := TX11) (N := 13) hx hb hg inX11 hown hK hP 0 atX_0 rfl 0 (by decide) (hg _ mw_525) (fun _ h9 => h9) rfl dX11_yard_5 ?_
  refine lv_aload_n hx hb dX11_yard_8 rfl (lv_at hl 0 rfl) ?_
  refine va_get (ci := 11) (v := .int (F 0)) (C := RX11) (T := TX11) (N := 13) hx hb hg inX11 hown hK hP 0 atX_0 rfl 11 (by decide) (hg _ mw_536) (fun _ h9 => h9) rfl dX11_yard_9 ?_
  refine lv_topi (fun x1 e2 => ?_)
  have r3 : rg x1 0 1700 := rg_e e2 (hq.1.1 0)
  refine callv_v (As := [.ref (ad 1), .int x1]) (rest := []) hC (c_X6_copy_2_1 l D cA H.size ad F L A B (x1) hq.1 r3) (cwV 2 hg (g_V mw_584 mw_581 mw_582 mw_583 mw_2) rfl rfl rfl (by decide +kernel) ⟨(Nat.le_of_ble_eq_true rfl), (Nat.le_of_ble_eq_true rfl)⟩) hP hD hS hA atX_2 rfl rfl hl.1 rfl (Nat.le_of_ble_eq_true rfl) dX11_yard_12 ⟨Nat.zero_le _, Nat.zero_le _⟩ (fun  u H locs hw hP hD hS => ?_)
  obtain ⟨F4, L4, A4, B4⟩ := u
  try dsimp only at hw
  have hq4 := hw
  have hq := hq.call hq4 (by decide)
  have hP : va_P D classes (wX cA (adT ad) F4 L4 A4 B4) H := hP
  have hD : va_D Af (wX cA (adT ad) F4 L4 A4 B4) := hD
  have hl : lv_has ls 1 [(0, .ref (adT ad 0))] := hl
  have htx : adT ad 71 = adT ad 1 := rfl
  have hz0 : adT ad 0 = ad 0 := rfl
  generalize adT ad = ad at hP hD hl htx hz0
  have hP : va_P D classes (wX cA ad F4 L4 A4 B4) H := hP
  have hD : va_D Af (wX cA ad F4 L4 A4 B4) := hD
  refine lv_aload_n hx hb dX11_yard_15 rfl (lv_at hl 0 rfl) ?_
  refine va_get (ci := 11) (v := .ref (ad 2)) (C := RX11) (T := TX11) (N := 13) hx hb hg inX11 hown hK hP 0 atX_0 rfl 1 (by decide) (hg _ mw_526) (fun _ h9 => h9) rfl dX11_yard_16 ?_
  refine va_get (ci := 6) (v := .int (F4 2)) (C := RX6) (T := TX6) (N := 4) hx hb hg inX6 hown hK hP 2 atX_2 rfl 2 (by decide) (hg _ mw_215) (fun _ h9 => h9) rfl dX11_yard_19 ?_
  refine lv_topi (fun x5 e6 => ?_)
  refine lv_if_eq (tgt := 27) hx hb dX11_yard_22 (by decide) (fun c7 => ?_) (fun c7 => ?_)
  · skip
    have r8 : rg x5 0 0 := rg_eq1 c7 ((rg_top _) : rg x5 (-2147483648) 2147483647) ((rg_k (by decide)) : rg 0 0 0) (by decide)
    refine lv_aload_n hx hb dX11_yard_27 rfl (lv_at hl 0 rfl) ?_
    refine lv_aload_n hx hb dX11_yard_28 rfl (lv_at hl 0 rfl) ?_
    refine va_get (ci := 11) (v := .ref (ad 2)) (C := RX11) (T := TX11) (N := 13) hx hb hg inX11 hown hK hP 0 atX_0 rfl 1 (by decide) (hg _ mw_526) (fun _ h9 => h9) rfl dX11_yard_29 ?_
    refine lv_aload_n hx hb dX11_yard_32 rfl (lv_at hl 0 rfl) ?_
    refine va_get (ci := 11) (v := .ref (ad 11)) (C := RX11) (T := TX11) (N := 13) hx hb hg inX11 hown hK hP 0 atX_0 rfl 10 (by decide) (hg _ mw_535) (fun _ h9 => h9) rfl dX11_yard_33 ?_
    refine callv_r (As := [.ref (ad 11)]) (rest := [.ref (ad 0)]) hC (c_X6_trade l D cA H.size ad F4 L4 A4 B4) (cwV 1 hg (g_V mw_701 mw_698 mw_699 mw_700 mw_2) rfl rfl rfl (by decide +kernel) ⟨(Nat.le_of_ble_eq_true rfl), (Nat.le_of_ble_eq_true rfl)⟩) hP hD hS hA atX_2 rfl rfl hl.1 rfl (Nat.le_of_ble_eq_true rfl) dX11_yard_36 ⟨Nat.zero_le _, Nat.zero_le _⟩ (fun u H locs _ hP hD hS => ?_)
    refine va_put (ci := 11) (v := .ref (ad 4)) (ty := .object "ShoeingDay$Yard") (C := RX11) (T := TX11) (N := 13) hx hb hg inX11 tyX11 tyX11_ok nmX11 hown hK hP hD hS 0 atXp_0 rfl 10 (by decide) (hg _ mw_535) (fun _ h9 => h9) rfl (by decide +kernel) rfl rfl (Nat.le_of_ble_eq_true rfl) dX11_yard_39 (fun H locs hP hD hS => ?_)
    rw [setTp] at hP hD
    have hP := permX hP
    have hD := permD hD
    have hl : lv_has ls 1 [(0, .ref ((fun i => ad (sw i)) 0))] := hl
    have hz0 : (fun i => ad (sw i)) 0 = _ := hz0
    have hK9 := permK hC.K
    have hC := (show mC p s m args c _ _ _ D classes (tysX (fun i => cA (sw i))) from ⟨hC.1, hC.2.1, hC.2.2.1, hC.2.2.2.1, hC.2.2.2.2.1, hK9, hC.2.2.2.2.2.2⟩)
    have hT9 := permT hq.1
    have hTM : (fun k => F4 (swF k)) 1 = F 1 := hq.2.1 1 (by decide)
    have hI9 : xX (fun k => F4 (swF k)) := xX.fr (xX.fr hI (hq4.2.1 25 (by decide)) (hq4.2.1 26 (by decide))) rfl rfl
    generalize hcA : (fun i => cA (sw i)) = cA at hP hD hC hK9
    generalize (fun i => ad (sw i)) = ad at hP hD hl hz0
    generalize (fun k => F4 (swF k)) = F9 at hP hD hT9 hTM hI9
    generalize (fun q => A4 (sw q)) = A9 at hP hD hT9
    generalize (fun q => B4 (sw q)) = B9 at hP hD
    have hK := hC.K
    have hq : qX [0, 2, 3, 4, 5, 6, 7, 8, 9, 10, 11, 12, 13, 14, 21, 22, 23, 24, 25, 26, 32, 36, 39, 43] [5, 6, 7, 8, 9, 10, 19, 22, 23, 26, 68] F9 A9 F9 A9 := qX.rf hT9
    refine lv_aload_n hx hb dX11_yard_42 rfl (lv_at hl 0 rfl) ?_
    refine lv_iconst (v := 0) hx hb dX11_yard_43 (by decide) ?_
    refine va_put (ci := 11) (v := .int 0) (ty := .int) (C := RX11) (T := TX11) (N := 13) hx hb hg inX11 tyX11 tyX11_ok nmX11 hown hK hP hD hS 0 atX_0 rfl 11 (by decide) (hg _ mw_536) (fun _ h9 => h9) rfl (by decide +kernel) rfl rfl (Nat.le_of_ble_eq_true rfl) dX11_yard_44 (fun H locs hP hD hS => ?_)
    have hq := hq.put 0 (x := 0) (by decide) (rg_k (by decide))
    rw [setFX_0] at hP hD
    refine lv_aload_n hx hb dX11_yard_47 rfl (lv_at hl 0 rfl) ?_
    refine va_get (ci := 11) (v := .ref (ad 18)) (C := RX11) (T := TX11) (N := 13) hx hb hg inX11 hown hK hP 0 atX_0 rfl 2 (by decide) (hg _ mw_527) (fun _ h9 => h9) rfl dX11_yard_48 ?_
    refine lv_aload_n hx hb dX11_yard_51 rfl (lv_at hl 0 rfl) ?_
    refine va_get (ci := 11) (v := .ref (ad 11)) (C := RX11) (T := TX11) (N := 13) hx hb hg inX11 hown hK hP 0 atX_0 rfl 10 (by decide) (hg _ mw_535) (fun _ h9 => h9) rfl dX11_yard_52 ?_
    refine callv_v (As := [.ref (ad 11)]) (rest := []) hC (c_X3_begin_18_11 l D cA H.size ad (upd F9 0 (0 : Int32)) L4 A9 B9  hq.1) (cwV 1 hg (g_V mw_705 mw_702 mw_703 mw_704 mw_9) rfl rfl rfl (by decide +kernel) ⟨(Nat.le_of_ble_eq_true rfl), (Nat.le_of_ble_eq_true rfl)⟩) hP hD hS hA atX_18 rfl rfl hl.1 rfl (Nat.le_of_ble_eq_true rfl) dX11_yard_55 ⟨Nat.zero_le _, Nat.zero_le _⟩ (fun  u H locs hw hP hD hS => ?_)
    obtain ⟨F9, L9, A9, B9⟩ := u
    try dsimp only at hw
    have hq9 := hw
    have hq := hq.call hq9 (by decide)
    have hP : va_P D classes (wX cA ad F9 L9 A9 B9) H := hP
    have hD : va_D Af (wX cA ad F9 L9 A9 B9) := hD
    refine lv_aload_n hx hb dX11_yard_58 rfl (lv_at hl 0 rfl) ?_
    refine va_get (ci := 11) (v := .ref (ad 20)) (C := RX11) (T := TX11) (N := 13) hx hb hg inX11 hown hK hP 0 atX_0 rfl 3 (by decide) (hg _ mw_528) (fun _ h9 => h9) rfl dX11_yard_59 ?_
    refine lv_aload_n hx hb dX11_yard_62 rfl (lv_at hl 0 rfl) ?_
    refine va_get (ci := 11) (v := .ref (ad 18)) (C := RX11) (T := TX11) (N := 13) hx hb hg inX11 hown hK hP 0 atX_0 rfl 2 (by decide) (hg _ mw_527) (fun _ h9 => h9) rfl dX11_yard_63 ?_
    refine callv_v (As := [.ref (ad 18)]) (rest := []) hC (c_X0_forget_20_18 l D cA H.size ad F9 L9 A9 B9  hq.1 (xX.fr (xX.fr hI9 rfl rfl) (hq9.2.1 25 (by decide)) (hq9.2.1 26 (by decide)))) (cwV 1 hg (g_V mw_517 mw_514 mw_515 mw_516 mw_10) rfl rfl rfl (by decide +kernel) ⟨(Nat.le_of_ble_eq_true rfl), (Nat.le_of_ble_eq_true rfl)⟩) hP hD hS hA atX_20 rfl rfl hl.1 rfl (Nat.le_of_ble_eq_true rfl) dX11_yard_66 ⟨Nat.zero_le _, Nat.zero_le _⟩ (fun  u H locs hw hP hD hS => ?_)
    obtain ⟨F10, L10, A10, B10⟩ := u
    try dsimp only at hw
    obtain ⟨hq10, i11⟩ := hw
    have hq := hq.call hq10 (by decide)
    have hP : va_P D classes (wX cA ad F10 L10 A10 B10) H := hP
    have hD : va_D Af (wX cA ad F10 L10 A10 B10) := hD
    refine lv_aload_n hx hb dX11_yard_69 rfl (lv_at hl 0 rfl) ?_
    refine va_get (ci := 11) (v := .ref (ad 24)) (C := RX11) (T := TX11) (N := 13) hx hb hg inX11 hown hK hP 0 atX_0 rfl 4 (by decide) (hg _ mw_529) (fun _ h9 => h9) rfl dX11_yard_70 ?_
    refine callv_v (As := []) (rest := []) hC (c_X7_empty_24 l D cA H.size ad F10 L10 A10 B10  hq.1) (cwV 0 hg (g_V mw_277 mw_707 mw_275 mw_276 mw_11) rfl rfl rfl (by decide +kernel) ⟨(Nat.le_of_ble_eq_true rfl), (Nat.le_of_ble_eq_true rfl)⟩) hP hD hS hA atX_24 rfl rfl hl.1 rfl (Nat.le_of_ble_eq_true rfl) dX11_yard_73 ⟨Nat.zero_le _, Nat.zero_le _⟩ (fun  u H locs hw hP hD hS => ?_)
    obtain ⟨F12, L12, A12, B12⟩ := u
    try dsimp only at hw
    have hq12 := hw
    have hq := hq.call hq12 (by decide)
    have hP : va_P D classes (wX cA ad F12 L12 A12 B12) H := hP
    have hD : va_D Af (wX cA ad F12 L12 A12 B12) := hD
    refine lv_aload_n hx hb dX11_yard_76 rfl (lv_at hl 0 rfl) ?_
    refine va_get (ci := 11) (v := .ref (ad 56)) (C := RX11) (T := TX11) (N := 13) hx hb hg inX11 hown hK hP 0 atX_0 rfl 7 (by decide) (hg _ mw_532) (fun _ h9 => h9) rfl dX11_yard_77 ?_
    refine lv_iconst (v := 0) hx hb dX11_yard_80 (by decide) ?_
    refine va_put (ci := 9) (v := .int 0) (ty := .int) (C := RX9) (T := TX9) (N := 8) hx hb hg inX9 tyX9 tyX9_ok nmX9 hown hK hP hD hS 56 atX_56 rfl 4 (by decide) (hg _ mw_449) (fun _ h9 => h9) rfl (by decide +kernel) rfl rfl (Nat.le_of_ble_eq_true rfl) dX11_yard_81 (fun H locs hP hD hS => ?_)
    have hq := hq.put 39 (x := 0) (by decide) (rg_k (by decide))
    rw [setFX_39] at hP hD
    refine lv_aload_n hx hb dX11_yard_84 rfl (lv_at hl 0 rfl) ?_
    refine va_get (ci := 11) (v := .ref (ad 61)) (C := RX11) (T := TX11) (N := 13) hx hb hg inX11 hown hK hP 0 atX_0 rfl 8 (by decide) (hg _ mw_533) (fun _ h9 => h9) rfl dX11_yard_85 ?_
    refine callv_v (As := []) (rest := []) hC (c_X8_forget_61 l D cA H.size ad (upd F12 39 (0 : Int32)) L12 A12 B12  hq.1) (cwV 0 hg (g_V mw_711 mw_708 mw_709 mw_710 mw_18) rfl rfl rfl (by decide +kernel) ⟨(Nat.le_of_ble_eq_true rfl), (Nat.le_of_ble_eq_true rfl)⟩) hP hD hS hA atX_61 rfl rfl hl.1 rfl (Nat.le_of_ble_eq_true rfl) dX11_yard_88 ⟨Nat.zero_le _, Nat.zero_le _⟩ (fun  u H locs hw hP hD hS => ?_)
    obtain ⟨F13, L13, A13, B13⟩ := u
    try dsimp only at hw
    have hq13 := hw
    have hq := hq.call hq13 (by decide)
    have hP : va_P D classes (wX cA ad F13 L13 A13 B13) H := hP
    have hD : va_D Af (wX cA ad F13 L13 A13 B13) := hD
    refine lv_aload_n hx hb dX11_yard_91 rfl (lv_at hl 0 rfl) ?_
    refine callv_v (As := []) (rest := []) hC (c_X11_lackIsNew_0 l D cA H.size ad F13 L13 A13 B13  hq.1) (cwV 0 hg (g_V mw_715 mw_712 mw_714 ms_17 mw_1) rfl rfl rfl (by decide +kernel) ⟨(Nat.le_of_ble_eq_true rfl), (Nat.le_of_ble_eq_true rfl)⟩) hP hD hS hA atX_0 rfl rfl hl.1 rfl (Nat.le_of_ble_eq_true rfl) dX11_yard_92 ⟨Nat.zero_le _, Nat.zero_le _⟩ (fun  u H locs hw hP hD hS => ?_)
    obtain ⟨F14, L14, A14, B14⟩ := u
    try dsimp only at hw
    have hq14 := hw
    have hq := hq.call hq14 (by decide)
    have hP : va_P D classes (wX cA ad F14 L14 A14 B14) H := hP
    have hD : va_D Af (wX cA ad F14 L14 A14 B14) := hD
    refine lv_aload_n hx hb dX11_yard_95 rfl (lv_at hl 0 rfl) ?_
    refine va_get (ci := 11) (v := .ref (ad 11)) (C := RX11) (T := TX11) (N := 13) hx hb hg inX11 hown hK hP 0 atX_0 rfl 10 (by decide) (hg _ mw_535) (fun _ h9 => h9) rfl dX11_yard_96 ?_
    refine va_get (ci := 10) (v := .int (F14 15)) (C := RX10) (T := TX10) (N := 12) hx hb hg inX10 hown hK hP 11 atX_11 rfl 6 (by decide) (hg _ mw_169) (fun _ h9 => h9) rfl dX11_yard_99 ?_
    refine lv_topi (fun x15 e16 => ?_)
    have r17 : rg x15 0 8 := rg_e e16 (hq.1.1 15)
    exact hret (x15) ((F14, L14, A14, B14), cA, ad) H locs 102 ls rfl dX11_yard_102 hP hD hS ⟨hq.1, (xX.fr (xX.fr (xX.fr (xX.fr i11 (hq12.2.1 25 (by decide)) (hq12.2.1 26 (by decide))) rfl rfl) (hq13.2.1 25 (by decide)) (hq13.2.1 26 (by decide))) (hq14.2.1 25 (by decide)) (hq14.2.1 26 (by decide))), (hq.2.1 1 (by decide)).trans hTM, Or.inr hcA.symm, hz0, (rg_w r17 (by decide))⟩
  · skip
    refine lv_iconst (v := (-1)) hx hb dX11_yard_25 (by decide) ?_
    exact hret ((-1)) ((F4, L4, A4, B4), cA, ad) H locs 26 ls rfl dX11_yard_26 hP hD hS ⟨hq.1, (xX.fr hI (hq4.2.1 25 (by decide)) (hq4.2.1 26 (by decide))), hq.2.1 1 (by decide), Or.inl rfl, hz0, rg_k (by decide)⟩
abbrev rm_X11_fault_0 : Room := { frames := 0, cells := 0, slots := 0, locals := 0 }
set_option maxHeartbeats 4000000 in
set_option maxRecDepth 100000 in
theorem c_X11_fault_0 (l : Launch) (D : va_G) (cA : Nat → ClassId) (sz : Nat) (ad : Nat → Nat) (F : Nat → Int32) (L : Nat → Int64) (A : Nat → Nat → Int32) (B : Nat → Nat → Int64) (p1 : Int32) (hT : typX F A) : Met l yX11_fault (Cond.code yX11_fault cX11_fault 2 (some .int) :: GW) rm_X11_fault_0 (mPc D classes (tysX cA) (wX cA ad F L A B) sz [.ref (ad 0), .int p1]) (mQi (S := Unit) D classes (tysX cA) (wX cA ad F L A B) sz (fun _ : Unit => wX cA ad F L A B) (fun r u => True)) 0 0 (va_A (wX cA ad F L A B) sz) := by
  refine met_i (own := "ShoeingDay") (by decide +kernel) rfl (Nat.le_of_ble_eq_true rfl) ?_
  intro p e s m args below meth c Q Af ls hC hP hD hS hA hl hret
  have hx := hC.1
  have hb := hC.2.1
  have hown := hC.2.2.2.1
  have hg := hC.g
  have hK := hC.K
  have hl : lv_has ls 2 [(0, .ref (ad 0)), (1, .int p1)] := hl
  have hq : qX [] [] F A F A := qX.rf hT
  obtain ⟨H, hH⟩ : ∃ H, H = s.heap := ⟨_, rfl⟩
  have hP : va_P D classes (wX cA ad F L A B) H := by rw [hH]; exact hP
  have hS : va_S Af s.heap H [] := by rw [hH]; exact hS
  obtain ⟨locs, hlo⟩ : ∃ q : List Loc, q = [] := ⟨_, rfl⟩
  rw [← hH, ← hlo]
  rw [← hlo] at hS
  refine lv_iload_n hx hb dX11_fault_0 rfl (lv_at hl 1 rfl) ?_
  refine lv_if_ne (tgt := 12) hx hb dX11_fault_1 (by decide) (fun c1 => ?_) (fun c1 => ?_)
  · skip
    refine lv_iload_n hx hb dX11_fault_12 rfl (lv_at hl 1 rfl) ?_
    refine lv_iconst (v := 1) hx hb dX11_fault_13 (by decide) ?_
    refine lv_icmp_ne (tgt := 27) hx hb dX11_fault_14 (by decide) (fun c3 => ?_) (fun c3 => ?_)
    · skip
      refine lv_iconst (v := (-1)) hx hb dX11_fault_27 (by decide) ?_
      exact hret ((-1)) () H locs 28 ls rfl dX11_fault_28 hP hD hS trivial
    · skip
      have r4 : rg p1 1 1 := rg_eq1 c3 ((rg_top _) : rg p1 (-2147483648) 2147483647) ((rg_k (by decide)) : rg 1 1 1) (by decide)
      refine lv_aload_n hx hb dX11_fault_17 rfl (lv_at hl 0 rfl) ?_
      refine va_get (ci := 11) (v := .ref (ad 2)) (C := RX11) (T := TX11) (N := 13) hx hb hg inX11 hown hK hP 0 atX_0 rfl 1 (by decide) (hg _ mw_526) (fun _ h9 => h9) rfl dX11_fault_18 ?_
      refine va_get (ci := 6) (v := .int (F 3)) (C := RX6) (T := TX6) (N := 4) hx hb hg inX6 hown hK hP 2 atX_2 rfl 3 (by decide) (hg _ mw_217) (fun _ h9 => h9) rfl dX11_fault_21 ?_
      refine lv_topi (fun x5 e6 => ?_)
      refine lv_goto (tgt := 28) hx hb dX11_fault_24 (by decide) ?_
      exact hret (x5) () H locs 28 ls rfl dX11_fault_28 hP hD hS trivial
  · skip
    have r2 : rg p1 0 0 := rg_eq1 c1 ((rg_top _) : rg p1 (-2147483648) 2147483647) ((rg_k (by decide)) : rg 0 0 0) (by decide)
    refine lv_aload_n hx hb dX11_fault_4 rfl (lv_at hl 0 rfl) ?_
    refine va_get (ci := 11) (v := .ref (ad 2)) (C := RX11) (T := TX11) (N := 13) hx hb hg inX11 hown hK hP 0 atX_0 rfl 1 (by decide) (hg _ mw_526) (fun _ h9 => h9) rfl dX11_fault_5 ?_
    refine va_get (ci := 6) (v := .int (F 2)) (C := RX6) (T := TX6) (N := 4) hx hb hg inX6 hown hK hP 2 atX_2 rfl 2 (by decide) (hg _ mw_215) (fun _ h9 => h9) rfl dX11_fault_8 ?_
    refine lv_topi (fun x7 e8 => ?_)
    exact hret (x7) () H locs 11 ls rfl dX11_fault_11 hP hD hS trivial
abbrev rm_X11_isHorse_0 : Room := { frames := 0, cells := 0, slots := 0, locals := 0 }
set_option maxHeartbeats 4000000 in
set_option maxRecDepth 100000 in
theorem c_X11_isHorse_0 (l : Launch) (D : va_G) (cA : Nat → ClassId) (sz : Nat) (ad : Nat → Nat) (F : Nat → Int32) (L : Nat → Int64) (A : Nat → Nat → Int32) (B : Nat → Nat → Int64) (p1 : Int32) (hT : typX F A) : Met l yX11_isHorse (Cond.code yX11_isHorse cX11_isHorse 2 (some .boolean) :: GW) rm_X11_isHorse_0 (mPc D classes (tysX cA) (wX cA ad F L A B) sz [.ref (ad 0), .int p1]) (mQi (S := Unit) D classes (tysX cA) (wX cA ad F L A B) sz (fun _ : Unit => wX cA ad F L A B) (fun r u => rg r 0 1 ∧ (r = 0 ∨ (rg p1 0 9)))) 0 0 (va_A (wX cA ad F L A B) sz) := by
  refine met_i (own := "ShoeingDay") (by decide +kernel) rfl (Nat.le_of_ble_eq_true rfl) ?_
  intro p e s m args below meth c Q Af ls hC hP hD hS hA hl hret
  have hx := hC.1
  have hb := hC.2.1
  have hown := hC.2.2.2.1
  have hg := hC.g
  have hK := hC.K
  have hl : lv_has ls 2 [(0, .ref (ad 0)), (1, .int p1)] := hl
  have hq : qX [] [] F A F A := qX.rf hT
  obtain ⟨H, hH⟩ : ∃ H, H = s.heap := ⟨_, rfl⟩
  have hP : va_P D classes (wX cA ad F L A B) H := by rw [hH]; exact hP
  have hS : va_S Af s.heap H [] := by rw [hH]; exact hS
  obtain ⟨locs, hlo⟩ : ∃ q : List Loc, q = [] := ⟨_, rfl⟩
  rw [← hH, ← hlo]
  rw [← hlo] at hS
  refine lv_iload_n hx hb dX11_isHorse_0 rfl (lv_at hl 1 rfl) ?_
  have J19 : ∀ (H : Heap) (locs : List Loc) (ls : Array Slot), va_P D classes (wX cA ad F L A B) H → va_D Af (wX cA ad F L A B) → va_S Af s.heap H locs → lv_has ls 2 [] → W p l e rm_X11_isHorse_0 s m args below meth c H locs 0 0 Q (F0 m 19 ls []) := by
    intro H locs ls hP hD hS hl
    refine lv_iconst (v := 0) hx hb dX11_isHorse_19 (by decide) ?_
    exact hret (0) () H locs 20 ls rfl dX11_isHorse_20 hP hD hS ⟨(rg_k (by decide)), Or.inl rfl⟩
  refine lv_if_lt (tgt := 19) hx hb dX11_isHorse_1 (by decide) (fun c1 => ?_) (fun c1 => ?_)
  · skip
    have r2 : rg p1 (-2147483648) (-1) := rg_lt1 (iL c1) ((rg_top _) : rg p1 (-2147483648) 2147483647) ((rg_k (by decide)) : rg 0 0 0)
    exact J19  H locs ls  hP hD hS (lv_sub hl [] rfl)
  · skip
    have r3 : rg p1 0 2147483647 := rg_le2 (iNL c1) ((rg_k (by decide)) : rg 0 0 0) ((rg_top _) : rg p1 (-2147483648) 2147483647)
    refine lv_iload_n hx hb dX11_isHorse_4 rfl (lv_at hl 1 rfl) ?_
    refine lv_aload_n hx hb dX11_isHorse_5 rfl (lv_at hl 0 rfl) ?_
    refine va_get (ci := 11) (v := .ref (ad 11)) (C := RX11) (T := TX11) (N := 13) hx hb hg inX11 hown hK hP 0 atX_0 rfl 10 (by decide) (hg _ mw_535) (fun _ h9 => h9) rfl dX11_isHorse_6 ?_
    refine va_get (ci := 10) (v := .int (F 16)) (C := RX10) (T := TX10) (N := 12) hx hb hg inX10 hown hK hP 11 atX_11 rfl 7 (by decide) (hg _ mw_174) (fun _ h9 => h9) rfl dX11_isHorse_9 ?_
    refine lv_topi (fun x4 e5 => ?_)
    have r6 : rg x4 0 10 := rg_e e5 (hq.1.1 16)
    refine lv_icmp_ge (tgt := 19) hx hb dX11_isHorse_12 (by decide) (fun c7 => ?_) (fun c7 => ?_)
    · skip
      exact J19  H locs ls  hP hD hS (lv_sub hl [] rfl)
    · skip
      have r8 : rg p1 0 9 := rg_lt1 (iNE c7) (r3 : rg p1 0 2147483647) (r6 : rg x4 0 10)
      have r9 : rg x4 1 10 := rg_lt2 (iNE c7) (r3 : rg p1 0 2147483647) (r6 : rg x4 0 10)
      refine lv_iconst (v := 1) hx hb dX11_isHorse_15 (by decide) ?_
      refine lv_goto (tgt := 20) hx hb dX11_isHorse_16 (by decide) ?_
      exact hret (1) () H locs 20 ls rfl dX11_isHorse_20 hP hD hS ⟨(rg_k (by decide)), Or.inr r8⟩
abbrev rm_X11_isSmith_0 : Room := { frames := 0, cells := 0, slots := 0, locals := 0 }
set_option maxHeartbeats 4000000 in
set_option maxRecDepth 100000 in
theorem c_X11_isSmith_0 (l : Launch) (D : va_G) (cA : Nat → ClassId) (sz : Nat) (ad : Nat → Nat) (F : Nat → Int32) (L : Nat → Int64) (A : Nat → Nat → Int32) (B : Nat → Nat → Int64) (p1 : Int32) (hT : typX F A) : Met l yX11_isSmith (Cond.code yX11_isSmith cX11_isSmith 2 (some .boolean) :: GW) rm_X11_isSmith_0 (mPc D classes (tysX cA) (wX cA ad F L A B) sz [.ref (ad 0), .int p1]) (mQi (S := Unit) D classes (tysX cA) (wX cA ad F L A B) sz (fun _ : Unit => wX cA ad F L A B) (fun r u => rg r 0 1 ∧ (r = 0 ∨ (rg p1 0 7)))) 0 0 (va_A (wX cA ad F L A B) sz) := by
  refine met_i (own := "ShoeingDay") (by decide +kernel) rfl (Nat.le_of_ble_eq_true rfl) ?_
  intro p e s m args below meth c Q Af ls hC hP hD hS hA hl hret
  have hx := hC.1
  have hb := hC.2.1
  have hown := hC.2.2.2.1
  have hg := hC.g
  have hK := hC.K
  have hl : lv_has ls 2 [(0, .ref (ad 0)), (1, .int p1)] := hl
  have hq : qX [] [] F A F A := qX.rf hT
  obtain ⟨H, hH⟩ : ∃ H, H = s.heap := ⟨_, rfl⟩
  have hP : va_P D classes (wX cA ad F L A B) H := by rw [hH]; exact hP
  have hS : va_S Af s.heap H [] := by rw [hH]; exact hS
  obtain ⟨locs, hlo⟩ : ∃ q : List Loc, q = [] := ⟨_, rfl⟩
  rw [← hH, ← hlo]
  rw [← hlo] at hS
  refine lv_iload_n hx hb dX11_isSmith_0 rfl (lv_at hl 1 rfl) ?_
  have J19 : ∀ (H : Heap) (locs : List Loc) (ls : Array Slot), va_P D classes (wX cA ad F L A B) H → va_D Af (wX cA ad F L A B) → va_S Af s.heap H locs → lv_has ls 2 [] → W p l e rm_X11_isSmith_0 s m args below meth c H locs 0 0 Q (F0 m 19 ls []) := by
    intro H locs ls hP hD hS hl
    refine lv_iconst (v := 0) hx hb dX11_isSmith_19 (by decide) ?_
    exact hret (0) () H locs 20 ls rfl dX11_isSmith_20 hP hD hS ⟨(rg_k (by decide)), Or.inl rfl⟩
  refine lv_if_lt (tgt := 19) hx hb dX11_isSmith_1 (by decide) (fun c1 => ?_) (fun c1 => ?_)
  · skip
    have r2 : rg p1 (-2147483648) (-1) := rg_lt1 (iL c1) ((rg_top _) : rg p1 (-2147483648) 2147483647) ((rg_k (by decide)) : rg 0 0 0)
    exact J19  H locs ls  hP hD hS (lv_sub hl [] rfl)
  · skip
    have r3 : rg p1 0 2147483647 := rg_le2 (iNL c1) ((rg_k (by decide)) : rg 0 0 0) ((rg_top _) : rg p1 (-2147483648) 2147483647)
    refine lv_iload_n hx hb dX11_isSmith_4 rfl (lv_at hl 1 rfl) ?_
    refine lv_aload_n hx hb dX11_isSmith_5 rfl (lv_at hl 0 rfl) ?_
    refine va_get (ci := 11) (v := .ref (ad 11)) (C := RX11) (T := TX11) (N := 13) hx hb hg inX11 hown hK hP 0 atX_0 rfl 10 (by decide) (hg _ mw_535) (fun _ h9 => h9) rfl dX11_isSmith_6 ?_
    refine va_get (ci := 10) (v := .int (F 15)) (C := RX10) (T := TX10) (N := 12) hx hb hg inX10 hown hK hP 11 atX_11 rfl 6 (by decide) (hg _ mw_169) (fun _ h9 => h9) rfl dX11_isSmith_9 ?_
    refine lv_topi (fun x4 e5 => ?_)
    have r6 : rg x4 0 8 := rg_e e5 (hq.1.1 15)
    refine lv_icmp_ge (tgt := 19) hx hb dX11_isSmith_12 (by decide) (fun c7 => ?_) (fun c7 => ?_)
    · skip
      exact J19  H locs ls  hP hD hS (lv_sub hl [] rfl)
    · skip
      have r8 : rg p1 0 7 := rg_lt1 (iNE c7) (r3 : rg p1 0 2147483647) (r6 : rg x4 0 8)
      have r9 : rg x4 1 8 := rg_lt2 (iNE c7) (r3 : rg p1 0 2147483647) (r6 : rg x4 0 8)
      refine lv_iconst (v := 1) hx hb dX11_isSmith_15 (by decide) ?_
      refine lv_goto (tgt := 20) hx hb dX11_isSmith_16 (by decide) ?_
      exact hret (1) () H locs 20 ls rfl dX11_isSmith_20 hP hD hS ⟨(rg_k (by decide)), Or.inr r8⟩
abbrev rm_X11_isPair_0 : Room := { frames := 1, cells := 0, slots := 0, locals := 21 }
set_option maxHeartbeats 4000000 in
set_option maxRecDepth 100000 in
theorem c_X11_isPair_0 (l : Launch) (D : va_G) (cA : Nat → ClassId) (sz : Nat) (ad : Nat → Nat) (F : Nat → Int32) (L : Nat → Int64) (A : Nat → Nat → Int32) (B : Nat → Nat → Int64) (p1 : Int32) (p2 : Int32) (hT : typX F A) : Met l yX11_isPair (Cond.code yX11_isPair cX11_isPair 3 (some .boolean) :: GW) rm_X11_isPair_0 (mPc D classes (tysX cA) (wX cA ad F L A B) sz [.ref (ad 0), .int p1, .int p2]) (mQi (S := Unit) D classes (tysX cA) (wX cA ad F L A B) sz (fun _ : Unit => wX cA ad F L A B) (fun r u => rg r 0 1 ∧ (r = 0 ∨ (rg p1 0 7 ∧ rg p2 0 9)))) 0 0 (va_A (wX cA ad F L A B) sz) := by
  refine met_i (own := "ShoeingDay") (by decide +kernel) rfl (Nat.le_of_ble_eq_true rfl) ?_
  intro p e s m args below meth c Q Af ls hC hP hD hS hA hl hret
  have hx := hC.1
  have hb := hC.2.1
  have hown := hC.2.2.2.1
  have hg := hC.g
  have hK := hC.K
  have hl : lv_has ls 3 [(0, .ref (ad 0)), (1, .int p1), (2, .int p2)] := hl
  have hq : qX [] [] F A F A := qX.rf hT
  obtain ⟨H, hH⟩ : ∃ H, H = s.heap := ⟨_, rfl⟩
  have hP : va_P D classes (wX cA ad F L A B) H := by rw [hH]; exact hP
  have hS : va_S Af s.heap H [] := by rw [hH]; exact hS
  obtain ⟨locs, hlo⟩ : ∃ q : List Loc, q = [] := ⟨_, rfl⟩
  rw [← hH, ← hlo]
  rw [← hlo] at hS
  refine lv_aload_n hx hb dX11_isPair_0 rfl (lv_at hl 0 rfl) ?_
  refine lv_iload_n hx hb dX11_isPair_1 rfl (lv_at hl 1 rfl) ?_
  refine callv_i (As := [.int p1]) (rest := []) hC (c_X11_isSmith_0 l D cA H.size ad F L A B (p1) hq.1) (cwV 1 hg (g_V mw_731 mw_728 mw_730 ms_19 mw_1) rfl rfl rfl (by decide +kernel) ⟨(Nat.le_of_ble_eq_true rfl), (Nat.le_of_ble_eq_true rfl)⟩) hP hD hS hA atX_0 rfl rfl hl.1 rfl (Nat.le_of_ble_eq_true rfl) dX11_isPair_2 ⟨Nat.zero_le _, Nat.zero_le _⟩ (fun x1 u H locs hw hP hD hS => ?_)
  obtain ⟨r2, g3⟩ := hw
  have hP : va_P D classes (wX cA ad F L A B) H := hP
  have hD : va_D Af (wX cA ad F L A B) := hD
  have J20 : ∀ (H : Heap) (locs : List Loc) (ls : Array Slot), va_P D classes (wX cA ad F L A B) H → va_D Af (wX cA ad F L A B) → va_S Af s.heap H locs → lv_has ls 3 [] → W p l e rm_X11_isPair_0 s m args below meth c H locs 0 0 Q (F0 m 20 ls []) := by
    intro H locs ls hP hD hS hl
    refine lv_iconst (v := 0) hx hb dX11_isPair_20 (by decide) ?_
    exact hret (0) () H locs 21 ls rfl dX11_isPair_21 hP hD hS ⟨(rg_k (by decide)), Or.inl rfl⟩
  refine lv_if_eq (tgt := 20) hx hb dX11_isPair_5 (by decide) (fun c4 => ?_) (fun c4 => ?_)
  · skip
    have r5 : rg x1 0 0 := rg_eq1 c4 (r2 : rg x1 0 1) ((rg_k (by decide)) : rg 0 0 0) (by decide)
    exact J20  H locs ls  hP hD hS (lv_sub hl [] rfl)
  · skip
    have g6 := g3.resolve_left c4
    refine lv_aload_n hx hb dX11_isPair_8 rfl (lv_at hl 0 rfl) ?_
    refine lv_iload_n hx hb dX11_isPair_9 rfl (lv_at hl 2 rfl) ?_
    refine callv_i (As := [.int p2]) (rest := []) hC (c_X11_isHorse_0 l D cA H.size ad F L A B (p2) hq.1) (cwV 1 hg (g_V mw_735 mw_732 mw_734 ms_20 mw_1) rfl rfl rfl (by decide +kernel) ⟨(Nat.le_of_ble_eq_true rfl), (Nat.le_of_ble_eq_true rfl)⟩) hP hD hS hA atX_0 rfl rfl hl.1 rfl (Nat.le_of_ble_eq_true rfl) dX11_isPair_10 ⟨Nat.zero_le _, Nat.zero_le _⟩ (fun x7 u H locs hw hP hD hS => ?_)
    obtain ⟨r8, g9⟩ := hw
    have hP : va_P D classes (wX cA ad F L A B) H := hP
    have hD : va_D Af (wX cA ad F L A B) := hD
    refine lv_if_eq (tgt := 20) hx hb dX11_isPair_13 (by decide) (fun c10 => ?_) (fun c10 => ?_)
    · skip
      have r11 : rg x7 0 0 := rg_eq1 c10 (r8 : rg x7 0 1) ((rg_k (by decide)) : rg 0 0 0) (by decide)
      exact J20  H locs ls  hP hD hS (lv_sub hl [] rfl)
    · skip
      have g12 := g9.resolve_left c10
      refine lv_iconst (v := 1) hx hb dX11_isPair_16 (by decide) ?_
      refine lv_goto (tgt := 21) hx hb dX11_isPair_17 (by decide) ?_
      exact hret (1) () H locs 21 ls rfl dX11_isPair_21 hP hD hS ⟨(rg_k (by decide)), Or.inr ⟨g6, g12⟩⟩
abbrev rm_X11_lacks_0 : Room := { frames := 2, cells := 0, slots := 0, locals := 43 }
set_option maxHeartbeats 4000000 in
set_option maxRecDepth 100000 in
theorem c_X11_lacks_0 (l : Launch) (D : va_G) (cA : Nat → ClassId) (sz : Nat) (ad : Nat → Nat) (F : Nat → Int32) (L : Nat → Int64) (A : Nat → Nat → Int32) (B : Nat → Nat → Int64) (p1 : Int32) (p2 : Int32) (hT : typX F A) : Met l yX11_lacks (Cond.code yX11_lacks cX11_lacks 3 (some .int) :: GW) rm_X11_lacks_0 (mPc D classes (tysX cA) (wX cA ad F L A B) sz [.ref (ad 0), .int p1, .int p2]) (mQi (S := Unit) D classes (tysX cA) (wX cA ad F L A B) sz (fun _ : Unit => wX cA ad F L A B) (fun r u => True)) 0 0 (va_A (wX cA ad F L A B) sz) := by
  refine met_i (own := "ShoeingDay") (by decide +kernel) rfl (Nat.le_of_ble_eq_true rfl) ?_
  intro p e s m args below meth c Q Af ls hC hP hD hS hA hl hret
  have hx := hC.1
  have hb := hC.2.1
  have hown := hC.2.2.2.1
  have hg := hC.g
  have hK := hC.K
  have hl : lv_has ls 3 [(0, .ref (ad 0)), (1, .int p1), (2, .int p2)] := hl
  have hq : qX [] [] F A F A := qX.rf hT
  obtain ⟨H, hH⟩ : ∃ H, H = s.heap := ⟨_, rfl⟩
  have hP : va_P D classes (wX cA ad F L A B) H := by rw [hH]; exact hP
  have hS : va_S Af s.heap H [] := by rw [hH]; exact hS
  obtain ⟨locs, hlo⟩ : ∃ q : List Loc, q = [] := ⟨_, rfl⟩
  rw [← hH, ← hlo]
  rw [← hlo] at hS
  refine lv_aload_n hx hb dX11_lacks_0 rfl (lv_at hl 0 rfl) ?_
  refine lv_iload_n hx hb dX11_lacks_1 rfl (lv_at hl 1 rfl) ?_
  refine lv_iload_n hx hb dX11_lacks_2 rfl (lv_at hl 2 rfl) ?_
  refine callv_i (As := [.int p1, .int p2]) (rest := []) hC (c_X11_isPair_0 l D cA H.size ad F L A B (p1) (p2) hq.1) (cwV 2 hg (g_V mw_727 mw_724 mw_726 ms_18 mw_1) rfl rfl rfl (by decide +kernel) ⟨(Nat.le_of_ble_eq_true rfl), (Nat.le_of_ble_eq_true rfl)⟩) hP hD hS hA atX_0 rfl rfl hl.1 rfl (Nat.le_of_ble_eq_true rfl) dX11_lacks_3 ⟨Nat.zero_le _, Nat.zero_le _⟩ (fun x1 u H locs hw hP hD hS => ?_)
  obtain ⟨r2, g3⟩ := hw
  have hP : va_P D classes (wX cA ad F L A B) H := hP
  have hD : va_D Af (wX cA ad F L A B) := hD
  refine lv_if_eq (tgt := 25) hx hb dX11_lacks_6 (by decide) (fun c4 => ?_) (fun c4 => ?_)
  · skip
    have r5 : rg x1 0 0 := rg_eq1 c4 (r2 : rg x1 0 1) ((rg_k (by decide)) : rg 0 0 0) (by decide)
    refine lv_iconst (v := (-1)) hx hb dX11_lacks_25 (by decide) ?_
    exact hret ((-1)) () H locs 26 ls rfl dX11_lacks_26 hP hD hS trivial
  · skip
    have g6 := g3.resolve_left c4
    refine lv_aload_n hx hb dX11_lacks_9 rfl (lv_at hl 0 rfl) ?_
    refine va_get (ci := 11) (v := .ref (ad 18)) (C := RX11) (T := TX11) (N := 13) hx hb hg inX11 hown hK hP 0 atX_0 rfl 2 (by decide) (hg _ mw_527) (fun _ h9 => h9) rfl dX11_lacks_10 ?_
    refine va_get (ci := 3) (v := .ref (ad 19)) (C := RX3) (T := TX3) (N := 4) hx hb hg inX3 hown hK hP 18 atX_18 rfl 0 (by decide) (hg _ mw_237) (fun _ h9 => h9) rfl dX11_lacks_13 ?_
    refine lv_iload_n hx hb dX11_lacks_16 rfl (lv_at hl 1 rfl) ?_
    refine lv_iload_n hx hb dX11_lacks_17 rfl (lv_at hl 2 rfl) ?_
    refine calls_i (As := [.int p1, .int p2]) (rest := [.ref (ad 19)]) hC (c_X11_cellOf l D (tysX cA) (wX cA ad F L A B) H.size (p1) (p2)) (cwS 2 hg (g_S mw_681 mw_736 mw_680 mw_1) rfl rfl rfl (by decide +kernel) ⟨(Nat.le_of_ble_eq_true rfl), (Nat.le_of_ble_eq_true rfl)⟩) hP hD hS hA rfl hl.1 rfl (Nat.le_of_ble_eq_true rfl) dX11_lacks_18 ⟨Nat.zero_le _, Nat.zero_le _⟩ (fun x7 u H locs hw hP hD hS => ?_)
    have e8 := hw
    have hP : va_P D classes (wX cA ad F L A B) H := hP
    have hD : va_D Af (wX cA ad F L A B) := hD
    have r9 : rg x7 0 79 := rg_cell hw (g6.1 : rg p1 0 7) (g6.2 : rg p2 0 9) (by decide)
    refine va_iald hx hb hK hP 19 13 atX_19 tyX_19 (in_rg r9 (by decide)) dX11_lacks_21 ?_
    refine lv_topi (fun x10 e11 => ?_)
    refine lv_goto (tgt := 26) hx hb dX11_lacks_22 (by decide) ?_
    exact hret (x10) () H locs 26 ls rfl dX11_lacks_26 hP hD hS trivial
abbrev rm_X3_ofHorse_18 : Room := { frames := 1, cells := 0, slots := 0, locals := 21 }
set_option maxHeartbeats 4000000 in
set_option maxRecDepth 100000 in
theorem c_X3_ofHorse_18 (l : Launch) (D : va_G) (cA : Nat → ClassId) (sz : Nat) (ad : Nat → Nat) (F : Nat → Int32) (L : Nat → Int64) (A : Nat → Nat → Int32) (B : Nat → Nat → Int64) (p1 : Int32) (hT : typX F A) (hp1 : rg p1 0 9) : Met l yX3_ofHorse (Cond.code yX3_ofHorse cX3_ofHorse 4 (some .int) :: GW) rm_X3_ofHorse_18 (mPc D classes (tysX cA) (wX cA ad F L A B) sz [.ref (ad 18), .int p1]) (mQi (S := Unit) D classes (tysX cA) (wX cA ad F L A B) sz (fun _ : Unit => wX cA ad F L A B) (fun r u => True)) 0 0 (va_A (wX cA ad F L A B) sz) := by
  refine met_i (own := "ShoeingDay$Ledger") (by decide +kernel) rfl (Nat.le_of_ble_eq_true rfl) ?_
  intro p e s m args below meth c Q Af ls hC hP hD hS hA hl hret
  have hx := hC.1
  have hb := hC.2.1
  have hown := hC.2.2.2.1
  have hg := hC.g
  have hK := hC.K
  have hl : lv_has ls 4 [(0, .ref (ad 18)), (1, .int p1)] := hl
  have hq : qX [] [] F A F A := qX.rf hT
  obtain ⟨H, hH⟩ : ∃ H, H = s.heap := ⟨_, rfl⟩
  have hP : va_P D classes (wX cA ad F L A B) H := by rw [hH]; exact hP
  have hS : va_S Af s.heap H [] := by rw [hH]; exact hS
  obtain ⟨locs, hlo⟩ : ∃ q : List Loc, q = [] := ⟨_, rfl⟩
  rw [← hH, ← hlo]
  rw [← hlo] at hS
  refine lv_iconst (v := 0) hx hb dX3_ofHorse_0 (by decide) ?_
  refine lv_istore_n (lv' := [(2, .int 0), (0, .ref (ad 18)), (1, .int p1)]) hx hb dX3_ofHorse_1 rfl hl (by decide) rfl (fun ls hl => ?_)
  refine lv_iconst (v := 0) hx hb dX3_ofHorse_2 (by decide) ?_
  refine lv_istore_n (lv' := [(3, .int 0), (2, .int 0), (0, .ref (ad 18)), (1, .int p1)]) hx hb dX3_ofHorse_3 rfl hl (by decide) rfl (fun ls hl => ?_)
  have J4 : ∀ (n4 : Nat) (a1 : Int32) (a2 : Int32) (H : Heap) (locs : List Loc) (ls : Array Slot), (8 - a2.toInt).toNat < n4 → rg a2 0 8 → va_P D classes (wX cA ad F L A B) H → va_D Af (wX cA ad F L A B) → va_S Af s.heap H locs → lv_has ls 4 [(0, .ref (ad 18)), (1, .int p1), (2, .int a1), (3, .int a2)] → W p l e rm_X3_ofHorse_18 s m args below meth c H locs 0 0 Q (F0 m 4 ls []) := by
    intro n4
    induction n4 with
    | zero =>
      intro _ _ _ _ _ hn
      exact absurd hn (Nat.not_lt_zero _)
    | succ n4 ih4 =>
      intro a1 a2 H locs ls hn4 r3 hP hD hS hl
      refine lv_iload_n hx hb dX3_ofHorse_4 rfl (lv_at hl 3 rfl) ?_
      refine lv_aload_n hx hb dX3_ofHorse_5 rfl (lv_at hl 0 rfl) ?_
      refine va_get (ci := 3) (v := .int (F 21)) (C := RX3) (T := TX3) (N := 4) hx hb hg inX3 hown hK hP 18 atX_18 rfl 1 (by decide) (hg _ mw_239) (fun _ h9 => h9) rfl dX3_ofHorse_6 ?_
      refine lv_topi (fun x4 e5 => ?_)
      have r6 : rg x4 0 8 := rg_e e5 (hq.1.1 21)
      refine lv_icmp_ge (tgt := 31) hx hb dX3_ofHorse_9 (by decide) (fun c7 => ?_) (fun c7 => ?_)
      · skip
        refine lv_iload_n hx hb dX3_ofHorse_31 rfl (lv_at hl 2 rfl) ?_
        exact hret (a1) () H locs 32 ls rfl dX3_ofHorse_32 hP hD hS trivial
      · skip
        have r8 : rg a2 0 7 := rg_lt1 (iNE c7) (r3 : rg a2 0 8) (r6 : rg x4 0 8)
        have r9 : rg x4 1 8 := rg_lt2 (iNE c7) (r3 : rg a2 0 8) (r6 : rg x4 0 8)
        refine lv_iload_n hx hb dX3_ofHorse_12 rfl (lv_at hl 2 rfl) ?_
        refine lv_aload_n hx hb dX3_ofHorse_13 rfl (lv_at hl 0 rfl) ?_
        refine va_get (ci := 3) (v := .ref (ad 19)) (C := RX3) (T := TX3) (N := 4) hx hb hg inX3 hown hK hP 18 atX_18 rfl 0 (by decide) (hg _ mw_233) (fun _ h9 => h9) rfl dX3_ofHorse_14 ?_
        refine lv_iload_n hx hb dX3_ofHorse_17 rfl (lv_at hl 3 rfl) ?_
        refine lv_iload_n hx hb dX3_ofHorse_18 rfl (lv_at hl 1 rfl) ?_
        refine calln_i (As := [.int a2, .int p1]) (rest := [.ref (ad 19), .int a1]) hC (c_X11_cellOf l D (tysX cA) (wX cA ad F L A B) H.size (a2) (p1)) ⟨va_cnB 2 hg (g_N mw_681) rfl rfl rfl (mn_11 hC.N) (hg _ mw_1) (by decide +kernel) ⟨(Nat.le_of_ble_eq_true rfl), (Nat.le_of_ble_eq_true rfl)⟩, (hg _ mw_680), trivial⟩ hP hD hS hA rfl hl.1 rfl (Nat.le_of_ble_eq_true rfl) dX3_ofHorse_19 ⟨Nat.zero_le _, Nat.zero_le _⟩ (fun x10 u H locs hw hP hD hS => ?_)
        have e11 := hw
        have hP : va_P D classes (wX cA ad F L A B) H := hP
        have hD : va_D Af (wX cA ad F L A B) := hD
        have r12 : rg x10 0 79 := rg_cell hw (r8 : rg a2 0 7) (hp1 : rg p1 0 9) (by decide)
        refine va_iald hx hb hK hP 19 13 atX_19 tyX_19 (in_rg r12 (by decide)) dX3_ofHorse_22 ?_
        refine lv_topi (fun x13 e14 => ?_)
        refine lv_iadd hx hb dX3_ofHorse_23 ?_
        refine lv_topi (fun x15 e16 => ?_)
        refine lv_istore_n (lv' := [(2, .int x15), (0, .ref (ad 18)), (1, .int p1), (3, .int a2)]) hx hb dX3_ofHorse_24 rfl hl (by decide) rfl (fun ls hl => ?_)
        obtain ⟨x17, e18⟩ : ∃ y : Int32, y = a2 + 1 := ⟨_, rfl⟩
        have r19 : rg x17 1 8 := rg_add e18 r8 (rg_k (by decide) : rg 1 1 1) (by decide)
        refine lv_iinc (v := x17) (lv' := [(3, .int x17), (2, .int x15), (0, .ref (ad 18)), (1, .int p1)]) hx hb dX3_ofHorse_25 hl (k := 3) rfl (by rw [e18]; rfl) (by decide) rfl (fun ls hl => ?_)
        refine lv_goto (tgt := 4) hx hb dX3_ofHorse_28 (by decide) ?_
        exact ih4 (x15) (x17) H locs ls (by have h0 : (1 : Int32).toInt = 1 := rfl; have h1 := ti_addk e18 r8 (by decide); have h2 : rg x17 0 8 := (rg_w r19 (by decide)); unfold rg at h2; omega) (rg_w r19 (by decide)) hP hD hS (lv_sub hl [2, 3, 1, 0] rfl)
  exact J4 _ (0) (0) H locs ls (Nat.lt_succ_self _) (rg_k (by decide)) hP hD hS (lv_sub hl [2, 3, 1, 0] rfl)
abbrev rm_X3_ofSmith_18 : Room := { frames := 1, cells := 0, slots := 0, locals := 21 }
set_option maxHeartbeats 4000000 in
set_option maxRecDepth 100000 in
theorem c_X3_ofSmith_18 (l : Launch) (D : va_G) (cA : Nat → ClassId) (sz : Nat) (ad : Nat → Nat) (F : Nat → Int32) (L : Nat → Int64) (A : Nat → Nat → Int32) (B : Nat → Nat → Int64) (p1 : Int32) (hT : typX F A) (hp1 : rg p1 0 7) : Met l yX3_ofSmith (Cond.code yX3_ofSmith cX3_ofSmith 4 (some .int) :: GW) rm_X3_ofSmith_18 (mPc D classes (tysX cA) (wX cA ad F L A B) sz [.ref (ad 18), .int p1]) (mQi (S := Unit) D classes (tysX cA) (wX cA ad F L A B) sz (fun _ : Unit => wX cA ad F L A B) (fun r u => True)) 0 0 (va_A (wX cA ad F L A B) sz) := by
  refine met_i (own := "ShoeingDay$Ledger") (by decide +kernel) rfl (Nat.le_of_ble_eq_true rfl) ?_
  intro p e s m args below meth c Q Af ls hC hP hD hS hA hl hret
  have hx := hC.1
  have hb := hC.2.1
  have hown := hC.2.2.2.1
  have hg := hC.g
  have hK := hC.K
  have hl : lv_has ls 4 [(0, .ref (ad 18)), (1, .int p1)] := hl
  have hq : qX [] [] F A F A := qX.rf hT
  obtain ⟨H, hH⟩ : ∃ H, H = s.heap := ⟨_, rfl⟩
  have hP : va_P D classes (wX cA ad F L A B) H := by rw [hH]; exact hP
  have hS : va_S Af s.heap H [] := by rw [hH]; exact hS
  obtain ⟨locs, hlo⟩ : ∃ q : List Loc, q = [] := ⟨_, rfl⟩
  rw [← hH, ← hlo]
  rw [← hlo] at hS
  refine lv_iconst (v := 0) hx hb dX3_ofSmith_0 (by decide) ?_
  refine lv_istore_n (lv' := [(2, .int 0), (0, .ref (ad 18)), (1, .int p1)]) hx hb dX3_ofSmith_1 rfl hl (by decide) rfl (fun ls hl => ?_)
  refine lv_iconst (v := 0) hx hb dX3_ofSmith_2 (by decide) ?_
  refine lv_istore_n (lv' := [(3, .int 0), (2, .int 0), (0, .ref (ad 18)), (1, .int p1)]) hx hb dX3_ofSmith_3 rfl hl (by decide) rfl (fun ls hl => ?_)
  have J4 : ∀ (n4 : Nat) (a1 : Int32) (a2 : Int32) (H : Heap) (locs : List Loc) (ls : Array Slot), (10 - a2.toInt).toNat < n4 → rg a2 0 10 → va_P D classes (wX cA ad F L A B) H → va_D Af (wX cA ad F L A B) → va_S Af s.heap H locs → lv_has ls 4 [(0, .ref (ad 18)), (1, .int p1), (2, .int a1), (3, .int a2)] → W p l e rm_X3_ofSmith_18 s m args below meth c H locs 0 0 Q (F0 m 4 ls []) := by
    intro n4
    induction n4 with
    | zero =>
      intro _ _ _ _ _ hn
      exact absurd hn (Nat.not_lt_zero _)
    | succ n4 ih4 =>
      intro a1 a2 H locs ls hn4 r3 hP hD hS hl
      refine lv_iload_n hx hb dX3_ofSmith_4 rfl (lv_at hl 3 rfl) ?_
      refine lv_aload_n hx hb dX3_ofSmith_5 rfl (lv_at hl 0 rfl) ?_
      refine va_get (ci := 3) (v := .int (F 22)) (C := RX3) (T := TX3) (N := 4) hx hb hg inX3 hown hK hP 18 atX_18 rfl 2 (by decide) (hg _ mw_243) (fun _ h9 => h9) rfl dX3_ofSmith_6 ?_
      refine lv_topi (fun x4 e5 => ?_)
      have r6 : rg x4 0 10 := rg_e e5 (hq.1.1 22)
      refine lv_icmp_ge (tgt := 31) hx hb dX3_ofSmith_9 (by decide) (fun c7 => ?_) (fun c7 => ?_)
      · skip
        refine lv_iload_n hx hb dX3_ofSmith_31 rfl (lv_at hl 2 rfl) ?_
        exact hret (a1) () H locs 32 ls rfl dX3_ofSmith_32 hP hD hS trivial
      · skip
        have r8 : rg a2 0 9 := rg_lt1 (iNE c7) (r3 : rg a2 0 10) (r6 : rg x4 0 10)
        have r9 : rg x4 1 10 := rg_lt2 (iNE c7) (r3 : rg a2 0 10) (r6 : rg x4 0 10)
        refine lv_iload_n hx hb dX3_ofSmith_12 rfl (lv_at hl 2 rfl) ?_
        refine lv_aload_n hx hb dX3_ofSmith_13 rfl (lv_at hl 0 rfl) ?_
        refine va_get (ci := 3) (v := .ref (ad 19)) (C := RX3) (T := TX3) (N := 4) hx hb hg inX3 hown hK hP 18 atX_18 rfl 0 (by decide) (hg _ mw_233) (fun _ h9 => h9) rfl dX3_ofSmith_14 ?_
        refine lv_iload_n hx hb dX3_ofSmith_17 rfl (lv_at hl 1 rfl) ?_
        refine lv_iload_n hx hb dX3_ofSmith_18 rfl (lv_at hl 3 rfl) ?_
        refine calln_i (As := [.int p1, .int a2]) (rest := [.ref (ad 19), .int a1]) hC (c_X11_cellOf l D (tysX cA) (wX cA ad F L A B) H.size (p1) (a2)) ⟨va_cnB 2 hg (g_N mw_681) rfl rfl rfl (mn_11 hC.N) (hg _ mw_1) (by decide +kernel) ⟨(Nat.le_of_ble_eq_true rfl), (Nat.le_of_ble_eq_true rfl)⟩, (hg _ mw_680), trivial⟩ hP hD hS hA rfl hl.1 rfl (Nat.le_of_ble_eq_true rfl) dX3_ofSmith_19 ⟨Nat.zero_le _, Nat.zero_le _⟩ (fun x10 u H locs hw hP hD hS => ?_)
        have e11 := hw
        have hP : va_P D classes (wX cA ad F L A B) H := hP
        have hD : va_D Af (wX cA ad F L A B) := hD
        have r12 : rg x10 0 79 := rg_cell hw (hp1 : rg p1 0 7) (r8 : rg a2 0 9) (by decide)
        refine va_iald hx hb hK hP 19 13 atX_19 tyX_19 (in_rg r12 (by decide)) dX3_ofSmith_22 ?_
        refine lv_topi (fun x13 e14 => ?_)
        refine lv_iadd hx hb dX3_ofSmith_23 ?_
        refine lv_topi (fun x15 e16 => ?_)
        refine lv_istore_n (lv' := [(2, .int x15), (0, .ref (ad 18)), (1, .int p1), (3, .int a2)]) hx hb dX3_ofSmith_24 rfl hl (by decide) rfl (fun ls hl => ?_)
        obtain ⟨x17, e18⟩ : ∃ y : Int32, y = a2 + 1 := ⟨_, rfl⟩
        have r19 : rg x17 1 10 := rg_add e18 r8 (rg_k (by decide) : rg 1 1 1) (by decide)
        refine lv_iinc (v := x17) (lv' := [(3, .int x17), (2, .int x15), (0, .ref (ad 18)), (1, .int p1)]) hx hb dX3_ofSmith_25 hl (k := 3) rfl (by rw [e18]; rfl) (by decide) rfl (fun ls hl => ?_)
        refine lv_goto (tgt := 4) hx hb dX3_ofSmith_28 (by decide) ?_
        exact ih4 (x15) (x17) H locs ls (by have h0 : (1 : Int32).toInt = 1 := rfl; have h1 := ti_addk e18 r8 (by decide); have h2 : rg x17 0 10 := (rg_w r19 (by decide)); unfold rg at h2; omega) (rg_w r19 (by decide)) hP hD hS (lv_sub hl [2, 3, 1, 0] rfl)
  exact J4 _ (0) (0) H locs ls (Nat.lt_succ_self _) (rg_k (by decide)) hP hD hS (lv_sub hl [2, 3, 1, 0] rfl)
abbrev rm_X11_sum_0 : Room := { frames := 2, cells := 0, slots := 0, locals := 44 }
set_option maxHeartbeats 4000000 in
set_option maxRecDepth 100000 in
theorem c_X11_sum_0 (l : Launch) (D : va_G) (cA : Nat → ClassId) (sz : Nat) (ad : Nat → Nat) (F : Nat → Int32) (L : Nat → Int64) (A : Nat → Nat → Int32) (B : Nat → Nat → Int64) (p1 : Int32) (p2 : Int32) (hT : typX F A) (hp2 : rg p2 0 1) : Met l yX11_sum (Cond.code yX11_sum cX11_sum 3 (some .int) :: GW) rm_X11_sum_0 (mPc D classes (tysX cA) (wX cA ad F L A B) sz [.ref (ad 0), .int p1, .int p2]) (mQi (S := Unit) D classes (tysX cA) (wX cA ad F L A B) sz (fun _ : Unit => wX cA ad F L A B) (fun r u => True)) 0 0 (va_A (wX cA ad F L A B) sz) := by
  refine met_i (own := "ShoeingDay") (by decide +kernel) rfl (Nat.le_of_ble_eq_true rfl) ?_
  intro p e s m args below meth c Q Af ls hC hP hD hS hA hl hret
  have hx := hC.1
  have hb := hC.2.1
  have hown := hC.2.2.2.1
  have hg := hC.g
  have hK := hC.K
  have hl : lv_has ls 3 [(0, .ref (ad 0)), (1, .int p1), (2, .int p2)] := hl
  have hq : qX [] [] F A F A := qX.rf hT
  obtain ⟨H, hH⟩ : ∃ H, H = s.heap := ⟨_, rfl⟩
  have hP : va_P D classes (wX cA ad F L A B) H := by rw [hH]; exact hP
  have hS : va_S Af s.heap H [] := by rw [hH]; exact hS
  obtain ⟨locs, hlo⟩ : ∃ q : List Loc, q = [] := ⟨_, rfl⟩
  rw [← hH, ← hlo]
  rw [← hlo] at hS
  refine lv_iload_n hx hb dX11_sum_0 rfl (lv_at hl 2 rfl) ?_
  refine lv_if_eq (tgt := 25) hx hb dX11_sum_1 (by decide) (fun c1 => ?_) (fun c1 => ?_)
  · skip
    have r2 : rg p2 0 0 := rg_eq1 c1 (hp2 : rg p2 0 1) ((rg_k (by decide)) : rg 0 0 0) (by decide)
    refine lv_aload_n hx hb dX11_sum_25 rfl (lv_at hl 0 rfl) ?_
    refine lv_iload_n hx hb dX11_sum_26 rfl (lv_at hl 1 rfl) ?_
    refine callv_i (As := [.int p1]) (rest := []) hC (c_X11_isSmith_0 l D cA H.size ad F L A B (p1) hq.1) (cwV 1 hg (g_V mw_731 mw_728 mw_730 ms_19 mw_1) rfl rfl rfl (by decide +kernel) ⟨(Nat.le_of_ble_eq_true rfl), (Nat.le_of_ble_eq_true rfl)⟩) hP hD hS hA atX_0 rfl rfl hl.1 rfl (Nat.le_of_ble_eq_true rfl) dX11_sum_27 ⟨Nat.zero_le _, Nat.zero_le _⟩ (fun x4 u H locs hw hP hD hS => ?_)
    obtain ⟨r5, g6⟩ := hw
    have hP : va_P D classes (wX cA ad F L A B) H := hP
    have hD : va_D Af (wX cA ad F L A B) := hD
    refine lv_if_eq (tgt := 44) hx hb dX11_sum_30 (by decide) (fun c7 => ?_) (fun c7 => ?_)
    · skip
      have r8 : rg x4 0 0 := rg_eq1 c7 (r5 : rg x4 0 1) ((rg_k (by decide)) : rg 0 0 0) (by decide)
      refine lv_iconst (v := (-1)) hx hb dX11_sum_44 (by decide) ?_
      exact hret ((-1)) () H locs 45 ls rfl dX11_sum_45 hP hD hS trivial
    · skip
      have g9 := g6.resolve_left c7
      refine lv_aload_n hx hb dX11_sum_33 rfl (lv_at hl 0 rfl) ?_
      refine va_get (ci := 11) (v := .ref (ad 18)) (C := RX11) (T := TX11) (N := 13) hx hb hg inX11 hown hK hP 0 atX_0 rfl 2 (by decide) (hg _ mw_527) (fun _ h9 => h9) rfl dX11_sum_34 ?_
      refine lv_iload_n hx hb dX11_sum_37 rfl (lv_at hl 1 rfl) ?_
      refine callv_i (As := [.int p1]) (rest := []) hC (c_X3_ofSmith_18 l D cA H.size ad F L A B (p1) hq.1 g9) (cwV 1 hg (g_V mw_749 mw_746 mw_747 mw_748 mw_9) rfl rfl rfl (by decide +kernel) ⟨(Nat.le_of_ble_eq_true rfl), (Nat.le_of_ble_eq_true rfl)⟩) hP hD hS hA atX_18 rfl rfl hl.1 rfl (Nat.le_of_ble_eq_true rfl) dX11_sum_38 ⟨Nat.zero_le _, Nat.zero_le _⟩ (fun x10 u H locs hw hP hD hS => ?_)
      have hP : va_P D classes (wX cA ad F L A B) H := hP
      have hD : va_D Af (wX cA ad F L A B) := hD
      refine lv_goto (tgt := 45) hx hb dX11_sum_41 (by decide) ?_
      exact hret (x10) () H locs 45 ls rfl dX11_sum_45 hP hD hS trivial
  · skip
    have r3 : rg p2 1 1 := (rg_ne1 c1 (hp2 : rg p2 0 1) ((rg_k (by decide)) : rg 0 0 0)).1 rfl
    refine lv_aload_n hx hb dX11_sum_4 rfl (lv_at hl 0 rfl) ?_
    refine lv_iload_n hx hb dX11_sum_5 rfl (lv_at hl 1 rfl) ?_
    refine callv_i (As := [.int p1]) (rest := []) hC (c_X11_isHorse_0 l D cA H.size ad F L A B (p1) hq.1) (cwV 1 hg (g_V mw_735 mw_732 mw_734 ms_20 mw_1) rfl rfl rfl (by decide +kernel) ⟨(Nat.le_of_ble_eq_true rfl), (Nat.le_of_ble_eq_true rfl)⟩) hP hD hS hA atX_0 rfl rfl hl.1 rfl (Nat.le_of_ble_eq_true rfl) dX11_sum_6 ⟨Nat.zero_le _, Nat.zero_le _⟩ (fun x11 u H locs hw hP hD hS => ?_)
    obtain ⟨r12, g13⟩ := hw
    have hP : va_P D classes (wX cA ad F L A B) H := hP
    have hD : va_D Af (wX cA ad F L A B) := hD
    refine lv_if_eq (tgt := 23) hx hb dX11_sum_9 (by decide) (fun c14 => ?_) (fun c14 => ?_)
    · skip
      have r15 : rg x11 0 0 := rg_eq1 c14 (r12 : rg x11 0 1) ((rg_k (by decide)) : rg 0 0 0) (by decide)
      refine lv_iconst (v := (-1)) hx hb dX11_sum_23 (by decide) ?_
      exact hret ((-1)) () H locs 24 ls rfl dX11_sum_24 hP hD hS trivial
    · skip
      have g16 := g13.resolve_left c14
      refine lv_aload_n hx hb dX11_sum_12 rfl (lv_at hl 0 rfl) ?_
      refine va_get (ci := 11) (v := .ref (ad 18)) (C := RX11) (T := TX11) (N := 13) hx hb hg inX11 hown hK hP 0 atX_0 rfl 2 (by decide) (hg _ mw_527) (fun _ h9 => h9) rfl dX11_sum_13 ?_
      refine lv_iload_n hx hb dX11_sum_16 rfl (lv_at hl 1 rfl) ?_
      refine callv_i (As := [.int p1]) (rest := []) hC (c_X3_ofHorse_18 l D cA H.size ad F L A B (p1) hq.1 g16) (cwV 1 hg (g_V mw_744 mw_741 mw_742 mw_743 mw_9) rfl rfl rfl (by decide +kernel) ⟨(Nat.le_of_ble_eq_true rfl), (Nat.le_of_ble_eq_true rfl)⟩) hP hD hS hA atX_18 rfl rfl hl.1 rfl (Nat.le_of_ble_eq_true rfl) dX11_sum_17 ⟨Nat.zero_le _, Nat.zero_le _⟩ (fun x17 u H locs hw hP hD hS => ?_)
      have hP : va_P D classes (wX cA ad F L A B) H := hP
      have hD : va_D Af (wX cA ad F L A B) := hD
      refine lv_goto (tgt := 24) hx hb dX11_sum_20 (by decide) ?_
      exact hret (x17) () H locs 24 ls rfl dX11_sum_24 hP hD hS trivial
abbrev rm_X3_greatest_18 : Room := { frames := 2, cells := 0, slots := 0, locals := 44 }
set_option maxHeartbeats 4000000 in
set_option maxRecDepth 100000 in
theorem c_X3_greatest_18 (l : Launch) (D : va_G) (cA : Nat → ClassId) (sz : Nat) (ad : Nat → Nat) (F : Nat → Int32) (L : Nat → Int64) (A : Nat → Nat → Int32) (B : Nat → Nat → Int64)  (hT : typX F A) : Met l yX3_greatest (Cond.code yX3_greatest cX3_greatest 3 (some .int) :: GW) rm_X3_greatest_18 (mPc D classes (tysX cA) (wX cA ad F L A B) sz [.ref (ad 18)]) (mQi (S := Unit) D classes (tysX cA) (wX cA ad F L A B) sz (fun _ : Unit => wX cA ad F L A B) (fun r u => rg r 0 2147483647)) 0 0 (va_A (wX cA ad F L A B) sz) := by
  refine met_i (own := "ShoeingDay$Ledger") (by decide +kernel) rfl (Nat.le_of_ble_eq_true rfl) ?_
  intro p e s m args below meth c Q Af ls hC hP hD hS hA hl hret
  have hx := hC.1
  have hb := hC.2.1
  have hown := hC.2.2.2.1
  have hg := hC.g
  have hK := hC.K
  have hl : lv_has ls 3 [(0, .ref (ad 18))] := hl
  have hq : qX [] [] F A F A := qX.rf hT
  obtain ⟨H, hH⟩ : ∃ H, H = s.heap := ⟨_, rfl⟩
  have hP : va_P D classes (wX cA ad F L A B) H := by rw [hH]; exact hP
  have hS : va_S Af s.heap H [] := by rw [hH]; exact hS
  obtain ⟨locs, hlo⟩ : ∃ q : List Loc, q = [] := ⟨_, rfl⟩
  rw [← hH, ← hlo]
  rw [← hlo] at hS
  refine lv_iconst (v := 0) hx hb dX3_greatest_0 (by decide) ?_
  refine lv_istore_n (lv' := [(1, .int 0), (0, .ref (ad 18))]) hx hb dX3_greatest_1 rfl hl (by decide) rfl (fun ls hl => ?_)
  refine lv_iconst (v := 0) hx hb dX3_greatest_2 (by decide) ?_
  refine lv_istore_n (lv' := [(2, .int 0), (1, .int 0), (0, .ref (ad 18))]) hx hb dX3_greatest_3 rfl hl (by decide) rfl (fun ls hl => ?_)
  have J4 : ∀ (n4 : Nat) (a1 : Int32) (a3 : Int32) (H : Heap) (locs : List Loc) (ls : Array Slot), (8 - a3.toInt).toNat < n4 → rg a1 0 2147483647 → rg a3 0 8 → va_P D classes (wX cA ad F L A B) H → va_D Af (wX cA ad F L A B) → va_S Af s.heap H locs → lv_has ls 3 [(0, .ref (ad 18)), (1, .int a1), (2, .int a3)] → W p l e rm_X3_greatest_18 s m args below meth c H locs 0 0 Q (F0 m 4 ls []) := by
    intro n4
    induction n4 with
    | zero =>
      intro _ _ _ _ _ hn
      exact absurd hn (Nat.not_lt_zero _)
    | succ n4 ih4 =>
      intro a1 a3 H locs ls hn4 r2 r4 hP hD hS hl
      refine lv_iload_n hx hb dX3_greatest_4 rfl (lv_at hl 2 rfl) ?_
      refine lv_aload_n hx hb dX3_greatest_5 rfl (lv_at hl 0 rfl) ?_
      refine va_get (ci := 3) (v := .int (F 21)) (C := RX3) (T := TX3) (N := 4) hx hb hg inX3 hown hK hP 18 atX_18 rfl 1 (by decide) (hg _ mw_239) (fun _ h9 => h9) rfl dX3_greatest_6 ?_
      refine lv_topi (fun x5 e6 => ?_)
      have r7 : rg x5 0 8 := rg_e e6 (hq.1.1 21)
      refine lv_icmp_ge (tgt := 28) hx hb dX3_greatest_9 (by decide) (fun c8 => ?_) (fun c8 => ?_)
      · skip
        refine lv_iconst (v := 0) hx hb dX3_greatest_28 (by decide) ?_
        refine lv_istore_n (lv' := [(2, .int 0), (0, .ref (ad 18)), (1, .int a1)]) hx hb dX3_greatest_29 rfl hl (by decide) rfl (fun ls hl => ?_)
        have J30 : ∀ (n30 : Nat) (a11 : Int32) (a13 : Int32) (H : Heap) (locs : List Loc) (ls : Array Slot), (10 - a13.toInt).toNat < n30 → rg a11 0 2147483647 → rg a13 0 10 → va_P D classes (wX cA ad F L A B) H → va_D Af (wX cA ad F L A B) → va_S Af s.heap H locs → lv_has ls 3 [(0, .ref (ad 18)), (1, .int a11), (2, .int a13)] → W p l e rm_X3_greatest_18 s m args below meth c H locs 0 0 Q (F0 m 30 ls []) := by
          intro n30
          induction n30 with
          | zero =>
            intro _ _ _ _ _ hn
            exact absurd hn (Nat.not_lt_zero _)
          | succ n30 ih30 =>
            intro a11 a13 H locs ls hn30 r12 r14 hP hD hS hl
            refine lv_iload_n hx hb dX3_greatest_30 rfl (lv_at hl 2 rfl) ?_
            refine lv_aload_n hx hb dX3_greatest_31 rfl (lv_at hl 0 rfl) ?_
            refine va_get (ci := 3) (v := .int (F 22)) (C := RX3) (T := TX3) (N := 4) hx hb hg inX3 hown hK hP 18 atX_18 rfl 2 (by decide) (hg _ mw_243) (fun _ h9 => h9) rfl dX3_greatest_32 ?_
            refine lv_topi (fun x15 e16 => ?_)
            have r17 : rg x15 0 10 := rg_e e16 (hq.1.1 22)
            refine lv_icmp_ge (tgt := 54) hx hb dX3_greatest_35 (by decide) (fun c18 => ?_) (fun c18 => ?_)
            · skip
              refine lv_iload_n hx hb dX3_greatest_54 rfl (lv_at hl 1 rfl) ?_
              exact hret (a11) () H locs 55 ls rfl dX3_greatest_55 hP hD hS r12
            · skip
              have r19 : rg a13 0 9 := rg_lt1 (iNE c18) (r14 : rg a13 0 10) (r17 : rg x15 0 10)
              have r20 : rg x15 1 10 := rg_lt2 (iNE c18) (r14 : rg a13 0 10) (r17 : rg x15 0 10)
              refine lv_iload_n hx hb dX3_greatest_38 rfl (lv_at hl 1 rfl) ?_
              refine lv_aload_n hx hb dX3_greatest_39 rfl (lv_at hl 0 rfl) ?_
              refine lv_iload_n hx hb dX3_greatest_40 rfl (lv_at hl 2 rfl) ?_
              refine callv_i (As := [.int a13]) (rest := [.int a11]) hC (c_X3_ofHorse_18 l D cA H.size ad F L A B (a13) hq.1 r19) (cwV 1 hg (g_V mw_744 mw_760 mw_742 mw_743 mw_9) rfl rfl rfl (by decide +kernel) ⟨(Nat.le_of_ble_eq_true rfl), (Nat.le_of_ble_eq_true rfl)⟩) hP hD hS hA atX_18 rfl rfl hl.1 rfl (Nat.le_of_ble_eq_true rfl) dX3_greatest_41 ⟨Nat.zero_le _, Nat.zero_le _⟩ (fun x21 u H locs hw hP hD hS => ?_)
              have hP : va_P D classes (wX cA ad F L A B) H := hP
              have hD : va_D Af (wX cA ad F L A B) := hD
              refine va_mmax hx hb (hC.2.2.1.trans hl.1.symm) hown (hg _ mw_759) (hg _ mw_272) (hg _ mw_12) (hg _ mw_273) (Nat.le_of_ble_eq_true rfl) (Nat.le_of_ble_eq_true rfl) (Nat.zero_le _) (Nat.zero_le _) dX3_greatest_44 ?_
              refine lv_topi (fun x22 e23 => ?_)
              have r24 : rg x22 0 2147483647 := rg_max e23 (r12 : rg a11 0 2147483647) ((rg_top _) : rg x21 (-2147483648) 2147483647) (by decide)
              refine lv_istore_n (lv' := [(1, .int x22), (0, .ref (ad 18)), (2, .int a13)]) hx hb dX3_greatest_47 rfl hl (by decide) rfl (fun ls hl => ?_)
              obtain ⟨x25, e26⟩ : ∃ y : Int32, y = a13 + 1 := ⟨_, rfl⟩
              have r27 : rg x25 1 10 := rg_add e26 r19 (rg_k (by decide) : rg 1 1 1) (by decide)
              refine lv_iinc (v := x25) (lv' := [(2, .int x25), (1, .int x22), (0, .ref (ad 18))]) hx hb dX3_greatest_48 hl (k := 2) rfl (by rw [e26]; rfl) (by decide) rfl (fun ls hl => ?_)
              refine lv_goto (tgt := 30) hx hb dX3_greatest_51 (by decide) ?_
              exact ih30 (x22) (x25) H locs ls (by have h0 : (1 : Int32).toInt = 1 := rfl; have h1 := ti_addk e26 r19 (by decide); have h2 : rg x25 0 10 := (rg_w r27 (by decide)); unfold rg at h2; omega) r24 (rg_w r27 (by decide)) hP hD hS (lv_sub hl [2, 1, 0] rfl)
        exact J30 _ (a1) (0) H locs ls (Nat.lt_succ_self _) r2 (rg_k (by decide)) hP hD hS (lv_sub hl [1, 2, 0] rfl)
      · skip
        have r9 : rg a3 0 7 := rg_lt1 (iNE c8) (r4 : rg a3 0 8) (r7 : rg x5 0 8)
        have r10 : rg x5 1 8 := rg_lt2 (iNE c8) (r4 : rg a3 0 8) (r7 : rg x5 0 8)
        refine lv_iload_n hx hb dX3_greatest_12 rfl (lv_at hl 1 rfl) ?_
        refine lv_aload_n hx hb dX3_greatest_13 rfl (lv_at hl 0 rfl) ?_
        refine lv_iload_n hx hb dX3_greatest_14 rfl (lv_at hl 2 rfl) ?_
        refine callv_i (As := [.int a3]) (rest := [.int a1]) hC (c_X3_ofSmith_18 l D cA H.size ad F L A B (a3) hq.1 r9) (cwV 1 hg (g_V mw_749 mw_758 mw_747 mw_748 mw_9) rfl rfl rfl (by decide +kernel) ⟨(Nat.le_of_ble_eq_true rfl), (Nat.le_of_ble_eq_true rfl)⟩) hP hD hS hA atX_18 rfl rfl hl.1 rfl (Nat.le_of_ble_eq_true rfl) dX3_greatest_15 ⟨Nat.zero_le _, Nat.zero_le _⟩ (fun x28 u H locs hw hP hD hS => ?_)
        have hP : va_P D classes (wX cA ad F L A B) H := hP
        have hD : va_D Af (wX cA ad F L A B) := hD
        refine va_mmax hx hb (hC.2.2.1.trans hl.1.symm) hown (hg _ mw_759) (hg _ mw_272) (hg _ mw_12) (hg _ mw_273) (Nat.le_of_ble_eq_true rfl) (Nat.le_of_ble_eq_true rfl) (Nat.zero_le _) (Nat.zero_le _) dX3_greatest_18 ?_
        refine lv_topi (fun x29 e30 => ?_)
        have r31 : rg x29 0 2147483647 := rg_max e30 (r2 : rg a1 0 2147483647) ((rg_top _) : rg x28 (-2147483648) 2147483647) (by decide)
        refine lv_istore_n (lv' := [(1, .int x29), (0, .ref (ad 18)), (2, .int a3)]) hx hb dX3_greatest_21 rfl hl (by decide) rfl (fun ls hl => ?_)
        obtain ⟨x32, e33⟩ : ∃ y : Int32, y = a3 + 1 := ⟨_, rfl⟩
        have r34 : rg x32 1 8 := rg_add e33 r9 (rg_k (by decide) : rg 1 1 1) (by decide)
        refine lv_iinc (v := x32) (lv' := [(2, .int x32), (1, .int x29), (0, .ref (ad 18))]) hx hb dX3_greatest_22 hl (k := 2) rfl (by rw [e33]; rfl) (by decide) rfl (fun ls hl => ?_)
        refine lv_goto (tgt := 4) hx hb dX3_greatest_25 (by decide) ?_
        exact ih4 (x29) (x32) H locs ls (by have h0 : (1 : Int32).toInt = 1 := rfl; have h1 := ti_addk e33 r9 (by decide); have h2 : rg x32 0 8 := (rg_w r34 (by decide)); unfold rg at h2; omega) r31 (rg_w r34 (by decide)) hP hD hS (lv_sub hl [2, 1, 0] rfl)
  exact J4 _ (0) (0) H locs ls (Nat.lt_succ_self _) (rg_k (by decide)) (rg_k (by decide)) hP hD hS (lv_sub hl [2, 1, 0] rfl)
abbrev rm_X11_least_0 : Room := { frames := 3, cells := 0, slots := 0, locals := 66 }
set_option maxHeartbeats 4000000 in
set_option maxRecDepth 100000 in
theorem c_X11_least_0 (l : Launch) (D : va_G) (cA : Nat → ClassId) (sz : Nat) (ad : Nat → Nat) (F : Nat → Int32) (L : Nat → Int64) (A : Nat → Nat → Int32) (B : Nat → Nat → Int64)  (hT : typX F A) : Met l yX11_least (Cond.code yX11_least cX11_least 1 (some .int) :: GW) rm_X11_least_0 (mPc D classes (tysX cA) (wX cA ad F L A B) sz [.ref (ad 0)]) (mQi (S := Unit) D classes (tysX cA) (wX cA ad F L A B) sz (fun _ : Unit => wX cA ad F L A B) (fun r u => rg r 0 2147483647)) 0 0 (va_A (wX cA ad F L A B) sz) := by
  refine met_i (own := "ShoeingDay") (by decide +kernel) rfl (Nat.le_of_ble_eq_true rfl) ?_
  intro p e s m args below meth c Q Af ls hC hP hD hS hA hl hret
  have hx := hC.1
  have hb := hC.2.1
  have hown := hC.2.2.2.1
  have hg := hC.g
  have hK := hC.K
  have hl : lv_has ls 1 [(0, .ref (ad 0))] := hl
  have hq : qX [] [] F A F A := qX.rf hT
  obtain ⟨H, hH⟩ : ∃ H, H = s.heap := ⟨_, rfl⟩
  have hP : va_P D classes (wX cA ad F L A B) H := by rw [hH]; exact hP
  have hS : va_S Af s.heap H [] := by rw [hH]; exact hS
  obtain ⟨locs, hlo⟩ : ∃ q : List Loc, q = [] := ⟨_, rfl⟩
  rw [← hH, ← hlo]
  rw [← hlo] at hS
  refine lv_aload_n hx hb dX11_least_0 rfl (lv_at hl 0 rfl) ?_
  refine va_get (ci := 11) (v := .ref (ad 18)) (C := RX11) (T := TX11) (N := 13) hx hb hg inX11 hown hK hP 0 atX_0 rfl 2 (by decide) (hg _ mw_527) (fun _ h9 => h9) rfl dX11_least_1 ?_
  refine callv_i (As := []) (rest := []) hC (c_X3_greatest_18 l D cA H.size ad F L A B  hq.1) (cwV 0 hg (g_V mw_757 mw_754 mw_755 mw_756 mw_9) rfl rfl rfl (by decide +kernel) ⟨(Nat.le_of_ble_eq_true rfl), (Nat.le_of_ble_eq_true rfl)⟩) hP hD hS hA atX_18 rfl rfl hl.1 rfl (Nat.le_of_ble_eq_true rfl) dX11_least_4 ⟨Nat.zero_le _, Nat.zero_le _⟩ (fun x1 u H locs hw hP hD hS => ?_)
  have r2 := hw
  have hP : va_P D classes (wX cA ad F L A B) H := hP
  have hD : va_D Af (wX cA ad F L A B) := hD
  exact hret (x1) () H locs 7 ls rfl dX11_least_7 hP hD hS r2
abbrev rm_X11_busy_0_v0 : Room := { frames := 3, cells := 0, slots := 0, locals := 66 }
set_option maxHeartbeats 4000000 in
set_option maxRecDepth 100000 in
theorem c_X11_busy_0_v0 (l : Launch) (D : va_G) (cA : Nat → ClassId) (sz : Nat) (ad : Nat → Nat) (F : Nat → Int32) (L : Nat → Int64) (A : Nat → Nat → Int32) (B : Nat → Nat → Int64) (p1 : Int32) (hT : typX F A) (hp1 : rg p1 0 0) : Met l yX11_busy (Cond.code yX11_busy cX11_busy 7 (some .int) :: GW) rm_X11_busy_0_v0 (mPc D classes (tysX cA) (wX cA ad F L A B) sz [.ref (ad 0), .int p1]) (mQi (S := Unit) D classes (tysX cA) (wX cA ad F L A B) sz (fun _ : Unit => wX cA ad F L A B) (fun r u => rg r 0 255)) 0 0 (va_A (wX cA ad F L A B) sz) := by
  refine met_i (own := "ShoeingDay") (by decide +kernel) rfl (Nat.le_of_ble_eq_true rfl) ?_
  intro p e s m args below meth c Q Af ls hC hP hD hS hA hl hret
  have hx := hC.1
  have hb := hC.2.1
  have hown := hC.2.2.2.1
  have hg := hC.g
  have hK := hC.K
  have hl : lv_has ls 7 [(0, .ref (ad 0)), (1, .int p1)] := hl
  have hq : qX [] [] F A F A := qX.rf hT
  obtain ⟨H, hH⟩ : ∃ H, H = s.heap := ⟨_, rfl⟩
  have hP : va_P D classes (wX cA ad F L A B) H := by rw [hH]; exact hP
  have hS : va_S Af s.heap H [] := by rw [hH]; exact hS
  obtain ⟨locs, hlo⟩ : ∃ q : List Loc, q = [] := ⟨_, rfl⟩
  rw [← hH, ← hlo]
  rw [← hlo] at hS
  refine lv_aload_n hx hb dX11_busy_0 rfl (lv_at hl 0 rfl) ?_
  refine va_get (ci := 11) (v := .ref (ad 18)) (C := RX11) (T := TX11) (N := 13) hx hb hg inX11 hown hK hP 0 atX_0 rfl 2 (by decide) (hg _ mw_527) (fun _ h9 => h9) rfl dX11_busy_1 ?_
  refine callv_i (As := []) (rest := []) hC (c_X3_greatest_18 l D cA H.size ad F L A B  hq.1) (cwV 0 hg (g_V mw_757 mw_754 mw_755 mw_756 mw_9) rfl rfl rfl (by decide +kernel) ⟨(Nat.le_of_ble_eq_true rfl), (Nat.le_of_ble_eq_true rfl)⟩) hP hD hS hA atX_18 rfl rfl hl.1 rfl (Nat.le_of_ble_eq_true rfl) dX11_busy_4 ⟨Nat.zero_le _, Nat.zero_le _⟩ (fun x1 u H locs hw hP hD hS => ?_)
  have r2 := hw
  have hP : va_P D classes (wX cA ad F L A B) H := hP
  have hD : va_D Af (wX cA ad F L A B) := hD
  refine lv_istore_n (lv' := [(2, .int x1), (0, .ref (ad 0)), (1, .int p1)]) hx hb dX11_busy_7 rfl hl (by decide) rfl (fun ls hl => ?_)
  refine lv_iload_n hx hb dX11_busy_8 rfl (lv_at hl 2 rfl) ?_
  refine lv_if_eq (tgt := 22) hx hb dX11_busy_9 (by decide) (fun c3 => ?_) (fun c3 => ?_)
  · skip
    refine lv_aload_n hx hb dX11_busy_22 rfl (lv_at hl 1 rfl) ?_
    refine va_get (ci := 11) (v := .ref (ad 11)) (C := RX11) (T := TX11) (N := 13) hx hb hg inX11 hown hK hP 0 atX_0 rfl 10 (by decide) (hg _ mw_535) (fun _ h9 => h9) rfl dX11_busy_23 ?_
    refine va_get (ci := 10) (v := .int (F 15)) (C := RX10) (T := TX10) (N := 12) hx hb hg inX10 hown hK hP 11 atX_11 rfl 6 (by decide) (hg _ mw_169) (fun _ h9 => h9) rfl dX11_busy_26 ?_
    refine lv_topi (fun x4 e5 => ?_)
    have r6 : rg x4 0 8 := rg_e e5 (hq.1.1 15)
    have J29 : ∀ (H : Heap) (locs : List Loc) (ls : Array Slot), va_P D classes (wX cA ad F L A B) H → va_D Af (wX cA ad F L A B) → va_S Af s.heap H locs → lv_has ls 7 [(0, .ref (ad 0)), (1, .int p1), (2, .int x1)] → W p l e rm_X11_busy_0_v0 s m args below meth c H locs 0 0 Q (F0 m 29 ls [.int x4]) := by
      intro H locs ls hP hD hS hl
      refine lv_istore_n (lv' := [(3, .int x4), (0, .ref (ad 0)), (1, .int p1), (2, .int x1)]) hx hb dX11_busy_29 rfl hl (by decide) rfl (fun ls hl => ?_)
      refine lv_iconst (v := 0) hx hb dX11_busy_30 (by decide) ?_
      refine lv_istore (lv' := [(4, .int 0), (3, .int x4), (0, .ref (ad 0)), (1, .int p1), (2, .int x1)]) hx hb dX11_busy_31 hl (by decide) rfl (fun ls hl => ?_)
      refine lv_iconst (v := 0) hx hb dX11_busy_33 (by decide) ?_
      refine lv_istore (lv' := [(5, .int 0), (4, .int 0), (3, .int x4), (0, .ref (ad 0)), (1, .int p1), (2, .int x1)]) hx hb dX11_busy_34 hl (by decide) rfl (fun ls hl => ?_)
      have J36 : ∀ (n36 : Nat) (a7 : Int32) (a9 : Int32) (H : Heap) (locs : List Loc) (ls : Array Slot), (8 - a9.toInt).toNat < n36 → rg a7 0 255 → rg a9 0 8 → va_P D classes (wX cA ad F L A B) H → va_D Af (wX cA ad F L A B) → va_S Af s.heap H locs → lv_has ls 7 [(0, .ref (ad 0)), (1, .int p1), (2, .int x1), (3, .int x4), (4, .int a7), (5, .int a9)] → W p l e rm_X11_busy_0_v0 s m args below meth c H locs 0 0 Q (F0 m 36 ls []) := by
        intro n36
        induction n36 with
        | zero =>
          intro _ _ _ _ _ hn
          exact absurd hn (Nat.not_lt_zero _)
        | succ n36 ih36 =>
          intro a7 a9 H locs ls hn36 r8 r10 hP hD hS hl
          refine lv_iload hx hb dX11_busy_36 (lv_at hl 5 rfl) ?_
          refine lv_iload_n hx hb dX11_busy_38 rfl (lv_at hl 3 rfl) ?_
          refine lv_icmp_ge (tgt := 90) hx hb dX11_busy_39 (by decide) (fun c11 => ?_) (fun c11 => ?_)
          · skip
            refine lv_iload hx hb dX11_busy_90 (lv_at hl 4 rfl) ?_
            exact hret (a7) () H locs 92 ls rfl dX11_busy_92 hP hD hS r8
          · skip
            have r12 : rg a9 0 7 := rg_lt1 (iNE c11) (r10 : rg a9 0 8) (r6 : rg x4 0 8)
            have r13 : rg x4 1 8 := rg_lt2 (iNE c11) (r10 : rg a9 0 8) (r6 : rg x4 0 8)
            refine lv_iload_n hx hb dX11_busy_42 rfl (lv_at hl 1 rfl) ?_
            refine lv_if_eq (tgt := 58) hx hb dX11_busy_43 (by decide) (fun c14 => ?_) (fun c14 => ?_)
            · skip
              refine lv_aload_n hx hb dX11_busy_58 rfl (lv_at hl 0 rfl) ?_
              refine va_get (ci := 11) (v := .ref (ad 18)) (C := RX11) (T := TX11) (N := 13) hx hb hg inX11 hown hK hP 0 atX_0 rfl 2 (by decide) (hg _ mw_527) (fun _ h9 => h9) rfl dX11_busy_59 ?_
              refine lv_iload hx hb dX11_busy_62 (lv_at hl 5 rfl) ?_
              refine callv_i (As := [.int a9]) (rest := []) hC (c_X3_ofSmith_18 l D cA H.size ad F L A B (a9) hq.1 r12) (cwV 1 hg (g_V mw_749 mw_746 mw_747 mw_748 mw_9) rfl rfl rfl (by decide +kernel) ⟨(Nat.le_of_ble_eq_true rfl), (Nat.le_of_ble_eq_true rfl)⟩) hP hD hS hA atX_18 rfl rfl hl.1 rfl (Nat.le_of_ble_eq_true rfl) dX11_busy_64 ⟨Nat.zero_le _, Nat.zero_le _⟩ (fun x15 u H locs hw hP hD hS => ?_)
              have hP : va_P D classes (wX cA ad F L A B) H := hP
              have hD : va_D Af (wX cA ad F L A B) := hD
              have J67 : ∀ (H : Heap) (locs : List Loc) (ls : Array Slot), va_P D classes (wX cA ad F L A B) H → va_D Af (wX cA ad F L A B) → va_S Af s.heap H locs → lv_has ls 7 [(0, .ref (ad 0)), (1, .int p1), (2, .int x1), (3, .int x4), (4, .int a7), (5, .int a9)] → W p l e rm_X11_busy_0_v0 s m args below meth c H locs 0 0 Q (F0 m 67 ls [.int x15]) := by
                intro H locs ls hP hD hS hl
                refine lv_istore (lv' := [(6, .int x15), (0, .ref (ad 0)), (1, .int p1), (2, .int x1), (3, .int x4), (4, .int a7), (5, .int a9)]) hx hb dX11_busy_67 hl (by decide) rfl (fun ls hl => ?_)
                refine lv_iload hx hb dX11_busy_69 (lv_at hl 0 rfl) ?_
                refine lv_iload_n hx hb dX11_busy_71 rfl (lv_at hl 3 rfl) ?_
                have J84 : ∀ (a16 : Int32) (H : Heap) (locs : List Loc) (ls : Array Slot), rg a16 0 255 → va_P D classes (wX cA ad F L A B) H → va_D Af (wX cA ad F L A B) → va_S Af s.heap H locs → lv_has ls 7 [(0, .ref (ad 0)), (1, .int p1), (2, .int x1), (3, .int x4), (4, .int a16), (5, .int a9)] → W p l e rm_X11_busy_0_v0 s m args below meth c H locs 0 0 Q (F0 m 84 ls []) := by
                  intro a16 H locs ls r17 hP hD hS hl
                  obtain ⟨x18, e19⟩ : ∃ y : Int32, y = a9 + 1 := ⟨_, rfl⟩
                  have r20 : rg x18 1 8 := rg_add e19 r12 (rg_k (by decide) : rg 1 1 1) (by decide)
                  refine lv_iinc (v := x18) (lv' := [(5, .int x18), (0, .ref (ad 0)), (1, .int p1), (2, .int x1), (3, .int x4), (4, .int a16)]) hx hb dX11_busy_84 hl (k := 5) rfl (by rw [e19]; rfl) (by decide) rfl (fun ls hl => ?_)
                  refine lv_goto (tgt := 36) hx hb dX11_busy_87 (by decide) ?_
                  exact ih36 (a16) (x18) H locs ls (by have h0 : (1 : Int32).toInt = 1 := rfl; have h1 := ti_addk e19 r12 (by decide); have h2 : rg x18 0 8 := (rg_w r20 (by decide)); unfold rg at h2; omega) r17 (rg_w r20 (by decide)) hP hD hS (lv_sub hl [1, 2, 3, 4, 5, 0] rfl)
                refine lv_icmp_ne (tgt := 84) hx hb dX11_busy_72 (by decide) (fun c21 => ?_) (fun c21 => ?_)
                · skip
                  exact J84 (a7) H locs ls r8 hP hD hS (lv_sub hl [1, 2, 3, 4, 5, 6] rfl)
                · skip
                  have r22 : rg x15 0 2147483647 := rg_eq1 c21 ((rg_top _) : rg x15 (-2147483648) 2147483647) (r2 : rg x1 0 2147483647) (by decide)
                  refine lv_iload hx hb dX11_busy_75 (lv_at hl 5 rfl) ?_
                  refine lv_iconst (v := 1) hx hb dX11_busy_77 (by decide) ?_
                  refine lv_iload hx hb dX11_busy_78 (lv_at hl 6 rfl) ?_
                  refine lv_ishl hx hb dX11_busy_80 ?_
                  refine lv_topi (fun x23 e24 => ?_)
                  have r25 : rg x23 1 128 := rg_shl1 e24 r12 (by decide)
                  refine lv_ior hx hb dX11_busy_81 ?_
                  refine lv_topi (fun x26 e27 => ?_)
                  have r28 : rg x26 0 255 := rg_or 8 e27 r8 r25 (by decide)
                  refine lv_istore (lv' := [(4, .int x26), (6, .int x15), (0, .ref (ad 0)), (1, .int p1), (2, .int x1), (3, .int x4), (5, .int a9)]) hx hb dX11_busy_82 hl (by decide) rfl (fun ls hl => ?_)
                  exact J84 (x26) H locs ls r28 hP hD hS (lv_sub hl [2, 3, 4, 5, 0, 6] rfl)
              exact J67  H locs ls  hP hD hS (lv_sub hl [0, 1, 2, 3, 4, 5] rfl)
            · skip
              exact rg_emp (((rg_ne1 c14 (hp1 : rg p1 0 0) ((rg_k (by decide)) : rg 0 0 0)).1 rfl) : rg p1 1 0) (by decide)
      exact J36 _ (0) (0) H locs ls (Nat.lt_succ_self _) (rg_k (by decide)) (rg_k (by decide)) hP hD hS (lv_sub hl [3, 4, 5, 2, 1, 0] rfl)
    exact J29  H locs ls  hP hD hS (lv_sub hl [1, 2, 0] rfl)
  · skip
    exact rg_emp (((rg_ne1 c3 (hp1 : rg p1 0 0) ((rg_k (by decide)) : rg 0 0 0)).1 rfl) : rg p1 1 0) (by decide)
abbrev rm_X11_busy_0_v1 : Room := { frames := 3, cells := 0, slots := 0, locals := 66 }
set_option maxHeartbeats 4000000 in
set_option maxRecDepth 100000 in
theorem c_X11_busy_0_v1 (l : Launch) (D : va_G) (cA : Nat → ClassId) (sz : Nat) (ad : Nat → Nat) (F : Nat → Int32) (L : Nat → Int64) (A : Nat → Nat → Int32) (B : Nat → Nat → Int64) (p1 : Int32) (hT : typX F A) (hp1 : rg p1 1 1) : Met l yX11_busy (Cond.code yX11_busy cX11_busy 7 (some .int) :: GW) rm_X11_busy_0_v1 (mPc D classes (tysX cA) (wX cA ad F L A B) sz [.ref (ad 0), .int p1]) (mQi (S := Unit) D classes (tysX cA) (wX cA ad F L A B) sz (fun _ : Unit => wX cA ad F L A B) (fun r u => rg r 0 1023)) 0 0 (va_A (wX cA ad F L A B) sz) := by
  refine met_i (own := "ShoeingDay") (by decide +kernel) rfl (Nat.le_of_ble_eq_true rfl) ?_
  intro p e s m args below meth c Q Af ls hC hP hD hS hA hl hret
  have hx := hC.1
  have hb := hC.2.1
  have hown := hC.2.2.2.1
  have hg := hC.g
  have hK := hC.K
  have hl : lv_has ls 7 [(0, .ref (ad 0)), (1, .int p1)] := hl
  have hq : qX [] [] F A F A := qX.rf hT
  obtain ⟨H, hH⟩ : ∃ H, H = s.heap := ⟨_, rfl⟩
  have hP : va_P D classes (wX cA ad F L A B) H := by rw [hH]; exact hP
  have hS : va_S Af s.heap H [] := by rw [hH]; exact hS
  obtain ⟨locs, hlo⟩ : ∃ q : List Loc, q = [] := ⟨_, rfl⟩
  rw [← hH, ← hlo]
  rw [← hlo] at hS
  refine lv_aload_n hx hb dX11_busy_0 rfl (lv_at hl 0 rfl) ?_
  refine va_get (ci := 11) (v := .ref (ad 18)) (C := RX11) (T := TX11) (N := 13) hx hb hg inX11 hown hK hP 0 atX_0 rfl 2 (by decide) (hg _ mw_527) (fun _ h9 => h9) rfl dX11_busy_1 ?_
  refine callv_i (As := []) (rest := []) hC (c_X3_greatest_18 l D cA H.size ad F L A B  hq.1) (cwV 0 hg (g_V mw_757 mw_754 mw_755 mw_756 mw_9) rfl rfl rfl (by decide +kernel) ⟨(Nat.le_of_ble_eq_true rfl), (Nat.le_of_ble_eq_true rfl)⟩) hP hD hS hA atX_18 rfl rfl hl.1 rfl (Nat.le_of_ble_eq_true rfl) dX11_busy_4 ⟨Nat.zero_le _, Nat.zero_le _⟩ (fun x1 u H locs hw hP hD hS => ?_)
  have r2 := hw
  have hP : va_P D classes (wX cA ad F L A B) H := hP
  have hD : va_D Af (wX cA ad F L A B) := hD
  refine lv_istore_n (lv' := [(2, .int x1), (0, .ref (ad 0)), (1, .int p1)]) hx hb dX11_busy_7 rfl hl (by decide) rfl (fun ls hl => ?_)
  refine lv_iload_n hx hb dX11_busy_8 rfl (lv_at hl 2 rfl) ?_
  refine lv_if_eq (tgt := 22) hx hb dX11_busy_9 (by decide) (fun c3 => ?_) (fun c3 => ?_)
  · skip
    exact rg_emp (rg_eq1 c3 (hp1 : rg p1 1 1) ((rg_k (by decide)) : rg 0 0 0) (by decide) : rg p1 1 0) (by decide)
  · skip
    refine lv_aload_n hx hb dX11_busy_12 rfl (lv_at hl 1 rfl) ?_
    refine va_get (ci := 11) (v := .ref (ad 11)) (C := RX11) (T := TX11) (N := 13) hx hb hg inX11 hown hK hP 0 atX_0 rfl 10 (by decide) (hg _ mw_535) (fun _ h9 => h9) rfl dX11_busy_13 ?_
    refine va_get (ci := 10) (v := .int (F 16)) (C := RX10) (T := TX10) (N := 12) hx hb hg inX10 hown hK hP 11 atX_11 rfl 7 (by decide) (hg _ mw_174) (fun _ h9 => h9) rfl dX11_busy_16 ?_
    refine lv_topi (fun x5 e6 => ?_)
    have r7 : rg x5 0 10 := rg_e e6 (hq.1.1 16)
    refine lv_goto (tgt := 29) hx hb dX11_busy_19 (by decide) ?_
    have J29 : ∀ (H : Heap) (locs : List Loc) (ls : Array Slot), va_P D classes (wX cA ad F L A B) H → va_D Af (wX cA ad F L A B) → va_S Af s.heap H locs → lv_has ls 7 [(0, .ref (ad 0)), (1, .int p1), (2, .int x1)] → W p l e rm_X11_busy_0_v1 s m args below meth c H locs 0 0 Q (F0 m 29 ls [.int x5]) := by
      intro H locs ls hP hD hS hl
      refine lv_istore_n (lv' := [(3, .int x5), (0, .ref (ad 0)), (1, .int p1), (2, .int x1)]) hx hb dX11_busy_29 rfl hl (by decide) rfl (fun ls hl => ?_)
      refine lv_iconst (v := 0) hx hb dX11_busy_30 (by decide) ?_
      refine lv_istore (lv' := [(4, .int 0), (3, .int x5), (0, .ref (ad 0)), (1, .int p1), (2, .int x1)]) hx hb dX11_busy_31 hl (by decide) rfl (fun ls hl => ?_)
      refine lv_iconst (v := 0) hx hb dX11_busy_33 (by decide) ?_
      refine lv_istore (lv' := [(5, .int 0), (4, .int 0), (3, .int x5), (0, .ref (ad 0)), (1, .int p1), (2, .int x1)]) hx hb dX11_busy_34 hl (by decide) rfl (fun ls hl => ?_)
      have J36 : ∀ (n36 : Nat) (a8 : Int32) (a10 : Int32) (H : Heap) (locs : List Loc) (ls : Array Slot), (10 - a10.toInt).toNat < n36 → rg a8 0 1023 → rg a10 0 10 → va_P D classes (wX cA ad F L A B) H → va_D Af (wX cA ad F L A B) → va_S Af s.heap H locs → lv_has ls 7 [(0, .ref (ad 0)), (1, .int p1), (2, .int x1), (3, .int x5), (4, .int a8), (5, .int a10)] → W p l e rm_X11_busy_0_v1 s m args below meth c H locs 0 0 Q (F0 m 36 ls []) := by
        intro n36
        induction n36 with
        | zero =>
          intro _ _ _ _ _ hn
          exact absurd hn (Nat.not_lt_zero _)
        | succ n36 ih36 =>
          intro a8 a10 H locs ls hn36 r9 r11 hP hD hS hl
          refine lv_iload hx hb dX11_busy_36 (lv_at hl 5 rfl) ?_
          refine lv_iload_n hx hb dX11_busy_38 rfl (lv_at hl 3 rfl) ?_
          refine lv_icmp_ge (tgt := 90) hx hb dX11_busy_39 (by decide) (fun c12 => ?_) (fun c12 => ?_)
          · skip
            refine lv_iload hx hb dX11_busy_90 (lv_at hl 4 rfl) ?_
            exact hret (a8) () H locs 92 ls rfl dX11_busy_92 hP hD hS r9
          · skip
            have r13 : rg a10 0 9 := rg_lt1 (iNE c12) (r11 : rg a10 0 10) (r7 : rg x5 0 10)
            have r14 : rg x5 1 10 := rg_lt2 (iNE c12) (r11 : rg a10 0 10) (r7 : rg x5 0 10)
            refine lv_iload_n hx hb dX11_busy_42 rfl (lv_at hl 1 rfl) ?_
            refine lv_if_eq (tgt := 58) hx hb dX11_busy_43 (by decide) (fun c15 => ?_) (fun c15 => ?_)
            · skip
              exact rg_emp (rg_eq1 c15 (hp1 : rg p1 1 1) ((rg_k (by decide)) : rg 0 0 0) (by decide) : rg p1 1 0) (by decide)
            · skip
              refine lv_aload_n hx hb dX11_busy_46 rfl (lv_at hl 0 rfl) ?_
              refine va_get (ci := 11) (v := .ref (ad 18)) (C := RX11) (T := TX11) (N := 13) hx hb hg inX11 hown hK hP 0 atX_0 rfl 2 (by decide) (hg _ mw_527) (fun _ h9 => h9) rfl dX11_busy_47 ?_
              refine lv_iload hx hb dX11_busy_50 (lv_at hl 5 rfl) ?_
              refine callv_i (As := [.int a10]) (rest := []) hC (c_X3_ofHorse_18 l D cA H.size ad F L A B (a10) hq.1 r13) (cwV 1 hg (g_V mw_744 mw_741 mw_742 mw_743 mw_9) rfl rfl rfl (by decide +kernel) ⟨(Nat.le_of_ble_eq_true rfl), (Nat.le_of_ble_eq_true rfl)⟩) hP hD hS hA atX_18 rfl rfl hl.1 rfl (Nat.le_of_ble_eq_true rfl) dX11_busy_52 ⟨Nat.zero_le _, Nat.zero_le _⟩ (fun x17 u H locs hw hP hD hS => ?_)
              have hP : va_P D classes (wX cA ad F L A B) H := hP
              have hD : va_D Af (wX cA ad F L A B) := hD
              refine lv_goto (tgt := 67) hx hb dX11_busy_55 (by decide) ?_
              have J67 : ∀ (H : Heap) (locs : List Loc) (ls : Array Slot), va_P D classes (wX cA ad F L A B) H → va_D Af (wX cA ad F L A B) → va_S Af s.heap H locs → lv_has ls 7 [(0, .ref (ad 0)), (1, .int p1), (2, .int x1), (3, .int x5), (4, .int a8), (5, .int a10)] → W p l e rm_X11_busy_0_v1 s m args below meth c H locs 0 0 Q (F0 m 67 ls [.int x17]) := by
                intro H locs ls hP hD hS hl
                refine lv_istore (lv' := [(6, .int x17), (0, .ref (ad 0)), (1, .int p1), (2, .int x1), (3, .int x5), (4, .int a8), (5, .int a10)]) hx hb dX11_busy_67 hl (by decide) rfl (fun ls hl => ?_)
                refine lv_iload hx hb dX11_busy_69 (lv_at hl 0 rfl) ?_
                refine lv_iload_n hx hb dX11_busy_71 rfl (lv_at hl 3 rfl) ?_
                have J84 : ∀ (a18 : Int32) (H : Heap) (locs : List Loc) (ls : Array Slot), rg a18 0 1023 → va_P D classes (wX cA ad F L A B) H → va_D Af (wX cA ad F L A B) → va_S Af s.heap H locs → lv_has ls 7 [(0, .ref (ad 0)), (1, .int p1), (2, .int x1), (3, .int x5), (4, .int a18), (5, .int a10)] → W p l e rm_X11_busy_0_v1 s m args below meth c H locs 0 0 Q (F0 m 84 ls []) := by
                  intro a18 H locs ls r19 hP hD hS hl
                  obtain ⟨x20, e21⟩ : ∃ y : Int32, y = a10 + 1 := ⟨_, rfl⟩
                  have r22 : rg x20 1 10 := rg_add e21 r13 (rg_k (by decide) : rg 1 1 1) (by decide)
                  refine lv_iinc (v := x20) (lv' := [(5, .int x20), (0, .ref (ad 0)), (1, .int p1), (2, .int x1), (3, .int x5), (4, .int a18)]) hx hb dX11_busy_84 hl (k := 5) rfl (by rw [e21]; rfl) (by decide) rfl (fun ls hl => ?_)
                  refine lv_goto (tgt := 36) hx hb dX11_busy_87 (by decide) ?_
                  exact ih36 (a18) (x20) H locs ls (by have h0 : (1 : Int32).toInt = 1 := rfl; have h1 := ti_addk e21 r13 (by decide); have h2 : rg x20 0 10 := (rg_w r22 (by decide)); unfold rg at h2; omega) r19 (rg_w r22 (by decide)) hP hD hS (lv_sub hl [1, 2, 3, 4, 5, 0] rfl)
                refine lv_icmp_ne (tgt := 84) hx hb dX11_busy_72 (by decide) (fun c23 => ?_) (fun c23 => ?_)
                · skip
                  exact J84 (a8) H locs ls r9 hP hD hS (lv_sub hl [1, 2, 3, 4, 5, 6] rfl)
                · skip
                  have r24 : rg x17 0 2147483647 := rg_eq1 c23 ((rg_top _) : rg x17 (-2147483648) 2147483647) (r2 : rg x1 0 2147483647) (by decide)
                  refine lv_iload hx hb dX11_busy_75 (lv_at hl 5 rfl) ?_
                  refine lv_iconst (v := 1) hx hb dX11_busy_77 (by decide) ?_
                  refine lv_iload hx hb dX11_busy_78 (lv_at hl 6 rfl) ?_
                  refine lv_ishl hx hb dX11_busy_80 ?_
                  refine lv_topi (fun x25 e26 => ?_)
                  have r27 : rg x25 1 512 := rg_shl1 e26 r13 (by decide)
                  refine lv_ior hx hb dX11_busy_81 ?_
                  refine lv_topi (fun x28 e29 => ?_)
                  have r30 : rg x28 0 1023 := rg_or 10 e29 r9 r27 (by decide)
                  refine lv_istore (lv' := [(4, .int x28), (6, .int x17), (0, .ref (ad 0)), (1, .int p1), (2, .int x1), (3, .int x5), (5, .int a10)]) hx hb dX11_busy_82 hl (by decide) rfl (fun ls hl => ?_)
                  exact J84 (x28) H locs ls r30 hP hD hS (lv_sub hl [2, 3, 4, 5, 0, 6] rfl)
              exact J67  H locs ls  hP hD hS (lv_sub hl [0, 1, 2, 3, 4, 5] rfl)
      exact J36 _ (0) (0) H locs ls (Nat.lt_succ_self _) (rg_k (by decide)) (rg_k (by decide)) hP hD hS (lv_sub hl [3, 4, 5, 2, 1, 0] rfl)
    exact J29  H locs ls  hP hD hS (lv_sub hl [1, 2, 0] rfl)
abbrev rm_X1_clear_34 : Room := { frames := 1, cells := 0, slots := 0, locals := 23 }
set_option maxHeartbeats 4000000 in
set_option maxRecDepth 100000 in
theorem c_X1_clear_34 (l : Launch) (D : va_G) (cA : Nat → ClassId) (sz : Nat) (ad : Nat → Nat) (F : Nat → Int32) (L : Nat → Int64) (A : Nat → Nat → Int32) (B : Nat → Nat → Int64)  (hT : typX F A) : Met l yX1_clear (Cond.code yX1_clear cX1_clear 1 none :: GW) rm_X1_clear_34 (mPc D classes (tysX cA) (wX cA ad F L A B) sz [.ref (ad 34)]) (mQv (S := SW) D classes (tysX cA) (wX cA ad F L A B) sz (wfX cA ad) (fun u => qX [] [36, 37] F A u.1 u.2.2.1)) 0 0 (va_A (wX cA ad F L A B) sz) := by
  refine met_v (own := "ShoeingDay$Cover") (by decide +kernel) rfl (Nat.le_of_ble_eq_true rfl) ?_
  intro p e s m args below meth c Q Af ls hC hP hD hS hA hl hret
  have hx := hC.1
  have hb := hC.2.1
  have hown := hC.2.2.2.1
  have hg := hC.g
  have hK := hC.K
  have hl : lv_has ls 1 [(0, .ref (ad 34))] := hl
  have hq : qX [] [36, 37] F A F A := qX.rf hT
  obtain ⟨H, hH⟩ : ∃ H, H = s.heap := ⟨_, rfl⟩
  have hP : va_P D classes (wX cA ad F L A B) H := by rw [hH]; exact hP
  have hS : va_S Af s.heap H [] := by rw [hH]; exact hS
  obtain ⟨locs, hlo⟩ : ∃ q : List Loc, q = [] := ⟨_, rfl⟩
  rw [← hH, ← hlo]
  rw [← hlo] at hS
  refine lv_aload_n hx hb dX1_clear_0 rfl (lv_at hl 0 rfl) ?_
  refine va_get (ci := 1) (v := .ref (ad 36)) (C := RX1) (T := TX1) (N := 5) hx hb hg inX1 hown hK hP 34 atX_34 rfl 1 (by decide) (hg _ mw_322) (fun _ h9 => h9) rfl dX1_clear_1 ?_
  refine lv_iconst (v := (-1)) hx hb dX1_clear_4 (by decide) ?_
  refine calls_v (As := [.ref (ad 36), .int (-1)]) (rest := []) hC (c_fill l D (tysX cA) (wX cA ad F L A B) 36 25 H.size (ad 36) 10 ((-1) : Int32) atX_36 tyX_36 (by decide)) (cwF 2 hg mw_792 mw_279 mw_13 mw_280 ⟨rfl, rfl⟩ (by decide +kernel) ⟨(Nat.le_of_ble_eq_true rfl), (Nat.le_of_ble_eq_true rfl)⟩) hP hD hS hA rfl hl.1 rfl (Nat.le_of_ble_eq_true rfl) dX1_clear_5 ⟨Nat.zero_le _, Nat.zero_le _⟩ (fun u H locs _ hP hD hS => ?_)
  have hq := hq.fill 36 10 (x := ((-1) : Int32)) (by decide) (rg_k (by decide))
  rw [setX_36] at hP hD
  have hP : va_P D classes (wX cA ad F L (va_up A 36 (fun j => if j < 10 then ((-1) : Int32) else A 36 j)) B) H := hP
  have hD : va_D Af (wX cA ad F L (va_up A 36 (fun j => if j < 10 then ((-1) : Int32) else A 36 j)) B) := hD
  refine lv_aload_n hx hb dX1_clear_8 rfl (lv_at hl 0 rfl) ?_
  refine va_get (ci := 1) (v := .ref (ad 37)) (C := RX1) (T := TX1) (N := 5) hx hb hg inX1 hown hK hP 34 atX_34 rfl 2 (by decide) (hg _ mw_324) (fun _ h9 => h9) rfl dX1_clear_9 ?_
  refine lv_iconst (v := (-1)) hx hb dX1_clear_12 (by decide) ?_
  refine calls_v (As := [.ref (ad 37), .int (-1)]) (rest := []) hC (c_fill l D (tysX cA) (wX cA ad F L (va_up A 36 (fun j => if j < 10 then ((-1) : Int32) else A 36 j)) B) 37 26 H.size (ad 37) 10 ((-1) : Int32) atX_37 tyX_37 (by decide)) (cwF 2 hg mw_792 mw_279 mw_13 mw_280 ⟨rfl, rfl⟩ (by decide +kernel) ⟨(Nat.le_of_ble_eq_true rfl), (Nat.le_of_ble_eq_true rfl)⟩) hP hD hS hA rfl hl.1 rfl (Nat.le_of_ble_eq_true rfl) dX1_clear_13 ⟨Nat.zero_le _, Nat.zero_le _⟩ (fun u H locs _ hP hD hS => ?_)
  have hq := hq.fill 37 10 (x := ((-1) : Int32)) (by decide) (rg_k (by decide))
  rw [setX_37] at hP hD
  have hP : va_P D classes (wX cA ad F L (va_up (va_up A 36 (fun j => if j < 10 then ((-1) : Int32) else A 36 j)) 37 (fun j => if j < 10 then ((-1) : Int32) else (va_up A 36 (fun j => if j < 10 then ((-1) : Int32) else A 36 j)) 37 j)) B) H := hP
  have hD : va_D Af (wX cA ad F L (va_up (va_up A 36 (fun j => if j < 10 then ((-1) : Int32) else A 36 j)) 37 (fun j => if j < 10 then ((-1) : Int32) else (va_up A 36 (fun j => if j < 10 then ((-1) : Int32) else A 36 j)) 37 j)) B) := hD
  exact hret (F, L, (va_up (va_up A 36 (fun j => if j < 10 then ((-1) : Int32) else A 36 j)) 37 (fun j => if j < 10 then ((-1) : Int32) else (va_up A 36 (fun j => if j < 10 then ((-1) : Int32) else A 36 j)) 37 j)), B) H locs 16 ls dX1_clear_16 hP hD hS hq
abbrev rm_X1_clear_40 : Room := { frames := 1, cells := 0, slots := 0, locals := 23 }
set_option maxHeartbeats 4000000 in
set_option maxRecDepth 100000 in
theorem c_X1_clear_40 (l : Launch) (D : va_G) (cA : Nat → ClassId) (sz : Nat) (ad : Nat → Nat) (F : Nat → Int32) (L : Nat → Int64) (A : Nat → Nat → Int32) (B : Nat → Nat → Int64)  (hT : typX F A) : Met l yX1_clear (Cond.code yX1_clear cX1_clear 1 none :: GW) rm_X1_clear_40 (mPc D classes (tysX cA) (wX cA ad F L A B) sz [.ref (ad 40)]) (mQv (S := SW) D classes (tysX cA) (wX cA ad F L A B) sz (wfX cA ad) (fun u => qX [] [42, 43] F A u.1 u.2.2.1)) 0 0 (va_A (wX cA ad F L A B) sz) := by
  refine met_v (own := "ShoeingDay$Cover") (by decide +kernel) rfl (Nat.le_of_ble_eq_true rfl) ?_
  intro p e s m args below meth c Q Af ls hC hP hD hS hA hl hret
  have hx := hC.1
  have hb := hC.2.1
  have hown := hC.2.2.2.1
  have hg := hC.g
  have hK := hC.K
  have hl : lv_has ls 1 [(0, .ref (ad 40))] := hl
  have hq : qX [] [42, 43] F A F A := qX.rf hT
  obtain ⟨H, hH⟩ : ∃ H, H = s.heap := ⟨_, rfl⟩
  have hP : va_P D classes (wX cA ad F L A B) H := by rw [hH]; exact hP
  have hS : va_S Af s.heap H [] := by rw [hH]; exact hS
  obtain ⟨locs, hlo⟩ : ∃ q : List Loc, q = [] := ⟨_, rfl⟩
  rw [← hH, ← hlo]
  rw [← hlo] at hS
  refine lv_aload_n hx hb dX1_clear_0 rfl (lv_at hl 0 rfl) ?_
  refine va_get (ci := 1) (v := .ref (ad 42)) (C := RX1) (T := TX1) (N := 5) hx hb hg inX1 hown hK hP 40 atX_40 rfl 1 (by decide) (hg _ mw_322) (fun _ h9 => h9) rfl dX1_clear_1 ?_
  refine lv_iconst (v := (-1)) hx hb dX1_clear_4 (by decide) ?_
  refine calls_v (As := [.ref (ad 42), .int (-1)]) (rest := []) hC (c_fill l D (tysX cA) (wX cA ad F L A B) 42 30 H.size (ad 42) 10 ((-1) : Int32) atX_42 tyX_42 (by decide)) (cwF 2 hg mw_792 mw_279 mw_13 mw_280 ⟨rfl, rfl⟩ (by decide +kernel) ⟨(Nat.le_of_ble_eq_true rfl), (Nat.le_of_ble_eq_true rfl)⟩) hP hD hS hA rfl hl.1 rfl (Nat.le_of_ble_eq_true rfl) dX1_clear_5 ⟨Nat.zero_le _, Nat.zero_le _⟩ (fun u H locs _ hP hD hS => ?_)
  have hq := hq.fill 42 10 (x := ((-1) : Int32)) (by decide) (rg_k (by decide))
  rw [setX_42] at hP hD
  have hP : va_P D classes (wX cA ad F L (va_up A 42 (fun j => if j < 10 then ((-1) : Int32) else A 42 j)) B) H := hP
  have hD : va_D Af (wX cA ad F L (va_up A 42 (fun j => if j < 10 then ((-1) : Int32) else A 42 j)) B) := hD
  refine lv_aload_n hx hb dX1_clear_8 rfl (lv_at hl 0 rfl) ?_
  refine va_get (ci := 1) (v := .ref (ad 43)) (C := RX1) (T := TX1) (N := 5) hx hb hg inX1 hown hK hP 40 atX_40 rfl 2 (by decide) (hg _ mw_324) (fun _ h9 => h9) rfl dX1_clear_9 ?_
  refine lv_iconst (v := (-1)) hx hb dX1_clear_12 (by decide) ?_
  refine calls_v (As := [.ref (ad 43), .int (-1)]) (rest := []) hC (c_fill l D (tysX cA) (wX cA ad F L (va_up A 42 (fun j => if j < 10 then ((-1) : Int32) else A 42 j)) B) 43 31 H.size (ad 43) 10 ((-1) : Int32) atX_43 tyX_43 (by decide)) (cwF 2 hg mw_792 mw_279 mw_13 mw_280 ⟨rfl, rfl⟩ (by decide +kernel) ⟨(Nat.le_of_ble_eq_true rfl), (Nat.le_of_ble_eq_true rfl)⟩) hP hD hS hA rfl hl.1 rfl (Nat.le_of_ble_eq_true rfl) dX1_clear_13 ⟨Nat.zero_le _, Nat.zero_le _⟩ (fun u H locs _ hP hD hS => ?_)
  have hq := hq.fill 43 10 (x := ((-1) : Int32)) (by decide) (rg_k (by decide))
  rw [setX_43] at hP hD
  have hP : va_P D classes (wX cA ad F L (va_up (va_up A 42 (fun j => if j < 10 then ((-1) : Int32) else A 42 j)) 43 (fun j => if j < 10 then ((-1) : Int32) else (va_up A 42 (fun j => if j < 10 then ((-1) : Int32) else A 42 j)) 43 j)) B) H := hP
  have hD : va_D Af (wX cA ad F L (va_up (va_up A 42 (fun j => if j < 10 then ((-1) : Int32) else A 42 j)) 43 (fun j => if j < 10 then ((-1) : Int32) else (va_up A 42 (fun j => if j < 10 then ((-1) : Int32) else A 42 j)) 43 j)) B) := hD
  exact hret (F, L, (va_up (va_up A 42 (fun j => if j < 10 then ((-1) : Int32) else A 42 j)) 43 (fun j => if j < 10 then ((-1) : Int32) else (va_up A 42 (fun j => if j < 10 then ((-1) : Int32) else A 42 j)) 43 j)), B) H locs 16 ls dX1_clear_16 hP hD hS hq
abbrev rm_X1_assign_34 : Room := { frames := 0, cells := 0, slots := 0, locals := 0 }
set_option maxHeartbeats 4000000 in
set_option maxRecDepth 100000 in
theorem c_X1_assign_34 (l : Launch) (D : va_G) (cA : Nat → ClassId) (sz : Nat) (ad : Nat → Nat) (F : Nat → Int32) (L : Nat → Int64) (A : Nat → Nat → Int32) (B : Nat → Nat → Int64) (p1 : Int32) (p2 : Int32) (hT : typX F A) (hp1 : rg p1 0 9) (hp2 : rg p2 0 9) : Met l yX1_assign (Cond.code yX1_assign cX1_assign 3 none :: GW) rm_X1_assign_34 (mPc D classes (tysX cA) (wX cA ad F L A B) sz [.ref (ad 34), .int p1, .int p2]) (mQv (S := SW) D classes (tysX cA) (wX cA ad F L A B) sz (wfX cA ad) (fun u => qX [] [36, 37] F A u.1 u.2.2.1)) 0 0 (va_A (wX cA ad F L A B) sz) := by
  refine met_v (own := "ShoeingDay$Cover") (by decide +kernel) rfl (Nat.le_of_ble_eq_true rfl) ?_
  intro p e s m args below meth c Q Af ls hC hP hD hS hA hl hret
  have hx := hC.1
  have hb := hC.2.1
  have hown := hC.2.2.2.1
  have hg := hC.g
  have hK := hC.K
  have hl : lv_has ls 3 [(0, .ref (ad 34)), (1, .int p1), (2, .int p2)] := hl
  have hq : qX [] [36, 37] F A F A := qX.rf hT
  obtain ⟨H, hH⟩ : ∃ H, H = s.heap := ⟨_, rfl⟩
  have hP : va_P D classes (wX cA ad F L A B) H := by rw [hH]; exact hP
  have hS : va_S Af s.heap H [] := by rw [hH]; exact hS
  obtain ⟨locs, hlo⟩ : ∃ q : List Loc, q = [] := ⟨_, rfl⟩
  rw [← hH, ← hlo]
  rw [← hlo] at hS
  refine lv_aload_n hx hb dX1_assign_0 rfl (lv_at hl 0 rfl) ?_
  refine va_get (ci := 1) (v := .ref (ad 36)) (C := RX1) (T := TX1) (N := 5) hx hb hg inX1 hown hK hP 34 atX_34 rfl 1 (by decide) (hg _ mw_322) (fun _ h9 => h9) rfl dX1_assign_1 ?_
  refine lv_iload_n hx hb dX1_assign_4 rfl (lv_at hl 1 rfl) ?_
  refine lv_iload_n hx hb dX1_assign_5 rfl (lv_at hl 2 rfl) ?_
  refine va_iast hx hb hK hP hD hS 36 25 atX_36 tyX_36 (in_rg hp1 (by decide)) dX1_assign_6 (fun H locs hP hD hS => ?_)
  have hq := hq.ast 36 (p1).toNatClampNeg (x := p2) (by decide) (rg_w hp2 (by decide))
  rw [setX_36] at hP hD
  have k1 : p2 = (va_up A 36 (upd (A 36) (p1).toNatClampNeg p2)) 36 (p1).toNatClampNeg := (rdA).symm
  refine lv_aload_n hx hb dX1_assign_7 rfl (lv_at hl 0 rfl) ?_
  refine va_get (ci := 1) (v := .ref (ad 37)) (C := RX1) (T := TX1) (N := 5) hx hb hg inX1 hown hK hP 34 atX_34 rfl 2 (by decide) (hg _ mw_324) (fun _ h9 => h9) rfl dX1_assign_8 ?_
  refine lv_iload_n hx hb dX1_assign_11 rfl (lv_at hl 2 rfl) ?_
  refine lv_iload_n hx hb dX1_assign_12 rfl (lv_at hl 1 rfl) ?_
  refine va_iast hx hb hK hP hD hS 37 26 atX_37 tyX_37 (in_rg hp2 (by decide)) dX1_assign_13 (fun H locs hP hD hS => ?_)
  have hq := hq.ast 37 (p2).toNatClampNeg (x := p1) (by decide) (rg_w hp1 (by decide))
  rw [setX_37] at hP hD
  have k2 : p1 = (va_up (va_up A 36 (upd (A 36) (p1).toNatClampNeg p2)) 37 (upd ((va_up A 36 (upd (A 36) (p1).toNatClampNeg p2)) 37) (p2).toNatClampNeg p1)) 37 (p2).toNatClampNeg := (rdA).symm
  exact hret (F, L, (va_up (va_up A 36 (upd (A 36) (p1).toNatClampNeg p2)) 37 (upd ((va_up A 36 (upd (A 36) (p1).toNatClampNeg p2)) 37) (p2).toNatClampNeg p1)), B) H locs 14 ls dX1_assign_14 hP hD hS hq
abbrev rm_X1_changeSeats_34 : Room := { frames := 1, cells := 0, slots := 0, locals := 22 }
set_option maxHeartbeats 4000000 in
set_option maxRecDepth 100000 in
theorem c_X1_changeSeats_34 (l : Launch) (D : va_G) (cA : Nat → ClassId) (sz : Nat) (ad : Nat → Nat) (F : Nat → Int32) (L : Nat → Int64) (A : Nat → Nat → Int32) (B : Nat → Nat → Int64) (p1 : Int32) (hT : typX F A) (hp1 : rg p1 0 9) : Met l yX1_changeSeats (Cond.code yX1_changeSeats cX1_changeSeats 6 none :: GW) rm_X1_changeSeats_34 (mPc D classes (tysX cA) (wX cA ad F L A B) sz [.ref (ad 34), .int p1]) (mQv (S := SW) D classes (tysX cA) (wX cA ad F L A B) sz (wfX cA ad) (fun u => qX [] [36, 37] F A u.1 u.2.2.1)) 0 0 (va_A (wX cA ad F L A B) sz) := by
  refine met_v (own := "ShoeingDay$Cover") (by decide +kernel) rfl (Nat.le_of_ble_eq_true rfl) ?_
  intro p e s m args below meth c Q Af ls hC hP hD hS hA hl hret
  have hx := hC.1
  have hb := hC.2.1
  have hown := hC.2.2.2.1
  have hg := hC.g
  have hK := hC.K
  have hl : lv_has ls 6 [(0, .ref (ad 34)), (1, .int p1)] := hl
  have hq : qX [] [36, 37] F A F A := qX.rf hT
  obtain ⟨H, hH⟩ : ∃ H, H = s.heap := ⟨_, rfl⟩
  have hP : va_P D classes (wX cA ad F L A B) H := by rw [hH]; exact hP
  have hS : va_S Af s.heap H [] := by rw [hH]; exact hS
  obtain ⟨locs, hlo⟩ : ∃ q : List Loc, q = [] := ⟨_, rfl⟩
  rw [← hH, ← hlo]
  rw [← hlo] at hS
  refine lv_iload_n hx hb dX1_changeSeats_0 rfl (lv_at hl 1 rfl) ?_
  refine lv_istore_n (lv' := [(2, .int p1), (0, .ref (ad 34)), (1, .int p1)]) hx hb dX1_changeSeats_1 rfl hl (by decide) rfl (fun ls hl => ?_)
  refine lv_iconst (v := 0) hx hb dX1_changeSeats_2 (by decide) ?_
  refine lv_istore_n (lv' := [(3, .int 0), (2, .int p1), (0, .ref (ad 34)), (1, .int p1)]) hx hb dX1_changeSeats_3 rfl hl (by decide) rfl (fun ls hl => ?_)
  have J4 : ∀ (n4 : Nat) (a1 : Int32) (a3 : Int32) (F5 : Nat → Int32) (L5 : Nat → Int64) (A5 : Nat → Nat → Int32) (B5 : Nat → Nat → Int64) (H : Heap) (locs : List Loc) (ls : Array Slot), (10 - a3.toInt).toNat < n4 → rg a1 (-1) 9 → rg a3 0 10 → qX [] [36, 37] F A F5 A5 → va_P D classes (wX cA ad F5 L5 A5 B5) H → va_D Af (wX cA ad F5 L5 A5 B5) → va_S Af s.heap H locs → lv_has ls 6 [(0, .ref (ad 34)), (2, .int a1), (3, .int a3)] → W p l e rm_X1_changeSeats_34 s m args below meth c H locs 0 0 Q (F0 m 4 ls []) := by
    intro n4
    induction n4 with
    | zero =>
      intro _ _ _ _ _ _ _ _ _ hn
      exact absurd hn (Nat.not_lt_zero _)
    | succ n4 ih4 =>
      intro a1 a3 F5 L5 A5 B5 H locs ls hn4 r2 r4 hq hP hD hS hl
      refine lv_iload_n hx hb dX1_changeSeats_4 rfl (lv_at hl 2 rfl) ?_
      refine lv_bipush (v := 10) hx hb dX1_changeSeats_5 (by decide) ?_
      refine lv_icmp_ge (tgt := 48) hx hb dX1_changeSeats_7 (by decide) (fun c6 => ?_) (fun c6 => ?_)
      · skip
        have r7 : rg a3 10 10 := rg_le2 (iE c6) ((rg_k (by decide)) : rg 10 10 10) (r4 : rg a3 0 10)
        exact hret (F5, L5, A5, B5) H locs 48 ls dX1_changeSeats_48 hP hD hS hq
      · skip
        have r8 : rg a3 0 9 := rg_lt1 (iNE c6) (r4 : rg a3 0 10) ((rg_k (by decide)) : rg 10 10 10)
        refine lv_iload_n hx hb dX1_changeSeats_10 rfl (lv_at hl 1 rfl) ?_
        refine lv_iconst (v := (-1)) hx hb dX1_changeSeats_11 (by decide) ?_
        refine lv_icmp_eq (tgt := 48) hx hb dX1_changeSeats_12 (by decide) (fun c9 => ?_) (fun c9 => ?_)
        · skip
          have r10 : rg a1 (-1) (-1) := rg_eq1 c9 (r2 : rg a1 (-1) 9) ((rg_k (by decide)) : rg (-1) (-1) (-1)) (by decide)
          exact hret (F5, L5, A5, B5) H locs 48 ls dX1_changeSeats_48 hP hD hS hq
        · skip
          have r11 : rg a1 0 9 := (rg_ne1 c9 (r2 : rg a1 (-1) 9) ((rg_k (by decide)) : rg (-1) (-1) (-1))).1 rfl
          refine lv_aload_n hx hb dX1_changeSeats_15 rfl (lv_at hl 0 rfl) ?_
          refine va_get (ci := 1) (v := .ref (ad 38)) (C := RX1) (T := TX1) (N := 5) hx hb hg inX1 hown hK hP 34 atX_34 rfl 3 (by decide) (hg _ mw_326) (fun _ h9 => h9) rfl dX1_changeSeats_16 ?_
          refine lv_iload_n hx hb dX1_changeSeats_19 rfl (lv_at hl 1 rfl) ?_
          refine va_iald hx hb hK hP 38 27 atX_38 tyX_38 (in_rg r11 (by decide)) dX1_changeSeats_20 ?_
          refine lv_topi (fun x12 e13 => ?_)
          have r14 : rg x12 0 9 := rg_e e13 (hq.1.2 38 _)
          refine lv_istore (lv' := [(4, .int x12), (0, .ref (ad 34)), (2, .int a1), (3, .int a3)]) hx hb dX1_changeSeats_21 hl (by decide) rfl (fun ls hl => ?_)
          refine lv_aload_n hx hb dX1_changeSeats_23 rfl (lv_at hl 1 rfl) ?_
          refine va_get (ci := 1) (v := .ref (ad 36)) (C := RX1) (T := TX1) (N := 5) hx hb hg inX1 hown hK hP 34 atX_34 rfl 1 (by decide) (hg _ mw_322) (fun _ h9 => h9) rfl dX1_changeSeats_24 ?_
          refine lv_iload hx hb dX1_changeSeats_27 (lv_at hl 0 rfl) ?_
          refine va_iald hx hb hK hP 36 25 atX_36 tyX_36 (in_rg r14 (by decide)) dX1_changeSeats_29 ?_
          refine lv_topi (fun x15 e16 => ?_)
          have r17 : rg x15 (-1) 9 := rg_e e16 (hq.1.2 36 _)
          refine lv_istore (lv' := [(5, .int x15), (4, .int x12), (0, .ref (ad 34)), (2, .int a1), (3, .int a3)]) hx hb dX1_changeSeats_30 hl (by decide) rfl (fun ls hl => ?_)
          refine lv_aload_n hx hb dX1_changeSeats_32 rfl (lv_at hl 2 rfl) ?_
          refine lv_iload hx hb dX1_changeSeats_33 (lv_at hl 1 rfl) ?_
          refine lv_iload_n hx hb dX1_changeSeats_35 rfl (lv_at hl 3 rfl) ?_
          refine callv_v (As := [.int x12, .int a1]) (rest := []) hC (c_X1_assign_34 l D cA H.size ad F5 L5 A5 B5 (x12) (a1) hq.1 r14 r11) (cwV 2 hg (g_V mw_813 mw_810 mw_811 mw_812 mw_15) rfl rfl rfl (by decide +kernel) ⟨(Nat.le_of_ble_eq_true rfl), (Nat.le_of_ble_eq_true rfl)⟩) hP hD hS hA atX_34 rfl rfl hl.1 rfl (Nat.le_of_ble_eq_true rfl) dX1_changeSeats_36 ⟨Nat.zero_le _, Nat.zero_le _⟩ (fun  u H locs hw hP hD hS => ?_)
          obtain ⟨F18, L18, A18, B18⟩ := u
          try dsimp only at hw
          have hq18 := hw
          have hq := hq.call hq18 (by decide)
          have hP : va_P D classes (wX cA ad F18 L18 A18 B18) H := hP
          have hD : va_D Af (wX cA ad F18 L18 A18 B18) := hD
          refine lv_iload hx hb dX1_changeSeats_39 (lv_at hl 0 rfl) ?_
          refine lv_istore_n (lv' := [(2, .int x15), (5, .int x15), (4, .int x12), (0, .ref (ad 34)), (3, .int a3)]) hx hb dX1_changeSeats_41 rfl hl (by decide) rfl (fun ls hl => ?_)
          obtain ⟨x19, e20⟩ : ∃ y : Int32, y = a3 + 1 := ⟨_, rfl⟩
          have r21 : rg x19 1 10 := rg_add e20 r8 (rg_k (by decide) : rg 1 1 1) (by decide)
          refine lv_iinc (v := x19) (lv' := [(3, .int x19), (2, .int x15), (5, .int x15), (4, .int x12), (0, .ref (ad 34))]) hx hb dX1_changeSeats_42 hl (k := 4) rfl (by rw [e20]; rfl) (by decide) rfl (fun ls hl => ?_)
          refine lv_goto (tgt := 4) hx hb dX1_changeSeats_45 (by decide) ?_
          exact ih4 (x15) (x19) (F18) (L18) (A18) (B18) H locs ls (by have h0 : (1 : Int32).toInt = 1 := rfl; have h1 := ti_addk e20 r8 (by decide); have h2 : rg x19 0 10 := (rg_w r21 (by decide)); unfold rg at h2; omega) r17 (rg_w r21 (by decide)) hq hP hD hS (lv_sub hl [4, 1, 0] rfl)
  exact J4 _ (p1) (0) (F) (L) (A) (B) H locs ls (Nat.lt_succ_self _) (rg_w hp1 (by decide)) (rg_k (by decide)) hq hP hD hS (lv_sub hl [2, 1, 0] rfl)
abbrev rm_X1_settle_34 : Room := { frames := 2, cells := 0, slots := 0, locals := 47 }
set_option maxHeartbeats 4000000 in
set_option maxRecDepth 100000 in
theorem c_X1_settle_34 (l : Launch) (D : va_G) (cA : Nat → ClassId) (sz : Nat) (ad : Nat → Nat) (F : Nat → Int32) (L : Nat → Int64) (A : Nat → Nat → Int32) (B : Nat → Nat → Int64) (p1 : Int32) (p2 : Int32) (hT : typX F A) (hp1 : rg p1 0 9) (hp2 : rg p2 0 1023) : Met l yX1_settle (Cond.code yX1_settle cX1_settle 9 (some .boolean) :: GW) rm_X1_settle_34 (mPc D classes (tysX cA) (wX cA ad F L A B) sz [.ref (ad 34), .int p1, .int p2]) (mQi (S := SW) D classes (tysX cA) (wX cA ad F L A B) sz (wfX cA ad) (fun r u => qX [] [36, 37, 38, 39] F A u.1 u.2.2.1 ∧ rg r 0 1)) 0 0 (va_A (wX cA ad F L A B) sz) := by
  refine met_i (own := "ShoeingDay$Cover") (by decide +kernel) rfl (Nat.le_of_ble_eq_true rfl) ?_
  intro p e s m args below meth c Q Af ls hC hP hD hS hA hl hret
  have hx := hC.1
  have hb := hC.2.1
  have hown := hC.2.2.2.1
  have hg := hC.g
  have hK := hC.K
  have hl : lv_has ls 9 [(0, .ref (ad 34)), (1, .int p1), (2, .int p2)] := hl
  have hq : qX [] [36, 37, 38, 39] F A F A := qX.rf hT
  obtain ⟨H, hH⟩ : ∃ H, H = s.heap := ⟨_, rfl⟩
  have hP : va_P D classes (wX cA ad F L A B) H := by rw [hH]; exact hP
  have hS : va_S Af s.heap H [] := by rw [hH]; exact hS
  obtain ⟨locs, hlo⟩ : ∃ q : List Loc, q = [] := ⟨_, rfl⟩
  rw [← hH, ← hlo]
  rw [← hlo] at hS
  refine lv_iconst (v := 0) hx hb dX1_settle_0 (by decide) ?_
  refine lv_istore_n (lv' := [(3, .int 0), (0, .ref (ad 34)), (1, .int p1), (2, .int p2)]) hx hb dX1_settle_1 rfl hl (by decide) rfl (fun ls hl => ?_)
  refine lv_iconst (v := 1) hx hb dX1_settle_2 (by decide) ?_
  refine lv_istore (lv' := [(4, .int 1), (3, .int 0), (0, .ref (ad 34)), (1, .int p1), (2, .int p2)]) hx hb dX1_settle_3 hl (by decide) rfl (fun ls hl => ?_)
  refine lv_aload_n hx hb dX1_settle_5 rfl (lv_at hl 2 rfl) ?_
  refine va_get (ci := 1) (v := .ref (ad 39)) (C := RX1) (T := TX1) (N := 5) hx hb hg inX1 hown hK hP 34 atX_34 rfl 4 (by decide) (hg _ mw_327) (fun _ h9 => h9) rfl dX1_settle_6 ?_
  refine lv_iconst (v := 0) hx hb dX1_settle_9 (by decide) ?_
  refine lv_iload_n hx hb dX1_settle_10 rfl (lv_at hl 3 rfl) ?_
  refine va_iast hx hb hK hP hD hS 39 28 atX_39 tyX_39 (in_rg ((rg_k (by decide)) : rg 0 0 0) (by decide)) dX1_settle_11 (fun H locs hP hD hS => ?_)
  have hq := hq.ast 39 ((0 : Int32)).toNatClampNeg (x := p1) (by decide) hp1
  rw [setX_39] at hP hD
  have k1 : p1 = (va_up A 39 (upd (A 39) ((0 : Int32)).toNatClampNeg p1)) 39 ((0 : Int32)).toNatClampNeg := (rdA).symm
  refine lv_iconst (v := 0) hx hb dX1_settle_12 (by decide) ?_
  refine lv_istore (lv' := [(5, .int 0), (4, .int 1), (3, .int 0), (0, .ref (ad 34)), (1, .int p1), (2, .int p2)]) hx hb dX1_settle_13 hl (by decide) rfl (fun ls hl => ?_)
  have J15 : ∀ (n15 : Nat) (a2 : Int32) (a4 : Int32) (a6 : Int32) (F8 : Nat → Int32) (L8 : Nat → Int64) (A8 : Nat → Nat → Int32) (B8 : Nat → Nat → Int64) (H : Heap) (locs : List Loc) (ls : Array Slot), (11 - a6.toInt).toNat < n15 → rg a2 0 1023 → rg a4 1 11 → rg a6 0 11 → qX [] [36, 37, 38, 39] F A F8 A8 → va_P D classes (wX cA ad F8 L8 A8 B8) H → va_D Af (wX cA ad F8 L8 A8 B8) → va_S Af s.heap H locs → lv_has ls 9 [(0, .ref (ad 34)), (2, .int p2), (3, .int a2), (4, .int a4), (5, .int a6)] → W p l e rm_X1_settle_34 s m args below meth c H locs 0 0 Q (F0 m 15 ls []) := by
    intro n15
    induction n15 with
    | zero =>
      intro _ _ _ _ _ _ _ _ _ _ hn
      exact absurd hn (Nat.not_lt_zero _)
    | succ n15 ih15 =>
      intro a2 a4 a6 F8 L8 A8 B8 H locs ls hn15 r3 r5 r7 hq hP hD hS hl
      refine lv_iload hx hb dX1_settle_15 (lv_at hl 4 rfl) ?_
      refine lv_iload hx hb dX1_settle_17 (lv_at hl 3 rfl) ?_
      refine lv_icmp_ge (tgt := 146) hx hb dX1_settle_19 (by decide) (fun c9 => ?_) (fun c9 => ?_)
      · skip
        have r10 : rg a6 1 11 := rg_le2 (iE c9) (r5 : rg a4 1 11) (r7 : rg a6 0 11)
        have J146 : ∀ (F12 : Nat → Int32) (L12 : Nat → Int64) (A12 : Nat → Nat → Int32) (B12 : Nat → Nat → Int64) (H : Heap) (locs : List Loc) (ls : Array Slot), qX [] [36, 37, 38, 39] F A F12 A12 → va_P D classes (wX cA ad F12 L12 A12 B12) H → va_D Af (wX cA ad F12 L12 A12 B12) → va_S Af s.heap H locs → lv_has ls 9 [] → W p l e rm_X1_settle_34 s m args below meth c H locs 0 0 Q (F0 m 146 ls []) := by
          intro F12 L12 A12 B12 H locs ls hq hP hD hS hl
          refine lv_iconst (v := 0) hx hb dX1_settle_146 (by decide) ?_
          exact hret (0) (F12, L12, A12, B12) H locs 147 ls rfl dX1_settle_147 hP hD hS ⟨hq, (rg_k (by decide))⟩
        exact J146 (F8) (L8) (A8) (B8) H locs ls hq hP hD hS (lv_sub hl [] rfl)
      · skip
        have r11 : rg a6 0 10 := rg_lt1 (iNE c9) (r7 : rg a6 0 11) (r5 : rg a4 1 11)
        refine lv_iload hx hb dX1_settle_22 (lv_at hl 4 rfl) ?_
        refine lv_aload_n hx hb dX1_settle_24 rfl (lv_at hl 0 rfl) ?_
        refine va_get (ci := 1) (v := .ref (ad 39)) (C := RX1) (T := TX1) (N := 5) hx hb hg inX1 hown hK hP 34 atX_34 rfl 4 (by decide) (hg _ mw_327) (fun _ h9 => h9) rfl dX1_settle_25 ?_
        refine va_alen (v := 11) hx hb hK hP 39 28 atX_39 tyX_39 rfl dX1_settle_28 ?_
        refine lv_icmp_ge (tgt := 146) hx hb dX1_settle_29 (by decide) (fun c13 => ?_) (fun c13 => ?_)
        · skip
          exact rg_emp (rg_le1 (iE c13) ((rg_k (by decide)) : rg 11 11 11) (r11 : rg a6 0 10)) (by decide)
        · skip
          refine lv_aload_n hx hb dX1_settle_32 rfl (lv_at hl 0 rfl) ?_
          refine va_get (ci := 1) (v := .ref (ad 39)) (C := RX1) (T := TX1) (N := 5) hx hb hg inX1 hown hK hP 34 atX_34 rfl 4 (by decide) (hg _ mw_327) (fun _ h9 => h9) rfl dX1_settle_33 ?_
          refine lv_iload hx hb dX1_settle_36 (lv_at hl 4 rfl) ?_
          refine va_iald hx hb hK hP 39 28 atX_39 tyX_39 (in_rg r11 (by decide)) dX1_settle_38 ?_
          refine lv_topi (fun x14 e15 => ?_)
          have r16 : rg x14 0 9 := rg_e e15 (hq.1.2 39 _)
          refine lv_istore (lv' := [(6, .int x14), (0, .ref (ad 34)), (2, .int p2), (3, .int a2), (4, .int a4), (5, .int a6)]) hx hb dX1_settle_39 hl (by decide) rfl (fun ls hl => ?_)
          refine lv_aload_n hx hb dX1_settle_41 rfl (lv_at hl 1 rfl) ?_
          refine va_get (ci := 1) (v := .ref (ad 35)) (C := RX1) (T := TX1) (N := 5) hx hb hg inX1 hown hK hP 34 atX_34 rfl 0 (by decide) (hg _ mw_320) (fun _ h9 => h9) rfl dX1_settle_42 ?_
          refine lv_iload hx hb dX1_settle_45 (lv_at hl 0 rfl) ?_
          refine va_iald hx hb hK hP 35 24 atX_35 tyX_35 (in_rg r16 (by decide)) dX1_settle_47 ?_
          refine lv_topi (fun x17 e18 => ?_)
          have r19 : rg x17 0 1023 := rg_e e18 (hq.1.2 35 _)
          refine lv_iload_n hx hb dX1_settle_48 rfl (lv_at hl 2 rfl) ?_
          refine lv_iand hx hb dX1_settle_49 ?_
          refine lv_topi (fun x20 e21 => ?_)
          have r22 : rg x20 0 1023 := rg_andr e21 hp2 (by decide)
          refine lv_iload_n hx hb dX1_settle_50 rfl (lv_at hl 3 rfl) ?_
          refine lv_iconst (v := (-1)) hx hb dX1_settle_51 (by decide) ?_
          refine lv_ixor hx hb dX1_settle_52 ?_
          refine lv_topi (fun x23 e24 => ?_)
          refine lv_iand hx hb dX1_settle_53 ?_
          refine lv_topi (fun x25 e26 => ?_)
          have r27 : rg x25 0 1023 := rg_andl e26 r22 (by decide)
          refine lv_istore (lv' := [(7, .int x25), (6, .int x14), (0, .ref (ad 34)), (2, .int p2), (3, .int a2), (4, .int a4), (5, .int a6)]) hx hb dX1_settle_54 hl (by decide) rfl (fun ls hl => ?_)
          refine lv_iload_n hx hb dX1_settle_56 rfl (lv_at hl 4 rfl) ?_
          refine lv_iload hx hb dX1_settle_57 (lv_at hl 0 rfl) ?_
          refine lv_ior hx hb dX1_settle_59 ?_
          refine lv_topi (fun x28 e29 => ?_)
          have r30 : rg x28 0 1023 := rg_or 10 e29 r3 r27 (by decide)
          refine lv_istore_n (lv' := [(3, .int x28), (7, .int x25), (6, .int x14), (0, .ref (ad 34)), (2, .int p2), (4, .int a4), (5, .int a6)]) hx hb dX1_settle_60 rfl hl (by decide) rfl (fun ls hl => ?_)
          have J61 : ∀ (n61 : Nat) (a31 : Int32) (a33 : Int32) (F35 : Nat → Int32) (L35 : Nat → Int64) (A35 : Nat → Nat → Int32) (B35 : Nat → Nat → Int64) (H : Heap) (locs : List Loc) (ls : Array Slot), a33.toInt.toNat < n61 → rg a31 1 11 → rg a33 0 1023 → qX [] [36, 37, 38, 39] F A F35 A35 → va_P D classes (wX cA ad F35 L35 A35 B35) H → va_D Af (wX cA ad F35 L35 A35 B35) → va_S Af s.heap H locs → lv_has ls 9 [(0, .ref (ad 34)), (2, .int p2), (3, .int x28), (4, .int a31), (5, .int a6), (6, .int x14), (7, .int a33)] → W p l e rm_X1_settle_34 s m args below meth c H locs 0 0 Q (F0 m 61 ls []) := by
            intro n61
            induction n61 with
            | zero =>
              intro _ _ _ _ _ _ _ _ _ hn
              exact absurd hn (Nat.not_lt_zero _)
            | succ n61 ih61 =>
              intro a31 a33 F35 L35 A35 B35 H locs ls hn61 r32 r34 hq hP hD hS hl
              refine lv_iload hx hb dX1_settle_61 (lv_at hl 6 rfl) ?_
              refine lv_if_eq (tgt := 140) hx hb dX1_settle_63 (by decide) (fun c36 => ?_) (fun c36 => ?_)
              · skip
                have r37 : rg a33 0 0 := rg_eq1 c36 (r34 : rg a33 0 1023) ((rg_k (by decide)) : rg 0 0 0) (by decide)
                obtain ⟨x39, e40⟩ : ∃ y : Int32, y = a6 + 1 := ⟨_, rfl⟩
                have r41 : rg x39 1 11 := rg_add e40 r11 (rg_k (by decide) : rg 1 1 1) (by decide)
                refine lv_iinc (v := x39) (lv' := [(5, .int x39), (0, .ref (ad 34)), (2, .int p2), (3, .int x28), (4, .int a31), (6, .int x14), (7, .int a33)]) hx hb dX1_settle_140 hl (k := 4) rfl (by rw [e40]; rfl) (by decide) rfl (fun ls hl => ?_)
                refine lv_goto (tgt := 15) hx hb dX1_settle_143 (by decide) ?_
                exact ih15 (x28) (a31) (x39) (F35) (L35) (A35) (B35) H locs ls (by have h0 : (1 : Int32).toInt = 1 := rfl; have h1 := ti_addk e40 r11 (by decide); have h2 : rg x39 0 11 := (rg_w r41 (by decide)); unfold rg at h2; omega) r30 r32 (rg_w r41 (by decide)) hq hP hD hS (lv_sub hl [1, 2, 3, 4, 0] rfl)
              · skip
                have r38 : rg a33 1 1023 := (rg_ne1 c36 (r34 : rg a33 0 1023) ((rg_k (by decide)) : rg 0 0 0)).1 rfl
                refine lv_iload hx hb dX1_settle_66 (lv_at hl 6 rfl) ?_
                refine calln_i (As := [.int a33]) (rest := []) hC (c_X11_lowest l D (tysX cA) (wX cA ad F35 L35 A35 B35) H.size (a33)) ⟨va_cnB 1 hg (g_N mw_799) rfl rfl rfl (mn_13 hC.N) (hg _ mw_1) (by decide +kernel) ⟨(Nat.le_of_ble_eq_true rfl), (Nat.le_of_ble_eq_true rfl)⟩, (hg _ mw_798), trivial⟩ hP hD hS hA rfl hl.1 rfl (Nat.le_of_ble_eq_true rfl) dX1_settle_68 ⟨Nat.zero_le _, Nat.zero_le _⟩ (fun x42 u H locs hw hP hD hS => ?_)
                have e43 := hw
                have hP : va_P D classes (wX cA ad F35 L35 A35 B35) H := hP
                have hD : va_D Af (wX cA ad F35 L35 A35 B35) := hD
                have r44 : rg x42 0 9 := rg_low hw r38 (k := 10) (by decide)
                refine lv_istore (lv' := [(8, .int x42), (0, .ref (ad 34)), (2, .int p2), (3, .int x28), (4, .int a31), (5, .int a6), (6, .int x14), (7, .int a33)]) hx hb dX1_settle_71 hl (by decide) rfl (fun ls hl => ?_)
                refine lv_aload_n hx hb dX1_settle_73 rfl (lv_at hl 1 rfl) ?_
                refine va_get (ci := 1) (v := .ref (ad 38)) (C := RX1) (T := TX1) (N := 5) hx hb hg inX1 hown hK hP 34 atX_34 rfl 3 (by decide) (hg _ mw_326) (fun _ h9 => h9) rfl dX1_settle_74 ?_
                refine lv_iload hx hb dX1_settle_77 (lv_at hl 0 rfl) ?_
                refine lv_iload hx hb dX1_settle_79 (lv_at hl 6 rfl) ?_
                refine va_iast hx hb hK hP hD hS 38 27 atX_38 tyX_38 (in_rg r44 (by decide)) dX1_settle_81 (fun H locs hP hD hS => ?_)
                have hq := hq.ast 38 (x42).toNatClampNeg (x := x14) (by decide) r16
                rw [setX_38] at hP hD
                have k45 : x14 = (va_up A35 38 (upd (A35 38) (x42).toNatClampNeg x14)) 38 (x42).toNatClampNeg := (rdA).symm
                refine lv_aload_n hx hb dX1_settle_82 rfl (lv_at hl 1 rfl) ?_
                refine va_get (ci := 1) (v := .ref (ad 37)) (C := RX1) (T := TX1) (N := 5) hx hb hg inX1 hown hK hP 34 atX_34 rfl 2 (by decide) (hg _ mw_324) (fun _ h9 => h9) rfl dX1_settle_83 ?_
                refine lv_iload hx hb dX1_settle_86 (lv_at hl 0 rfl) ?_
                refine va_iald hx hb hK hP 37 26 atX_37 tyX_37 (in_rg r44 (by decide)) dX1_settle_88 ?_
                refine lv_topi (fun x46 e47 => ?_)
                have r48 : rg x46 (-1) 9 := rg_e e47 (hq.1.2 37 _)
                refine lv_iconst (v := (-1)) hx hb dX1_settle_89 (by decide) ?_
                refine lv_icmp_ne (tgt := 101) hx hb dX1_settle_90 (by decide) (fun c49 => ?_) (fun c49 => ?_)
                · skip
                  have r50 : rg x46 0 9 := (rg_ne1 c49 (r48 : rg x46 (-1) 9) ((rg_k (by decide)) : rg (-1) (-1) (-1))).1 rfl
                  refine lv_iload hx hb dX1_settle_101 (lv_at hl 4 rfl) ?_
                  refine lv_aload_n hx hb dX1_settle_103 rfl (lv_at hl 1 rfl) ?_
                  refine va_get (ci := 1) (v := .ref (ad 39)) (C := RX1) (T := TX1) (N := 5) hx hb hg inX1 hown hK hP 34 atX_34 rfl 4 (by decide) (hg _ mw_327) (fun _ h9 => h9) rfl dX1_settle_104 ?_
                  refine va_alen (v := 11) hx hb hK hP 39 28 atX_39 tyX_39 rfl dX1_settle_107 ?_
                  have J128 : ∀ (a52 : Int32) (F54 : Nat → Int32) (L54 : Nat → Int64) (A54 : Nat → Nat → Int32) (B54 : Nat → Nat → Int64) (H : Heap) (locs : List Loc) (ls : Array Slot), rg a52 2 11 → qX [] [36, 37, 38, 39] F A F54 A54 → va_P D classes (wX cA ad F54 L54 A54 B54) H → va_D Af (wX cA ad F54 L54 A54 B54) → va_S Af s.heap H locs → lv_has ls 9 [(0, .ref (ad 34)), (2, .int p2), (3, .int x28), (4, .int a52), (5, .int a6), (6, .int x14), (7, .int a33)] → W p l e rm_X1_settle_34 s m args below meth c H locs 0 0 Q (F0 m 128 ls []) := by
                    intro a52 F54 L54 A54 B54 H locs ls r53 hq hP hD hS hl
                    refine lv_iload hx hb dX1_settle_128 (lv_at hl 6 rfl) ?_
                    refine lv_iload hx hb dX1_settle_130 (lv_at hl 6 rfl) ?_
                    refine lv_iconst (v := 1) hx hb dX1_settle_132 (by decide) ?_
                    refine lv_isub hx hb dX1_settle_133 ?_
                    refine lv_topi (fun x55 e56 => ?_)
                    have r57 : rg x55 0 1022 := rg_sub e56 r38 ((rg_k (by decide)) : rg 1 1 1) (by decide)
                    refine lv_iand hx hb dX1_settle_134 ?_
                    refine lv_topi (fun x58 e59 => ?_)
                    have r60 : rg x58 0 1022 := rg_andr e59 r57 (by decide)
                    refine lv_istore (lv' := [(7, .int x58), (0, .ref (ad 34)), (2, .int p2), (3, .int x28), (4, .int a52), (5, .int a6), (6, .int x14)]) hx hb dX1_settle_135 hl (by decide) rfl (fun ls hl => ?_)
                    refine lv_goto (tgt := 61) hx hb dX1_settle_137 (by decide) ?_
                    exact ih61 (a52) (x58) (F54) (L54) (A54) (B54) H locs ls (by have h1 := mask_less (show x58 = a33 &&& (a33 - 1) by rw [← e56]; exact e59) r38 (by decide); omega) (rg_w r53 (by decide)) (rg_w r60 (by decide)) hq hP hD hS (lv_sub hl [1, 2, 3, 4, 5, 6, 0] rfl)
                  refine lv_icmp_ge (tgt := 128) hx hb dX1_settle_108 (by decide) (fun c61 => ?_) (fun c61 => ?_)
                  · skip
                    have r62 : rg a31 11 11 := rg_le2 (iE c61) ((rg_k (by decide)) : rg 11 11 11) (r32 : rg a31 1 11)
                    exact J128 (a31) (F35) (L35) ((va_up A35 38 (upd (A35 38) (x42).toNatClampNeg x14))) (B35) H locs ls (rg_w r62 (by decide)) hq hP hD hS (lv_sub hl [1, 2, 3, 4, 5, 6, 7] rfl)
                  · skip
                    have r63 : rg a31 1 10 := rg_lt1 (iNE c61) (r32 : rg a31 1 11) ((rg_k (by decide)) : rg 11 11 11)
                    refine lv_aload_n hx hb dX1_settle_111 rfl (lv_at hl 1 rfl) ?_
                    refine va_get (ci := 1) (v := .ref (ad 39)) (C := RX1) (T := TX1) (N := 5) hx hb hg inX1 hown hK hP 34 atX_34 rfl 4 (by decide) (hg _ mw_327) (fun _ h9 => h9) rfl dX1_settle_112 ?_
                    refine lv_iload hx hb dX1_settle_115 (lv_at hl 4 rfl) ?_
                    refine lv_aload_n hx hb dX1_settle_117 rfl (lv_at hl 1 rfl) ?_
                    refine va_get (ci := 1) (v := .ref (ad 37)) (C := RX1) (T := TX1) (N := 5) hx hb hg inX1 hown hK hP 34 atX_34 rfl 2 (by decide) (hg _ mw_324) (fun _ h9 => h9) rfl dX1_settle_118 ?_
                    refine lv_iload hx hb dX1_settle_121 (lv_at hl 0 rfl) ?_
                    refine va_iald hx hb hK hP 37 26 atX_37 tyX_37 (in_rg r44 (by decide)) dX1_settle_123 ?_
                    refine tope (e47) ?_
                    refine va_iast hx hb hK hP hD hS 39 28 atX_39 tyX_39 (in_rg r63 (by decide)) dX1_settle_124 (fun H locs hP hD hS => ?_)
                    have hq := hq.ast 39 (a31).toNatClampNeg (x := x46) (by decide) r50
                    rw [setX_39] at hP hD
                    have k64 : x46 = (va_up (va_up A35 38 (upd (A35 38) (x42).toNatClampNeg x14)) 39 (upd ((va_up A35 38 (upd (A35 38) (x42).toNatClampNeg x14)) 39) (a31).toNatClampNeg x46)) 39 (a31).toNatClampNeg := (rdA).symm
                    obtain ⟨x65, e66⟩ : ∃ y : Int32, y = a31 + 1 := ⟨_, rfl⟩
                    have r67 : rg x65 2 11 := rg_add e66 r63 (rg_k (by decide) : rg 1 1 1) (by decide)
                    refine lv_iinc (v := x65) (lv' := [(4, .int x65), (8, .int x42), (0, .ref (ad 34)), (2, .int p2), (3, .int x28), (5, .int a6), (6, .int x14), (7, .int a33)]) hx hb dX1_settle_125 hl (k := 4) rfl (by rw [e66]; rfl) (by decide) rfl (fun ls hl => ?_)
                    exact J128 (x65) (F35) (L35) ((va_up (va_up A35 38 (upd (A35 38) (x42).toNatClampNeg x14)) 39 (upd ((va_up A35 38 (upd (A35 38) (x42).toNatClampNeg x14)) 39) (a31).toNatClampNeg x46))) (B35) H locs ls r67 hq hP hD hS (lv_sub hl [2, 3, 4, 0, 5, 6, 7] rfl)
                · skip
                  have r51 : rg x46 (-1) (-1) := rg_eq1 c49 (r48 : rg x46 (-1) 9) ((rg_k (by decide)) : rg (-1) (-1) (-1)) (by decide)
                  refine lv_aload_n hx hb dX1_settle_93 rfl (lv_at hl 1 rfl) ?_
                  refine lv_iload hx hb dX1_settle_94 (lv_at hl 0 rfl) ?_
                  refine callv_v (As := [.int x42]) (rest := []) hC (c_X1_changeSeats_34 l D cA H.size ad F35 L35 (va_up A35 38 (upd (A35 38) (x42).toNatClampNeg x14)) B35 (x42) hq.1 r44) (cwV 1 hg (g_V mw_809 mw_806 mw_808 ms_21 mw_15) rfl rfl rfl (by decide +kernel) ⟨(Nat.le_of_ble_eq_true rfl), (Nat.le_of_ble_eq_true rfl)⟩) hP hD hS hA atX_34 rfl rfl hl.1 rfl (Nat.le_of_ble_eq_true rfl) dX1_settle_96 ⟨Nat.zero_le _, Nat.zero_le _⟩ (fun  u H locs hw hP hD hS => ?_)
                  obtain ⟨F68, L68, A68, B68⟩ := u
                  try dsimp only at hw
                  have hq68 := hw
                  have hq := hq.call hq68 (by decide)
                  have hP : va_P D classes (wX cA ad F68 L68 A68 B68) H := hP
                  have hD : va_D Af (wX cA ad F68 L68 A68 B68) := hD
                  refine lv_iconst (v := 1) hx hb dX1_settle_99 (by decide) ?_
                  exact hret (1) (F68, L68, A68, B68) H locs 100 ls rfl dX1_settle_100 hP hD hS ⟨hq, (rg_k (by decide))⟩
          exact J61 _ (a4) (x25) (F8) (L8) (A8) (B8) H locs ls (Nat.lt_succ_self _) r5 r27 hq hP hD hS (lv_sub hl [3, 4, 0, 5, 6, 2, 1] rfl)
  exact J15 _ (0) (1) (0) (F) (L) ((va_up A 39 (upd (A 39) ((0 : Int32)).toNatClampNeg p1))) (B) H locs ls (Nat.lt_succ_self _) (rg_k (by decide)) (rg_k (by decide)) (rg_k (by decide)) hq hP hD hS (lv_sub hl [3, 5, 2, 1, 0] rfl)
abbrev rm_X1_assign_40 : Room := { frames := 0, cells := 0, slots := 0, locals := 0 }
set_option maxHeartbeats 4000000 in
set_option maxRecDepth 100000 in
theorem c_X1_assign_40 (l : Launch) (D : va_G) (cA : Nat → ClassId) (sz : Nat) (ad : Nat → Nat) (F : Nat → Int32) (L : Nat → Int64) (A : Nat → Nat → Int32) (B : Nat → Nat → Int64) (p1 : Int32) (p2 : Int32) (hT : typX F A) (hp1 : rg p1 0 9) (hp2 : rg p2 0 9) : Met l yX1_assign (Cond.code yX1_assign cX1_assign 3 none :: GW) rm_X1_assign_40 (mPc D classes (tysX cA) (wX cA ad F L A B) sz [.ref (ad 40), .int p1, .int p2]) (mQv (S := SW) D classes (tysX cA) (wX cA ad F L A B) sz (wfX cA ad) (fun u => qX [] [42, 43] F A u.1 u.2.2.1)) 0 0 (va_A (wX cA ad F L A B) sz) := by
  refine met_v (own := "ShoeingDay$Cover") (by decide +kernel) rfl (Nat.le_of_ble_eq_true rfl) ?_
  intro p e s m args below meth c Q Af ls hC hP hD hS hA hl hret
  have hx := hC.1
  have hb := hC.2.1
  have hown := hC.2.2.2.1
  have hg := hC.g
  have hK := hC.K
  have hl : lv_has ls 3 [(0, .ref (ad 40)), (1, .int p1), (2, .int p2)] := hl
  have hq : qX [] [42, 43] F A F A := qX.rf hT
  obtain ⟨H, hH⟩ : ∃ H, H = s.heap := ⟨_, rfl⟩
  have hP : va_P D classes (wX cA ad F L A B) H := by rw [hH]; exact hP
  have hS : va_S Af s.heap H [] := by rw [hH]; exact hS
  obtain ⟨locs, hlo⟩ : ∃ q : List Loc, q = [] := ⟨_, rfl⟩
  rw [← hH, ← hlo]
  rw [← hlo] at hS
  refine lv_aload_n hx hb dX1_assign_0 rfl (lv_at hl 0 rfl) ?_
  refine va_get (ci := 1) (v := .ref (ad 42)) (C := RX1) (T := TX1) (N := 5) hx hb hg inX1 hown hK hP 40 atX_40 rfl 1 (by decide) (hg _ mw_322) (fun _ h9 => h9) rfl dX1_assign_1 ?_
  refine lv_iload_n hx hb dX1_assign_4 rfl (lv_at hl 1 rfl) ?_
  refine lv_iload_n hx hb dX1_assign_5 rfl (lv_at hl 2 rfl) ?_
  refine va_iast hx hb hK hP hD hS 42 30 atX_42 tyX_42 (in_rg hp1 (by decide)) dX1_assign_6 (fun H locs hP hD hS => ?_)
  have hq := hq.ast 42 (p1).toNatClampNeg (x := p2) (by decide) (rg_w hp2 (by decide))
  rw [setX_42] at hP hD
  have k1 : p2 = (va_up A 42 (upd (A 42) (p1).toNatClampNeg p2)) 42 (p1).toNatClampNeg := (rdA).symm
  refine lv_aload_n hx hb dX1_assign_7 rfl (lv_at hl 0 rfl) ?_
  refine va_get (ci := 1) (v := .ref (ad 43)) (C := RX1) (T := TX1) (N := 5) hx hb hg inX1 hown hK hP 40 atX_40 rfl 2 (by decide) (hg _ mw_324) (fun _ h9 => h9) rfl dX1_assign_8 ?_
  refine lv_iload_n hx hb dX1_assign_11 rfl (lv_at hl 2 rfl) ?_
  refine lv_iload_n hx hb dX1_assign_12 rfl (lv_at hl 1 rfl) ?_
  refine va_iast hx hb hK hP hD hS 43 31 atX_43 tyX_43 (in_rg hp2 (by decide)) dX1_assign_13 (fun H locs hP hD hS => ?_)
  have hq := hq.ast 43 (p2).toNatClampNeg (x := p1) (by decide) (rg_w hp1 (by decide))
  rw [setX_43] at hP hD
  have k2 : p1 = (va_up (va_up A 42 (upd (A 42) (p1).toNatClampNeg p2)) 43 (upd ((va_up A 42 (upd (A 42) (p1).toNatClampNeg p2)) 43) (p2).toNatClampNeg p1)) 43 (p2).toNatClampNeg := (rdA).symm
  exact hret (F, L, (va_up (va_up A 42 (upd (A 42) (p1).toNatClampNeg p2)) 43 (upd ((va_up A 42 (upd (A 42) (p1).toNatClampNeg p2)) 43) (p2).toNatClampNeg p1)), B) H locs 14 ls dX1_assign_14 hP hD hS hq
abbrev rm_X1_changeSeats_40 : Room := { frames := 1, cells := 0, slots := 0, locals := 22 }
set_option maxHeartbeats 4000000 in
set_option maxRecDepth 100000 in
theorem c_X1_changeSeats_40 (l : Launch) (D : va_G) (cA : Nat → ClassId) (sz : Nat) (ad : Nat → Nat) (F : Nat → Int32) (L : Nat → Int64) (A : Nat → Nat → Int32) (B : Nat → Nat → Int64) (p1 : Int32) (hT : typX F A) (hp1 : rg p1 0 9) : Met l yX1_changeSeats (Cond.code yX1_changeSeats cX1_changeSeats 6 none :: GW) rm_X1_changeSeats_40 (mPc D classes (tysX cA) (wX cA ad F L A B) sz [.ref (ad 40), .int p1]) (mQv (S := SW) D classes (tysX cA) (wX cA ad F L A B) sz (wfX cA ad) (fun u => qX [] [42, 43] F A u.1 u.2.2.1)) 0 0 (va_A (wX cA ad F L A B) sz) := by
  refine met_v (own := "ShoeingDay$Cover") (by decide +kernel) rfl (Nat.le_of_ble_eq_true rfl) ?_
  intro p e s m args below meth c Q Af ls hC hP hD hS hA hl hret
  have hx := hC.1
  have hb := hC.2.1
  have hown := hC.2.2.2.1
  have hg := hC.g
  have hK := hC.K
  have hl : lv_has ls 6 [(0, .ref (ad 40)), (1, .int p1)] := hl
  have hq : qX [] [42, 43] F A F A := qX.rf hT
  obtain ⟨H, hH⟩ : ∃ H, H = s.heap := ⟨_, rfl⟩
  have hP : va_P D classes (wX cA ad F L A B) H := by rw [hH]; exact hP
  have hS : va_S Af s.heap H [] := by rw [hH]; exact hS
  obtain ⟨locs, hlo⟩ : ∃ q : List Loc, q = [] := ⟨_, rfl⟩
  rw [← hH, ← hlo]
  rw [← hlo] at hS
  refine lv_iload_n hx hb dX1_changeSeats_0 rfl (lv_at hl 1 rfl) ?_
  refine lv_istore_n (lv' := [(2, .int p1), (0, .ref (ad 40)), (1, .int p1)]) hx hb dX1_changeSeats_1 rfl hl (by decide) rfl (fun ls hl => ?_)
  refine lv_iconst (v := 0) hx hb dX1_changeSeats_2 (by decide) ?_
  refine lv_istore_n (lv' := [(3, .int 0), (2, .int p1), (0, .ref (ad 40)), (1, .int p1)]) hx hb dX1_changeSeats_3 rfl hl (by decide) rfl (fun ls hl => ?_)
  have J4 : ∀ (n4 : Nat) (a1 : Int32) (a3 : Int32) (F5 : Nat → Int32) (L5 : Nat → Int64) (A5 : Nat → Nat → Int32) (B5 : Nat → Nat → Int64) (H : Heap) (locs : List Loc) (ls : Array Slot), (10 - a3.toInt).toNat < n4 → rg a1 (-1) 9 → rg a3 0 10 → qX [] [42, 43] F A F5 A5 → va_P D classes (wX cA ad F5 L5 A5 B5) H → va_D Af (wX cA ad F5 L5 A5 B5) → va_S Af s.heap H locs → lv_has ls 6 [(0, .ref (ad 40)), (2, .int a1), (3, .int a3)] → W p l e rm_X1_changeSeats_40 s m args below meth c H locs 0 0 Q (F0 m 4 ls []) := by
    intro n4
    induction n4 with
    | zero =>
      intro _ _ _ _ _ _ _ _ _ hn
      exact absurd hn (Nat.not_lt_zero _)
    | succ n4 ih4 =>
      intro a1 a3 F5 L5 A5 B5 H locs ls hn4 r2 r4 hq hP hD hS hl
      refine lv_iload_n hx hb dX1_changeSeats_4 rfl (lv_at hl 2 rfl) ?_
      refine lv_bipush (v := 10) hx hb dX1_changeSeats_5 (by decide) ?_
      refine lv_icmp_ge (tgt := 48) hx hb dX1_changeSeats_7 (by decide) (fun c6 => ?_) (fun c6 => ?_)
      · skip
        have r7 : rg a3 10 10 := rg_le2 (iE c6) ((rg_k (by decide)) : rg 10 10 10) (r4 : rg a3 0 10)
        exact hret (F5, L5, A5, B5) H locs 48 ls dX1_changeSeats_48 hP hD hS hq
      · skip
        have r8 : rg a3 0 9 := rg_lt1 (iNE c6) (r4 : rg a3 0 10) ((rg_k (by decide)) : rg 10 10 10)
        refine lv_iload_n hx hb dX1_changeSeats_10 rfl (lv_at hl 1 rfl) ?_
        refine lv_iconst (v := (-1)) hx hb dX1_changeSeats_11 (by decide) ?_
        refine lv_icmp_eq (tgt := 48) hx hb dX1_changeSeats_12 (by decide) (fun c9 => ?_) (fun c9 => ?_)
        · skip
          have r10 : rg a1 (-1) (-1) := rg_eq1 c9 (r2 : rg a1 (-1) 9) ((rg_k (by decide)) : rg (-1) (-1) (-1)) (by decide)
          exact hret (F5, L5, A5, B5) H locs 48 ls dX1_changeSeats_48 hP hD hS hq
        · skip
          have r11 : rg a1 0 9 := (rg_ne1 c9 (r2 : rg a1 (-1) 9) ((rg_k (by decide)) : rg (-1) (-1) (-1))).1 rfl
          refine lv_aload_n hx hb dX1_changeSeats_15 rfl (lv_at hl 0 rfl) ?_
          refine va_get (ci := 1) (v := .ref (ad 44)) (C := RX1) (T := TX1) (N := 5) hx hb hg inX1 hown hK hP 40 atX_40 rfl 3 (by decide) (hg _ mw_326) (fun _ h9 => h9) rfl dX1_changeSeats_16 ?_
          refine lv_iload_n hx hb dX1_changeSeats_19 rfl (lv_at hl 1 rfl) ?_
          refine va_iald hx hb hK hP 44 32 atX_44 tyX_44 (in_rg r11 (by decide)) dX1_changeSeats_20 ?_
          refine lv_topi (fun x12 e13 => ?_)
          have r14 : rg x12 0 9 := rg_e e13 (hq.1.2 44 _)
          refine lv_istore (lv' := [(4, .int x12), (0, .ref (ad 40)), (2, .int a1), (3, .int a3)]) hx hb dX1_changeSeats_21 hl (by decide) rfl (fun ls hl => ?_)
          refine lv_aload_n hx hb dX1_changeSeats_23 rfl (lv_at hl 1 rfl) ?_
          refine va_get (ci := 1) (v := .ref (ad 42)) (C := RX1) (T := TX1) (N := 5) hx hb hg inX1 hown hK hP 40 atX_40 rfl 1 (by decide) (hg _ mw_322) (fun _ h9 => h9) rfl dX1_changeSeats_24 ?_
          refine lv_iload hx hb dX1_changeSeats_27 (lv_at hl 0 rfl) ?_
          refine va_iald hx hb hK hP 42 30 atX_42 tyX_42 (in_rg r14 (by decide)) dX1_changeSeats_29 ?_
          refine lv_topi (fun x15 e16 => ?_)
          have r17 : rg x15 (-1) 9 := rg_e e16 (hq.1.2 42 _)
          refine lv_istore (lv' := [(5, .int x15), (4, .int x12), (0, .ref (ad 40)), (2, .int a1), (3, .int a3)]) hx hb dX1_changeSeats_30 hl (by decide) rfl (fun ls hl => ?_)
          refine lv_aload_n hx hb dX1_changeSeats_32 rfl (lv_at hl 2 rfl) ?_
          refine lv_iload hx hb dX1_changeSeats_33 (lv_at hl 1 rfl) ?_
          refine lv_iload_n hx hb dX1_changeSeats_35 rfl (lv_at hl 3 rfl) ?_
          refine callv_v (As := [.int x12, .int a1]) (rest := []) hC (c_X1_assign_40 l D cA H.size ad F5 L5 A5 B5 (x12) (a1) hq.1 r14 r11) (cwV 2 hg (g_V mw_813 mw_810 mw_811 mw_812 mw_15) rfl rfl rfl (by decide +kernel) ⟨(Nat.le_of_ble_eq_true rfl), (Nat.le_of_ble_eq_true rfl)⟩) hP hD hS hA atX_40 rfl rfl hl.1 rfl (Nat.le_of_ble_eq_true rfl) dX1_changeSeats_36 ⟨Nat.zero_le _, Nat.zero_le _⟩ (fun  u H locs hw hP hD hS => ?_)
          obtain ⟨F18, L18, A18, B18⟩ := u
          try dsimp only at hw
          have hq18 := hw
          have hq := hq.call hq18 (by decide)
          have hP : va_P D classes (wX cA ad F18 L18 A18 B18) H := hP
          have hD : va_D Af (wX cA ad F18 L18 A18 B18) := hD
          refine lv_iload hx hb dX1_changeSeats_39 (lv_at hl 0 rfl) ?_
          refine lv_istore_n (lv' := [(2, .int x15), (5, .int x15), (4, .int x12), (0, .ref (ad 40)), (3, .int a3)]) hx hb dX1_changeSeats_41 rfl hl (by decide) rfl (fun ls hl => ?_)
          obtain ⟨x19, e20⟩ : ∃ y : Int32, y = a3 + 1 := ⟨_, rfl⟩
          have r21 : rg x19 1 10 := rg_add e20 r8 (rg_k (by decide) : rg 1 1 1) (by decide)
          refine lv_iinc (v := x19) (lv' := [(3, .int x19), (2, .int x15), (5, .int x15), (4, .int x12), (0, .ref (ad 40))]) hx hb dX1_changeSeats_42 hl (k := 4) rfl (by rw [e20]; rfl) (by decide) rfl (fun ls hl => ?_)
          refine lv_goto (tgt := 4) hx hb dX1_changeSeats_45 (by decide) ?_
          exact ih4 (x15) (x19) (F18) (L18) (A18) (B18) H locs ls (by have h0 : (1 : Int32).toInt = 1 := rfl; have h1 := ti_addk e20 r8 (by decide); have h2 : rg x19 0 10 := (rg_w r21 (by decide)); unfold rg at h2; omega) r17 (rg_w r21 (by decide)) hq hP hD hS (lv_sub hl [4, 1, 0] rfl)
  exact J4 _ (p1) (0) (F) (L) (A) (B) H locs ls (Nat.lt_succ_self _) (rg_w hp1 (by decide)) (rg_k (by decide)) hq hP hD hS (lv_sub hl [2, 1, 0] rfl)
