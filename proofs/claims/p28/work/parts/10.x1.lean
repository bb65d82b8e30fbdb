abbrev rm_X6_refuseToken_2 : Room := { frames := 1, cells := 0, slots := 0, locals := 21 }
set_option maxHeartbeats 4000000 in
set_option maxRecDepth 100000 in
theorem c_X6_refuseToken_2 (l : Launch) (D : va_G) (cA : Nat → ClassId) (sz : Nat) (ad : Nat → Nat) (F : Nat → Int32) (L : Nat → Int64) (A : Nat → Nat → Int32) (B : Nat → Nat → Int64)  (hT : typX F A) : Met l yX6_refuseToken (Cond.code yX6_refuseToken cX6_refuseToken 2 none :: GW) rm_X6_refuseToken_2 (mPc D classes (tysX cA) (wX cA ad F L A B) sz [.ref (ad 2)]) (mQv (S := SW) D classes (tysX cA) (wX cA ad F L A B) sz (wfX cA ad) (fun u => qX [2, 3] [] F A u.1 u.2.2.1)) 0 0 (va_A (wX cA ad F L A B) sz) := by
  refine met_v (own := "ShoeingDay$Scribe") (by decide +kernel) rfl (Nat.le_of_ble_eq_true rfl) ?_
  intro p e s m args below meth c Q Af ls hC hP hD hS hA hl hret
  have hx := hC.1
  have hb := hC.2.1
  have hown := hC.2.2.2.1
  have hg := hC.g
  have hK := hC.K
  have hl : lv_has ls 2 [(0, .ref (ad 2))] := hl
  have hq : qX [2, 3] [] F A F A := qX.rf hT
  obtain ⟨H, hH⟩ : ∃ H, H = s.heap := ⟨_, rfl⟩
  have hP : va_P D classes (wX cA ad F L A B) H := by rw [hH]; exact hP
  have hS : va_S Af s.heap H [] := by rw [hH]; exact hS
  obtain ⟨locs, hlo⟩ : ∃ q : List Loc, q = [] := ⟨_, rfl⟩
  rw [← hH, ← hlo]
  rw [← hlo] at hS
  refine lv_aload_n hx hb dX6_refuseToken_0 rfl (lv_at hl 0 rfl) ?_
  refine va_get (ci := 6) (v := .ref (ad 3)) (C := RX6) (T := TX6) (N := 4) hx hb hg inX6 hown hK hP 2 atX_2 rfl 0 (by decide) (hg _ mw_212) (fun _ h9 => h9) rfl dX6_refuseToken_1 ?_
  refine va_get (ci := 5) (v := .int (F 6)) (C := RX5) (T := TX5) (N := 14) hx hb hg inX5 hown hK hP 3 atX_3 rfl 10 (by decide) (hg _ mw_111) (fun _ h9 => h9) rfl dX6_refuseToken_4 ?_
  refine lv_topi (fun x1 e2 => ?_)
  have J26 : ∀ (a3 : Int32) (F5 : Nat → Int32) (L5 : Nat → Int64) (A5 : Nat → Nat → Int32) (B5 : Nat → Nat → Int64) (H : Heap) (locs : List Loc) (ls : Array Slot), rg a3 0 1 → qX [2, 3] [] F A F5 A5 → va_P D classes (wX cA ad F5 L5 A5 B5) H → va_D Af (wX cA ad F5 L5 A5 B5) → va_S Af s.heap H locs → lv_has ls 2 [(0, .ref (ad 2))] → W p l e rm_X6_refuseToken_2 s m args below meth c H locs 0 0 Q (F0 m 26 ls [.int a3]) := by
    intro a3 F5 L5 A5 B5 H locs ls r4 hq hP hD hS hl
    refine lv_istore_n (lv' := [(1, .int a3), (0, .ref (ad 2))]) hx hb dX6_refuseToken_26 rfl hl (by decide) rfl (fun ls hl => ?_)
    refine lv_aload_n hx hb dX6_refuseToken_27 rfl (lv_at hl 1 rfl) ?_
    refine lv_iload_n hx hb dX6_refuseToken_28 rfl (lv_at hl 0 rfl) ?_
    have J37 : ∀ (a6 : Int32) (F8 : Nat → Int32) (L8 : Nat → Int64) (A8 : Nat → Nat → Int32) (B8 : Nat → Nat → Int64) (H : Heap) (locs : List Loc) (ls : Array Slot), rg a6 1 2 → qX [2, 3] [] F A F8 A8 → va_P D classes (wX cA ad F8 L8 A8 B8) H → va_D Af (wX cA ad F8 L8 A8 B8) → va_S Af s.heap H locs → lv_has ls 2 [] → W p l e rm_X6_refuseToken_2 s m args below meth c H locs 0 0 Q (F0 m 37 ls [.int a6, .ref (ad 2)]) := by
      intro a6 F8 L8 A8 B8 H locs ls r7 hq hP hD hS hl
      refine callv_v (As := [.int a6]) (rest := []) hC (c_X6_refuse_2 l D cA H.size ad F8 L8 A8 B8 (a6) hq.1 (rg_w r7 (by decide))) (cwV 1 hg (g_V mw_630 mw_627 mw_629 ms_6 mw_2) rfl rfl rfl (by decide +kernel) ⟨(Nat.le_of_ble_eq_true rfl), (Nat.le_of_ble_eq_true rfl)⟩) hP hD hS hA atX_2 rfl rfl hl.1 rfl (Nat.le_of_ble_eq_true rfl) dX6_refuseToken_37 ⟨Nat.zero_le _, Nat.zero_le _⟩ (fun  u H locs hw hP hD hS => ?_)
      obtain ⟨F9, L9, A9, B9⟩ := u
      try dsimp only at hw
      have hq9 := hw
      have hq := hq.call hq9 (by decide)
      have hP : va_P D classes (wX cA ad F9 L9 A9 B9) H := hP
      have hD : va_D Af (wX cA ad F9 L9 A9 B9) := hD
      exact hret (F9, L9, A9, B9) H locs 40 ls dX6_refuseToken_40 hP hD hS hq
    refine lv_if_eq (tgt := 36) hx hb dX6_refuseToken_29 (by decide) (fun c10 => ?_) (fun c10 => ?_)
    · skip
      have r11 : rg a3 0 0 := rg_eq1 c10 (r4 : rg a3 0 1) ((rg_k (by decide)) : rg 0 0 0) (by decide)
      refine lv_iconst (v := 2) hx hb dX6_refuseToken_36 (by decide) ?_
      exact J37 (2) (F5) (L5) (A5) (B5) H locs ls (rg_k (by decide)) hq hP hD hS (lv_sub hl [] rfl)
    · skip
      have r12 : rg a3 1 1 := (rg_ne1 c10 (r4 : rg a3 0 1) ((rg_k (by decide)) : rg 0 0 0)).1 rfl
      refine lv_iconst (v := 1) hx hb dX6_refuseToken_32 (by decide) ?_
      refine lv_goto (tgt := 37) hx hb dX6_refuseToken_33 (by decide) ?_
      exact J37 (1) (F5) (L5) (A5) (B5) H locs ls (rg_k (by decide)) hq hP hD hS (lv_sub hl [] rfl)
  have J21 : ∀ (F13 : Nat → Int32) (L13 : Nat → Int64) (A13 : Nat → Nat → Int32) (B13 : Nat → Nat → Int64) (H : Heap) (locs : List Loc) (ls : Array Slot), qX [2, 3] [] F A F13 A13 → va_P D classes (wX cA ad F13 L13 A13 B13) H → va_D Af (wX cA ad F13 L13 A13 B13) → va_S Af s.heap H locs → lv_has ls 2 [(0, .ref (ad 2))] → W p l e rm_X6_refuseToken_2 s m args below meth c H locs 0 0 Q (F0 m 21 ls []) := by
    intro F13 L13 A13 B13 H locs ls hq hP hD hS hl
    refine lv_iconst (v := 1) hx hb dX6_refuseToken_21 (by decide) ?_
    refine lv_goto (tgt := 26) hx hb dX6_refuseToken_22 (by decide) ?_
    exact J26 (1) (F13) (L13) (A13) (B13) H locs ls (rg_k (by decide)) hq hP hD hS (lv_sub hl [0] rfl)
  refine lv_if_eq (tgt := 21) hx hb dX6_refuseToken_7 (by decide) (fun c14 => ?_) (fun c14 => ?_)
  · skip
    have r15 : rg x1 0 0 := rg_eq1 c14 ((rg_top _) : rg x1 (-2147483648) 2147483647) ((rg_k (by decide)) : rg 0 0 0) (by decide)
    exact J21 (F) (L) (A) (B) H locs ls hq hP hD hS (lv_sub hl [0] rfl)
  · skip
    refine lv_aload_n hx hb dX6_refuseToken_10 rfl (lv_at hl 0 rfl) ?_
    refine va_get (ci := 6) (v := .ref (ad 3)) (C := RX6) (T := TX6) (N := 4) hx hb hg inX6 hown hK hP 2 atX_2 rfl 0 (by decide) (hg _ mw_212) (fun _ h9 => h9) rfl dX6_refuseToken_11 ?_
    refine va_get (ci := 5) (v := .int x1) (C := RX5) (T := TX5) (N := 14) hx hb hg inX5 hown hK hP 3 atX_3 rfl 10 (by decide) (hg _ mw_111) (fun _ h9 => h9) (congrArg (fun z => some (Value.int z)) (e2.symm)) dX6_refuseToken_14 ?_
    refine lv_iconst (v := 1) hx hb dX6_refuseToken_17 (by decide) ?_
    refine lv_icmp_ne (tgt := 25) hx hb dX6_refuseToken_18 (by decide) (fun c16 => ?_) (fun c16 => ?_)
    · skip
      refine lv_iconst (v := 0) hx hb dX6_refuseToken_25 (by decide) ?_
      exact J26 (0) (F) (L) (A) (B) H locs ls (rg_k (by decide)) hq hP hD hS (lv_sub hl [0] rfl)
    · skip
      have r17 : rg x1 1 1 := rg_eq1 c16 ((rg_top _) : rg x1 (-2147483648) 2147483647) ((rg_k (by decide)) : rg 1 1 1) (by decide)
      exact J21 (F) (L) (A) (B) H locs ls hq hP hD hS (lv_sub hl [0] rfl)
abbrev rm_X6_take_2 : Room := { frames := 3, cells := 0, slots := 0, locals := 61 }
set_option maxHeartbeats 4000000 in
set_option maxRecDepth 100000 in
theorem c_X6_take_2 (l : Launch) (D : va_G) (cA : Nat → ClassId) (sz : Nat) (ad : Nat → Nat) (F : Nat → Int32) (L : Nat → Int64) (A : Nat → Nat → Int32) (B : Nat → Nat → Int64) (p1 : Int32) (hT : typX F A) (htx : ad 71 = ad 1) (hp1 : rg p1 2 4) : Met l yX6_take (Cond.code yX6_take cX6_take 2 (some .boolean) :: GW) rm_X6_take_2 (mPc D classes (tysX cA) (wX cA ad F L A B) sz [.ref (ad 2), .int p1]) (mQi (S := SW) D classes (tysX cA) (wX cA ad F L A B) sz (wfX cA ad) (fun r u => qX [2, 3, 5, 6, 7, 8] [] F A u.1 u.2.2.1 ∧ rg r 0 1)) 0 0 (va_A (wX cA ad F L A B) sz) := by
  refine met_i (own := "ShoeingDay$Scribe") (by decide +kernel) rfl (Nat.le_of_ble_eq_true rfl) ?_
  intro p e s m args below meth c Q Af ls hC hP hD hS hA hl hret
  have hx := hC.1
  have hb := hC.2.1
  have hown := hC.2.2.2.1
  have hg := hC.g
  have hK := hC.K
  have hl : lv_has ls 2 [(0, .ref (ad 2)), (1, .int p1)] := hl
  have hq : qX [2, 3, 5, 6, 7, 8] [] F A F A := qX.rf hT
  obtain ⟨H, hH⟩ : ∃ H, H = s.heap := ⟨_, rfl⟩
  have hP : va_P D classes (wX cA ad F L A B) H := by rw [hH]; exact hP
  have hS : va_S Af s.heap H [] := by rw [hH]; exact hS
  obtain ⟨locs, hlo⟩ : ∃ q : List Loc, q = [] := ⟨_, rfl⟩
  rw [← hH, ← hlo]
  rw [← hlo] at hS
  refine lv_aload_n hx hb dX6_take_0 rfl (lv_at hl 0 rfl) ?_
  refine va_get (ci := 6) (v := .ref (ad 3)) (C := RX6) (T := TX6) (N := 4) hx hb hg inX6 hown hK hP 2 atX_2 rfl 0 (by decide) (hg _ mw_212) (fun _ h9 => h9) rfl dX6_take_1 ?_
  refine callv_v (As := []) (rest := []) hC (c_X5_next_3 l D cA H.size ad F L A B  hq.1 htx) (cwV 0 hg (g_V mw_600 mw_597 mw_598 mw_599 mw_3) rfl rfl rfl (by decide +kernel) ⟨(Nat.le_of_ble_eq_true rfl), (Nat.le_of_ble_eq_true rfl)⟩) hP hD hS hA atX_3 rfl rfl hl.1 rfl (Nat.le_of_ble_eq_true rfl) dX6_take_4 ⟨Nat.zero_le _, Nat.zero_le _⟩ (fun  u H locs hw hP hD hS => ?_)
  obtain ⟨F1, L1, A1, B1⟩ := u
  try dsimp only at hw
  have hq1 := hw
  have hq := hq.call hq1 (by decide)
  have hP : va_P D classes (wX cA ad F1 L1 A1 B1) H := hP
  have hD : va_D Af (wX cA ad F1 L1 A1 B1) := hD
  refine lv_aload_n hx hb dX6_take_7 rfl (lv_at hl 0 rfl) ?_
  refine va_get (ci := 6) (v := .ref (ad 3)) (C := RX6) (T := TX6) (N := 4) hx hb hg inX6 hown hK hP 2 atX_2 rfl 0 (by decide) (hg _ mw_212) (fun _ h9 => h9) rfl dX6_take_8 ?_
  refine va_get (ci := 5) (v := .int (F1 6)) (C := RX5) (T := TX5) (N := 14) hx hb hg inX5 hown hK hP 3 atX_3 rfl 10 (by decide) (hg _ mw_111) (fun _ h9 => h9) rfl dX6_take_11 ?_
  refine lv_topi (fun x2 e3 => ?_)
  refine lv_iload_n hx hb dX6_take_14 rfl (lv_at hl 1 rfl) ?_
  have J22 : ∀ (F4 : Nat → Int32) (L4 : Nat → Int64) (A4 : Nat → Nat → Int32) (B4 : Nat → Nat → Int64) (H : Heap) (locs : List Loc) (ls : Array Slot), qX [2, 3, 5, 6, 7, 8] [] F A F4 A4 → F4 6 = x2 → va_P D classes (wX cA ad F4 L4 A4 B4) H → va_D Af (wX cA ad F4 L4 A4 B4) → va_S Af s.heap H locs → lv_has ls 2 [(0, .ref (ad 2)), (1, .int p1)] → W p l e rm_X6_take_2 s m args below meth c H locs 0 0 Q (F0 m 22 ls []) := by
    intro F4 L4 A4 B4 H locs ls hq f5 hP hD hS hl
    refine lv_aload_n hx hb dX6_take_22 rfl (lv_at hl 0 rfl) ?_
    refine va_get (ci := 6) (v := .ref (ad 3)) (C := RX6) (T := TX6) (N := 4) hx hb hg inX6 hown hK hP 2 atX_2 rfl 0 (by decide) (hg _ mw_212) (fun _ h9 => h9) rfl dX6_take_23 ?_
    refine va_get (ci := 5) (v := .int x2) (C := RX5) (T := TX5) (N := 14) hx hb hg inX5 hown hK hP 3 atX_3 rfl 10 (by decide) (hg _ mw_111) (fun _ h9 => h9) (congrArg (fun z => some (Value.int z)) (f5)) dX6_take_26 ?_
    refine lv_iload_n hx hb dX6_take_29 rfl (lv_at hl 1 rfl) ?_
    refine lv_icmp_ne (tgt := 37) hx hb dX6_take_30 (by decide) (fun c6 => ?_) (fun c6 => ?_)
    · skip
      refine lv_iconst (v := 0) hx hb dX6_take_37 (by decide) ?_
      exact hret (0) (F4, L4, A4, B4) H locs 38 ls rfl dX6_take_38 hP hD hS ⟨hq, (rg_k (by decide))⟩
    · skip
      have r7 : rg x2 2 4 := rg_eq1 c6 ((rg_top _) : rg x2 (-2147483648) 2147483647) (hp1 : rg p1 2 4) (by decide)
      refine lv_iconst (v := 1) hx hb dX6_take_33 (by decide) ?_
      refine lv_goto (tgt := 38) hx hb dX6_take_34 (by decide) ?_
      exact hret (1) (F4, L4, A4, B4) H locs 38 ls rfl dX6_take_38 hP hD hS ⟨hq, (rg_k (by decide))⟩
  refine lv_icmp_eq (tgt := 22) hx hb dX6_take_15 (by decide) (fun c8 => ?_) (fun c8 => ?_)
  · skip
    have r9 : rg x2 2 4 := rg_eq1 c8 ((rg_top _) : rg x2 (-2147483648) 2147483647) (hp1 : rg p1 2 4) (by decide)
    exact J22 (F1) (L1) (A1) (B1) H locs ls hq (e3.symm) hP hD hS (lv_sub hl [0, 1] rfl)
  · skip
    refine lv_aload_n hx hb dX6_take_18 rfl (lv_at hl 0 rfl) ?_
    refine callv_v (As := []) (rest := []) hC (c_X6_refuseToken_2 l D cA H.size ad F1 L1 A1 B1  hq.1) (cwV 0 hg (g_V mw_638 mw_635 mw_637 ms_8 mw_2) rfl rfl rfl (by decide +kernel) ⟨(Nat.le_of_ble_eq_true rfl), (Nat.le_of_ble_eq_true rfl)⟩) hP hD hS hA atX_2 rfl rfl hl.1 rfl (Nat.le_of_ble_eq_true rfl) dX6_take_19 ⟨Nat.zero_le _, Nat.zero_le _⟩ (fun  u H locs hw hP hD hS => ?_)
    obtain ⟨F10, L10, A10, B10⟩ := u
    try dsimp only at hw
    have hq10 := hw
    have hq := hq.call hq10 (by decide)
    have hP : va_P D classes (wX cA ad F10 L10 A10 B10) H := hP
    have hD : va_D Af (wX cA ad F10 L10 A10 B10) := hD
    exact J22 (F10) (L10) (A10) (B10) H locs ls hq ((hq10.2.1 6 (by decide)).trans (e3.symm)) hP hD hS (lv_sub hl [0, 1] rfl)
abbrev rm_X6_copyHorse_2 : Room := { frames := 4, cells := 0, slots := 0, locals := 82 }
set_option maxHeartbeats 4000000 in
set_option maxRecDepth 100000 in
theorem c_X6_copyHorse_2 (l : Launch) (D : va_G) (cA : Nat → ClassId) (sz : Nat) (ad : Nat → Nat) (F : Nat → Int32) (L : Nat → Int64) (A : Nat → Nat → Int32) (B : Nat → Nat → Int64)  (hT : typX F A) (htx : ad 71 = ad 1) : Met l yX6_copyHorse (Cond.code yX6_copyHorse cX6_copyHorse 1 none :: GW) rm_X6_copyHorse_2 (mPc D classes (tysX cA) (wX cA ad F L A B) sz [.ref (ad 2)]) (mQv (S := SW) D classes (tysX cA) (wX cA ad F L A B) sz (wfX cA ad) (fun u => qX [2, 3, 5, 6, 7, 8, 10] [6] F A u.1 u.2.2.1)) 0 0 (va_A (wX cA ad F L A B) sz) := by
  refine met_v (own := "ShoeingDay$Scribe") (by decide +kernel) rfl (Nat.le_of_ble_eq_true rfl) ?_
  intro p e s m args below meth c Q Af ls hC hP hD hS hA hl hret
  have hx := hC.1
  have hb := hC.2.1
  have hown := hC.2.2.2.1
  have hg := hC.g
  have hK := hC.K
  have hl : lv_has ls 1 [(0, .ref (ad 2))] := hl
  have hq : qX [2, 3, 5, 6, 7, 8, 10] [6] F A F A := qX.rf hT
  obtain ⟨H, hH⟩ : ∃ H, H = s.heap := ⟨_, rfl⟩
  have hP : va_P D classes (wX cA ad F L A B) H := by rw [hH]; exact hP
  have hS : va_S Af s.heap H [] := by rw [hH]; exact hS
  obtain ⟨locs, hlo⟩ : ∃ q : List Loc, q = [] := ⟨_, rfl⟩
  rw [← hH, ← hlo]
  rw [← hlo] at hS
  refine lv_aload_n hx hb dX6_copyHorse_0 rfl (lv_at hl 0 rfl) ?_
  refine lv_aload_n hx hb dX6_copyHorse_1 rfl (lv_at hl 0 rfl) ?_
  refine va_get (ci := 6) (v := .ref (ad 4)) (C := RX6) (T := TX6) (N := 4) hx hb hg inX6 hown hK hP 2 atX_2 rfl 1 (by decide) (hg _ mw_213) (fun _ h9 => h9) rfl dX6_copyHorse_2 ?_
  refine va_get (ci := 10) (v := .int (F 10)) (C := RX10) (T := TX10) (N := 12) hx hb hg inX10 hown hK hP 4 atX_4 rfl 7 (by decide) (hg _ mw_173) (fun _ h9 => h9) rfl dX6_copyHorse_5 ?_
  refine lv_topi (fun x1 e2 => ?_)
  have r3 : rg x1 0 10 := rg_e e2 (hq.1.1 10)
  refine lv_bipush (v := 10) hx hb dX6_copyHorse_8 (by decide) ?_
  refine callv_i (As := [.int x1, .int 10]) (rest := []) hC (c_X6_roomFor_2 l D cA H.size ad F L A B (x1) (10) hq.1 (rg_k (by decide))) (cwV 2 hg (g_V mw_626 mw_623 mw_625 ms_5 mw_2) rfl rfl rfl (by decide +kernel) ⟨(Nat.le_of_ble_eq_true rfl), (Nat.le_of_ble_eq_true rfl)⟩) hP hD hS hA atX_2 rfl rfl hl.1 rfl (Nat.le_of_ble_eq_true rfl) dX6_copyHorse_10 ⟨Nat.zero_le _, Nat.zero_le _⟩ (fun x4 u H locs hw hP hD hS => ?_)
  obtain ⟨F5, L5, A5, B5⟩ := u
  try dsimp only at hw
  obtain ⟨hq5, r6, g7⟩ := hw
  have hq := hq.call hq5 (by decide)
  have hP : va_P D classes (wX cA ad F5 L5 A5 B5) H := hP
  have hD : va_D Af (wX cA ad F5 L5 A5 B5) := hD
  refine lv_if_eq (tgt := 24) hx hb dX6_copyHorse_13 (by decide) (fun c8 => ?_) (fun c8 => ?_)
  · skip
    have r9 : rg x4 0 0 := rg_eq1 c8 (r6 : rg x4 0 1) ((rg_k (by decide)) : rg 0 0 0) (by decide)
    exact hret (F5, L5, A5, B5) H locs 24 ls dX6_copyHorse_24 hP hD hS hq
  · skip
    have g10 := g7.resolve_left c8
    refine lv_aload_n hx hb dX6_copyHorse_16 rfl (lv_at hl 0 rfl) ?_
    refine lv_iconst (v := 4) hx hb dX6_copyHorse_17 (by decide) ?_
    refine callv_i (As := [.int 4]) (rest := []) hC (c_X6_take_2 l D cA H.size ad F5 L5 A5 B5 (4) hq.1 htx (rg_k (by decide))) (cwV 1 hg (g_V mw_634 mw_631 mw_633 ms_7 mw_2) rfl rfl rfl (by decide +kernel) ⟨(Nat.le_of_ble_eq_true rfl), (Nat.le_of_ble_eq_true rfl)⟩) hP hD hS hA atX_2 rfl rfl hl.1 rfl (Nat.le_of_ble_eq_true rfl) dX6_copyHorse_18 ⟨Nat.zero_le _, Nat.zero_le _⟩ (fun x11 u H locs hw hP hD hS => ?_)
    obtain ⟨F12, L12, A12, B12⟩ := u
    try dsimp only at hw
    obtain ⟨hq12, r13⟩ := hw
    have hq := hq.call hq12 (by decide)
    have hP : va_P D classes (wX cA ad F12 L12 A12 B12) H := hP
    have hD : va_D Af (wX cA ad F12 L12 A12 B12) := hD
    refine lv_if_ne (tgt := 25) hx hb dX6_copyHorse_21 (by decide) (fun c14 => ?_) (fun c14 => ?_)
    · skip
      have r15 : rg x11 1 1 := (rg_ne1 c14 (r13 : rg x11 0 1) ((rg_k (by decide)) : rg 0 0 0)).1 rfl
      refine lv_aload_n hx hb dX6_copyHorse_25 rfl (lv_at hl 0 rfl) ?_
      refine va_get (ci := 6) (v := .ref (ad 4)) (C := RX6) (T := TX6) (N := 4) hx hb hg inX6 hown hK hP 2 atX_2 rfl 1 (by decide) (hg _ mw_213) (fun _ h9 => h9) rfl dX6_copyHorse_26 ?_
      refine lv_aload_n hx hb dX6_copyHorse_29 rfl (lv_at hl 0 rfl) ?_
      refine va_get (ci := 6) (v := .ref (ad 3)) (C := RX6) (T := TX6) (N := 4) hx hb hg inX6 hown hK hP 2 atX_2 rfl 0 (by decide) (hg _ mw_212) (fun _ h9 => h9) rfl dX6_copyHorse_30 ?_
      refine va_get (ci := 5) (v := .long (L12 7)) (C := RX5) (T := TX5) (N := 14) hx hb hg inX5 hown hK hP 3 atX_3 rfl 12 (by decide) (hg _ mw_115) (fun _ h9 => h9) rfl dX6_copyHorse_33 ?_
      refine lv_topl (fun z17 e18 => ?_)
      refine callv_i (As := [.long z17]) (rest := []) hC (c_X10_horseNamed_4 l D cA H.size ad F12 L12 A12 B12 (z17) hq.1) (cwV 1 hg (g_V mw_658 mw_655 mw_656 mw_657 mw_8) rfl rfl rfl (by decide +kernel) ⟨(Nat.le_of_ble_eq_true rfl), (Nat.le_of_ble_eq_true rfl)⟩) hP hD hS hA atX_4 rfl rfl hl.1 rfl (Nat.le_of_ble_eq_true rfl) dX6_copyHorse_36 ⟨Nat.zero_le _, Nat.zero_le _⟩ (fun x19 u H locs hw hP hD hS => ?_)
      have r20 := hw
      have hP : va_P D classes (wX cA ad F12 L12 A12 B12) H := hP
      have hD : va_D Af (wX cA ad F12 L12 A12 B12) := hD
      refine lv_iconst (v := (-1)) hx hb dX6_copyHorse_39 (by decide) ?_
      refine lv_icmp_eq (tgt := 51) hx hb dX6_copyHorse_40 (by decide) (fun c21 => ?_) (fun c21 => ?_)
      · skip
        have r22 : rg x19 (-1) (-1) := rg_eq1 c21 (r20 : rg x19 (-1) 9) ((rg_k (by decide)) : rg (-1) (-1) (-1)) (by decide)
        refine lv_aload_n hx hb dX6_copyHorse_51 rfl (lv_at hl 0 rfl) ?_
        refine lv_iconst (v := 3) hx hb dX6_copyHorse_52 (by decide) ?_
        refine callv_i (As := [.int 3]) (rest := []) hC (c_X6_take_2 l D cA H.size ad F12 L12 A12 B12 (3) hq.1 htx (rg_k (by decide))) (cwV 1 hg (g_V mw_634 mw_631 mw_633 ms_7 mw_2) rfl rfl rfl (by decide +kernel) ⟨(Nat.le_of_ble_eq_true rfl), (Nat.le_of_ble_eq_true rfl)⟩) hP hD hS hA atX_2 rfl rfl hl.1 rfl (Nat.le_of_ble_eq_true rfl) dX6_copyHorse_53 ⟨Nat.zero_le _, Nat.zero_le _⟩ (fun x24 u H locs hw hP hD hS => ?_)
        obtain ⟨F25, L25, A25, B25⟩ := u
        try dsimp only at hw
        obtain ⟨hq25, r26⟩ := hw
        have hq := hq.call hq25 (by decide)
        have hP : va_P D classes (wX cA ad F25 L25 A25 B25) H := hP
        have hD : va_D Af (wX cA ad F25 L25 A25 B25) := hD
        refine lv_if_eq (tgt := 73) hx hb dX6_copyHorse_56 (by decide) (fun c27 => ?_) (fun c27 => ?_)
        · skip
          have r28 : rg x24 0 0 := rg_eq1 c27 (r26 : rg x24 0 1) ((rg_k (by decide)) : rg 0 0 0) (by decide)
          exact hret (F25, L25, A25, B25) H locs 73 ls dX6_copyHorse_73 hP hD hS hq
        · skip
          have r29 : rg x24 1 1 := (rg_ne1 c27 (r26 : rg x24 0 1) ((rg_k (by decide)) : rg 0 0 0)).1 rfl
          refine lv_aload_n hx hb dX6_copyHorse_59 rfl (lv_at hl 0 rfl) ?_
          refine va_get (ci := 6) (v := .ref (ad 4)) (C := RX6) (T := TX6) (N := 4) hx hb hg inX6 hown hK hP 2 atX_2 rfl 1 (by decide) (hg _ mw_213) (fun _ h9 => h9) rfl dX6_copyHorse_60 ?_
          refine lv_aload_n hx hb dX6_copyHorse_63 rfl (lv_at hl 0 rfl) ?_
          refine va_get (ci := 6) (v := .ref (ad 3)) (C := RX6) (T := TX6) (N := 4) hx hb hg inX6 hown hK hP 2 atX_2 rfl 0 (by decide) (hg _ mw_212) (fun _ h9 => h9) rfl dX6_copyHorse_64 ?_
          refine va_get (ci := 5) (v := .long (L25 7)) (C := RX5) (T := TX5) (N := 14) hx hb hg inX5 hown hK hP 3 atX_3 rfl 12 (by decide) (hg _ mw_115) (fun _ h9 => h9) rfl dX6_copyHorse_67 ?_
          refine lv_topl (fun z30 e31 => ?_)
          refine callv_v (As := [.long z30]) (rest := []) hC (c_X10_addHorse_4 l D cA H.size ad F25 L25 A25 B25 (z30) hq.1) (cwV 1 hg (g_V mw_662 mw_659 mw_660 mw_661 mw_8) rfl rfl rfl (by decide +kernel) ⟨(Nat.le_of_ble_eq_true rfl), (Nat.le_of_ble_eq_true rfl)⟩) hP hD hS hA atX_4 rfl rfl hl.1 rfl (Nat.le_of_ble_eq_true rfl) dX6_copyHorse_70 ⟨Nat.zero_le _, Nat.zero_le _⟩ (fun  u H locs hw hP hD hS => ?_)
          obtain ⟨F32, L32, A32, B32⟩ := u
          try dsimp only at hw
          have hq32 := hw
          have hq := hq.call hq32 (by decide)
          have hP : va_P D classes (wX cA ad F32 L32 A32 B32) H := hP
          have hD : va_D Af (wX cA ad F32 L32 A32 B32) := hD
          exact hret (F32, L32, A32, B32) H locs 73 ls dX6_copyHorse_73 hP hD hS hq
      · skip
        have r23 : rg x19 0 9 := (rg_ne1 c21 (r20 : rg x19 (-1) 9) ((rg_k (by decide)) : rg (-1) (-1) (-1))).1 rfl
        refine lv_aload_n hx hb dX6_copyHorse_43 rfl (lv_at hl 0 rfl) ?_
        refine lv_iconst (v := 3) hx hb dX6_copyHorse_44 (by decide) ?_
        refine callv_v (As := [.int 3]) (rest := []) hC (c_X6_refuse_2 l D cA H.size ad F12 L12 A12 B12 (3) hq.1 (rg_k (by decide))) (cwV 1 hg (g_V mw_630 mw_627 mw_629 ms_6 mw_2) rfl rfl rfl (by decide +kernel) ⟨(Nat.le_of_ble_eq_true rfl), (Nat.le_of_ble_eq_true rfl)⟩) hP hD hS hA atX_2 rfl rfl hl.1 rfl (Nat.le_of_ble_eq_true rfl) dX6_copyHorse_45 ⟨Nat.zero_le _, Nat.zero_le _⟩ (fun  u H locs hw hP hD hS => ?_)
        obtain ⟨F33, L33, A33, B33⟩ := u
        try dsimp only at hw
        have hq33 := hw
        have hq := hq.call hq33 (by decide)
        have hP : va_P D classes (wX cA ad F33 L33 A33 B33) H := hP
        have hD : va_D Af (wX cA ad F33 L33 A33 B33) := hD
        refine lv_goto (tgt := 73) hx hb dX6_copyHorse_48 (by decide) ?_
        exact hret (F33, L33, A33, B33) H locs 73 ls dX6_copyHorse_73 hP hD hS hq
    · skip
      have r16 : rg x11 0 0 := rg_eq1 c14 (r13 : rg x11 0 1) ((rg_k (by decide)) : rg 0 0 0) (by decide)
      exact hret (F12, L12, A12, B12) H locs 24 ls dX6_copyHorse_24 hP hD hS hq
abbrev rm_X10_addHours_4 : Room := { frames := 1, cells := 0, slots := 0, locals := 21 }
set_option maxHeartbeats 4000000 in
set_option maxRecDepth 100000 in
theorem c_X10_addHours_4 (l : Launch) (D : va_G) (cA : Nat → ClassId) (sz : Nat) (ad : Nat → Nat) (F : Nat → Int32) (L : Nat → Int64) (A : Nat → Nat → Int32) (B : Nat → Nat → Int64) (p1 : Int32) (p2 : Int32) (p3 : Int32) (hT : typX F A) (hp1 : rg p1 0 7) (hp2 : rg p2 0 9) : Met l yX10_addHours (Cond.code yX10_addHours cX10_addHours 4 none :: GW) rm_X10_addHours_4 (mPc D classes (tysX cA) (wX cA ad F L A B) sz [.ref (ad 4), .int p1, .int p2, .int p3]) (mQv (S := SW) D classes (tysX cA) (wX cA ad F L A B) sz (wfX cA ad) (fun u => qX [12] [9, 10] F A u.1 u.2.2.1)) 0 0 (va_A (wX cA ad F L A B) sz) := by
  refine met_v (own := "ShoeingDay$Yard") (by decide +kernel) rfl (Nat.le_of_ble_eq_true rfl) ?_
  intro p e s m args below meth c Q Af ls hC hP hD hS hA hl hret
  have hx := hC.1
  have hb := hC.2.1
  have hown := hC.2.2.2.1
  have hg := hC.g
  have hK := hC.K
  have hl : lv_has ls 4 [(0, .ref (ad 4)), (1, .int p1), (2, .int p2), (3, .int p3)] := hl
  have hq : qX [12] [9, 10] F A F A := qX.rf hT
  obtain ⟨H, hH⟩ : ∃ H, H = s.heap := ⟨_, rfl⟩
  have hP : va_P D classes (wX cA ad F L A B) H := by rw [hH]; exact hP
  have hS : va_S Af s.heap H [] := by rw [hH]; exact hS
  obtain ⟨locs, hlo⟩ : ∃ q : List Loc, q = [] := ⟨_, rfl⟩
  rw [← hH, ← hlo]
  rw [← hlo] at hS
  refine lv_aload_n hx hb dX10_addHours_0 rfl (lv_at hl 0 rfl) ?_
  refine va_get (ci := 10) (v := .ref (ad 9)) (C := RX10) (T := TX10) (N := 12) hx hb hg inX10 hown hK hP 4 atX_4 rfl 4 (by decide) (hg _ mw_161) (fun _ h9 => h9) rfl dX10_addHours_1 ?_
  refine lv_iload_n hx hb dX10_addHours_4 rfl (lv_at hl 1 rfl) ?_
  refine lv_dup2_11 hx hb dX10_addHours_5 rfl rfl ?_
  refine va_iald hx hb hK hP 9 5 atX_9 tyX_9 (in_rg hp1 (by decide)) dX10_addHours_6 ?_
  refine lv_topi (fun x1 e2 => ?_)
  refine lv_iconst (v := 1) hx hb dX10_addHours_7 (by decide) ?_
  refine lv_iload_n hx hb dX10_addHours_8 rfl (lv_at hl 2 rfl) ?_
  refine lv_ishl hx hb dX10_addHours_9 ?_
  refine lv_topi (fun x3 e4 => ?_)
  have r5 : rg x3 1 512 := rg_shl1 e4 hp2 (by decide)
  refine lv_ior hx hb dX10_addHours_10 ?_
  refine lv_topi (fun x6 e7 => ?_)
  refine va_iast hx hb hK hP hD hS 9 5 atX_9 tyX_9 (in_rg hp1 (by decide)) dX10_addHours_11 (fun H locs hP hD hS => ?_)
  have hq := hq.ast 9 (p1).toNatClampNeg (x := x6) (by decide) (rg_top _)
  rw [setX_9] at hP hD
  have k8 : x6 = (va_up A 9 (upd (A 9) (p1).toNatClampNeg x6)) 9 (p1).toNatClampNeg := (rdA).symm
  refine lv_aload_n hx hb dX10_addHours_12 rfl (lv_at hl 0 rfl) ?_
  refine va_get (ci := 10) (v := .ref (ad 10)) (C := RX10) (T := TX10) (N := 12) hx hb hg inX10 hown hK hP 4 atX_4 rfl 5 (by decide) (hg _ mw_163) (fun _ h9 => h9) rfl dX10_addHours_13 ?_
  refine lv_iload_n hx hb dX10_addHours_16 rfl (lv_at hl 1 rfl) ?_
  refine lv_iload_n hx hb dX10_addHours_17 rfl (lv_at hl 2 rfl) ?_
  refine calln_i (As := [.int p1, .int p2]) (rest := [.ref (ad 10)]) hC (c_X11_cellOf l D (tysX cA) (wX cA ad F L (va_up A 9 (upd (A 9) (p1).toNatClampNeg x6)) B) H.size (p1) (p2)) ⟨va_cnB 2 hg (g_N mw_681) rfl rfl rfl (mn_10 hC.N) (hg _ mw_1) (by decide +kernel) ⟨(Nat.le_of_ble_eq_true rfl), (Nat.le_of_ble_eq_true rfl)⟩, (hg _ mw_680), trivial⟩ hP hD hS hA rfl hl.1 rfl (Nat.le_of_ble_eq_true rfl) dX10_addHours_18 ⟨Nat.zero_le _, Nat.zero_le _⟩ (fun x9 u H locs hw hP hD hS => ?_)
  have e10 := hw
  have hP : va_P D classes (wX cA ad F L (va_up A 9 (upd (A 9) (p1).toNatClampNeg x6)) B) H := hP
  have hD : va_D Af (wX cA ad F L (va_up A 9 (upd (A 9) (p1).toNatClampNeg x6)) B) := hD
  have r11 : rg x9 0 79 := rg_cell hw (hp1 : rg p1 0 7) (hp2 : rg p2 0 9) (by decide)
  refine lv_iload_n hx hb dX10_addHours_21 rfl (lv_at hl 3 rfl) ?_
  refine va_iast hx hb hK hP hD hS 10 6 atX_10 tyX_10 (in_rg r11 (by decide)) dX10_addHours_22 (fun H locs hP hD hS => ?_)
  have hq := hq.ast 10 (x9).toNatClampNeg (x := p3) (by decide) (rg_top _)
  rw [setX_10] at hP hD
  have k12 : p3 = (va_up (va_up A 9 (upd (A 9) (p1).toNatClampNeg x6)) 10 (upd ((va_up A 9 (upd (A 9) (p1).toNatClampNeg x6)) 10) (x9).toNatClampNeg p3)) 10 (x9).toNatClampNeg := (rdA).symm
  refine lv_aload_n hx hb dX10_addHours_23 rfl (lv_at hl 0 rfl) ?_
  refine lv_dup hx hb dX10_addHours_24 rfl ?_
  refine va_get (ci := 10) (v := .int (F 12)) (C := RX10) (T := TX10) (N := 12) hx hb hg inX10 hown hK hP 4 atX_4 rfl 9 (by decide) (hg _ mw_177) (fun _ h9 => h9) rfl dX10_addHours_25 ?_
  refine lv_topi (fun x13 e14 => ?_)
  refine lv_iconst (v := 1) hx hb dX10_addHours_28 (by decide) ?_
  refine lv_iadd hx hb dX10_addHours_29 ?_
  refine lv_topi (fun x15 e16 => ?_)
  refine va_put (ci := 10) (v := .int x15) (ty := .int) (C := RX10) (T := TX10) (N := 12) hx hb hg inX10 tyX10 tyX10_ok nmX10 hown hK hP hD hS 4 atX_4 rfl 9 (by decide) (hg _ mw_177) (fun _ h9 => h9) rfl (by decide +kernel) rfl rfl (Nat.le_of_ble_eq_true rfl) dX10_addHours_30 (fun H locs hP hD hS => ?_)
  have hq := hq.put 12 (x := x15) (by decide) (rg_top _)
  rw [setFX_12] at hP hD
  exact hret ((upd F 12 x15), L, (va_up (va_up A 9 (upd (A 9) (p1).toNatClampNeg x6)) 10 (upd ((va_up A 9 (upd (A 9) (p1).toNatClampNeg x6)) 10) (x9).toNatClampNeg p3)), B) H locs 33 ls dX10_addHours_33 hP hD hS hq
abbrev rm_X6_takeNumber_2 : Room := { frames := 4, cells := 0, slots := 0, locals := 82 }
set_option maxHeartbeats 4000000 in
set_option maxRecDepth 100000 in
theorem c_X6_takeNumber_2 (l : Launch) (D : va_G) (cA : Nat → ClassId) (sz : Nat) (ad : Nat → Nat) (F : Nat → Int32) (L : Nat → Int64) (A : Nat → Nat → Int32) (B : Nat → Nat → Int64) (p1 : Int32) (hT : typX F A) (htx : ad 71 = ad 1) (hp1 : rg p1 99 9999) : Met l yX6_takeNumber (Cond.code yX6_takeNumber cX6_takeNumber 2 (some .boolean) :: GW) rm_X6_takeNumber_2 (mPc D classes (tysX cA) (wX cA ad F L A B) sz [.ref (ad 2), .int p1]) (mQi (S := SW) D classes (tysX cA) (wX cA ad F L A B) sz (wfX cA ad) (fun r u => qX [2, 3, 5, 6, 7, 8] [] F A u.1 u.2.2.1 ∧ rg r 0 1)) 0 0 (va_A (wX cA ad F L A B) sz) := by
  refine met_i (own := "ShoeingDay$Scribe") (by decide +kernel) rfl (Nat.le_of_ble_eq_true rfl) ?_
  intro p e s m args below meth c Q Af ls hC hP hD hS hA hl hret
  have hx := hC.1
  have hb := hC.2.1
  have hown := hC.2.2.2.1
  have hg := hC.g
  have hK := hC.K
  have hl : lv_has ls 2 [(0, .ref (ad 2)), (1, .int p1)] := hl
  have hq : qX [2, 3, 5, 6, 7, 8] [] F A F A := qX.rf hT
  obtain ⟨H, hH⟩ : ∃ H, H = s.heap := ⟨_, rfl⟩
  have hP : va_P D classes (wX cA ad F L A B) H := by rw [hH]; exact hP
  have hS : va_S Af s.heap H [] := by rw [hH]; exact hS
  obtain ⟨locs, hlo⟩ : ∃ q : List Loc, q = [] := ⟨_, rfl⟩
  rw [← hH, ← hlo]
  rw [← hlo] at hS
  refine lv_aload_n hx hb dX6_takeNumber_0 rfl (lv_at hl 0 rfl) ?_
  refine lv_iconst (v := 2) hx hb dX6_takeNumber_1 (by decide) ?_
  refine callv_i (As := [.int 2]) (rest := []) hC (c_X6_take_2 l D cA H.size ad F L A B (2) hq.1 htx (rg_k (by decide))) (cwV 1 hg (g_V mw_634 mw_631 mw_633 ms_7 mw_2) rfl rfl rfl (by decide +kernel) ⟨(Nat.le_of_ble_eq_true rfl), (Nat.le_of_ble_eq_true rfl)⟩) hP hD hS hA atX_2 rfl rfl hl.1 rfl (Nat.le_of_ble_eq_true rfl) dX6_takeNumber_2 ⟨Nat.zero_le _, Nat.zero_le _⟩ (fun x1 u H locs hw hP hD hS => ?_)
  obtain ⟨F2, L2, A2, B2⟩ := u
  try dsimp only at hw
  obtain ⟨hq2, r3⟩ := hw
  have hq := hq.call hq2 (by decide)
  have hP : va_P D classes (wX cA ad F2 L2 A2 B2) H := hP
  have hD : va_D Af (wX cA ad F2 L2 A2 B2) := hD
  refine lv_if_ne (tgt := 10) hx hb dX6_takeNumber_5 (by decide) (fun c4 => ?_) (fun c4 => ?_)
  · skip
    have r5 : rg x1 1 1 := (rg_ne1 c4 (r3 : rg x1 0 1) ((rg_k (by decide)) : rg 0 0 0)).1 rfl
    refine lv_aload_n hx hb dX6_takeNumber_10 rfl (lv_at hl 0 rfl) ?_
    refine va_get (ci := 6) (v := .ref (ad 3)) (C := RX6) (T := TX6) (N := 4) hx hb hg inX6 hown hK hP 2 atX_2 rfl 0 (by decide) (hg _ mw_212) (fun _ h9 => h9) rfl dX6_takeNumber_11 ?_
    refine va_get (ci := 5) (v := .int (F2 8)) (C := RX5) (T := TX5) (N := 14) hx hb hg inX5 hown hK hP 3 atX_3 rfl 13 (by decide) (hg _ mw_117) (fun _ h9 => h9) rfl dX6_takeNumber_14 ?_
    refine lv_topi (fun x7 e8 => ?_)
    refine lv_iload_n hx hb dX6_takeNumber_17 rfl (lv_at hl 1 rfl) ?_
    have J26 : ∀ (F9 : Nat → Int32) (L9 : Nat → Int64) (A9 : Nat → Nat → Int32) (B9 : Nat → Nat → Int64) (H : Heap) (locs : List Loc) (ls : Array Slot), qX [2, 3, 5, 6, 7, 8] [] F A F9 A9 → F9 8 = x7 → va_P D classes (wX cA ad F9 L9 A9 B9) H → va_D Af (wX cA ad F9 L9 A9 B9) → va_S Af s.heap H locs → lv_has ls 2 [(0, .ref (ad 2)), (1, .int p1)] → W p l e rm_X6_takeNumber_2 s m args below meth c H locs 0 0 Q (F0 m 26 ls []) := by
      intro F9 L9 A9 B9 H locs ls hq f10 hP hD hS hl
      refine lv_aload_n hx hb dX6_takeNumber_26 rfl (lv_at hl 0 rfl) ?_
      refine va_get (ci := 6) (v := .ref (ad 3)) (C := RX6) (T := TX6) (N := 4) hx hb hg inX6 hown hK hP 2 atX_2 rfl 0 (by decide) (hg _ mw_212) (fun _ h9 => h9) rfl dX6_takeNumber_27 ?_
      refine va_get (ci := 5) (v := .int x7) (C := RX5) (T := TX5) (N := 14) hx hb hg inX5 hown hK hP 3 atX_3 rfl 13 (by decide) (hg _ mw_117) (fun _ h9 => h9) (congrArg (fun z => some (Value.int z)) (f10)) dX6_takeNumber_30 ?_
      refine lv_iload_n hx hb dX6_takeNumber_33 rfl (lv_at hl 1 rfl) ?_
      refine lv_icmp_gt (tgt := 41) hx hb dX6_takeNumber_34 (by decide) (fun c11 => ?_) (fun c11 => ?_)
      · skip
        have r12 : rg x7 100 2147483647 := rg_lt2 (iL c11) (hp1 : rg p1 99 9999) ((rg_top _) : rg x7 (-2147483648) 2147483647)
        refine lv_iconst (v := 0) hx hb dX6_takeNumber_41 (by decide) ?_
        exact hret (0) (F9, L9, A9, B9) H locs 42 ls rfl dX6_takeNumber_42 hP hD hS ⟨hq, (rg_k (by decide))⟩
      · skip
        have r13 : rg x7 (-2147483648) 9999 := rg_le1 (iNL c11) ((rg_top _) : rg x7 (-2147483648) 2147483647) (hp1 : rg p1 99 9999)
        refine lv_iconst (v := 1) hx hb dX6_takeNumber_37 (by decide) ?_
        refine lv_goto (tgt := 42) hx hb dX6_takeNumber_38 (by decide) ?_
        exact hret (1) (F9, L9, A9, B9) H locs 42 ls rfl dX6_takeNumber_42 hP hD hS ⟨hq, (rg_k (by decide))⟩
    refine lv_icmp_le (tgt := 26) hx hb dX6_takeNumber_18 (by decide) (fun c14 => ?_) (fun c14 => ?_)
    · skip
      have r15 : rg x7 (-2147483648) 9999 := rg_le1 (iE c14) ((rg_top _) : rg x7 (-2147483648) 2147483647) (hp1 : rg p1 99 9999)
      exact J26 (F2) (L2) (A2) (B2) H locs ls hq (e8.symm) hP hD hS (lv_sub hl [0, 1] rfl)
    · skip
      have r16 : rg x7 100 2147483647 := rg_lt2 (iNE c14) (hp1 : rg p1 99 9999) ((rg_top _) : rg x7 (-2147483648) 2147483647)
      refine lv_aload_n hx hb dX6_takeNumber_21 rfl (lv_at hl 0 rfl) ?_
      refine lv_iconst (v := 4) hx hb dX6_takeNumber_22 (by decide) ?_
      refine callv_v (As := [.int 4]) (rest := []) hC (c_X6_refuse_2 l D cA H.size ad F2 L2 A2 B2 (4) hq.1 (rg_k (by decide))) (cwV 1 hg (g_V mw_630 mw_627 mw_629 ms_6 mw_2) rfl rfl rfl (by decide +kernel) ⟨(Nat.le_of_ble_eq_true rfl), (Nat.le_of_ble_eq_true rfl)⟩) hP hD hS hA atX_2 rfl rfl hl.1 rfl (Nat.le_of_ble_eq_true rfl) dX6_takeNumber_23 ⟨Nat.zero_le _, Nat.zero_le _⟩ (fun  u H locs hw hP hD hS => ?_)
      obtain ⟨F17, L17, A17, B17⟩ := u
      try dsimp only at hw
      have hq17 := hw
      have hq := hq.call hq17 (by decide)
      have hP : va_P D classes (wX cA ad F17 L17 A17 B17) H := hP
      have hD : va_D Af (wX cA ad F17 L17 A17 B17) := hD
      exact J26 (F17) (L17) (A17) (B17) H locs ls hq ((hq17.2.1 8 (by decide)).trans (e8.symm)) hP hD hS (lv_sub hl [0, 1] rfl)
  · skip
    have r6 : rg x1 0 0 := rg_eq1 c4 (r3 : rg x1 0 1) ((rg_k (by decide)) : rg 0 0 0) (by decide)
    refine lv_iconst (v := 0) hx hb dX6_takeNumber_8 (by decide) ?_
    exact hret (0) (F2, L2, A2, B2) H locs 9 ls rfl dX6_takeNumber_9 hP hD hS ⟨hq, (rg_k (by decide))⟩
abbrev rm_X10_smithNamed_4 : Room := { frames := 0, cells := 0, slots := 0, locals := 0 }
set_option maxHeartbeats 4000000 in
set_option maxRecDepth 100000 in
theorem c_X10_smithNamed_4 (l : Launch) (D : va_G) (cA : Nat → ClassId) (sz : Nat) (ad : Nat → Nat) (F : Nat → Int32) (L : Nat → Int64) (A : Nat → Nat → Int32) (B : Nat → Nat → Int64) (p1 : Int64) (hT : typX F A) : Met l yX10_smithNamed (Cond.code yX10_smithNamed cX10_smithNamed 4 (some .int) :: GW) rm_X10_smithNamed_4 (mPc D classes (tysX cA) (wX cA ad F L A B) sz [.ref (ad 4), .long p1]) (mQi (S := Unit) D classes (tysX cA) (wX cA ad F L A B) sz (fun _ : Unit => wX cA ad F L A B) (fun r u => rg r (-1) 7)) 0 0 (va_A (wX cA ad F L A B) sz) := by
  refine met_i (own := "ShoeingDay$Yard") (by decide +kernel) rfl (Nat.le_of_ble_eq_true rfl) ?_
  intro p e s m args below meth c Q Af ls hC hP hD hS hA hl hret
  have hx := hC.1
  have hb := hC.2.1
  have hown := hC.2.2.2.1
  have hg := hC.g
  have hK := hC.K
  have hl : lv_has ls 4 [(0, .ref (ad 4)), (1, .long p1)] := hl
  have hq : qX [] [] F A F A := qX.rf hT
  obtain ⟨H, hH⟩ : ∃ H, H = s.heap := ⟨_, rfl⟩
  have hP : va_P D classes (wX cA ad F L A B) H := by rw [hH]; exact hP
  have hS : va_S Af s.heap H [] := by rw [hH]; exact hS
  obtain ⟨locs, hlo⟩ : ∃ q : List Loc, q = [] := ⟨_, rfl⟩
  rw [← hH, ← hlo]
  rw [← hlo] at hS
  refine lv_iconst (v := 0) hx hb dX10_smithNamed_0 (by decide) ?_
  refine lv_istore_n (lv' := [(3, .int 0), (0, .ref (ad 4)), (1, .long p1)]) hx hb dX10_smithNamed_1 rfl hl (by decide) rfl (fun ls hl => ?_)
  have J2 : ∀ (n2 : Nat) (a1 : Int32) (H : Heap) (locs : List Loc) (ls : Array Slot), (8 - a1.toInt).toNat < n2 → rg a1 0 8 → va_P D classes (wX cA ad F L A B) H → va_D Af (wX cA ad F L A B) → va_S Af s.heap H locs → lv_has ls 4 [(0, .ref (ad 4)), (1, .long p1), (3, .int a1)] → W p l e rm_X10_smithNamed_4 s m args below meth c H locs 0 0 Q (F0 m 2 ls []) := by
    intro n2
    induction n2 with
    | zero =>
      intro _ _ _ _ hn
      exact absurd hn (Nat.not_lt_zero _)
    | succ n2 ih2 =>
      intro a1 H locs ls hn2 r2 hP hD hS hl
      refine lv_iload_n hx hb dX10_smithNamed_2 rfl (lv_at hl 2 rfl) ?_
      refine lv_aload_n hx hb dX10_smithNamed_3 rfl (lv_at hl 0 rfl) ?_
      refine va_get (ci := 10) (v := .int (F 9)) (C := RX10) (T := TX10) (N := 12) hx hb hg inX10 hown hK hP 4 atX_4 rfl 6 (by decide) (hg _ mw_166) (fun _ h9 => h9) rfl dX10_smithNamed_4 ?_
      refine lv_topi (fun x3 e4 => ?_)
      have r5 : rg x3 0 8 := rg_e e4 (hq.1.1 9)
      refine lv_icmp_ge (tgt := 29) hx hb dX10_smithNamed_7 (by decide) (fun c6 => ?_) (fun c6 => ?_)
      · skip
        refine lv_iconst (v := (-1)) hx hb dX10_smithNamed_29 (by decide) ?_
        exact hret ((-1)) () H locs 30 ls rfl dX10_smithNamed_30 hP hD hS (rg_k (by decide))
      · skip
        have r7 : rg a1 0 7 := rg_lt1 (iNE c6) (r2 : rg a1 0 8) (r5 : rg x3 0 8)
        have r8 : rg x3 1 8 := rg_lt2 (iNE c6) (r2 : rg a1 0 8) (r5 : rg x3 0 8)
        refine lv_aload_n hx hb dX10_smithNamed_10 rfl (lv_at hl 0 rfl) ?_
        refine va_get (ci := 10) (v := .ref (ad 5)) (C := RX10) (T := TX10) (N := 12) hx hb hg inX10 hown hK hP 4 atX_4 rfl 0 (by decide) (hg _ mw_154) (fun _ h9 => h9) rfl dX10_smithNamed_11 ?_
        refine lv_iload_n hx hb dX10_smithNamed_14 rfl (lv_at hl 2 rfl) ?_
        refine va_lald hx hb hK hP 5 1 atX_5 tyX_5 (in_rg r7 (by decide)) dX10_smithNamed_15 ?_
        refine lv_topl (fun z9 _ => ?_)
        refine lv_lload_n hx hb dX10_smithNamed_16 rfl (lv_at hl 1 rfl) ?_
        refine W.lcmp hx hb dX10_smithNamed_17 ?_
        refine lv_topi (fun x10 e11 => ?_)
        refine lv_if_ne (tgt := 23) hx hb dX10_smithNamed_18 (by decide) (fun c12 => ?_) (fun c12 => ?_)
        · skip
          obtain ⟨x14, e15⟩ : ∃ y : Int32, y = a1 + 1 := ⟨_, rfl⟩
          have r16 : rg x14 1 8 := rg_add e15 r7 (rg_k (by decide) : rg 1 1 1) (by decide)
          refine lv_iinc (v := x14) (lv' := [(3, .int x14), (0, .ref (ad 4)), (1, .long p1)]) hx hb dX10_smithNamed_23 hl (k := 2) rfl (by rw [e15]; rfl) (by decide) rfl (fun ls hl => ?_)
          refine lv_goto (tgt := 2) hx hb dX10_smithNamed_26 (by decide) ?_
          exact ih2 (x14) H locs ls (by have h0 : (1 : Int32).toInt = 1 := rfl; have h1 := ti_addk e15 r7 (by decide); have h2 : rg x14 0 8 := (rg_w r16 (by decide)); unfold rg at h2; omega) (rg_w r16 (by decide)) hP hD hS (lv_sub hl [1, 2, 0] rfl)
        · skip
          have r13 : rg x10 0 0 := rg_eq1 c12 ((rg_top _) : rg x10 (-2147483648) 2147483647) ((rg_k (by decide)) : rg 0 0 0) (by decide)
          refine lv_iload_n hx hb dX10_smithNamed_21 rfl (lv_at hl 2 rfl) ?_
          exact hret (a1) () H locs 22 ls rfl dX10_smithNamed_22 hP hD hS (rg_w r7 (by decide))
  exact J2 _ (0) H locs ls (Nat.lt_succ_self _) (rg_k (by decide)) hP hD hS (lv_sub hl [1, 2, 0] rfl)
abbrev rm_X6_knownSmith_2 : Room := { frames := 1, cells := 0, slots := 0, locals := 23 }
set_option maxHeartbeats 4000000 in
set_option maxRecDepth 100000 in
theorem c_X6_knownSmith_2 (l : Launch) (D : va_G) (cA : Nat → ClassId) (sz : Nat) (ad : Nat → Nat) (F : Nat → Int32) (L : Nat → Int64) (A : Nat → Nat → Int32) (B : Nat → Nat → Int64)  (hT : typX F A) : Met l yX6_knownSmith (Cond.code yX6_knownSmith cX6_knownSmith 2 (some .int) :: GW) rm_X6_knownSmith_2 (mPc D classes (tysX cA) (wX cA ad F L A B) sz [.ref (ad 2)]) (mQi (S := SW) D classes (tysX cA) (wX cA ad F L A B) sz (wfX cA ad) (fun r u => qX [2, 3] [] F A u.1 u.2.2.1 ∧ rg r (-1) 7)) 0 0 (va_A (wX cA ad F L A B) sz) := by
  refine met_i (own := "ShoeingDay$Scribe") (by decide +kernel) rfl (Nat.le_of_ble_eq_true rfl) ?_
  intro p e s m args below meth c Q Af ls hC hP hD hS hA hl hret
  have hx := hC.1
  have hb := hC.2.1
  have hown := hC.2.2.2.1
  have hg := hC.g
  have hK := hC.K
  have hl : lv_has ls 2 [(0, .ref (ad 2))] := hl
  have hq : qX [2, 3] [] F A F A := qX.rf hT
  obtain ⟨H, hH⟩ : ∃ H, H = s.heap := ⟨_, rfl⟩
  have hP : va_P D classes (wX cA ad F L A B) H := by rw [hH]; exact hP
  have hS : va_S Af s.heap H [] := by rw [hH]; exact hS
  obtain ⟨locs, hlo⟩ : ∃ q : List Loc, q = [] := ⟨_, rfl⟩
  rw [← hH, ← hlo]
  rw [← hlo] at hS
  refine lv_aload_n hx hb dX6_knownSmith_0 rfl (lv_at hl 0 rfl) ?_
  refine va_get (ci := 6) (v := .ref (ad 4)) (C := RX6) (T := TX6) (N := 4) hx hb hg inX6 hown hK hP 2 atX_2 rfl 1 (by decide) (hg _ mw_213) (fun _ h9 => h9) rfl dX6_knownSmith_1 ?_
  refine lv_aload_n hx hb dX6_knownSmith_4 rfl (lv_at hl 0 rfl) ?_
  refine va_get (ci := 6) (v := .ref (ad 3)) (C := RX6) (T := TX6) (N := 4) hx hb hg inX6 hown hK hP 2 atX_2 rfl 0 (by decide) (hg _ mw_212) (fun _ h9 => h9) rfl dX6_knownSmith_5 ?_
  refine va_get (ci := 5) (v := .long (L 7)) (C := RX5) (T := TX5) (N := 14) hx hb hg inX5 hown hK hP 3 atX_3 rfl 12 (by decide) (hg _ mw_115) (fun _ h9 => h9) rfl dX6_knownSmith_8 ?_
  refine lv_topl (fun z1 e2 => ?_)
  refine callv_i (As := [.long z1]) (rest := []) hC (c_X10_smithNamed_4 l D cA H.size ad F L A B (z1) hq.1) (cwV 1 hg (g_V mw_642 mw_639 mw_640 mw_641 mw_8) rfl rfl rfl (by decide +kernel) ⟨(Nat.le_of_ble_eq_true rfl), (Nat.le_of_ble_eq_true rfl)⟩) hP hD hS hA atX_4 rfl rfl hl.1 rfl (Nat.le_of_ble_eq_true rfl) dX6_knownSmith_11 ⟨Nat.zero_le _, Nat.zero_le _⟩ (fun x3 u H locs hw hP hD hS => ?_)
  have r4 := hw
  have hP : va_P D classes (wX cA ad F L A B) H := hP
  have hD : va_D Af (wX cA ad F L A B) := hD
  refine lv_istore_n (lv' := [(1, .int x3), (0, .ref (ad 2))]) hx hb dX6_knownSmith_14 rfl hl (by decide) rfl (fun ls hl => ?_)
  refine lv_iload_n hx hb dX6_knownSmith_15 rfl (lv_at hl 0 rfl) ?_
  refine lv_iconst (v := (-1)) hx hb dX6_knownSmith_16 (by decide) ?_
  have J25 : ∀ (F5 : Nat → Int32) (L5 : Nat → Int64) (A5 : Nat → Nat → Int32) (B5 : Nat → Nat → Int64) (H : Heap) (locs : List Loc) (ls : Array Slot), qX [2, 3] [] F A F5 A5 → va_P D classes (wX cA ad F5 L5 A5 B5) H → va_D Af (wX cA ad F5 L5 A5 B5) → va_S Af s.heap H locs → lv_has ls 2 [(1, .int x3)] → W p l e rm_X6_knownSmith_2 s m args below meth c H locs 0 0 Q (F0 m 25 ls []) := by
    intro F5 L5 A5 B5 H locs ls hq hP hD hS hl
    refine lv_iload_n hx hb dX6_knownSmith_25 rfl (lv_at hl 0 rfl) ?_
    exact hret (x3) (F5, L5, A5, B5) H locs 26 ls rfl dX6_knownSmith_26 hP hD hS ⟨hq, r4⟩
  refine lv_icmp_ne (tgt := 25) hx hb dX6_knownSmith_17 (by decide) (fun c6 => ?_) (fun c6 => ?_)
  · skip
    have r7 : rg x3 0 7 := (rg_ne1 c6 (r4 : rg x3 (-1) 7) ((rg_k (by decide)) : rg (-1) (-1) (-1))).1 rfl
    exact J25 (F) (L) (A) (B) H locs ls hq hP hD hS (lv_sub hl [0] rfl)
  · skip
    have r8 : rg x3 (-1) (-1) := rg_eq1 c6 (r4 : rg x3 (-1) 7) ((rg_k (by decide)) : rg (-1) (-1) (-1)) (by decide)
    refine lv_aload_n hx hb dX6_knownSmith_20 rfl (lv_at hl 1 rfl) ?_
    refine lv_iconst (v := 5) hx hb dX6_knownSmith_21 (by decide) ?_
    refine callv_v (As := [.int 5]) (rest := []) hC (c_X6_refuse_2 l D cA H.size ad F L A B (5) hq.1 (rg_k (by decide))) (cwV 1 hg (g_V mw_630 mw_627 mw_629 ms_6 mw_2) rfl rfl rfl (by decide +kernel) ⟨(Nat.le_of_ble_eq_true rfl), (Nat.le_of_ble_eq_true rfl)⟩) hP hD hS hA atX_2 rfl rfl hl.1 rfl (Nat.le_of_ble_eq_true rfl) dX6_knownSmith_22 ⟨Nat.zero_le _, Nat.zero_le _⟩ (fun  u H locs hw hP hD hS => ?_)
    obtain ⟨F9, L9, A9, B9⟩ := u
    try dsimp only at hw
    have hq9 := hw
    have hq := hq.call hq9 (by decide)
    have hP : va_P D classes (wX cA ad F9 L9 A9 B9) H := hP
    have hD : va_D Af (wX cA ad F9 L9 A9 B9) := hD
    exact J25 (F9) (L9) (A9) (B9) H locs ls hq hP hD hS (lv_sub hl [0] rfl)
abbrev rm_X6_takeSmith_2 : Room := { frames := 4, cells := 0, slots := 0, locals := 82 }
set_option maxHeartbeats 4000000 in
set_option maxRecDepth 100000 in
theorem c_X6_takeSmith_2 (l : Launch) (D : va_G) (cA : Nat → ClassId) (sz : Nat) (ad : Nat → Nat) (F : Nat → Int32) (L : Nat → Int64) (A : Nat → Nat → Int32) (B : Nat → Nat → Int64)  (hT : typX F A) (htx : ad 71 = ad 1) : Met l yX6_takeSmith (Cond.code yX6_takeSmith cX6_takeSmith 1 (some .int) :: GW) rm_X6_takeSmith_2 (mPc D classes (tysX cA) (wX cA ad F L A B) sz [.ref (ad 2)]) (mQi (S := SW) D classes (tysX cA) (wX cA ad F L A B) sz (wfX cA ad) (fun r u => qX [2, 3, 5, 6, 7, 8] [] F A u.1 u.2.2.1 ∧ rg r (-1) 7)) 0 0 (va_A (wX cA ad F L A B) sz) := by
  refine met_i (own := "ShoeingDay$Scribe") (by decide +kernel) rfl (Nat.le_of_ble_eq_true rfl) ?_
  intro p e s m args below meth c Q Af ls hC hP hD hS hA hl hret
  have hx := hC.1
  have hb := hC.2.1
  have hown := hC.2.2.2.1
  have hg := hC.g
  have hK := hC.K
  have hl : lv_has ls 1 [(0, .ref (ad 2))] := hl
  have hq : qX [2, 3, 5, 6, 7, 8] [] F A F A := qX.rf hT
  obtain ⟨H, hH⟩ : ∃ H, H = s.heap := ⟨_, rfl⟩
  have hP : va_P D classes (wX cA ad F L A B) H := by rw [hH]; exact hP
  have hS : va_S Af s.heap H [] := by rw [hH]; exact hS
  obtain ⟨locs, hlo⟩ : ∃ q : List Loc, q = [] := ⟨_, rfl⟩
  rw [← hH, ← hlo]
  rw [← hlo] at hS
  refine lv_aload_n hx hb dX6_takeSmith_0 rfl (lv_at hl 0 rfl) ?_
  refine lv_iconst (v := 4) hx hb dX6_takeSmith_1 (by decide) ?_
  refine callv_i (As := [.int 4]) (rest := []) hC (c_X6_take_2 l D cA H.size ad F L A B (4) hq.1 htx (rg_k (by decide))) (cwV 1 hg (g_V mw_634 mw_631 mw_633 ms_7 mw_2) rfl rfl rfl (by decide +kernel) ⟨(Nat.le_of_ble_eq_true rfl), (Nat.le_of_ble_eq_true rfl)⟩) hP hD hS hA atX_2 rfl rfl hl.1 rfl (Nat.le_of_ble_eq_true rfl) dX6_takeSmith_2 ⟨Nat.zero_le _, Nat.zero_le _⟩ (fun x1 u H locs hw hP hD hS => ?_)
  obtain ⟨F2, L2, A2, B2⟩ := u
  try dsimp only at hw
  obtain ⟨hq2, r3⟩ := hw
  have hq := hq.call hq2 (by decide)
  have hP : va_P D classes (wX cA ad F2 L2 A2 B2) H := hP
  have hD : va_D Af (wX cA ad F2 L2 A2 B2) := hD
  refine lv_if_eq (tgt := 15) hx hb dX6_takeSmith_5 (by decide) (fun c4 => ?_) (fun c4 => ?_)
  · skip
    have r5 : rg x1 0 0 := rg_eq1 c4 (r3 : rg x1 0 1) ((rg_k (by decide)) : rg 0 0 0) (by decide)
    refine lv_iconst (v := (-1)) hx hb dX6_takeSmith_15 (by decide) ?_
    exact hret ((-1)) (F2, L2, A2, B2) H locs 16 ls rfl dX6_takeSmith_16 hP hD hS ⟨hq, (rg_k (by decide))⟩
  · skip
    have r6 : rg x1 1 1 := (rg_ne1 c4 (r3 : rg x1 0 1) ((rg_k (by decide)) : rg 0 0 0)).1 rfl
    refine lv_aload_n hx hb dX6_takeSmith_8 rfl (lv_at hl 0 rfl) ?_
    refine callv_i (As := []) (rest := []) hC (c_X6_knownSmith_2 l D cA H.size ad F2 L2 A2 B2  hq.1) (cwV 0 hg (g_V mw_674 mw_671 mw_673 ms_13 mw_2) rfl rfl rfl (by decide +kernel) ⟨(Nat.le_of_ble_eq_true rfl), (Nat.le_of_ble_eq_true rfl)⟩) hP hD hS hA atX_2 rfl rfl hl.1 rfl (Nat.le_of_ble_eq_true rfl) dX6_takeSmith_9 ⟨Nat.zero_le _, Nat.zero_le _⟩ (fun x7 u H locs hw hP hD hS => ?_)
    obtain ⟨F8, L8, A8, B8⟩ := u
    try dsimp only at hw
    obtain ⟨hq8, r9⟩ := hw
    have hq := hq.call hq8 (by decide)
    have hP : va_P D classes (wX cA ad F8 L8 A8 B8) H := hP
    have hD : va_D Af (wX cA ad F8 L8 A8 B8) := hD
    refine lv_goto (tgt := 16) hx hb dX6_takeSmith_12 (by decide) ?_
    exact hret (x7) (F8, L8, A8, B8) H locs 16 ls rfl dX6_takeSmith_16 hP hD hS ⟨hq, r9⟩
abbrev rm_X6_copyHours_2 : Room := { frames := 5, cells := 0, slots := 0, locals := 103 }
set_option maxHeartbeats 4000000 in
set_option maxRecDepth 100000 in
theorem c_X6_copyHours_2 (l : Launch) (D : va_G) (cA : Nat → ClassId) (sz : Nat) (ad : Nat → Nat) (F : Nat → Int32) (L : Nat → Int64) (A : Nat → Nat → Int32) (B : Nat → Nat → Int64)  (hT : typX F A) (htx : ad 71 = ad 1) : Met l yX6_copyHours (Cond.code yX6_copyHours cX6_copyHours 3 none :: GW) rm_X6_copyHours_2 (mPc D classes (tysX cA) (wX cA ad F L A B) sz [.ref (ad 2)]) (mQv (S := SW) D classes (tysX cA) (wX cA ad F L A B) sz (wfX cA ad) (fun u => qX [2, 3, 5, 6, 7, 8, 12] [9, 10] F A u.1 u.2.2.1)) 0 0 (va_A (wX cA ad F L A B) sz) := by
  refine met_v (own := "ShoeingDay$Scribe") (by decide +kernel) rfl (Nat.le_of_ble_eq_true rfl) ?_
  intro p e s m args below meth c Q Af ls hC hP hD hS hA hl hret
  have hx := hC.1
  have hb := hC.2.1
  have hown := hC.2.2.2.1
  have hg := hC.g
  have hK := hC.K
  have hl : lv_has ls 3 [(0, .ref (ad 2))] := hl
  have hq : qX [2, 3, 5, 6, 7, 8, 12] [9, 10] F A F A := qX.rf hT
  obtain ⟨H, hH⟩ : ∃ H, H = s.heap := ⟨_, rfl⟩
  have hP : va_P D classes (wX cA ad F L A B) H := by rw [hH]; exact hP
  have hS : va_S Af s.heap H [] := by rw [hH]; exact hS
  obtain ⟨locs, hlo⟩ : ∃ q : List Loc, q = [] := ⟨_, rfl⟩
  rw [← hH, ← hlo]
  rw [← hlo] at hS
  refine lv_aload_n hx hb dX6_copyHours_0 rfl (lv_at hl 0 rfl) ?_
  refine lv_aload_n hx hb dX6_copyHours_1 rfl (lv_at hl 0 rfl) ?_
  refine va_get (ci := 6) (v := .ref (ad 4)) (C := RX6) (T := TX6) (N := 4) hx hb hg inX6 hown hK hP 2 atX_2 rfl 1 (by decide) (hg _ mw_213) (fun _ h9 => h9) rfl dX6_copyHours_2 ?_
  refine va_get (ci := 10) (v := .int (F 12)) (C := RX10) (T := TX10) (N := 12) hx hb hg inX10 hown hK hP 4 atX_4 rfl 9 (by decide) (hg _ mw_178) (fun _ h9 => h9) rfl dX6_copyHours_5 ?_
  refine lv_topi (fun x1 e2 => ?_)
  refine lv_bipush (v := 60) hx hb dX6_copyHours_8 (by decide) ?_
  refine callv_i (As := [.int x1, .int 60]) (rest := []) hC (c_X6_roomFor_2 l D cA H.size ad F L A B (x1) (60) hq.1 (rg_k (by decide))) (cwV 2 hg (g_V mw_626 mw_623 mw_625 ms_5 mw_2) rfl rfl rfl (by decide +kernel) ⟨(Nat.le_of_ble_eq_true rfl), (Nat.le_of_ble_eq_true rfl)⟩) hP hD hS hA atX_2 rfl rfl hl.1 rfl (Nat.le_of_ble_eq_true rfl) dX6_copyHours_10 ⟨Nat.zero_le _, Nat.zero_le _⟩ (fun x3 u H locs hw hP hD hS => ?_)
  obtain ⟨F4, L4, A4, B4⟩ := u
  try dsimp only at hw
  obtain ⟨hq4, r5, g6⟩ := hw
  have hq := hq.call hq4 (by decide)
  have hP : va_P D classes (wX cA ad F4 L4 A4 B4) H := hP
  have hD : va_D Af (wX cA ad F4 L4 A4 B4) := hD
  refine lv_if_ne (tgt := 17) hx hb dX6_copyHours_13 (by decide) (fun c7 => ?_) (fun c7 => ?_)
  · skip
    have g8 := g6.resolve_left c7
    refine lv_aload_n hx hb dX6_copyHours_17 rfl (lv_at hl 0 rfl) ?_
    refine callv_i (As := []) (rest := []) hC (c_X6_takeSmith_2 l D cA H.size ad F4 L4 A4 B4  hq.1 htx) (cwV 0 hg (g_V mw_670 mw_667 mw_669 ms_12 mw_2) rfl rfl rfl (by decide +kernel) ⟨(Nat.le_of_ble_eq_true rfl), (Nat.le_of_ble_eq_true rfl)⟩) hP hD hS hA atX_2 rfl rfl hl.1 rfl (Nat.le_of_ble_eq_true rfl) dX6_copyHours_18 ⟨Nat.zero_le _, Nat.zero_le _⟩ (fun x10 u H locs hw hP hD hS => ?_)
    obtain ⟨F11, L11, A11, B11⟩ := u
    try dsimp only at hw
    obtain ⟨hq11, r12⟩ := hw
    have hq := hq.call hq11 (by decide)
    have hP : va_P D classes (wX cA ad F11 L11 A11 B11) H := hP
    have hD : va_D Af (wX cA ad F11 L11 A11 B11) := hD
    refine lv_istore_n (lv' := [(1, .int x10), (0, .ref (ad 2))]) hx hb dX6_copyHours_21 rfl hl (by decide) rfl (fun ls hl => ?_)
    refine lv_iload_n hx hb dX6_copyHours_22 rfl (lv_at hl 0 rfl) ?_
    refine lv_iconst (v := (-1)) hx hb dX6_copyHours_23 (by decide) ?_
    refine lv_icmp_eq (tgt := 35) hx hb dX6_copyHours_24 (by decide) (fun c13 => ?_) (fun c13 => ?_)
    · skip
      have r14 : rg x10 (-1) (-1) := rg_eq1 c13 (r12 : rg x10 (-1) 7) ((rg_k (by decide)) : rg (-1) (-1) (-1)) (by decide)
      exact hret (F11, L11, A11, B11) H locs 35 ls dX6_copyHours_35 hP hD hS hq
    · skip
      have r15 : rg x10 0 7 := (rg_ne1 c13 (r12 : rg x10 (-1) 7) ((rg_k (by decide)) : rg (-1) (-1) (-1))).1 rfl
      refine lv_aload_n hx hb dX6_copyHours_27 rfl (lv_at hl 1 rfl) ?_
      refine lv_iconst (v := 4) hx hb dX6_copyHours_28 (by decide) ?_
      refine callv_i (As := [.int 4]) (rest := []) hC (c_X6_take_2 l D cA H.size ad F11 L11 A11 B11 (4) hq.1 htx (rg_k (by decide))) (cwV 1 hg (g_V mw_634 mw_631 mw_633 ms_7 mw_2) rfl rfl rfl (by decide +kernel) ⟨(Nat.le_of_ble_eq_true rfl), (Nat.le_of_ble_eq_true rfl)⟩) hP hD hS hA atX_2 rfl rfl hl.1 rfl (Nat.le_of_ble_eq_true rfl) dX6_copyHours_29 ⟨Nat.zero_le _, Nat.zero_le _⟩ (fun x16 u H locs hw hP hD hS => ?_)
      obtain ⟨F17, L17, A17, B17⟩ := u
      try dsimp only at hw
      obtain ⟨hq17, r18⟩ := hw
      have hq := hq.call hq17 (by decide)
      have hP : va_P D classes (wX cA ad F17 L17 A17 B17) H := hP
      have hD : va_D Af (wX cA ad F17 L17 A17 B17) := hD
      refine lv_if_ne (tgt := 36) hx hb dX6_copyHours_32 (by decide) (fun c19 => ?_) (fun c19 => ?_)
      · skip
        have r20 : rg x16 1 1 := (rg_ne1 c19 (r18 : rg x16 0 1) ((rg_k (by decide)) : rg 0 0 0)).1 rfl
        refine lv_aload_n hx hb dX6_copyHours_36 rfl (lv_at hl 1 rfl) ?_
        refine va_get (ci := 6) (v := .ref (ad 4)) (C := RX6) (T := TX6) (N := 4) hx hb hg inX6 hown hK hP 2 atX_2 rfl 1 (by decide) (hg _ mw_213) (fun _ h9 => h9) rfl dX6_copyHours_37 ?_
        refine lv_aload_n hx hb dX6_copyHours_40 rfl (lv_at hl 1 rfl) ?_
        refine va_get (ci := 6) (v := .ref (ad 3)) (C := RX6) (T := TX6) (N := 4) hx hb hg inX6 hown hK hP 2 atX_2 rfl 0 (by decide) (hg _ mw_212) (fun _ h9 => h9) rfl dX6_copyHours_41 ?_
        refine va_get (ci := 5) (v := .long (L17 7)) (C := RX5) (T := TX5) (N := 14) hx hb hg inX5 hown hK hP 3 atX_3 rfl 12 (by decide) (hg _ mw_115) (fun _ h9 => h9) rfl dX6_copyHours_44 ?_
        refine lv_topl (fun z22 e23 => ?_)
        refine callv_i (As := [.long z22]) (rest := []) hC (c_X10_horseNamed_4 l D cA H.size ad F17 L17 A17 B17 (z22) hq.1) (cwV 1 hg (g_V mw_658 mw_655 mw_656 mw_657 mw_8) rfl rfl rfl (by decide +kernel) ⟨(Nat.le_of_ble_eq_true rfl), (Nat.le_of_ble_eq_true rfl)⟩) hP hD hS hA atX_4 rfl rfl hl.1 rfl (Nat.le_of_ble_eq_true rfl) dX6_copyHours_47 ⟨Nat.zero_le _, Nat.zero_le _⟩ (fun x24 u H locs hw hP hD hS => ?_)
        have r25 := hw
        have hP : va_P D classes (wX cA ad F17 L17 A17 B17) H := hP
        have hD : va_D Af (wX cA ad F17 L17 A17 B17) := hD
        refine lv_istore_n (lv' := [(2, .int x24), (1, .int x10), (0, .ref (ad 2))]) hx hb dX6_copyHours_50 rfl hl (by decide) rfl (fun ls hl => ?_)
        refine lv_iload_n hx hb dX6_copyHours_51 rfl (lv_at hl 0 rfl) ?_
        refine lv_iconst (v := (-1)) hx hb dX6_copyHours_52 (by decide) ?_
        refine lv_icmp_ne (tgt := 64) hx hb dX6_copyHours_53 (by decide) (fun c26 => ?_) (fun c26 => ?_)
        · skip
          have r27 : rg x24 0 9 := (rg_ne1 c26 (r25 : rg x24 (-1) 9) ((rg_k (by decide)) : rg (-1) (-1) (-1))).1 rfl
          refine lv_aload_n hx hb dX6_copyHours_64 rfl (lv_at hl 2 rfl) ?_
          refine va_get (ci := 6) (v := .ref (ad 4)) (C := RX6) (T := TX6) (N := 4) hx hb hg inX6 hown hK hP 2 atX_2 rfl 1 (by decide) (hg _ mw_213) (fun _ h9 => h9) rfl dX6_copyHours_65 ?_
          refine va_get (ci := 10) (v := .ref (ad 9)) (C := RX10) (T := TX10) (N := 12) hx hb hg inX10 hown hK hP 4 atX_4 rfl 4 (by decide) (hg _ mw_162) (fun _ h9 => h9) rfl dX6_copyHours_68 ?_
          refine lv_iload_n hx hb dX6_copyHours_71 rfl (lv_at hl 1 rfl) ?_
          refine va_iald hx hb hK hP 9 5 atX_9 tyX_9 (in_rg r15 (by decide)) dX6_copyHours_72 ?_
          refine lv_topi (fun x29 e30 => ?_)
          refine lv_iload_n hx hb dX6_copyHours_73 rfl (lv_at hl 0 rfl) ?_
          refine lv_ishr hx hb dX6_copyHours_74 ?_
          refine lv_topi (fun x31 e32 => ?_)
          refine lv_iconst (v := 1) hx hb dX6_copyHours_75 (by decide) ?_
          refine lv_iand hx hb dX6_copyHours_76 ?_
          refine lv_topi (fun x33 e34 => ?_)
          have r35 : rg x33 0 1 := rg_andr e34 ((rg_k (by decide)) : rg 1 1 1) (by decide)
          refine lv_if_eq (tgt := 88) hx hb dX6_copyHours_77 (by decide) (fun c36 => ?_) (fun c36 => ?_)
          · skip
            have r37 : rg x33 0 0 := rg_eq1 c36 (r35 : rg x33 0 1) ((rg_k (by decide)) : rg 0 0 0) (by decide)
            refine lv_aload_n hx hb dX6_copyHours_88 rfl (lv_at hl 2 rfl) ?_
            refine lv_bipush (v := 99) hx hb dX6_copyHours_89 (by decide) ?_
            refine callv_i (As := [.int 99]) (rest := []) hC (c_X6_takeNumber_2 l D cA H.size ad F17 L17 A17 B17 (99) hq.1 htx (rg_k (by decide))) (cwV 1 hg (g_V mw_646 mw_643 mw_645 ms_9 mw_2) rfl rfl rfl (by decide +kernel) ⟨(Nat.le_of_ble_eq_true rfl), (Nat.le_of_ble_eq_true rfl)⟩) hP hD hS hA atX_2 rfl rfl hl.1 rfl (Nat.le_of_ble_eq_true rfl) dX6_copyHours_91 ⟨Nat.zero_le _, Nat.zero_le _⟩ (fun x39 u H locs hw hP hD hS => ?_)
            obtain ⟨F40, L40, A40, B40⟩ := u
            try dsimp only at hw
            obtain ⟨hq40, r41⟩ := hw
            have hq := hq.call hq40 (by decide)
            have hP : va_P D classes (wX cA ad F40 L40 A40 B40) H := hP
            have hD : va_D Af (wX cA ad F40 L40 A40 B40) := hD
            refine lv_if_eq (tgt := 121) hx hb dX6_copyHours_94 (by decide) (fun c42 => ?_) (fun c42 => ?_)
            · skip
              have r43 : rg x39 0 0 := rg_eq1 c42 (r41 : rg x39 0 1) ((rg_k (by decide)) : rg 0 0 0) (by decide)
              exact hret (F40, L40, A40, B40) H locs 121 ls dX6_copyHours_121 hP hD hS hq
            · skip
              have r44 : rg x39 1 1 := (rg_ne1 c42 (r41 : rg x39 0 1) ((rg_k (by decide)) : rg 0 0 0)).1 rfl
              refine lv_aload_n hx hb dX6_copyHours_97 rfl (lv_at hl 2 rfl) ?_
              refine lv_iconst (v := 3) hx hb dX6_copyHours_98 (by decide) ?_
              refine callv_i (As := [.int 3]) (rest := []) hC (c_X6_take_2 l D cA H.size ad F40 L40 A40 B40 (3) hq.1 htx (rg_k (by decide))) (cwV 1 hg (g_V mw_634 mw_631 mw_633 ms_7 mw_2) rfl rfl rfl (by decide +kernel) ⟨(Nat.le_of_ble_eq_true rfl), (Nat.le_of_ble_eq_true rfl)⟩) hP hD hS hA atX_2 rfl rfl hl.1 rfl (Nat.le_of_ble_eq_true rfl) dX6_copyHours_99 ⟨Nat.zero_le _, Nat.zero_le _⟩ (fun x45 u H locs hw hP hD hS => ?_)
              obtain ⟨F46, L46, A46, B46⟩ := u
              try dsimp only at hw
              obtain ⟨hq46, r47⟩ := hw
              have hq := hq.call hq46 (by decide)
              have hP : va_P D classes (wX cA ad F46 L46 A46 B46) H := hP
              have hD : va_D Af (wX cA ad F46 L46 A46 B46) := hD
              refine lv_if_eq (tgt := 121) hx hb dX6_copyHours_102 (by decide) (fun c48 => ?_) (fun c48 => ?_)
              · skip
                have r49 : rg x45 0 0 := rg_eq1 c48 (r47 : rg x45 0 1) ((rg_k (by decide)) : rg 0 0 0) (by decide)
                exact hret (F46, L46, A46, B46) H locs 121 ls dX6_copyHours_121 hP hD hS hq
              · skip
                have r50 : rg x45 1 1 := (rg_ne1 c48 (r47 : rg x45 0 1) ((rg_k (by decide)) : rg 0 0 0)).1 rfl
                refine lv_aload_n hx hb dX6_copyHours_105 rfl (lv_at hl 2 rfl) ?_
                refine va_get (ci := 6) (v := .ref (ad 4)) (C := RX6) (T := TX6) (N := 4) hx hb hg inX6 hown hK hP 2 atX_2 rfl 1 (by decide) (hg _ mw_213) (fun _ h9 => h9) rfl dX6_copyHours_106 ?_
                refine lv_iload_n hx hb dX6_copyHours_109 rfl (lv_at hl 1 rfl) ?_
                refine lv_iload_n hx hb dX6_copyHours_110 rfl (lv_at hl 0 rfl) ?_
                refine lv_aload_n hx hb dX6_copyHours_111 rfl (lv_at hl 2 rfl) ?_
                refine va_get (ci := 6) (v := .ref (ad 3)) (C := RX6) (T := TX6) (N := 4) hx hb hg inX6 hown hK hP 2 atX_2 rfl 0 (by decide) (hg _ mw_212) (fun _ h9 => h9) rfl dX6_copyHours_112 ?_
                refine va_get (ci := 5) (v := .int (F46 8)) (C := RX5) (T := TX5) (N := 14) hx hb hg inX5 hown hK hP 3 atX_3 rfl 13 (by decide) (hg _ mw_117) (fun _ h9 => h9) rfl dX6_copyHours_115 ?_
                refine lv_topi (fun x51 e52 => ?_)
                refine callv_v (As := [.int x10, .int x24, .int x51]) (rest := []) hC (c_X10_addHours_4 l D cA H.size ad F46 L46 A46 B46 (x10) (x24) (x51) hq.1 r15 r27) (cwV 3 hg (g_V mw_678 mw_675 mw_676 mw_677 mw_8) rfl rfl rfl (by decide +kernel) ⟨(Nat.le_of_ble_eq_true rfl), (Nat.le_of_ble_eq_true rfl)⟩) hP hD hS hA atX_4 rfl rfl hl.1 rfl (Nat.le_of_ble_eq_true rfl) dX6_copyHours_118 ⟨Nat.zero_le _, Nat.zero_le _⟩ (fun  u H locs hw hP hD hS => ?_)
                obtain ⟨F53, L53, A53, B53⟩ := u
                try dsimp only at hw
                have hq53 := hw
                have hq := hq.call hq53 (by decide)
                have hP : va_P D classes (wX cA ad F53 L53 A53 B53) H := hP
                have hD : va_D Af (wX cA ad F53 L53 A53 B53) := hD
                exact hret (F53, L53, A53, B53) H locs 121 ls dX6_copyHours_121 hP hD hS hq
          · skip
            have r38 : rg x33 1 1 := (rg_ne1 c36 (r35 : rg x33 0 1) ((rg_k (by decide)) : rg 0 0 0)).1 rfl
            refine lv_aload_n hx hb dX6_copyHours_80 rfl (lv_at hl 2 rfl) ?_
            refine lv_iconst (v := 3) hx hb dX6_copyHours_81 (by decide) ?_
            refine callv_v (As := [.int 3]) (rest := []) hC (c_X6_refuse_2 l D cA H.size ad F17 L17 A17 B17 (3) hq.1 (rg_k (by decide))) (cwV 1 hg (g_V mw_630 mw_627 mw_629 ms_6 mw_2) rfl rfl rfl (by decide +kernel) ⟨(Nat.le_of_ble_eq_true rfl), (Nat.le_of_ble_eq_true rfl)⟩) hP hD hS hA atX_2 rfl rfl hl.1 rfl (Nat.le_of_ble_eq_true rfl) dX6_copyHours_82 ⟨Nat.zero_le _, Nat.zero_le _⟩ (fun  u H locs hw hP hD hS => ?_)
            obtain ⟨F54, L54, A54, B54⟩ := u
            try dsimp only at hw
            have hq54 := hw
            have hq := hq.call hq54 (by decide)
            have hP : va_P D classes (wX cA ad F54 L54 A54 B54) H := hP
            have hD : va_D Af (wX cA ad F54 L54 A54 B54) := hD
            refine lv_goto (tgt := 121) hx hb dX6_copyHours_85 (by decide) ?_
            exact hret (F54, L54, A54, B54) H locs 121 ls dX6_copyHours_121 hP hD hS hq
        · skip
          have r28 : rg x24 (-1) (-1) := rg_eq1 c26 (r25 : rg x24 (-1) 9) ((rg_k (by decide)) : rg (-1) (-1) (-1)) (by decide)
          refine lv_aload_n hx hb dX6_copyHours_56 rfl (lv_at hl 2 rfl) ?_
          refine lv_iconst (v := 5) hx hb dX6_copyHours_57 (by decide) ?_
          refine callv_v (As := [.int 5]) (rest := []) hC (c_X6_refuse_2 l D cA H.size ad F17 L17 A17 B17 (5) hq.1 (rg_k (by decide))) (cwV 1 hg (g_V mw_630 mw_627 mw_629 ms_6 mw_2) rfl rfl rfl (by decide +kernel) ⟨(Nat.le_of_ble_eq_true rfl), (Nat.le_of_ble_eq_true rfl)⟩) hP hD hS hA atX_2 rfl rfl hl.1 rfl (Nat.le_of_ble_eq_true rfl) dX6_copyHours_58 ⟨Nat.zero_le _, Nat.zero_le _⟩ (fun  u H locs hw hP hD hS => ?_)
          obtain ⟨F55, L55, A55, B55⟩ := u
          try dsimp only at hw
          have hq55 := hw
          have hq := hq.call hq55 (by decide)
          have hP : va_P D classes (wX cA ad F55 L55 A55 B55) H := hP
          have hD : va_D Af (wX cA ad F55 L55 A55 B55) := hD
          refine lv_goto (tgt := 121) hx hb dX6_copyHours_61 (by decide) ?_
          exact hret (F55, L55, A55, B55) H locs 121 ls dX6_copyHours_121 hP hD hS hq
      · skip
        have r21 : rg x16 0 0 := rg_eq1 c19 (r18 : rg x16 0 1) ((rg_k (by decide)) : rg 0 0 0) (by decide)
        exact hret (F17, L17, A17, B17) H locs 35 ls dX6_copyHours_35 hP hD hS hq
  · skip
    have r9 : rg x3 0 0 := rg_eq1 c7 (r5 : rg x3 0 1) ((rg_k (by decide)) : rg 0 0 0) (by decide)
    exact hret (F4, L4, A4, B4) H locs 16 ls dX6_copyHours_16 hP hD hS hq
abbrev rm_X6_copyLate_2 : Room := { frames := 5, cells := 0, slots := 0, locals := 103 }
set_option maxHeartbeats 4000000 in
set_option maxRecDepth 100000 in
theorem c_X6_copyLate_2 (l : Launch) (D : va_G) (cA : Nat → ClassId) (sz : Nat) (ad : Nat → Nat) (F : Nat → Int32) (L : Nat → Int64) (A : Nat → Nat → Int32) (B : Nat → Nat → Int64)  (hT : typX F A) (htx : ad 71 = ad 1) : Met l yX6_copyLate (Cond.code yX6_copyLate cX6_copyLate 2 none :: GW) rm_X6_copyLate_2 (mPc D classes (tysX cA) (wX cA ad F L A B) sz [.ref (ad 2)]) (mQv (S := SW) D classes (tysX cA) (wX cA ad F L A B) sz (wfX cA ad) (fun u => qX [2, 3, 5, 6, 7, 8, 14] [] F A u.1 u.2.2.1)) 0 0 (va_A (wX cA ad F L A B) sz) := by
  refine met_v (own := "ShoeingDay$Scribe") (by decide +kernel) rfl (Nat.le_of_ble_eq_true rfl) ?_
  intro p e s m args below meth c Q Af ls hC hP hD hS hA hl hret
  have hx := hC.1
  have hb := hC.2.1
  have hown := hC.2.2.2.1
  have hg := hC.g
  have hK := hC.K
  have hl : lv_has ls 2 [(0, .ref (ad 2))] := hl
  have hq : qX [2, 3, 5, 6, 7, 8, 14] [] F A F A := qX.rf hT
  obtain ⟨H, hH⟩ : ∃ H, H = s.heap := ⟨_, rfl⟩
  have hP : va_P D classes (wX cA ad F L A B) H := by rw [hH]; exact hP
  have hS : va_S Af s.heap H [] := by rw [hH]; exact hS
  obtain ⟨locs, hlo⟩ : ∃ q : List Loc, q = [] := ⟨_, rfl⟩
  rw [← hH, ← hlo]
  rw [← hlo] at hS
  refine lv_aload_n hx hb dX6_copyLate_0 rfl (lv_at hl 0 rfl) ?_
  refine va_get (ci := 6) (v := .ref (ad 4)) (C := RX6) (T := TX6) (N := 4) hx hb hg inX6 hown hK hP 2 atX_2 rfl 1 (by decide) (hg _ mw_213) (fun _ h9 => h9) rfl dX6_copyLate_1 ?_
  refine va_get (ci := 10) (v := .int (F 14)) (C := RX10) (T := TX10) (N := 12) hx hb hg inX10 hown hK hP 4 atX_4 rfl 11 (by decide) (hg _ mw_183) (fun _ h9 => h9) rfl dX6_copyLate_4 ?_
  refine lv_topi (fun x1 e2 => ?_)
  refine lv_iconst (v := (-1)) hx hb dX6_copyLate_7 (by decide) ?_
  have J16 : ∀ (a3 : Int32) (F5 : Nat → Int32) (L5 : Nat → Int64) (A5 : Nat → Nat → Int32) (B5 : Nat → Nat → Int64) (H : Heap) (locs : List Loc) (ls : Array Slot), rg a3 0 1 → qX [2, 3, 5, 6, 7, 8, 14] [] F A F5 A5 → va_P D classes (wX cA ad F5 L5 A5 B5) H → va_D Af (wX cA ad F5 L5 A5 B5) → va_S Af s.heap H locs → lv_has ls 2 [(0, .ref (ad 2))] → W p l e rm_X6_copyLate_2 s m args below meth c H locs 0 0 Q (F0 m 16 ls [.int a3]) := by
    intro a3 F5 L5 A5 B5 H locs ls r4 hq hP hD hS hl
    refine lv_istore_n (lv' := [(1, .int a3), (0, .ref (ad 2))]) hx hb dX6_copyLate_16 rfl hl (by decide) rfl (fun ls hl => ?_)
    refine lv_aload_n hx hb dX6_copyLate_17 rfl (lv_at hl 1 rfl) ?_
    refine lv_iload_n hx hb dX6_copyLate_18 rfl (lv_at hl 0 rfl) ?_
    refine lv_iconst (v := 1) hx hb dX6_copyLate_19 (by decide) ?_
    refine callv_i (As := [.int a3, .int 1]) (rest := []) hC (c_X6_roomFor_2 l D cA H.size ad F5 L5 A5 B5 (a3) (1) hq.1 (rg_k (by decide))) (cwV 2 hg (g_V mw_626 mw_623 mw_625 ms_5 mw_2) rfl rfl rfl (by decide +kernel) ⟨(Nat.le_of_ble_eq_true rfl), (Nat.le_of_ble_eq_true rfl)⟩) hP hD hS hA atX_2 rfl rfl hl.1 rfl (Nat.le_of_ble_eq_true rfl) dX6_copyLate_20 ⟨Nat.zero_le _, Nat.zero_le _⟩ (fun x6 u H locs hw hP hD hS => ?_)
    obtain ⟨F7, L7, A7, B7⟩ := u
    try dsimp only at hw
    obtain ⟨hq7, r8, g9⟩ := hw
    have hq := hq.call hq7 (by decide)
    have hP : va_P D classes (wX cA ad F7 L7 A7 B7) H := hP
    have hD : va_D Af (wX cA ad F7 L7 A7 B7) := hD
    refine lv_if_eq (tgt := 58) hx hb dX6_copyLate_23 (by decide) (fun c10 => ?_) (fun c10 => ?_)
    · skip
      have r11 : rg x6 0 0 := rg_eq1 c10 (r8 : rg x6 0 1) ((rg_k (by decide)) : rg 0 0 0) (by decide)
      exact hret (F7, L7, A7, B7) H locs 58 ls dX6_copyLate_58 hP hD hS hq
    · skip
      have g12 := g9.resolve_left c10
      refine lv_aload_n hx hb dX6_copyLate_26 rfl (lv_at hl 1 rfl) ?_
      refine lv_sipush (v := 9999) hx hb dX6_copyLate_27 (by decide) ?_
      refine callv_i (As := [.int 9999]) (rest := []) hC (c_X6_takeNumber_2 l D cA H.size ad F7 L7 A7 B7 (9999) hq.1 htx (rg_k (by decide))) (cwV 1 hg (g_V mw_646 mw_643 mw_645 ms_9 mw_2) rfl rfl rfl (by decide +kernel) ⟨(Nat.le_of_ble_eq_true rfl), (Nat.le_of_ble_eq_true rfl)⟩) hP hD hS hA atX_2 rfl rfl hl.1 rfl (Nat.le_of_ble_eq_true rfl) dX6_copyLate_30 ⟨Nat.zero_le _, Nat.zero_le _⟩ (fun x13 u H locs hw hP hD hS => ?_)
      obtain ⟨F14, L14, A14, B14⟩ := u
      try dsimp only at hw
      obtain ⟨hq14, r15⟩ := hw
      have hq := hq.call hq14 (by decide)
      have hP : va_P D classes (wX cA ad F14 L14 A14 B14) H := hP
      have hD : va_D Af (wX cA ad F14 L14 A14 B14) := hD
      refine lv_if_eq (tgt := 58) hx hb dX6_copyLate_33 (by decide) (fun c16 => ?_) (fun c16 => ?_)
      · skip
        have r17 : rg x13 0 0 := rg_eq1 c16 (r15 : rg x13 0 1) ((rg_k (by decide)) : rg 0 0 0) (by decide)
        exact hret (F14, L14, A14, B14) H locs 58 ls dX6_copyLate_58 hP hD hS hq
      · skip
        have r18 : rg x13 1 1 := (rg_ne1 c16 (r15 : rg x13 0 1) ((rg_k (by decide)) : rg 0 0 0)).1 rfl
        refine lv_aload_n hx hb dX6_copyLate_36 rfl (lv_at hl 1 rfl) ?_
        refine lv_iconst (v := 3) hx hb dX6_copyLate_37 (by decide) ?_
        refine callv_i (As := [.int 3]) (rest := []) hC (c_X6_take_2 l D cA H.size ad F14 L14 A14 B14 (3) hq.1 htx (rg_k (by decide))) (cwV 1 hg (g_V mw_634 mw_631 mw_633 ms_7 mw_2) rfl rfl rfl (by decide +kernel) ⟨(Nat.le_of_ble_eq_true rfl), (Nat.le_of_ble_eq_true rfl)⟩) hP hD hS hA atX_2 rfl rfl hl.1 rfl (Nat.le_of_ble_eq_true rfl) dX6_copyLate_38 ⟨Nat.zero_le _, Nat.zero_le _⟩ (fun x19 u H locs hw hP hD hS => ?_)
        obtain ⟨F20, L20, A20, B20⟩ := u
        try dsimp only at hw
        obtain ⟨hq20, r21⟩ := hw
        have hq := hq.call hq20 (by decide)
        have hP : va_P D classes (wX cA ad F20 L20 A20 B20) H := hP
        have hD : va_D Af (wX cA ad F20 L20 A20 B20) := hD
        refine lv_if_eq (tgt := 58) hx hb dX6_copyLate_41 (by decide) (fun c22 => ?_) (fun c22 => ?_)
        · skip
          have r23 : rg x19 0 0 := rg_eq1 c22 (r21 : rg x19 0 1) ((rg_k (by decide)) : rg 0 0 0) (by decide)
          exact hret (F20, L20, A20, B20) H locs 58 ls dX6_copyLate_58 hP hD hS hq
        · skip
          have r24 : rg x19 1 1 := (rg_ne1 c22 (r21 : rg x19 0 1) ((rg_k (by decide)) : rg 0 0 0)).1 rfl
          refine lv_aload_n hx hb dX6_copyLate_44 rfl (lv_at hl 1 rfl) ?_
          refine va_get (ci := 6) (v := .ref (ad 4)) (C := RX6) (T := TX6) (N := 4) hx hb hg inX6 hown hK hP 2 atX_2 rfl 1 (by decide) (hg _ mw_213) (fun _ h9 => h9) rfl dX6_copyLate_45 ?_
          refine lv_aload_n hx hb dX6_copyLate_48 rfl (lv_at hl 1 rfl) ?_
          refine va_get (ci := 6) (v := .ref (ad 3)) (C := RX6) (T := TX6) (N := 4) hx hb hg inX6 hown hK hP 2 atX_2 rfl 0 (by decide) (hg _ mw_212) (fun _ h9 => h9) rfl dX6_copyLate_49 ?_
          refine va_get (ci := 5) (v := .int (F20 8)) (C := RX5) (T := TX5) (N := 14) hx hb hg inX5 hown hK hP 3 atX_3 rfl 13 (by decide) (hg _ mw_117) (fun _ h9 => h9) rfl dX6_copyLate_52 ?_
          refine lv_topi (fun x25 e26 => ?_)
          refine va_put (ci := 10) (v := .int x25) (ty := .int) (C := RX10) (T := TX10) (N := 12) hx hb hg inX10 tyX10 tyX10_ok nmX10 hown hK hP hD hS 4 atX_4 rfl 11 (by decide) (hg _ mw_183) (fun _ h9 => h9) rfl (by decide +kernel) rfl rfl (Nat.le_of_ble_eq_true rfl) dX6_copyLate_55 (fun H locs hP hD hS => ?_)
          have hq := hq.put 14 (x := x25) (by decide) (rg_top _)
          rw [setFX_14] at hP hD
          exact hret ((upd F20 14 x25), L20, A20, B20) H locs 58 ls dX6_copyLate_58 hP hD hS hq
  refine lv_icmp_ne (tgt := 15) hx hb dX6_copyLate_8 (by decide) (fun c27 => ?_) (fun c27 => ?_)
  · skip
    refine lv_iconst (v := 1) hx hb dX6_copyLate_15 (by decide) ?_
    exact J16 (1) (F) (L) (A) (B) H locs ls (rg_k (by decide)) hq hP hD hS (lv_sub hl [0] rfl)
  · skip
    have r28 : rg x1 (-1) (-1) := rg_eq1 c27 ((rg_top _) : rg x1 (-2147483648) 2147483647) ((rg_k (by decide)) : rg (-1) (-1) (-1)) (by decide)
    refine lv_iconst (v := 0) hx hb dX6_copyLate_11 (by decide) ?_
    refine lv_goto (tgt := 16) hx hb dX6_copyLate_12 (by decide) ?_
    exact J16 (0) (F) (L) (A) (B) H locs ls (rg_k (by decide)) hq hP hD hS (lv_sub hl [0] rfl)
abbrev rm_X10_addLends_4 : Room := { frames := 0, cells := 0, slots := 0, locals := 0 }
set_option maxHeartbeats 4000000 in
set_option maxRecDepth 100000 in
theorem c_X10_addLends_4 (l : Launch) (D : va_G) (cA : Nat → ClassId) (sz : Nat) (ad : Nat → Nat) (F : Nat → Int32) (L : Nat → Int64) (A : Nat → Nat → Int32) (B : Nat → Nat → Int64) (p1 : Int32) (p2 : Int32) (hT : typX F A) (hp1 : rg p1 0 7) (hp2 : rg p2 0 7) : Met l yX10_addLends (Cond.code yX10_addLends cX10_addLends 3 none :: GW) rm_X10_addLends_4 (mPc D classes (tysX cA) (wX cA ad F L A B) sz [.ref (ad 4), .int p1, .int p2]) (mQv (S := SW) D classes (tysX cA) (wX cA ad F L A B) sz (wfX cA ad) (fun u => qX [13] [8] F A u.1 u.2.2.1)) 0 0 (va_A (wX cA ad F L A B) sz) := by
  refine met_v (own := "ShoeingDay$Yard") (by decide +kernel) rfl (Nat.le_of_ble_eq_true rfl) ?_
  intro p e s m args below meth c Q Af ls hC hP hD hS hA hl hret
  have hx := hC.1
  have hb := hC.2.1
  have hown := hC.2.2.2.1
  have hg := hC.g
  have hK := hC.K
  have hl : lv_has ls 3 [(0, .ref (ad 4)), (1, .int p1), (2, .int p2)] := hl
  have hq : qX [13] [8] F A F A := qX.rf hT
  obtain ⟨H, hH⟩ : ∃ H, H = s.heap := ⟨_, rfl⟩
  have hP : va_P D classes (wX cA ad F L A B) H := by rw [hH]; exact hP
  have hS : va_S Af s.heap H [] := by rw [hH]; exact hS
  obtain ⟨locs, hlo⟩ : ∃ q : List Loc, q = [] := ⟨_, rfl⟩
  rw [← hH, ← hlo]
  rw [← hlo] at hS
  refine lv_aload_n hx hb dX10_addLends_0 rfl (lv_at hl 0 rfl) ?_
  refine va_get (ci := 10) (v := .ref (ad 8)) (C := RX10) (T := TX10) (N := 12) hx hb hg inX10 hown hK hP 4 atX_4 rfl 3 (by decide) (hg _ mw_158) (fun _ h9 => h9) rfl dX10_addLends_1 ?_
  refine lv_iload_n hx hb dX10_addLends_4 rfl (lv_at hl 1 rfl) ?_
  refine lv_dup2_11 hx hb dX10_addLends_5 rfl rfl ?_
  refine va_iald hx hb hK hP 8 4 atX_8 tyX_8 (in_rg hp1 (by decide)) dX10_addLends_6 ?_
  refine lv_topi (fun x1 e2 => ?_)
  refine lv_iconst (v := 1) hx hb dX10_addLends_7 (by decide) ?_
  refine lv_iload_n hx hb dX10_addLends_8 rfl (lv_at hl 2 rfl) ?_
  refine lv_ishl hx hb dX10_addLends_9 ?_
  refine lv_topi (fun x3 e4 => ?_)
  have r5 : rg x3 1 128 := rg_shl1 e4 hp2 (by decide)
  refine lv_ior hx hb dX10_addLends_10 ?_
  refine lv_topi (fun x6 e7 => ?_)
  refine va_iast hx hb hK hP hD hS 8 4 atX_8 tyX_8 (in_rg hp1 (by decide)) dX10_addLends_11 (fun H locs hP hD hS => ?_)
  have hq := hq.ast 8 (p1).toNatClampNeg (x := x6) (by decide) (rg_top _)
  rw [setX_8] at hP hD
  have k8 : x6 = (va_up A 8 (upd (A 8) (p1).toNatClampNeg x6)) 8 (p1).toNatClampNeg := (rdA).symm
  refine lv_aload_n hx hb dX10_addLends_12 rfl (lv_at hl 0 rfl) ?_
  refine lv_dup hx hb dX10_addLends_13 rfl ?_
  refine va_get (ci := 10) (v := .int (F 13)) (C := RX10) (T := TX10) (N := 12) hx hb hg inX10 hown hK hP 4 atX_4 rfl 10 (by decide) (hg _ mw_179) (fun _ h9 => h9) rfl dX10_addLends_14 ?_
  refine lv_topi (fun x9 e10 => ?_)
  refine lv_iconst (v := 1) hx hb dX10_addLends_17 (by decide) ?_
  refine lv_iadd hx hb dX10_addLends_18 ?_
  refine lv_topi (fun x11 e12 => ?_)
  refine va_put (ci := 10) (v := .int x11) (ty := .int) (C := RX10) (T := TX10) (N := 12) hx hb hg inX10 tyX10 tyX10_ok nmX10 hown hK hP hD hS 4 atX_4 rfl 10 (by decide) (hg _ mw_179) (fun _ h9 => h9) rfl (by decide +kernel) rfl rfl (Nat.le_of_ble_eq_true rfl) dX10_addLends_19 (fun H locs hP hD hS => ?_)
  have hq := hq.put 13 (x := x11) (by decide) (rg_top _)
  rw [setFX_13] at hP hD
  exact hret ((upd F 13 x11), L, (va_up A 8 (upd (A 8) (p1).toNatClampNeg x6)), B) H locs 22 ls dX10_addLends_22 hP hD hS hq
abbrev rm_X6_takeMaster_2 : Room := { frames := 4, cells := 0, slots := 0, locals := 82 }
set_option maxHeartbeats 4000000 in
set_option maxRecDepth 100000 in
theorem c_X6_takeMaster_2 (l : Launch) (D : va_G) (cA : Nat → ClassId) (sz : Nat) (ad : Nat → Nat) (F : Nat → Int32) (L : Nat → Int64) (A : Nat → Nat → Int32) (B : Nat → Nat → Int64)  (hT : typX F A) (htx : ad 71 = ad 1) : Met l yX6_takeMaster (Cond.code yX6_takeMaster cX6_takeMaster 2 (some .int) :: GW) rm_X6_takeMaster_2 (mPc D classes (tysX cA) (wX cA ad F L A B) sz [.ref (ad 2)]) (mQi (S := SW) D classes (tysX cA) (wX cA ad F L A B) sz (wfX cA ad) (fun r u => qX [2, 3, 5, 6, 7, 8] [] F A u.1 u.2.2.1 ∧ rg r (-1) 7)) 0 0 (va_A (wX cA ad F L A B) sz) := by
  refine met_i (own := "ShoeingDay$Scribe") (by decide +kernel) rfl (Nat.le_of_ble_eq_true rfl) ?_
  intro p e s m args below meth c Q Af ls hC hP hD hS hA hl hret
  have hx := hC.1
  have hb := hC.2.1
  have hown := hC.2.2.2.1
  have hg := hC.g
  have hK := hC.K
  have hl : lv_has ls 2 [(0, .ref (ad 2))] := hl
  have hq : qX [2, 3, 5, 6, 7, 8] [] F A F A := qX.rf hT
  obtain ⟨H, hH⟩ : ∃ H, H = s.heap := ⟨_, rfl⟩
  have hP : va_P D classes (wX cA ad F L A B) H := by rw [hH]; exact hP
  have hS : va_S Af s.heap H [] := by rw [hH]; exact hS
  obtain ⟨locs, hlo⟩ : ∃ q : List Loc, q = [] := ⟨_, rfl⟩
  rw [← hH, ← hlo]
  rw [← hlo] at hS
  refine lv_aload_n hx hb dX6_takeMaster_0 rfl (lv_at hl 0 rfl) ?_
  refine lv_iconst (v := 4) hx hb dX6_takeMaster_1 (by decide) ?_
  refine callv_i (As := [.int 4]) (rest := []) hC (c_X6_take_2 l D cA H.size ad F L A B (4) hq.1 htx (rg_k (by decide))) (cwV 1 hg (g_V mw_634 mw_631 mw_633 ms_7 mw_2) rfl rfl rfl (by decide +kernel) ⟨(Nat.le_of_ble_eq_true rfl), (Nat.le_of_ble_eq_true rfl)⟩) hP hD hS hA atX_2 rfl rfl hl.1 rfl (Nat.le_of_ble_eq_true rfl) dX6_takeMaster_2 ⟨Nat.zero_le _, Nat.zero_le _⟩ (fun x1 u H locs hw hP hD hS => ?_)
  obtain ⟨F2, L2, A2, B2⟩ := u
  try dsimp only at hw
  obtain ⟨hq2, r3⟩ := hw
  have hq := hq.call hq2 (by decide)
  have hP : va_P D classes (wX cA ad F2 L2 A2 B2) H := hP
  have hD : va_D Af (wX cA ad F2 L2 A2 B2) := hD
  have J16 : ∀ (a4 : Int32) (F6 : Nat → Int32) (L6 : Nat → Int64) (A6 : Nat → Nat → Int32) (B6 : Nat → Nat → Int64) (H : Heap) (locs : List Loc) (ls : Array Slot), rg a4 (-1) 7 → qX [2, 3, 5, 6, 7, 8] [] F A F6 A6 → va_P D classes (wX cA ad F6 L6 A6 B6) H → va_D Af (wX cA ad F6 L6 A6 B6) → va_S Af s.heap H locs → lv_has ls 2 [(0, .ref (ad 2))] → W p l e rm_X6_takeMaster_2 s m args below meth c H locs 0 0 Q (F0 m 16 ls [.int a4]) := by
    intro a4 F6 L6 A6 B6 H locs ls r5 hq hP hD hS hl
    refine lv_istore_n (lv' := [(1, .int a4), (0, .ref (ad 2))]) hx hb dX6_takeMaster_16 rfl hl (by decide) rfl (fun ls hl => ?_)
    refine lv_iload_n hx hb dX6_takeMaster_17 rfl (lv_at hl 0 rfl) ?_
    refine lv_iconst (v := (-1)) hx hb dX6_takeMaster_18 (by decide) ?_
    have J44 : ∀ (F7 : Nat → Int32) (L7 : Nat → Int64) (A7 : Nat → Nat → Int32) (B7 : Nat → Nat → Int64) (H : Heap) (locs : List Loc) (ls : Array Slot), qX [2, 3, 5, 6, 7, 8] [] F A F7 A7 → va_P D classes (wX cA ad F7 L7 A7 B7) H → va_D Af (wX cA ad F7 L7 A7 B7) → va_S Af s.heap H locs → lv_has ls 2 [(1, .int a4)] → W p l e rm_X6_takeMaster_2 s m args below meth c H locs 0 0 Q (F0 m 44 ls []) := by
      intro F7 L7 A7 B7 H locs ls hq hP hD hS hl
      refine lv_iload_n hx hb dX6_takeMaster_44 rfl (lv_at hl 0 rfl) ?_
      exact hret (a4) (F7, L7, A7, B7) H locs 45 ls rfl dX6_takeMaster_45 hP hD hS ⟨hq, r5⟩
    refine lv_icmp_eq (tgt := 44) hx hb dX6_takeMaster_19 (by decide) (fun c8 => ?_) (fun c8 => ?_)
    · skip
      have r9 : rg a4 (-1) (-1) := rg_eq1 c8 (r5 : rg a4 (-1) 7) ((rg_k (by decide)) : rg (-1) (-1) (-1)) (by decide)
      exact J44 (F6) (L6) (A6) (B6) H locs ls hq hP hD hS (lv_sub hl [0] rfl)
    · skip
      have r10 : rg a4 0 7 := (rg_ne1 c8 (r5 : rg a4 (-1) 7) ((rg_k (by decide)) : rg (-1) (-1) (-1))).1 rfl
      refine lv_aload_n hx hb dX6_takeMaster_22 rfl (lv_at hl 1 rfl) ?_
      refine va_get (ci := 6) (v := .ref (ad 4)) (C := RX6) (T := TX6) (N := 4) hx hb hg inX6 hown hK hP 2 atX_2 rfl 1 (by decide) (hg _ mw_213) (fun _ h9 => h9) rfl dX6_takeMaster_23 ?_
      refine va_get (ci := 10) (v := .int (F6 11)) (C := RX10) (T := TX10) (N := 12) hx hb hg inX10 hown hK hP 4 atX_4 rfl 8 (by decide) (hg _ mw_176) (fun _ h9 => h9) rfl dX6_takeMaster_26 ?_
      refine lv_topi (fun x11 e12 => ?_)
      refine lv_iload_n hx hb dX6_takeMaster_29 rfl (lv_at hl 0 rfl) ?_
      refine lv_ishr hx hb dX6_takeMaster_30 ?_
      refine lv_topi (fun x13 e14 => ?_)
      refine lv_iconst (v := 1) hx hb dX6_takeMaster_31 (by decide) ?_
      refine lv_iand hx hb dX6_takeMaster_32 ?_
      refine lv_topi (fun x15 e16 => ?_)
      have r17 : rg x15 0 1 := rg_andr e16 ((rg_k (by decide)) : rg 1 1 1) (by decide)
      refine lv_if_ne (tgt := 44) hx hb dX6_takeMaster_33 (by decide) (fun c18 => ?_) (fun c18 => ?_)
      · skip
        have r19 : rg x15 1 1 := (rg_ne1 c18 (r17 : rg x15 0 1) ((rg_k (by decide)) : rg 0 0 0)).1 rfl
        exact J44 (F6) (L6) (A6) (B6) H locs ls hq hP hD hS (lv_sub hl [0] rfl)
      · skip
        have r20 : rg x15 0 0 := rg_eq1 c18 (r17 : rg x15 0 1) ((rg_k (by decide)) : rg 0 0 0) (by decide)
        refine lv_aload_n hx hb dX6_takeMaster_36 rfl (lv_at hl 1 rfl) ?_
        refine lv_bipush (v := 6) hx hb dX6_takeMaster_37 (by decide) ?_
        refine callv_v (As := [.int 6]) (rest := []) hC (c_X6_refuse_2 l D cA H.size ad F6 L6 A6 B6 (6) hq.1 (rg_k (by decide))) (cwV 1 hg (g_V mw_630 mw_627 mw_629 ms_6 mw_2) rfl rfl rfl (by decide +kernel) ⟨(Nat.le_of_ble_eq_true rfl), (Nat.le_of_ble_eq_true rfl)⟩) hP hD hS hA atX_2 rfl rfl hl.1 rfl (Nat.le_of_ble_eq_true rfl) dX6_takeMaster_39 ⟨Nat.zero_le _, Nat.zero_le _⟩ (fun  u H locs hw hP hD hS => ?_)
        obtain ⟨F21, L21, A21, B21⟩ := u
        try dsimp only at hw
        have hq21 := hw
        have hq := hq.call hq21 (by decide)
        have hP : va_P D classes (wX cA ad F21 L21 A21 B21) H := hP
        have hD : va_D Af (wX cA ad F21 L21 A21 B21) := hD
        refine lv_iconst (v := (-1)) hx hb dX6_takeMaster_42 (by decide) ?_
        exact hret ((-1)) (F21, L21, A21, B21) H locs 43 ls rfl dX6_takeMaster_43 hP hD hS ⟨hq, (rg_k (by decide))⟩
  refine lv_if_eq (tgt := 15) hx hb dX6_takeMaster_5 (by decide) (fun c22 => ?_) (fun c22 => ?_)
  · skip
    have r23 : rg x1 0 0 := rg_eq1 c22 (r3 : rg x1 0 1) ((rg_k (by decide)) : rg 0 0 0) (by decide)
    refine lv_iconst (v := (-1)) hx hb dX6_takeMaster_15 (by decide) ?_
    exact J16 ((-1)) (F2) (L2) (A2) (B2) H locs ls (rg_k (by decide)) hq hP hD hS (lv_sub hl [0] rfl)
  · skip
    have r24 : rg x1 1 1 := (rg_ne1 c22 (r3 : rg x1 0 1) ((rg_k (by decide)) : rg 0 0 0)).1 rfl
    refine lv_aload_n hx hb dX6_takeMaster_8 rfl (lv_at hl 0 rfl) ?_
    refine callv_i (As := []) (rest := []) hC (c_X6_knownSmith_2 l D cA H.size ad F2 L2 A2 B2  hq.1) (cwV 0 hg (g_V mw_674 mw_671 mw_673 ms_13 mw_2) rfl rfl rfl (by decide +kernel) ⟨(Nat.le_of_ble_eq_true rfl), (Nat.le_of_ble_eq_true rfl)⟩) hP hD hS hA atX_2 rfl rfl hl.1 rfl (Nat.le_of_ble_eq_true rfl) dX6_takeMaster_9 ⟨Nat.zero_le _, Nat.zero_le _⟩ (fun x25 u H locs hw hP hD hS => ?_)
    obtain ⟨F26, L26, A26, B26⟩ := u
    try dsimp only at hw
    obtain ⟨hq26, r27⟩ := hw
    have hq := hq.call hq26 (by decide)
    have hP : va_P D classes (wX cA ad F26 L26 A26 B26) H := hP
    have hD : va_D Af (wX cA ad F26 L26 A26 B26) := hD
    refine lv_goto (tgt := 16) hx hb dX6_takeMaster_12 (by decide) ?_
    exact J16 (x25) (F26) (L26) (A26) (B26) H locs ls r27 hq hP hD hS (lv_sub hl [0] rfl)
abbrev rm_X6_copyLends_2 : Room := { frames := 5, cells := 0, slots := 0, locals := 103 }
set_option maxHeartbeats 4000000 in
set_option maxRecDepth 100000 in
theorem c_X6_copyLends_2 (l : Launch) (D : va_G) (cA : Nat → ClassId) (sz : Nat) (ad : Nat → Nat) (F : Nat → Int32) (L : Nat → Int64) (A : Nat → Nat → Int32) (B : Nat → Nat → Int64)  (hT : typX F A) (htx : ad 71 = ad 1) : Met l yX6_copyLends (Cond.code yX6_copyLends cX6_copyLends 3 none :: GW) rm_X6_copyLends_2 (mPc D classes (tysX cA) (wX cA ad F L A B) sz [.ref (ad 2)]) (mQv (S := SW) D classes (tysX cA) (wX cA ad F L A B) sz (wfX cA ad) (fun u => qX [2, 3, 5, 6, 7, 8, 13] [8] F A u.1 u.2.2.1)) 0 0 (va_A (wX cA ad F L A B) sz) := by
  refine met_v (own := "ShoeingDay$Scribe") (by decide +kernel) rfl (Nat.le_of_ble_eq_true rfl) ?_
  intro p e s m args below meth c Q Af ls hC hP hD hS hA hl hret
  have hx := hC.1
  have hb := hC.2.1
  have hown := hC.2.2.2.1
  have hg := hC.g
  have hK := hC.K
  have hl : lv_has ls 3 [(0, .ref (ad 2))] := hl
  have hq : qX [2, 3, 5, 6, 7, 8, 13] [8] F A F A := qX.rf hT
  obtain ⟨H, hH⟩ : ∃ H, H = s.heap := ⟨_, rfl⟩
  have hP : va_P D classes (wX cA ad F L A B) H := by rw [hH]; exact hP
  have hS : va_S Af s.heap H [] := by rw [hH]; exact hS
  obtain ⟨locs, hlo⟩ : ∃ q : List Loc, q = [] := ⟨_, rfl⟩
  rw [← hH, ← hlo]
  rw [← hlo] at hS
  refine lv_aload_n hx hb dX6_copyLends_0 rfl (lv_at hl 0 rfl) ?_
  refine lv_aload_n hx hb dX6_copyLends_1 rfl (lv_at hl 0 rfl) ?_
  refine va_get (ci := 6) (v := .ref (ad 4)) (C := RX6) (T := TX6) (N := 4) hx hb hg inX6 hown hK hP 2 atX_2 rfl 1 (by decide) (hg _ mw_213) (fun _ h9 => h9) rfl dX6_copyLends_2 ?_
  refine va_get (ci := 10) (v := .int (F 13)) (C := RX10) (T := TX10) (N := 12) hx hb hg inX10 hown hK hP 4 atX_4 rfl 10 (by decide) (hg _ mw_180) (fun _ h9 => h9) rfl dX6_copyLends_5 ?_
  refine lv_topi (fun x1 e2 => ?_)
  refine lv_bipush (v := 20) hx hb dX6_copyLends_8 (by decide) ?_
  refine callv_i (As := [.int x1, .int 20]) (rest := []) hC (c_X6_roomFor_2 l D cA H.size ad F L A B (x1) (20) hq.1 (rg_k (by decide))) (cwV 2 hg (g_V mw_626 mw_623 mw_625 ms_5 mw_2) rfl rfl rfl (by decide +kernel) ⟨(Nat.le_of_ble_eq_true rfl), (Nat.le_of_ble_eq_true rfl)⟩) hP hD hS hA atX_2 rfl rfl hl.1 rfl (Nat.le_of_ble_eq_true rfl) dX6_copyLends_10 ⟨Nat.zero_le _, Nat.zero_le _⟩ (fun x3 u H locs hw hP hD hS => ?_)
  obtain ⟨F4, L4, A4, B4⟩ := u
  try dsimp only at hw
  obtain ⟨hq4, r5, g6⟩ := hw
  have hq := hq.call hq4 (by decide)
  have hP : va_P D classes (wX cA ad F4 L4 A4 B4) H := hP
  have hD : va_D Af (wX cA ad F4 L4 A4 B4) := hD
  refine lv_if_ne (tgt := 17) hx hb dX6_copyLends_13 (by decide) (fun c7 => ?_) (fun c7 => ?_)
  · skip
    have g8 := g6.resolve_left c7
    refine lv_aload_n hx hb dX6_copyLends_17 rfl (lv_at hl 0 rfl) ?_
    refine callv_i (As := []) (rest := []) hC (c_X6_takeMaster_2 l D cA H.size ad F4 L4 A4 B4  hq.1 htx) (cwV 0 hg (g_V mw_689 mw_686 mw_688 ms_15 mw_2) rfl rfl rfl (by decide +kernel) ⟨(Nat.le_of_ble_eq_true rfl), (Nat.le_of_ble_eq_true rfl)⟩) hP hD hS hA atX_2 rfl rfl hl.1 rfl (Nat.le_of_ble_eq_true rfl) dX6_copyLends_18 ⟨Nat.zero_le _, Nat.zero_le _⟩ (fun x10 u H locs hw hP hD hS => ?_)
    obtain ⟨F11, L11, A11, B11⟩ := u
    try dsimp only at hw
    obtain ⟨hq11, r12⟩ := hw
    have hq := hq.call hq11 (by decide)
    have hP : va_P D classes (wX cA ad F11 L11 A11 B11) H := hP
    have hD : va_D Af (wX cA ad F11 L11 A11 B11) := hD
    refine lv_istore_n (lv' := [(1, .int x10), (0, .ref (ad 2))]) hx hb dX6_copyLends_21 rfl hl (by decide) rfl (fun ls hl => ?_)
    refine lv_iload_n hx hb dX6_copyLends_22 rfl (lv_at hl 0 rfl) ?_
    refine lv_iconst (v := (-1)) hx hb dX6_copyLends_23 (by decide) ?_
    refine lv_icmp_ne (tgt := 28) hx hb dX6_copyLends_24 (by decide) (fun c13 => ?_) (fun c13 => ?_)
    · skip
      have r14 : rg x10 0 7 := (rg_ne1 c13 (r12 : rg x10 (-1) 7) ((rg_k (by decide)) : rg (-1) (-1) (-1))).1 rfl
      refine lv_aload_n hx hb dX6_copyLends_28 rfl (lv_at hl 1 rfl) ?_
      refine callv_i (As := []) (rest := []) hC (c_X6_takeMaster_2 l D cA H.size ad F11 L11 A11 B11  hq.1 htx) (cwV 0 hg (g_V mw_689 mw_686 mw_688 ms_15 mw_2) rfl rfl rfl (by decide +kernel) ⟨(Nat.le_of_ble_eq_true rfl), (Nat.le_of_ble_eq_true rfl)⟩) hP hD hS hA atX_2 rfl rfl hl.1 rfl (Nat.le_of_ble_eq_true rfl) dX6_copyLends_29 ⟨Nat.zero_le _, Nat.zero_le _⟩ (fun x16 u H locs hw hP hD hS => ?_)
      obtain ⟨F17, L17, A17, B17⟩ := u
      try dsimp only at hw
      obtain ⟨hq17, r18⟩ := hw
      have hq := hq.call hq17 (by decide)
      have hP : va_P D classes (wX cA ad F17 L17 A17 B17) H := hP
      have hD : va_D Af (wX cA ad F17 L17 A17 B17) := hD
      refine lv_istore_n (lv' := [(2, .int x16), (1, .int x10), (0, .ref (ad 2))]) hx hb dX6_copyLends_32 rfl hl (by decide) rfl (fun ls hl => ?_)
      refine lv_iload_n hx hb dX6_copyLends_33 rfl (lv_at hl 0 rfl) ?_
      refine lv_iconst (v := (-1)) hx hb dX6_copyLends_34 (by decide) ?_
      refine lv_icmp_ne (tgt := 39) hx hb dX6_copyLends_35 (by decide) (fun c19 => ?_) (fun c19 => ?_)
      · skip
        have r20 : rg x16 0 7 := (rg_ne1 c19 (r18 : rg x16 (-1) 7) ((rg_k (by decide)) : rg (-1) (-1) (-1))).1 rfl
        refine lv_iload_n hx hb dX6_copyLends_39 rfl (lv_at hl 1 rfl) ?_
        refine lv_iload_n hx hb dX6_copyLends_40 rfl (lv_at hl 0 rfl) ?_
        have J60 : ∀ (F22 : Nat → Int32) (L22 : Nat → Int64) (A22 : Nat → Nat → Int32) (B22 : Nat → Nat → Int64) (H : Heap) (locs : List Loc) (ls : Array Slot), qX [2, 3, 5, 6, 7, 8, 13] [8] F A F22 A22 → va_P D classes (wX cA ad F22 L22 A22 B22) H → va_D Af (wX cA ad F22 L22 A22 B22) → va_S Af s.heap H locs → lv_has ls 3 [(0, .ref (ad 2))] → W p l e rm_X6_copyLends_2 s m args below meth c H locs 0 0 Q (F0 m 60 ls []) := by
          intro F22 L22 A22 B22 H locs ls hq hP hD hS hl
          refine lv_aload_n hx hb dX6_copyLends_60 rfl (lv_at hl 0 rfl) ?_
          refine lv_iconst (v := 3) hx hb dX6_copyLends_61 (by decide) ?_
          refine callv_v (As := [.int 3]) (rest := []) hC (c_X6_refuse_2 l D cA H.size ad F22 L22 A22 B22 (3) hq.1 (rg_k (by decide))) (cwV 1 hg (g_V mw_630 mw_627 mw_629 ms_6 mw_2) rfl rfl rfl (by decide +kernel) ⟨(Nat.le_of_ble_eq_true rfl), (Nat.le_of_ble_eq_true rfl)⟩) hP hD hS hA atX_2 rfl rfl hl.1 rfl (Nat.le_of_ble_eq_true rfl) dX6_copyLends_62 ⟨Nat.zero_le _, Nat.zero_le _⟩ (fun  u H locs hw hP hD hS => ?_)
          obtain ⟨F23, L23, A23, B23⟩ := u
          try dsimp only at hw
          have hq23 := hw
          have hq := hq.call hq23 (by decide)
          have hP : va_P D classes (wX cA ad F23 L23 A23 B23) H := hP
          have hD : va_D Af (wX cA ad F23 L23 A23 B23) := hD
          refine lv_goto (tgt := 85) hx hb dX6_copyLends_65 (by decide) ?_
          exact hret (F23, L23, A23, B23) H locs 85 ls dX6_copyLends_85 hP hD hS hq
        refine lv_icmp_eq (tgt := 60) hx hb dX6_copyLends_41 (by decide) (fun c24 => ?_) (fun c24 => ?_)
        · skip
          exact J60 (F17) (L17) (A17) (B17) H locs ls hq hP hD hS (lv_sub hl [2] rfl)
        · skip
          refine lv_aload_n hx hb dX6_copyLends_44 rfl (lv_at hl 2 rfl) ?_
          refine va_get (ci := 6) (v := .ref (ad 4)) (C := RX6) (T := TX6) (N := 4) hx hb hg inX6 hown hK hP 2 atX_2 rfl 1 (by decide) (hg _ mw_213) (fun _ h9 => h9) rfl dX6_copyLends_45 ?_
          refine va_get (ci := 10) (v := .ref (ad 8)) (C := RX10) (T := TX10) (N := 12) hx hb hg inX10 hown hK hP 4 atX_4 rfl 3 (by decide) (hg _ mw_159) (fun _ h9 => h9) rfl dX6_copyLends_48 ?_
          refine lv_iload_n hx hb dX6_copyLends_51 rfl (lv_at hl 1 rfl) ?_
          refine va_iald hx hb hK hP 8 4 atX_8 tyX_8 (in_rg r14 (by decide)) dX6_copyLends_52 ?_
          refine lv_topi (fun x25 e26 => ?_)
          refine lv_iload_n hx hb dX6_copyLends_53 rfl (lv_at hl 0 rfl) ?_
          refine lv_ishr hx hb dX6_copyLends_54 ?_
          refine lv_topi (fun x27 e28 => ?_)
          refine lv_iconst (v := 1) hx hb dX6_copyLends_55 (by decide) ?_
          refine lv_iand hx hb dX6_copyLends_56 ?_
          refine lv_topi (fun x29 e30 => ?_)
          have r31 : rg x29 0 1 := rg_andr e30 ((rg_k (by decide)) : rg 1 1 1) (by decide)
          refine lv_if_eq (tgt := 68) hx hb dX6_copyLends_57 (by decide) (fun c32 => ?_) (fun c32 => ?_)
          · skip
            have r33 : rg x29 0 0 := rg_eq1 c32 (r31 : rg x29 0 1) ((rg_k (by decide)) : rg 0 0 0) (by decide)
            refine lv_aload_n hx hb dX6_copyLends_68 rfl (lv_at hl 2 rfl) ?_
            refine lv_iconst (v := 3) hx hb dX6_copyLends_69 (by decide) ?_
            refine callv_i (As := [.int 3]) (rest := []) hC (c_X6_take_2 l D cA H.size ad F17 L17 A17 B17 (3) hq.1 htx (rg_k (by decide))) (cwV 1 hg (g_V mw_634 mw_631 mw_633 ms_7 mw_2) rfl rfl rfl (by decide +kernel) ⟨(Nat.le_of_ble_eq_true rfl), (Nat.le_of_ble_eq_true rfl)⟩) hP hD hS hA atX_2 rfl rfl hl.1 rfl (Nat.le_of_ble_eq_true rfl) dX6_copyLends_70 ⟨Nat.zero_le _, Nat.zero_le _⟩ (fun x35 u H locs hw hP hD hS => ?_)
            obtain ⟨F36, L36, A36, B36⟩ := u
            try dsimp only at hw
            obtain ⟨hq36, r37⟩ := hw
            have hq := hq.call hq36 (by decide)
            have hP : va_P D classes (wX cA ad F36 L36 A36 B36) H := hP
            have hD : va_D Af (wX cA ad F36 L36 A36 B36) := hD
            refine lv_if_eq (tgt := 85) hx hb dX6_copyLends_73 (by decide) (fun c38 => ?_) (fun c38 => ?_)
            · skip
              have r39 : rg x35 0 0 := rg_eq1 c38 (r37 : rg x35 0 1) ((rg_k (by decide)) : rg 0 0 0) (by decide)
              exact hret (F36, L36, A36, B36) H locs 85 ls dX6_copyLends_85 hP hD hS hq
            · skip
              have r40 : rg x35 1 1 := (rg_ne1 c38 (r37 : rg x35 0 1) ((rg_k (by decide)) : rg 0 0 0)).1 rfl
              refine lv_aload_n hx hb dX6_copyLends_76 rfl (lv_at hl 2 rfl) ?_
              refine va_get (ci := 6) (v := .ref (ad 4)) (C := RX6) (T := TX6) (N := 4) hx hb hg inX6 hown hK hP 2 atX_2 rfl 1 (by decide) (hg _ mw_213) (fun _ h9 => h9) rfl dX6_copyLends_77 ?_
              refine lv_iload_n hx hb dX6_copyLends_80 rfl (lv_at hl 1 rfl) ?_
              refine lv_iload_n hx hb dX6_copyLends_81 rfl (lv_at hl 0 rfl) ?_
              refine callv_v (As := [.int x10, .int x16]) (rest := []) hC (c_X10_addLends_4 l D cA H.size ad F36 L36 A36 B36 (x10) (x16) hq.1 r14 r20) (cwV 2 hg (g_V mw_693 mw_690 mw_691 mw_692 mw_8) rfl rfl rfl (by decide +kernel) ⟨(Nat.le_of_ble_eq_true rfl), (Nat.le_of_ble_eq_true rfl)⟩) hP hD hS hA atX_4 rfl rfl hl.1 rfl (Nat.le_of_ble_eq_true rfl) dX6_copyLends_82 ⟨Nat.zero_le _, Nat.zero_le _⟩ (fun  u H locs hw hP hD hS => ?_)
              obtain ⟨F41, L41, A41, B41⟩ := u
              try dsimp only at hw
              have hq41 := hw
              have hq := hq.call hq41 (by decide)
              have hP : va_P D classes (wX cA ad F41 L41 A41 B41) H := hP
              have hD : va_D Af (wX cA ad F41 L41 A41 B41) := hD
              exact hret (F41, L41, A41, B41) H locs 85 ls dX6_copyLends_85 hP hD hS hq
          · skip
            have r34 : rg x29 1 1 := (rg_ne1 c32 (r31 : rg x29 0 1) ((rg_k (by decide)) : rg 0 0 0)).1 rfl
            exact J60 (F17) (L17) (A17) (B17) H locs ls hq hP hD hS (lv_sub hl [2] rfl)
      · skip
        have r21 : rg x16 (-1) (-1) := rg_eq1 c19 (r18 : rg x16 (-1) 7) ((rg_k (by decide)) : rg (-1) (-1) (-1)) (by decide)
        exact hret (F17, L17, A17, B17) H locs 38 ls dX6_copyLends_38 hP hD hS hq
    · skip
      have r15 : rg x10 (-1) (-1) := rg_eq1 c13 (r12 : rg x10 (-1) 7) ((rg_k (by decide)) : rg (-1) (-1) (-1)) (by decide)
      exact hret (F11, L11, A11, B11) H locs 27 ls dX6_copyLends_27 hP hD hS hq
  · skip
    have r9 : rg x3 0 0 := rg_eq1 c7 (r5 : rg x3 0 1) ((rg_k (by decide)) : rg 0 0 0) (by decide)
    exact hret (F4, L4, A4, B4) H locs 16 ls dX6_copyLends_16 hP hD hS hq
abbrev rm_X10_addSmith_4 : Room := { frames := 0, cells := 0, slots := 0, locals := 0 }
set_option maxHeartbeats 4000000 in
set_option maxRecDepth 100000 in
theorem c_X10_addSmith_4 (l : Launch) (D : va_G) (cA : Nat → ClassId) (sz : Nat) (ad : Nat → Nat) (F : Nat → Int32) (L : Nat → Int64) (A : Nat → Nat → Int32) (B : Nat → Nat → Int64) (p1 : Int64) (p3 : Int32) (p4 : Int32) (hT : typX F A) (hp3 : rg p3 0 1) : Met l yX10_addSmith (Cond.code yX10_addSmith cX10_addSmith 5 none :: GW) rm_X10_addSmith_4 (mPc D classes (tysX cA) (wX cA ad F L A B) sz [.ref (ad 4), .long p1, .int p3, .int p4]) (mQv (S := SW) D classes (tysX cA) (wX cA ad F L A B) sz (wfX cA ad) (fun u => qX [9, 11] [5, 7] F A u.1 u.2.2.1)) 0 0 (va_A (wX cA ad F L A B) sz) := by
  refine met_v (own := "ShoeingDay$Yard") (by decide +kernel) rfl (Nat.le_of_ble_eq_true rfl) ?_
  intro p e s m args below meth c Q Af ls hC hP hD hS hA hl hret
  have hx := hC.1
  have hb := hC.2.1
  have hown := hC.2.2.2.1
  have hg := hC.g
  have hK := hC.K
  have hl : lv_has ls 5 [(0, .ref (ad 4)), (1, .long p1), (3, .int p3), (4, .int p4)] := hl
  have hq : qX [9, 11] [5, 7] F A F A := qX.rf hT
  obtain ⟨H, hH⟩ : ∃ H, H = s.heap := ⟨_, rfl⟩
  have hP : va_P D classes (wX cA ad F L A B) H := by rw [hH]; exact hP
  have hS : va_S Af s.heap H [] := by rw [hH]; exact hS
  obtain ⟨locs, hlo⟩ : ∃ q : List Loc, q = [] := ⟨_, rfl⟩
  rw [← hH, ← hlo]
  rw [← hlo] at hS
  refine lv_aload_n hx hb dX10_addSmith_0 rfl (lv_at hl 0 rfl) ?_
  refine va_get (ci := 10) (v := .int (F 9)) (C := RX10) (T := TX10) (N := 12) hx hb hg inX10 hown hK hP 4 atX_4 rfl 6 (by decide) (hg _ mw_166) (fun _ h9 => h9) rfl dX10_addSmith_1 ?_
  refine lv_topi (fun x1 e2 => ?_)
  have r3 : rg x1 0 8 := rg_e e2 (hq.1.1 9)
  refine lv_bipush (v := 8) hx hb dX10_addSmith_4 (by decide) ?_
  refine lv_icmp_ge (tgt := 59) hx hb dX10_addSmith_6 (by decide) (fun c4 => ?_) (fun c4 => ?_)
  · skip
    have r5 : rg x1 8 8 := rg_le2 (iE c4) ((rg_k (by decide)) : rg 8 8 8) (r3 : rg x1 0 8)
    exact hret (F, L, A, B) H locs 59 ls dX10_addSmith_59 hP hD hS hq
  · skip
    have r6 : rg x1 0 7 := rg_lt1 (iNE c4) (r3 : rg x1 0 8) ((rg_k (by decide)) : rg 8 8 8)
    refine lv_aload_n hx hb dX10_addSmith_9 rfl (lv_at hl 0 rfl) ?_
    refine va_get (ci := 10) (v := .ref (ad 5)) (C := RX10) (T := TX10) (N := 12) hx hb hg inX10 hown hK hP 4 atX_4 rfl 0 (by decide) (hg _ mw_154) (fun _ h9 => h9) rfl dX10_addSmith_10 ?_
    refine lv_aload_n hx hb dX10_addSmith_13 rfl (lv_at hl 0 rfl) ?_
    refine va_get (ci := 10) (v := .int x1) (C := RX10) (T := TX10) (N := 12) hx hb hg inX10 hown hK hP 4 atX_4 rfl 6 (by decide) (hg _ mw_166) (fun _ h9 => h9) (congrArg (fun z => some (Value.int z)) (e2.symm)) dX10_addSmith_14 ?_
    refine lv_lload_n hx hb dX10_addSmith_17 rfl (lv_at hl 1 rfl) ?_
    refine va_last hx hb hK hP hD hS 5 1 atX_5 tyX_5 (in_rg r6 (by decide)) dX10_addSmith_18 (fun H locs hP hD hS => ?_)
    rw [setBX_5] at hP hD
    refine lv_aload_n hx hb dX10_addSmith_19 rfl (lv_at hl 0 rfl) ?_
    refine va_get (ci := 10) (v := .ref (ad 7)) (C := RX10) (T := TX10) (N := 12) hx hb hg inX10 hown hK hP 4 atX_4 rfl 2 (by decide) (hg _ mw_156) (fun _ h9 => h9) rfl dX10_addSmith_20 ?_
    refine lv_aload_n hx hb dX10_addSmith_23 rfl (lv_at hl 0 rfl) ?_
    refine va_get (ci := 10) (v := .int x1) (C := RX10) (T := TX10) (N := 12) hx hb hg inX10 hown hK hP 4 atX_4 rfl 6 (by decide) (hg _ mw_166) (fun _ h9 => h9) (congrArg (fun z => some (Value.int z)) (e2.symm)) dX10_addSmith_24 ?_
    refine lv_iload hx hb dX10_addSmith_27 (lv_at hl 3 rfl) ?_
    refine va_iast hx hb hK hP hD hS 7 3 atX_7 tyX_7 (in_rg r6 (by decide)) dX10_addSmith_29 (fun H locs hP hD hS => ?_)
    have hq := hq.ast 7 (x1).toNatClampNeg (x := p4) (by decide) (rg_top _)
    rw [setX_7] at hP hD
    have k7 : p4 = (va_up A 7 (upd (A 7) (x1).toNatClampNeg p4)) 7 (x1).toNatClampNeg := (rdA).symm
    refine lv_iload_n hx hb dX10_addSmith_30 rfl (lv_at hl 2 rfl) ?_
    have J49 : ∀ (F8 : Nat → Int32) (L8 : Nat → Int64) (A8 : Nat → Nat → Int32) (B8 : Nat → Nat → Int64) (H : Heap) (locs : List Loc) (ls : Array Slot), qX [9, 11] [5, 7] F A F8 A8 → F8 9 = x1 → va_P D classes (wX cA ad F8 L8 A8 B8) H → va_D Af (wX cA ad F8 L8 A8 B8) → va_S Af s.heap H locs → lv_has ls 5 [(0, .ref (ad 4))] → W p l e rm_X10_addSmith_4 s m args below meth c H locs 0 0 Q (F0 m 49 ls []) := by
      intro F8 L8 A8 B8 H locs ls hq f9 hP hD hS hl
      refine lv_aload_n hx hb dX10_addSmith_49 rfl (lv_at hl 0 rfl) ?_
      refine lv_dup hx hb dX10_addSmith_50 rfl ?_
      refine va_get (ci := 10) (v := .int x1) (C := RX10) (T := TX10) (N := 12) hx hb hg inX10 hown hK hP 4 atX_4 rfl 6 (by decide) (hg _ mw_166) (fun _ h9 => h9) (congrArg (fun z => some (Value.int z)) (f9)) dX10_addSmith_51 ?_
      refine lv_iconst (v := 1) hx hb dX10_addSmith_54 (by decide) ?_
      refine lv_iadd hx hb dX10_addSmith_55 ?_
      refine lv_topi (fun x10 e11 => ?_)
      have r12 : rg x10 1 8 := rg_add e11 r6 ((rg_k (by decide)) : rg 1 1 1) (by decide)
      refine va_put (ci := 10) (v := .int x10) (ty := .int) (C := RX10) (T := TX10) (N := 12) hx hb hg inX10 tyX10 tyX10_ok nmX10 hown hK hP hD hS 4 atX_4 rfl 6 (by decide) (hg _ mw_166) (fun _ h9 => h9) rfl (by decide +kernel) rfl rfl (Nat.le_of_ble_eq_true rfl) dX10_addSmith_56 (fun H locs hP hD hS => ?_)
      have hq := hq.put 9 (x := x10) (by decide) (rg_w r12 (by decide))
      rw [setFX_9] at hP hD
      exact hret ((upd F8 9 x10), L8, A8, B8) H locs 59 ls dX10_addSmith_59 hP hD hS hq
    refine lv_if_eq (tgt := 49) hx hb dX10_addSmith_31 (by decide) (fun c13 => ?_) (fun c13 => ?_)
    · skip
      have r14 : rg p3 0 0 := rg_eq1 c13 (hp3 : rg p3 0 1) ((rg_k (by decide)) : rg 0 0 0) (by decide)
      exact J49 (F) (L) ((va_up A 7 (upd (A 7) (x1).toNatClampNeg p4))) ((va_up B 5 (vp_updL (B 5) (x1).toNatClampNeg p1))) H locs ls hq (e2.symm) hP hD hS (lv_sub hl [0] rfl)
    · skip
      have r15 : rg p3 1 1 := (rg_ne1 c13 (hp3 : rg p3 0 1) ((rg_k (by decide)) : rg 0 0 0)).1 rfl
      refine lv_aload_n hx hb dX10_addSmith_34 rfl (lv_at hl 0 rfl) ?_
      refine lv_dup hx hb dX10_addSmith_35 rfl ?_
      refine va_get (ci := 10) (v := .int (F 11)) (C := RX10) (T := TX10) (N := 12) hx hb hg inX10 hown hK hP 4 atX_4 rfl 8 (by decide) (hg _ mw_175) (fun _ h9 => h9) rfl dX10_addSmith_36 ?_
      refine lv_topi (fun x16 e17 => ?_)
      refine lv_iconst (v := 1) hx hb dX10_addSmith_39 (by decide) ?_
      refine lv_aload_n hx hb dX10_addSmith_40 rfl (lv_at hl 0 rfl) ?_
      refine va_get (ci := 10) (v := .int x1) (C := RX10) (T := TX10) (N := 12) hx hb hg inX10 hown hK hP 4 atX_4 rfl 6 (by decide) (hg _ mw_166) (fun _ h9 => h9) (congrArg (fun z => some (Value.int z)) (e2.symm)) dX10_addSmith_41 ?_
      refine lv_ishl hx hb dX10_addSmith_44 ?_
      refine lv_topi (fun x18 e19 => ?_)
      have r20 : rg x18 1 128 := rg_shl1 e19 r6 (by decide)
      refine lv_ior hx hb dX10_addSmith_45 ?_
      refine lv_topi (fun x21 e22 => ?_)
      refine va_put (ci := 10) (v := .int x21) (ty := .int) (C := RX10) (T := TX10) (N := 12) hx hb hg inX10 tyX10 tyX10_ok nmX10 hown hK hP hD hS 4 atX_4 rfl 8 (by decide) (hg _ mw_175) (fun _ h9 => h9) rfl (by decide +kernel) rfl rfl (Nat.le_of_ble_eq_true rfl) dX10_addSmith_46 (fun H locs hP hD hS => ?_)
      have hq := hq.put 11 (x := x21) (by decide) (rg_top _)
      rw [setFX_11] at hP hD
      exact J49 ((upd F 11 x21)) (L) ((va_up A 7 (upd (A 7) (x1).toNatClampNeg p4))) ((va_up B 5 (vp_updL (B 5) (x1).toNatClampNeg p1))) H locs ls hq (e2.symm) hP hD hS (lv_sub hl [0] rfl)
abbrev rm_X6_copySmith_2 : Room := { frames := 5, cells := 0, slots := 0, locals := 103 }
set_option maxHeartbeats 4000000 in
set_option maxRecDepth 100000 in
theorem c_X6_copySmith_2 (l : Launch) (D : va_G) (cA : Nat → ClassId) (sz : Nat) (ad : Nat → Nat) (F : Nat → Int32) (L : Nat → Int64) (A : Nat → Nat → Int32) (B : Nat → Nat → Int64)  (hT : typX F A) (htx : ad 71 = ad 1) : Met l yX6_copySmith (Cond.code yX6_copySmith cX6_copySmith 4 none :: GW) rm_X6_copySmith_2 (mPc D classes (tysX cA) (wX cA ad F L A B) sz [.ref (ad 2)]) (mQv (S := SW) D classes (tysX cA) (wX cA ad F L A B) sz (wfX cA ad) (fun u => qX [2, 3, 5, 6, 7, 8, 9, 11] [5, 7] F A u.1 u.2.2.1)) 0 0 (va_A (wX cA ad F L A B) sz) := by
  refine met_v (own := "ShoeingDay$Scribe") (by decide +kernel) rfl (Nat.le_of_ble_eq_true rfl) ?_
  intro p e s m args below meth c Q Af ls hC hP hD hS hA hl hret
  have hx := hC.1
  have hb := hC.2.1
  have hown := hC.2.2.2.1
  have hg := hC.g
  have hK := hC.K
  have hl : lv_has ls 4 [(0, .ref (ad 2))] := hl
  have hq : qX [2, 3, 5, 6, 7, 8, 9, 11] [5, 7] F A F A := qX.rf hT
  obtain ⟨H, hH⟩ : ∃ H, H = s.heap := ⟨_, rfl⟩
  have hP : va_P D classes (wX cA ad F L A B) H := by rw [hH]; exact hP
  have hS : va_S Af s.heap H [] := by rw [hH]; exact hS
  obtain ⟨locs, hlo⟩ : ∃ q : List Loc, q = [] := ⟨_, rfl⟩
  rw [← hH, ← hlo]
  rw [← hlo] at hS
  refine lv_aload_n hx hb dX6_copySmith_0 rfl (lv_at hl 0 rfl) ?_
  refine lv_aload_n hx hb dX6_copySmith_1 rfl (lv_at hl 0 rfl) ?_
  refine va_get (ci := 6) (v := .ref (ad 4)) (C := RX6) (T := TX6) (N := 4) hx hb hg inX6 hown hK hP 2 atX_2 rfl 1 (by decide) (hg _ mw_213) (fun _ h9 => h9) rfl dX6_copySmith_2 ?_
  refine va_get (ci := 10) (v := .int (F 9)) (C := RX10) (T := TX10) (N := 12) hx hb hg inX10 hown hK hP 4 atX_4 rfl 6 (by decide) (hg _ mw_168) (fun _ h9 => h9) rfl dX6_copySmith_5 ?_
  refine lv_topi (fun x1 e2 => ?_)
  have r3 : rg x1 0 8 := rg_e e2 (hq.1.1 9)
  refine lv_bipush (v := 8) hx hb dX6_copySmith_8 (by decide) ?_
  refine callv_i (As := [.int x1, .int 8]) (rest := []) hC (c_X6_roomFor_2 l D cA H.size ad F L A B (x1) (8) hq.1 (rg_k (by decide))) (cwV 2 hg (g_V mw_626 mw_623 mw_625 ms_5 mw_2) rfl rfl rfl (by decide +kernel) ⟨(Nat.le_of_ble_eq_true rfl), (Nat.le_of_ble_eq_true rfl)⟩) hP hD hS hA atX_2 rfl rfl hl.1 rfl (Nat.le_of_ble_eq_true rfl) dX6_copySmith_10 ⟨Nat.zero_le _, Nat.zero_le _⟩ (fun x4 u H locs hw hP hD hS => ?_)
  obtain ⟨F5, L5, A5, B5⟩ := u
  try dsimp only at hw
  obtain ⟨hq5, r6, g7⟩ := hw
  have hq := hq.call hq5 (by decide)
  have hP : va_P D classes (wX cA ad F5 L5 A5 B5) H := hP
  have hD : va_D Af (wX cA ad F5 L5 A5 B5) := hD
  refine lv_if_eq (tgt := 24) hx hb dX6_copySmith_13 (by decide) (fun c8 => ?_) (fun c8 => ?_)
  · skip
    have r9 : rg x4 0 0 := rg_eq1 c8 (r6 : rg x4 0 1) ((rg_k (by decide)) : rg 0 0 0) (by decide)
    exact hret (F5, L5, A5, B5) H locs 24 ls dX6_copySmith_24 hP hD hS hq
  · skip
    have g10 := g7.resolve_left c8
    refine lv_aload_n hx hb dX6_copySmith_16 rfl (lv_at hl 0 rfl) ?_
    refine lv_iconst (v := 4) hx hb dX6_copySmith_17 (by decide) ?_
    refine callv_i (As := [.int 4]) (rest := []) hC (c_X6_take_2 l D cA H.size ad F5 L5 A5 B5 (4) hq.1 htx (rg_k (by decide))) (cwV 1 hg (g_V mw_634 mw_631 mw_633 ms_7 mw_2) rfl rfl rfl (by decide +kernel) ⟨(Nat.le_of_ble_eq_true rfl), (Nat.le_of_ble_eq_true rfl)⟩) hP hD hS hA atX_2 rfl rfl hl.1 rfl (Nat.le_of_ble_eq_true rfl) dX6_copySmith_18 ⟨Nat.zero_le _, Nat.zero_le _⟩ (fun x11 u H locs hw hP hD hS => ?_)
    obtain ⟨F12, L12, A12, B12⟩ := u
    try dsimp only at hw
    obtain ⟨hq12, r13⟩ := hw
    have hq := hq.call hq12 (by decide)
    have hP : va_P D classes (wX cA ad F12 L12 A12 B12) H := hP
    have hD : va_D Af (wX cA ad F12 L12 A12 B12) := hD
    refine lv_if_ne (tgt := 25) hx hb dX6_copySmith_21 (by decide) (fun c14 => ?_) (fun c14 => ?_)
    · skip
      have r15 : rg x11 1 1 := (rg_ne1 c14 (r13 : rg x11 0 1) ((rg_k (by decide)) : rg 0 0 0)).1 rfl
      refine lv_aload_n hx hb dX6_copySmith_25 rfl (lv_at hl 0 rfl) ?_
      refine va_get (ci := 6) (v := .ref (ad 3)) (C := RX6) (T := TX6) (N := 4) hx hb hg inX6 hown hK hP 2 atX_2 rfl 0 (by decide) (hg _ mw_212) (fun _ h9 => h9) rfl dX6_copySmith_26 ?_
      refine va_get (ci := 5) (v := .long (L12 7)) (C := RX5) (T := TX5) (N := 14) hx hb hg inX5 hown hK hP 3 atX_3 rfl 12 (by decide) (hg _ mw_115) (fun _ h9 => h9) rfl dX6_copySmith_29 ?_
      refine lv_topl (fun z17 e18 => ?_)
      refine lv_lstore_n (lv' := [(1, .long z17), (0, .ref (ad 2))]) hx hb dX6_copySmith_32 rfl hl (by decide) rfl (fun ls hl => ?_)
      refine lv_aload_n hx hb dX6_copySmith_33 rfl (lv_at hl 1 rfl) ?_
      refine va_get (ci := 6) (v := .ref (ad 4)) (C := RX6) (T := TX6) (N := 4) hx hb hg inX6 hown hK hP 2 atX_2 rfl 1 (by decide) (hg _ mw_213) (fun _ h9 => h9) rfl dX6_copySmith_34 ?_
      refine lv_lload_n hx hb dX6_copySmith_37 rfl (lv_at hl 0 rfl) ?_
      refine callv_i (As := [.long z17]) (rest := []) hC (c_X10_smithNamed_4 l D cA H.size ad F12 L12 A12 B12 (z17) hq.1) (cwV 1 hg (g_V mw_642 mw_639 mw_640 mw_641 mw_8) rfl rfl rfl (by decide +kernel) ⟨(Nat.le_of_ble_eq_true rfl), (Nat.le_of_ble_eq_true rfl)⟩) hP hD hS hA atX_4 rfl rfl hl.1 rfl (Nat.le_of_ble_eq_true rfl) dX6_copySmith_38 ⟨Nat.zero_le _, Nat.zero_le _⟩ (fun x19 u H locs hw hP hD hS => ?_)
      have r20 := hw
      have hP : va_P D classes (wX cA ad F12 L12 A12 B12) H := hP
      have hD : va_D Af (wX cA ad F12 L12 A12 B12) := hD
      refine lv_iconst (v := (-1)) hx hb dX6_copySmith_41 (by decide) ?_
      refine lv_icmp_eq (tgt := 51) hx hb dX6_copySmith_42 (by decide) (fun c21 => ?_) (fun c21 => ?_)
      · skip
        have r22 : rg x19 (-1) (-1) := rg_eq1 c21 (r20 : rg x19 (-1) 7) ((rg_k (by decide)) : rg (-1) (-1) (-1)) (by decide)
        refine lv_aload_n hx hb dX6_copySmith_51 rfl (lv_at hl 1 rfl) ?_
        refine va_get (ci := 6) (v := .ref (ad 3)) (C := RX6) (T := TX6) (N := 4) hx hb hg inX6 hown hK hP 2 atX_2 rfl 0 (by decide) (hg _ mw_212) (fun _ h9 => h9) rfl dX6_copySmith_52 ?_
        refine callv_v (As := []) (rest := []) hC (c_X5_next_3 l D cA H.size ad F12 L12 A12 B12  hq.1 htx) (cwV 0 hg (g_V mw_600 mw_597 mw_598 mw_599 mw_3) rfl rfl rfl (by decide +kernel) ⟨(Nat.le_of_ble_eq_true rfl), (Nat.le_of_ble_eq_true rfl)⟩) hP hD hS hA atX_3 rfl rfl hl.1 rfl (Nat.le_of_ble_eq_true rfl) dX6_copySmith_55 ⟨Nat.zero_le _, Nat.zero_le _⟩ (fun  u H locs hw hP hD hS => ?_)
        obtain ⟨F24, L24, A24, B24⟩ := u
        try dsimp only at hw
        have hq24 := hw
        have hq := hq.call hq24 (by decide)
        have hP : va_P D classes (wX cA ad F24 L24 A24 B24) H := hP
        have hD : va_D Af (wX cA ad F24 L24 A24 B24) := hD
        refine lv_aload_n hx hb dX6_copySmith_58 rfl (lv_at hl 1 rfl) ?_
        refine va_get (ci := 6) (v := .ref (ad 3)) (C := RX6) (T := TX6) (N := 4) hx hb hg inX6 hown hK hP 2 atX_2 rfl 0 (by decide) (hg _ mw_212) (fun _ h9 => h9) rfl dX6_copySmith_59 ?_
        refine va_get (ci := 5) (v := .int (F24 6)) (C := RX5) (T := TX5) (N := 14) hx hb hg inX5 hown hK hP 3 atX_3 rfl 10 (by decide) (hg _ mw_111) (fun _ h9 => h9) rfl dX6_copySmith_62 ?_
        refine lv_topi (fun x25 e26 => ?_)
        refine lv_bipush (v := 6) hx hb dX6_copySmith_65 (by decide) ?_
        have J75 : ∀ (a27 : Int32) (F29 : Nat → Int32) (L29 : Nat → Int64) (A29 : Nat → Nat → Int32) (B29 : Nat → Nat → Int64) (H : Heap) (locs : List Loc) (ls : Array Slot), rg a27 0 1 → qX [2, 3, 5, 6, 7, 8, 9, 11] [5, 7] F A F29 A29 → F29 6 = x25 → va_P D classes (wX cA ad F29 L29 A29 B29) H → va_D Af (wX cA ad F29 L29 A29 B29) → va_S Af s.heap H locs → lv_has ls 4 [(0, .ref (ad 2)), (1, .long z17)] → W p l e rm_X6_copySmith_2 s m args below meth c H locs 0 0 Q (F0 m 75 ls [.int a27]) := by
          intro a27 F29 L29 A29 B29 H locs ls r28 hq f30 hP hD hS hl
          refine lv_istore_n (lv' := [(3, .int a27), (0, .ref (ad 2)), (1, .long z17)]) hx hb dX6_copySmith_75 rfl hl (by decide) rfl (fun ls hl => ?_)
          refine lv_iload_n hx hb dX6_copySmith_76 rfl (lv_at hl 0 rfl) ?_
          have J87 : ∀ (F31 : Nat → Int32) (L31 : Nat → Int64) (A31 : Nat → Nat → Int32) (B31 : Nat → Nat → Int64) (H : Heap) (locs : List Loc) (ls : Array Slot), qX [2, 3, 5, 6, 7, 8, 9, 11] [5, 7] F A F31 A31 → va_P D classes (wX cA ad F31 L31 A31 B31) H → va_D Af (wX cA ad F31 L31 A31 B31) → va_S Af s.heap H locs → lv_has ls 4 [(0, .ref (ad 2)), (1, .long z17), (3, .int a27)] → W p l e rm_X6_copySmith_2 s m args below meth c H locs 0 0 Q (F0 m 87 ls []) := by
            intro F31 L31 A31 B31 H locs ls hq hP hD hS hl
            refine lv_aload_n hx hb dX6_copySmith_87 rfl (lv_at hl 0 rfl) ?_
            refine va_get (ci := 6) (v := .ref (ad 3)) (C := RX6) (T := TX6) (N := 4) hx hb hg inX6 hown hK hP 2 atX_2 rfl 0 (by decide) (hg _ mw_212) (fun _ h9 => h9) rfl dX6_copySmith_88 ?_
            refine va_get (ci := 5) (v := .int (F31 6)) (C := RX5) (T := TX5) (N := 14) hx hb hg inX5 hown hK hP 3 atX_3 rfl 10 (by decide) (hg _ mw_111) (fun _ h9 => h9) rfl dX6_copySmith_91 ?_
            refine lv_topi (fun x32 e33 => ?_)
            refine lv_bipush (v := 7) hx hb dX6_copySmith_94 (by decide) ?_
            refine lv_icmp_eq (tgt := 104) hx hb dX6_copySmith_96 (by decide) (fun c34 => ?_) (fun c34 => ?_)
            · skip
              have r35 : rg x32 7 7 := rg_eq1 c34 ((rg_top _) : rg x32 (-2147483648) 2147483647) ((rg_k (by decide)) : rg 7 7 7) (by decide)
              refine lv_aload_n hx hb dX6_copySmith_104 rfl (lv_at hl 0 rfl) ?_
              refine lv_bipush (v := 99) hx hb dX6_copySmith_105 (by decide) ?_
              refine callv_i (As := [.int 99]) (rest := []) hC (c_X6_takeNumber_2 l D cA H.size ad F31 L31 A31 B31 (99) hq.1 htx (rg_k (by decide))) (cwV 1 hg (g_V mw_646 mw_643 mw_645 ms_9 mw_2) rfl rfl rfl (by decide +kernel) ⟨(Nat.le_of_ble_eq_true rfl), (Nat.le_of_ble_eq_true rfl)⟩) hP hD hS hA atX_2 rfl rfl hl.1 rfl (Nat.le_of_ble_eq_true rfl) dX6_copySmith_107 ⟨Nat.zero_le _, Nat.zero_le _⟩ (fun x36 u H locs hw hP hD hS => ?_)
              obtain ⟨F37, L37, A37, B37⟩ := u
              try dsimp only at hw
              obtain ⟨hq37, r38⟩ := hw
              have hq := hq.call hq37 (by decide)
              have hP : va_P D classes (wX cA ad F37 L37 A37 B37) H := hP
              have hD : va_D Af (wX cA ad F37 L37 A37 B37) := hD
              refine lv_if_ne (tgt := 114) hx hb dX6_copySmith_110 (by decide) (fun c39 => ?_) (fun c39 => ?_)
              · skip
                have r40 : rg x36 1 1 := (rg_ne1 c39 (r38 : rg x36 0 1) ((rg_k (by decide)) : rg 0 0 0)).1 rfl
                refine lv_aload_n hx hb dX6_copySmith_114 rfl (lv_at hl 0 rfl) ?_
                refine lv_iconst (v := 3) hx hb dX6_copySmith_115 (by decide) ?_
                refine callv_i (As := [.int 3]) (rest := []) hC (c_X6_take_2 l D cA H.size ad F37 L37 A37 B37 (3) hq.1 htx (rg_k (by decide))) (cwV 1 hg (g_V mw_634 mw_631 mw_633 ms_7 mw_2) rfl rfl rfl (by decide +kernel) ⟨(Nat.le_of_ble_eq_true rfl), (Nat.le_of_ble_eq_true rfl)⟩) hP hD hS hA atX_2 rfl rfl hl.1 rfl (Nat.le_of_ble_eq_true rfl) dX6_copySmith_116 ⟨Nat.zero_le _, Nat.zero_le _⟩ (fun x42 u H locs hw hP hD hS => ?_)
                obtain ⟨F43, L43, A43, B43⟩ := u
                try dsimp only at hw
                obtain ⟨hq43, r44⟩ := hw
                have hq := hq.call hq43 (by decide)
                have hP : va_P D classes (wX cA ad F43 L43 A43 B43) H := hP
                have hD : va_D Af (wX cA ad F43 L43 A43 B43) := hD
                refine lv_if_eq (tgt := 138) hx hb dX6_copySmith_119 (by decide) (fun c45 => ?_) (fun c45 => ?_)
                · skip
                  have r46 : rg x42 0 0 := rg_eq1 c45 (r44 : rg x42 0 1) ((rg_k (by decide)) : rg 0 0 0) (by decide)
                  exact hret (F43, L43, A43, B43) H locs 138 ls dX6_copySmith_138 hP hD hS hq
                · skip
                  have r47 : rg x42 1 1 := (rg_ne1 c45 (r44 : rg x42 0 1) ((rg_k (by decide)) : rg 0 0 0)).1 rfl
                  refine lv_aload_n hx hb dX6_copySmith_122 rfl (lv_at hl 0 rfl) ?_
                  refine va_get (ci := 6) (v := .ref (ad 4)) (C := RX6) (T := TX6) (N := 4) hx hb hg inX6 hown hK hP 2 atX_2 rfl 1 (by decide) (hg _ mw_213) (fun _ h9 => h9) rfl dX6_copySmith_123 ?_
                  refine lv_lload_n hx hb dX6_copySmith_126 rfl (lv_at hl 1 rfl) ?_
                  refine lv_iload_n hx hb dX6_copySmith_127 rfl (lv_at hl 2 rfl) ?_
                  refine lv_aload_n hx hb dX6_copySmith_128 rfl (lv_at hl 0 rfl) ?_
                  refine va_get (ci := 6) (v := .ref (ad 3)) (C := RX6) (T := TX6) (N := 4) hx hb hg inX6 hown hK hP 2 atX_2 rfl 0 (by decide) (hg _ mw_212) (fun _ h9 => h9) rfl dX6_copySmith_129 ?_
                  refine va_get (ci := 5) (v := .int (F43 8)) (C := RX5) (T := TX5) (N := 14) hx hb hg inX5 hown hK hP 3 atX_3 rfl 13 (by decide) (hg _ mw_117) (fun _ h9 => h9) rfl dX6_copySmith_132 ?_
                  refine lv_topi (fun x48 e49 => ?_)
                  refine callv_v (As := [.long z17, .int a27, .int x48]) (rest := []) hC (c_X10_addSmith_4 l D cA H.size ad F43 L43 A43 B43 (z17) (a27) (x48) hq.1 r28) (cwV 3 hg (g_V mw_650 mw_647 mw_648 mw_649 mw_8) rfl rfl rfl (by decide +kernel) ⟨(Nat.le_of_ble_eq_true rfl), (Nat.le_of_ble_eq_true rfl)⟩) hP hD hS hA atX_4 rfl rfl hl.1 rfl (Nat.le_of_ble_eq_true rfl) dX6_copySmith_135 ⟨Nat.zero_le _, Nat.zero_le _⟩ (fun  u H locs hw hP hD hS => ?_)
                  obtain ⟨F50, L50, A50, B50⟩ := u
                  try dsimp only at hw
                  have hq50 := hw
                  have hq := hq.call hq50 (by decide)
                  have hP : va_P D classes (wX cA ad F50 L50 A50 B50) H := hP
                  have hD : va_D Af (wX cA ad F50 L50 A50 B50) := hD
                  exact hret (F50, L50, A50, B50) H locs 138 ls dX6_copySmith_138 hP hD hS hq
              · skip
                have r41 : rg x36 0 0 := rg_eq1 c39 (r38 : rg x36 0 1) ((rg_k (by decide)) : rg 0 0 0) (by decide)
                exact hret (F37, L37, A37, B37) H locs 113 ls dX6_copySmith_113 hP hD hS hq
            · skip
              refine lv_aload_n hx hb dX6_copySmith_99 rfl (lv_at hl 0 rfl) ?_
              refine callv_v (As := []) (rest := []) hC (c_X6_refuseToken_2 l D cA H.size ad F31 L31 A31 B31  hq.1) (cwV 0 hg (g_V mw_638 mw_635 mw_637 ms_8 mw_2) rfl rfl rfl (by decide +kernel) ⟨(Nat.le_of_ble_eq_true rfl), (Nat.le_of_ble_eq_true rfl)⟩) hP hD hS hA atX_2 rfl rfl hl.1 rfl (Nat.le_of_ble_eq_true rfl) dX6_copySmith_100 ⟨Nat.zero_le _, Nat.zero_le _⟩ (fun  u H locs hw hP hD hS => ?_)
              obtain ⟨F51, L51, A51, B51⟩ := u
              try dsimp only at hw
              have hq51 := hw
              have hq := hq.call hq51 (by decide)
              have hP : va_P D classes (wX cA ad F51 L51 A51 B51) H := hP
              have hD : va_D Af (wX cA ad F51 L51 A51 B51) := hD
              exact hret (F51, L51, A51, B51) H locs 103 ls dX6_copySmith_103 hP hD hS hq
          refine lv_if_eq (tgt := 87) hx hb dX6_copySmith_77 (by decide) (fun c52 => ?_) (fun c52 => ?_)
          · skip
            have r53 : rg a27 0 0 := rg_eq1 c52 (r28 : rg a27 0 1) ((rg_k (by decide)) : rg 0 0 0) (by decide)
            exact J87 (F29) (L29) (A29) (B29) H locs ls hq hP hD hS (lv_sub hl [1, 2, 0] rfl)
          · skip
            have r54 : rg a27 1 1 := (rg_ne1 c52 (r28 : rg a27 0 1) ((rg_k (by decide)) : rg 0 0 0)).1 rfl
            refine lv_aload_n hx hb dX6_copySmith_80 rfl (lv_at hl 1 rfl) ?_
            refine va_get (ci := 6) (v := .ref (ad 3)) (C := RX6) (T := TX6) (N := 4) hx hb hg inX6 hown hK hP 2 atX_2 rfl 0 (by decide) (hg _ mw_212) (fun _ h9 => h9) rfl dX6_copySmith_81 ?_
            refine callv_v (As := []) (rest := []) hC (c_X5_next_3 l D cA H.size ad F29 L29 A29 B29  hq.1 htx) (cwV 0 hg (g_V mw_600 mw_597 mw_598 mw_599 mw_3) rfl rfl rfl (by decide +kernel) ⟨(Nat.le_of_ble_eq_true rfl), (Nat.le_of_ble_eq_true rfl)⟩) hP hD hS hA atX_3 rfl rfl hl.1 rfl (Nat.le_of_ble_eq_true rfl) dX6_copySmith_84 ⟨Nat.zero_le _, Nat.zero_le _⟩ (fun  u H locs hw hP hD hS => ?_)
            obtain ⟨F55, L55, A55, B55⟩ := u
            try dsimp only at hw
            have hq55 := hw
            have hq := hq.call hq55 (by decide)
            have hP : va_P D classes (wX cA ad F55 L55 A55 B55) H := hP
            have hD : va_D Af (wX cA ad F55 L55 A55 B55) := hD
            exact J87 (F55) (L55) (A55) (B55) H locs ls hq hP hD hS (lv_sub hl [1, 2, 0] rfl)
        refine lv_icmp_ne (tgt := 74) hx hb dX6_copySmith_67 (by decide) (fun c56 => ?_) (fun c56 => ?_)
        · skip
          refine lv_iconst (v := 0) hx hb dX6_copySmith_74 (by decide) ?_
          exact J75 (0) (F24) (L24) (A24) (B24) H locs ls (rg_k (by decide)) hq (e26.symm) hP hD hS (lv_sub hl [1, 0] rfl)
        · skip
          have r57 : rg x25 6 6 := rg_eq1 c56 ((rg_top _) : rg x25 (-2147483648) 2147483647) ((rg_k (by decide)) : rg 6 6 6) (by decide)
          refine lv_iconst (v := 1) hx hb dX6_copySmith_70 (by decide) ?_
          refine lv_goto (tgt := 75) hx hb dX6_copySmith_71 (by decide) ?_
          exact J75 (1) (F24) (L24) (A24) (B24) H locs ls (rg_k (by decide)) hq (e26.symm) hP hD hS (lv_sub hl [1, 0] rfl)
      · skip
        have r23 : rg x19 0 7 := (rg_ne1 c21 (r20 : rg x19 (-1) 7) ((rg_k (by decide)) : rg (-1) (-1) (-1))).1 rfl
        refine lv_aload_n hx hb dX6_copySmith_45 rfl (lv_at hl 1 rfl) ?_
        refine lv_iconst (v := 3) hx hb dX6_copySmith_46 (by decide) ?_
        refine callv_v (As := [.int 3]) (rest := []) hC (c_X6_refuse_2 l D cA H.size ad F12 L12 A12 B12 (3) hq.1 (rg_k (by decide))) (cwV 1 hg (g_V mw_630 mw_627 mw_629 ms_6 mw_2) rfl rfl rfl (by decide +kernel) ⟨(Nat.le_of_ble_eq_true rfl), (Nat.le_of_ble_eq_true rfl)⟩) hP hD hS hA atX_2 rfl rfl hl.1 rfl (Nat.le_of_ble_eq_true rfl) dX6_copySmith_47 ⟨Nat.zero_le _, Nat.zero_le _⟩ (fun  u H locs hw hP hD hS => ?_)
        obtain ⟨F58, L58, A58, B58⟩ := u
        try dsimp only at hw
        have hq58 := hw
        have hq := hq.call hq58 (by decide)
        have hP : va_P D classes (wX cA ad F58 L58 A58 B58) H := hP
        have hD : va_D Af (wX cA ad F58 L58 A58 B58) := hD
        exact hret (F58, L58, A58, B58) H locs 50 ls dX6_copySmith_50 hP hD hS hq
    · skip
      have r16 : rg x11 0 0 := rg_eq1 c14 (r13 : rg x11 0 1) ((rg_k (by decide)) : rg 0 0 0) (by decide)
      exact hret (F12, L12, A12, B12) H locs 24 ls dX6_copySmith_24 hP hD hS hq
abbrev rm_X6_copy_2_1 : Room := { frames := 6, cells := 0, slots := 0, locals := 126 }
set_option maxHeartbeats 4000000 in
set_option maxRecDepth 100000 in
theorem c_X6_copy_2_1 (l : Launch) (D : va_G) (cA : Nat → ClassId) (sz : Nat) (ad : Nat → Nat) (F : Nat → Int32) (L : Nat → Int64) (A : Nat → Nat → Int32) (B : Nat → Nat → Int64) (p2 : Int32) (hT : typX F A) (hp2 : rg p2 0 1700) : Met l yX6_copy (Cond.code yX6_copy cX6_copy 4 none :: GW) rm_X6_copy_2_1 (mPc D classes (tysX cA) (wX cA ad F L A B) sz [.ref (ad 2), .ref (ad 1), .int p2]) (mQv (S := SW) D classes (tysX cA) (wX cA ad F L A B) sz (wfX cA (adT ad)) (fun u => qX [2, 3, 4, 5, 6, 7, 8, 9, 10, 11, 12, 13, 14] [5, 6, 7, 8, 9, 10] F A u.1 u.2.2.1)) 0 0 (va_A (wX cA ad F L A B) sz) := by
  refine met_v (own := "ShoeingDay$Scribe") (by decide +kernel) rfl (Nat.le_of_ble_eq_true rfl) ?_
  intro p e s m args below meth c Q Af ls hC hP hD hS hA hl hret
  have hx := hC.1
  have hb := hC.2.1
  have hown := hC.2.2.2.1
  have hg := hC.g
  have hK := hC.K
  have hl : lv_has ls 4 [(0, .ref (ad 2)), (1, .ref (ad 1)), (2, .int p2)] := hl
  have hq : qX [2, 3, 4, 5, 6, 7, 8, 9, 10, 11, 12, 13, 14] [5, 6, 7, 8, 9, 10] F A F A := qX.rf hT
  obtain ⟨H, hH⟩ : ∃ H, H = s.heap := ⟨_, rfl⟩
  have hP : va_P D classes (wX cA ad F L A B) H := by rw [hH]; exact hP
  have hS : va_S Af s.heap H [] := by rw [hH]; exact hS
  obtain ⟨locs, hlo⟩ : ∃ q : List Loc, q = [] := ⟨_, rfl⟩
  rw [← hH, ← hlo]
  rw [← hlo] at hS
  refine lv_aload_n hx hb dX6_copy_0 rfl (lv_at hl 0 rfl) ?_
  refine lv_iconst (v := 0) hx hb dX6_copy_1 (by decide) ?_
  refine va_put (ci := 6) (v := .int 0) (ty := .int) (C := RX6) (T := TX6) (N := 4) hx hb hg inX6 tyX6 tyX6_ok nmX6 hown hK hP hD hS 2 atX_2 rfl 2 (by decide) (hg _ mw_214) (fun _ h9 => h9) rfl (by decide +kernel) rfl rfl (Nat.le_of_ble_eq_true rfl) dX6_copy_2 (fun H locs hP hD hS => ?_)
  have hq := hq.put 2 (x := 0) (by decide) (rg_k (by decide))
  rw [setFX_2] at hP hD
  refine lv_aload_n hx hb dX6_copy_5 rfl (lv_at hl 0 rfl) ?_
  refine lv_iconst (v := (-1)) hx hb dX6_copy_6 (by decide) ?_
  refine va_put (ci := 6) (v := .int (-1)) (ty := .int) (C := RX6) (T := TX6) (N := 4) hx hb hg inX6 tyX6 tyX6_ok nmX6 hown hK hP hD hS 2 atX_2 rfl 3 (by decide) (hg _ mw_216) (fun _ h9 => h9) rfl (by decide +kernel) rfl rfl (Nat.le_of_ble_eq_true rfl) dX6_copy_7 (fun H locs hP hD hS => ?_)
  have hq := hq.put 3 (x := (-1)) (by decide) (rg_k (by decide))
  rw [setFX_3] at hP hD
  refine lv_aload_n hx hb dX6_copy_10 rfl (lv_at hl 0 rfl) ?_
  refine va_get (ci := 6) (v := .ref (ad 4)) (C := RX6) (T := TX6) (N := 4) hx hb hg inX6 hown hK hP 2 atX_2 rfl 1 (by decide) (hg _ mw_213) (fun _ h9 => h9) rfl dX6_copy_11 ?_
  refine callv_v (As := []) (rest := []) hC (c_X10_clear_4 l D cA H.size ad (upd (upd F 2 (0 : Int32)) 3 ((-1) : Int32)) L A B  hq.1) (cwV 0 hg (g_V mw_588 mw_585 mw_586 mw_587 mw_8) rfl rfl rfl (by decide +kernel) ⟨(Nat.le_of_ble_eq_true rfl), (Nat.le_of_ble_eq_true rfl)⟩) hP hD hS hA atX_4 rfl rfl hl.1 rfl (Nat.le_of_ble_eq_true rfl) dX6_copy_14 ⟨Nat.zero_le _, Nat.zero_le _⟩ (fun  u H locs hw hP hD hS => ?_)
  obtain ⟨F1, L1, A1, B1⟩ := u
  try dsimp only at hw
  have hq1 := hw
  have hq := hq.call hq1 (by decide)
  have hP : va_P D classes (wX cA ad F1 L1 A1 B1) H := hP
  have hD : va_D Af (wX cA ad F1 L1 A1 B1) := hD
  refine lv_aload_n hx hb dX6_copy_17 rfl (lv_at hl 0 rfl) ?_
  refine va_get (ci := 6) (v := .ref (ad 3)) (C := RX6) (T := TX6) (N := 4) hx hb hg inX6 hown hK hP 2 atX_2 rfl 0 (by decide) (hg _ mw_212) (fun _ h9 => h9) rfl dX6_copy_18 ?_
  refine lv_aload_n hx hb dX6_copy_21 rfl (lv_at hl 1 rfl) ?_
  refine lv_iload_n hx hb dX6_copy_22 rfl (lv_at hl 2 rfl) ?_
  refine callv_v (As := [.ref (ad 1), .int p2]) (rest := []) hC (c_X5_open_3_1 l D cA H.size ad F1 L1 A1 B1 (p2) hq.1 hp2) (cwV 2 hg (g_V mw_593 mw_590 mw_591 mw_592 mw_3) rfl rfl rfl (by decide +kernel) ⟨(Nat.le_of_ble_eq_true rfl), (Nat.le_of_ble_eq_true rfl)⟩) hP hD hS hA atX_3 rfl rfl hl.1 rfl (Nat.le_of_ble_eq_true rfl) dX6_copy_23 ⟨Nat.zero_le _, Nat.zero_le _⟩ (fun  u H locs hw hP hD hS => ?_)
  obtain ⟨F2, L2, A2, B2⟩ := u
  try dsimp only at hw
  have hq2 := hw
  have hq := hq.call hq2 (by decide)
  have hP : va_P D classes (wX cA (adT ad) F2 L2 A2 B2) H := hP
  have hD : va_D Af (wX cA (adT ad) F2 L2 A2 B2) := hD
  have hl : lv_has ls 4 [(0, .ref (adT ad 2)), (1, .ref (adT ad 1)), (2, .int p2)] := hl
  have htx : adT ad 71 = adT ad 1 := rfl
  generalize adT ad = ad at hP hD hl htx hret
  have hP : va_P D classes (wX cA ad F2 L2 A2 B2) H := hP
  have hD : va_D Af (wX cA ad F2 L2 A2 B2) := hD
  refine lv_aload_n hx hb dX6_copy_26 rfl (lv_at hl 0 rfl) ?_
  refine va_get (ci := 6) (v := .ref (ad 3)) (C := RX6) (T := TX6) (N := 4) hx hb hg inX6 hown hK hP 2 atX_2 rfl 0 (by decide) (hg _ mw_212) (fun _ h9 => h9) rfl dX6_copy_27 ?_
  refine callv_v (As := []) (rest := []) hC (c_X5_next_3 l D cA H.size ad F2 L2 A2 B2  hq.1 htx) (cwV 0 hg (g_V mw_600 mw_597 mw_598 mw_599 mw_3) rfl rfl rfl (by decide +kernel) ⟨(Nat.le_of_ble_eq_true rfl), (Nat.le_of_ble_eq_true rfl)⟩) hP hD hS hA atX_3 rfl rfl hl.1 rfl (Nat.le_of_ble_eq_true rfl) dX6_copy_30 ⟨Nat.zero_le _, Nat.zero_le _⟩ (fun  u H locs hw hP hD hS => ?_)
  obtain ⟨F3, L3, A3, B3⟩ := u
  try dsimp only at hw
  have hq3 := hw
  have hq := hq.call hq3 (by decide)
  have hP : va_P D classes (wX cA ad F3 L3 A3 B3) H := hP
  have hD : va_D Af (wX cA ad F3 L3 A3 B3) := hD
  refine lv_iconst (v := 0) hx hb dX6_copy_33 (by decide) ?_
  refine lv_istore_n (lv' := [(3, .int 0), (0, .ref (ad 2)), (1, .ref (ad 1)), (2, .int p2)]) hx hb dX6_copy_34 rfl hl (by decide) rfl (fun ls hl => ?_)
  have J35 : ∀ (n35 : Nat) (a4 : Int32) (F6 : Nat → Int32) (L6 : Nat → Int64) (A6 : Nat → Nat → Int32) (B6 : Nat → Nat → Int64) (H : Heap) (locs : List Loc) (ls : Array Slot), (1700 - a4.toInt).toNat < n35 → rg a4 0 1700 → qX [2, 3, 4, 5, 6, 7, 8, 9, 10, 11, 12, 13, 14] [5, 6, 7, 8, 9, 10] F A F6 A6 → va_P D classes (wX cA ad F6 L6 A6 B6) H → va_D Af (wX cA ad F6 L6 A6 B6) → va_S Af s.heap H locs → lv_has ls 4 [(0, .ref (ad 2)), (3, .int a4)] → W p l e rm_X6_copy_2_1 s m args below meth c H locs 0 0 Q (F0 m 35 ls []) := by
    intro n35
    induction n35 with
    | zero =>
      intro _ _ _ _ _ _ _ _ hn
      exact absurd hn (Nat.not_lt_zero _)
    | succ n35 ih35 =>
      intro a4 F6 L6 A6 B6 H locs ls hn35 r5 hq hP hD hS hl
      refine lv_iload_n hx hb dX6_copy_35 rfl (lv_at hl 1 rfl) ?_
      refine lv_sipush (v := 1700) hx hb dX6_copy_36 (by decide) ?_
      refine lv_icmp_ge (tgt := 160) hx hb dX6_copy_39 (by decide) (fun c7 => ?_) (fun c7 => ?_)
      · skip
        have r8 : rg a4 1700 1700 := rg_le2 (iE c7) ((rg_k (by decide)) : rg 1700 1700 1700) (r5 : rg a4 0 1700)
        exact hret (F6, L6, A6, B6) H locs 160 ls dX6_copy_160 hP hD hS hq
      · skip
        have r9 : rg a4 0 1699 := rg_lt1 (iNE c7) (r5 : rg a4 0 1700) ((rg_k (by decide)) : rg 1700 1700 1700)
        refine lv_aload_n hx hb dX6_copy_42 rfl (lv_at hl 0 rfl) ?_
        refine va_get (ci := 6) (v := .int (F6 2)) (C := RX6) (T := TX6) (N := 4) hx hb hg inX6 hown hK hP 2 atX_2 rfl 2 (by decide) (hg _ mw_214) (fun _ h9 => h9) rfl dX6_copy_43 ?_
        refine lv_topi (fun x10 e11 => ?_)
        refine lv_if_ne (tgt := 160) hx hb dX6_copy_46 (by decide) (fun c12 => ?_) (fun c12 => ?_)
        · skip
          exact hret (F6, L6, A6, B6) H locs 160 ls dX6_copy_160 hP hD hS hq
        · skip
          have r13 : rg x10 0 0 := rg_eq1 c12 ((rg_top _) : rg x10 (-2147483648) 2147483647) ((rg_k (by decide)) : rg 0 0 0) (by decide)
          refine lv_aload_n hx hb dX6_copy_49 rfl (lv_at hl 0 rfl) ?_
          refine va_get (ci := 6) (v := .ref (ad 3)) (C := RX6) (T := TX6) (N := 4) hx hb hg inX6 hown hK hP 2 atX_2 rfl 0 (by decide) (hg _ mw_212) (fun _ h9 => h9) rfl dX6_copy_50 ?_
          refine va_get (ci := 5) (v := .int (F6 6)) (C := RX5) (T := TX5) (N := 14) hx hb hg inX5 hown hK hP 3 atX_3 rfl 10 (by decide) (hg _ mw_111) (fun _ h9 => h9) rfl dX6_copy_53 ?_
          refine lv_topi (fun x14 e15 => ?_)
          refine lv_if_eq (tgt := 160) hx hb dX6_copy_56 (by decide) (fun c16 => ?_) (fun c16 => ?_)
          · skip
            have r17 : rg x14 0 0 := rg_eq1 c16 ((rg_top _) : rg x14 (-2147483648) 2147483647) ((rg_k (by decide)) : rg 0 0 0) (by decide)
            exact hret (F6, L6, A6, B6) H locs 160 ls dX6_copy_160 hP hD hS hq
          · skip
            refine lv_aload_n hx hb dX6_copy_59 rfl (lv_at hl 0 rfl) ?_
            refine va_get (ci := 6) (v := .ref (ad 3)) (C := RX6) (T := TX6) (N := 4) hx hb hg inX6 hown hK hP 2 atX_2 rfl 0 (by decide) (hg _ mw_212) (fun _ h9 => h9) rfl dX6_copy_60 ?_
            refine va_get (ci := 5) (v := .int x14) (C := RX5) (T := TX5) (N := 14) hx hb hg inX5 hown hK hP 3 atX_3 rfl 10 (by decide) (hg _ mw_111) (fun _ h9 => h9) (congrArg (fun z => some (Value.int z)) (e15.symm)) dX6_copy_63 ?_
            have J147 : ∀ (F18 : Nat → Int32) (L18 : Nat → Int64) (A18 : Nat → Nat → Int32) (B18 : Nat → Nat → Int64) (H : Heap) (locs : List Loc) (ls : Array Slot), qX [2, 3, 4, 5, 6, 7, 8, 9, 10, 11, 12, 13, 14] [5, 6, 7, 8, 9, 10] F A F18 A18 → va_P D classes (wX cA ad F18 L18 A18 B18) H → va_D Af (wX cA ad F18 L18 A18 B18) → va_S Af s.heap H locs → lv_has ls 4 [(0, .ref (ad 2)), (3, .int a4)] → W p l e rm_X6_copy_2_1 s m args below meth c H locs 0 0 Q (F0 m 147 ls []) := by
              intro F18 L18 A18 B18 H locs ls hq hP hD hS hl
              refine lv_aload_n hx hb dX6_copy_147 rfl (lv_at hl 0 rfl) ?_
              refine va_get (ci := 6) (v := .ref (ad 3)) (C := RX6) (T := TX6) (N := 4) hx hb hg inX6 hown hK hP 2 atX_2 rfl 0 (by decide) (hg _ mw_212) (fun _ h9 => h9) rfl dX6_copy_148 ?_
              refine callv_v (As := []) (rest := []) hC (c_X5_next_3 l D cA H.size ad F18 L18 A18 B18  hq.1 htx) (cwV 0 hg (g_V mw_600 mw_597 mw_598 mw_599 mw_3) rfl rfl rfl (by decide +kernel) ⟨(Nat.le_of_ble_eq_true rfl), (Nat.le_of_ble_eq_true rfl)⟩) hP hD hS hA atX_3 rfl rfl hl.1 rfl (Nat.le_of_ble_eq_true rfl) dX6_copy_151 ⟨Nat.zero_le _, Nat.zero_le _⟩ (fun  u H locs hw hP hD hS => ?_)
              obtain ⟨F19, L19, A19, B19⟩ := u
              try dsimp only at hw
              have hq19 := hw
              have hq := hq.call hq19 (by decide)
              have hP : va_P D classes (wX cA ad F19 L19 A19 B19) H := hP
              have hD : va_D Af (wX cA ad F19 L19 A19 B19) := hD
              obtain ⟨x20, e21⟩ : ∃ y : Int32, y = a4 + 1 := ⟨_, rfl⟩
              have r22 : rg x20 1 1700 := rg_add e21 r9 (rg_k (by decide) : rg 1 1 1) (by decide)
              refine lv_iinc (v := x20) (lv' := [(3, .int x20), (0, .ref (ad 2))]) hx hb dX6_copy_154 hl (k := 1) rfl (by rw [e21]; rfl) (by decide) rfl (fun ls hl => ?_)
              refine lv_goto (tgt := 35) hx hb dX6_copy_157 (by decide) ?_
              exact ih35 (x20) (F19) (L19) (A19) (B19) H locs ls (by have h0 : (1 : Int32).toInt = 1 := rfl; have h1 := ti_addk e21 r9 (by decide); have h2 : rg x20 0 1700 := (rg_w r22 (by decide)); unfold rg at h2; omega) (rg_w r22 (by decide)) hq hP hD hS (lv_sub hl [1, 0] rfl)
            by_cases hlo : x14.toInt < 5
            · refine lv_tableOut (tgt := 143) hx hb dX6_copy_66 (Or.inl hlo) (by decide) ?_
              refine lv_aload_n hx hb dX6_copy_143 rfl (lv_at hl 0 rfl) ?_
              refine callv_v (As := []) (rest := []) hC (c_X6_refuseToken_2 l D cA H.size ad F6 L6 A6 B6  hq.1) (cwV 0 hg (g_V mw_638 mw_635 mw_637 ms_8 mw_2) rfl rfl rfl (by decide +kernel) ⟨(Nat.le_of_ble_eq_true rfl), (Nat.le_of_ble_eq_true rfl)⟩) hP hD hS hA atX_2 rfl rfl hl.1 rfl (Nat.le_of_ble_eq_true rfl) dX6_copy_144 ⟨Nat.zero_le _, Nat.zero_le _⟩ (fun  u H locs hw hP hD hS => ?_)
              obtain ⟨F23, L23, A23, B23⟩ := u
              try dsimp only at hw
              have hq23 := hw
              have hq := hq.call hq23 (by decide)
              have hP : va_P D classes (wX cA ad F23 L23 A23 B23) H := hP
              have hD : va_D Af (wX cA ad F23 L23 A23 B23) := hD
              exact J147 (F23) (L23) (A23) (B23) H locs ls hq hP hD hS (lv_sub hl [0, 1] rfl)
            by_cases hhi : 11 < x14.toInt
            · refine lv_tableOut (tgt := 143) hx hb dX6_copy_66 (Or.inr hhi) (by decide) ?_
              refine lv_aload_n hx hb dX6_copy_143 rfl (lv_at hl 0 rfl) ?_
              refine callv_v (As := []) (rest := []) hC (c_X6_refuseToken_2 l D cA H.size ad F6 L6 A6 B6  hq.1) (cwV 0 hg (g_V mw_638 mw_635 mw_637 ms_8 mw_2) rfl rfl rfl (by decide +kernel) ⟨(Nat.le_of_ble_eq_true rfl), (Nat.le_of_ble_eq_true rfl)⟩) hP hD hS hA atX_2 rfl rfl hl.1 rfl (Nat.le_of_ble_eq_true rfl) dX6_copy_144 ⟨Nat.zero_le _, Nat.zero_le _⟩ (fun  u H locs hw hP hD hS => ?_)
              obtain ⟨F24, L24, A24, B24⟩ := u
              try dsimp only at hw
              have hq24 := hw
              have hq := hq.call hq24 (by decide)
              have hP : va_P D classes (wX cA ad F24 L24 A24 B24) H := hP
              have hD : va_D Af (wX cA ad F24 L24 A24 B24) := hD
              exact J147 (F24) (L24) (A24) (B24) H locs ls hq hP hD hS (lv_sub hl [0, 1] rfl)
            have hcs : x14.toInt = 5 ∨ x14.toInt = 6 ∨ x14.toInt = 7 ∨ x14.toInt = 8 ∨ x14.toInt = 9 ∨ x14.toInt = 10 ∨ x14.toInt = 11 := by omega
            rcases hcs with hcs | hcs | hcs | hcs | hcs | hcs | hcs
            · refine lv_tableIn (off := 42) (tgt := 108) hx hb dX6_copy_66 hlo hhi (by rw [hcs]; rfl) (by decide) ?_
              refine lv_aload_n hx hb dX6_copy_108 rfl (lv_at hl 0 rfl) ?_
              refine callv_v (As := []) (rest := []) hC (c_X6_copySmith_2 l D cA H.size ad F6 L6 A6 B6  hq.1 htx) (cwV 0 hg (g_V mw_622 mw_619 mw_621 ms_4 mw_2) rfl rfl rfl (by decide +kernel) ⟨(Nat.le_of_ble_eq_true rfl), (Nat.le_of_ble_eq_true rfl)⟩) hP hD hS hA atX_2 rfl rfl hl.1 rfl (Nat.le_of_ble_eq_true rfl) dX6_copy_109 ⟨Nat.zero_le _, Nat.zero_le _⟩ (fun  u H locs hw hP hD hS => ?_)
              obtain ⟨F25, L25, A25, B25⟩ := u
              try dsimp only at hw
              have hq25 := hw
              have hq := hq.call hq25 (by decide)
              have hP : va_P D classes (wX cA ad F25 L25 A25 B25) H := hP
              have hD : va_D Af (wX cA ad F25 L25 A25 B25) := hD
              refine lv_goto (tgt := 147) hx hb dX6_copy_112 (by decide) ?_
              exact J147 (F25) (L25) (A25) (B25) H locs ls hq hP hD hS (lv_sub hl [0, 1] rfl)
            · refine lv_tableIn (off := 77) (tgt := 143) hx hb dX6_copy_66 hlo hhi (by rw [hcs]; rfl) (by decide) ?_
              refine lv_aload_n hx hb dX6_copy_143 rfl (lv_at hl 0 rfl) ?_
              refine callv_v (As := []) (rest := []) hC (c_X6_refuseToken_2 l D cA H.size ad F6 L6 A6 B6  hq.1) (cwV 0 hg (g_V mw_638 mw_635 mw_637 ms_8 mw_2) rfl rfl rfl (by decide +kernel) ⟨(Nat.le_of_ble_eq_true rfl), (Nat.le_of_ble_eq_true rfl)⟩) hP hD hS hA atX_2 rfl rfl hl.1 rfl (Nat.le_of_ble_eq_true rfl) dX6_copy_144 ⟨Nat.zero_le _, Nat.zero_le _⟩ (fun  u H locs hw hP hD hS => ?_)
              obtain ⟨F26, L26, A26, B26⟩ := u
              try dsimp only at hw
              have hq26 := hw
              have hq := hq.call hq26 (by decide)
              have hP : va_P D classes (wX cA ad F26 L26 A26 B26) H := hP
              have hD : va_D Af (wX cA ad F26 L26 A26 B26) := hD
              exact J147 (F26) (L26) (A26) (B26) H locs ls hq hP hD hS (lv_sub hl [0, 1] rfl)
            · refine lv_tableIn (off := 77) (tgt := 143) hx hb dX6_copy_66 hlo hhi (by rw [hcs]; rfl) (by decide) ?_
              refine lv_aload_n hx hb dX6_copy_143 rfl (lv_at hl 0 rfl) ?_
              refine callv_v (As := []) (rest := []) hC (c_X6_refuseToken_2 l D cA H.size ad F6 L6 A6 B6  hq.1) (cwV 0 hg (g_V mw_638 mw_635 mw_637 ms_8 mw_2) rfl rfl rfl (by decide +kernel) ⟨(Nat.le_of_ble_eq_true rfl), (Nat.le_of_ble_eq_true rfl)⟩) hP hD hS hA atX_2 rfl rfl hl.1 rfl (Nat.le_of_ble_eq_true rfl) dX6_copy_144 ⟨Nat.zero_le _, Nat.zero_le _⟩ (fun  u H locs hw hP hD hS => ?_)
              obtain ⟨F27, L27, A27, B27⟩ := u
              try dsimp only at hw
              have hq27 := hw
              have hq := hq.call hq27 (by decide)
              have hP : va_P D classes (wX cA ad F27 L27 A27 B27) H := hP
              have hD : va_D Af (wX cA ad F27 L27 A27 B27) := hD
              exact J147 (F27) (L27) (A27) (B27) H locs ls hq hP hD hS (lv_sub hl [0, 1] rfl)
            · refine lv_tableIn (off := 49) (tgt := 115) hx hb dX6_copy_66 hlo hhi (by rw [hcs]; rfl) (by decide) ?_
              refine lv_aload_n hx hb dX6_copy_115 rfl (lv_at hl 0 rfl) ?_
              refine callv_v (As := []) (rest := []) hC (c_X6_copyHorse_2 l D cA H.size ad F6 L6 A6 B6  hq.1 htx) (cwV 0 hg (g_V mw_654 mw_651 mw_653 ms_10 mw_2) rfl rfl rfl (by decide +kernel) ⟨(Nat.le_of_ble_eq_true rfl), (Nat.le_of_ble_eq_true rfl)⟩) hP hD hS hA atX_2 rfl rfl hl.1 rfl (Nat.le_of_ble_eq_true rfl) dX6_copy_116 ⟨Nat.zero_le _, Nat.zero_le _⟩ (fun  u H locs hw hP hD hS => ?_)
              obtain ⟨F28, L28, A28, B28⟩ := u
              try dsimp only at hw
              have hq28 := hw
              have hq := hq.call hq28 (by decide)
              have hP : va_P D classes (wX cA ad F28 L28 A28 B28) H := hP
              have hD : va_D Af (wX cA ad F28 L28 A28 B28) := hD
              refine lv_goto (tgt := 147) hx hb dX6_copy_119 (by decide) ?_
              exact J147 (F28) (L28) (A28) (B28) H locs ls hq hP hD hS (lv_sub hl [0, 1] rfl)
            · refine lv_tableIn (off := 56) (tgt := 122) hx hb dX6_copy_66 hlo hhi (by rw [hcs]; rfl) (by decide) ?_
              refine lv_aload_n hx hb dX6_copy_122 rfl (lv_at hl 0 rfl) ?_
              refine callv_v (As := []) (rest := []) hC (c_X6_copyHours_2 l D cA H.size ad F6 L6 A6 B6  hq.1 htx) (cwV 0 hg (g_V mw_666 mw_663 mw_665 ms_11 mw_2) rfl rfl rfl (by decide +kernel) ⟨(Nat.le_of_ble_eq_true rfl), (Nat.le_of_ble_eq_true rfl)⟩) hP hD hS hA atX_2 rfl rfl hl.1 rfl (Nat.le_of_ble_eq_true rfl) dX6_copy_123 ⟨Nat.zero_le _, Nat.zero_le _⟩ (fun  u H locs hw hP hD hS => ?_)
              obtain ⟨F29, L29, A29, B29⟩ := u
              try dsimp only at hw
              have hq29 := hw
              have hq := hq.call hq29 (by decide)
              have hP : va_P D classes (wX cA ad F29 L29 A29 B29) H := hP
              have hD : va_D Af (wX cA ad F29 L29 A29 B29) := hD
              refine lv_goto (tgt := 147) hx hb dX6_copy_126 (by decide) ?_
              exact J147 (F29) (L29) (A29) (B29) H locs ls hq hP hD hS (lv_sub hl [0, 1] rfl)
            · refine lv_tableIn (off := 63) (tgt := 129) hx hb dX6_copy_66 hlo hhi (by rw [hcs]; rfl) (by decide) ?_
              refine lv_aload_n hx hb dX6_copy_129 rfl (lv_at hl 0 rfl) ?_
              refine callv_v (As := []) (rest := []) hC (c_X6_copyLends_2 l D cA H.size ad F6 L6 A6 B6  hq.1 htx) (cwV 0 hg (g_V mw_685 mw_682 mw_684 ms_14 mw_2) rfl rfl rfl (by decide +kernel) ⟨(Nat.le_of_ble_eq_true rfl), (Nat.le_of_ble_eq_true rfl)⟩) hP hD hS hA atX_2 rfl rfl hl.1 rfl (Nat.le_of_ble_eq_true rfl) dX6_copy_130 ⟨Nat.zero_le _, Nat.zero_le _⟩ (fun  u H locs hw hP hD hS => ?_)
              obtain ⟨F30, L30, A30, B30⟩ := u
              try dsimp only at hw
              have hq30 := hw
              have hq := hq.call hq30 (by decide)
              have hP : va_P D classes (wX cA ad F30 L30 A30 B30) H := hP
              have hD : va_D Af (wX cA ad F30 L30 A30 B30) := hD
              refine lv_goto (tgt := 147) hx hb dX6_copy_133 (by decide) ?_
              exact J147 (F30) (L30) (A30) (B30) H locs ls hq hP hD hS (lv_sub hl [0, 1] rfl)
            · refine lv_tableIn (off := 70) (tgt := 136) hx hb dX6_copy_66 hlo hhi (by rw [hcs]; rfl) (by decide) ?_
              refine lv_aload_n hx hb dX6_copy_136 rfl (lv_at hl 0 rfl) ?_
              refine callv_v (As := []) (rest := []) hC (c_X6_copyLate_2 l D cA H.size ad F6 L6 A6 B6  hq.1 htx) (cwV 0 hg (g_V mw_697 mw_694 mw_696 ms_16 mw_2) rfl rfl rfl (by decide +kernel) ⟨(Nat.le_of_ble_eq_true rfl), (Nat.le_of_ble_eq_true rfl)⟩) hP hD hS hA atX_2 rfl rfl hl.1 rfl (Nat.le_of_ble_eq_true rfl) dX6_copy_137 ⟨Nat.zero_le _, Nat.zero_le _⟩ (fun  u H locs hw hP hD hS => ?_)
              obtain ⟨F31, L31, A31, B31⟩ := u
              try dsimp only at hw
              have hq31 := hw
              have hq := hq.call hq31 (by decide)
              have hP : va_P D classes (wX cA ad F31 L31 A31 B31) H := hP
              have hD : va_D Af (wX cA ad F31 L31 A31 B31) := hD
              refine lv_goto (tgt := 147) hx hb dX6_copy_140 (by decide) ?_
              exact J147 (F31) (L31) (A31) (B31) H locs ls hq hP hD hS (lv_sub hl [0, 1] rfl)
  exact J35 _ (0) (F3) (L3) (A3) (B3) H locs ls (Nat.lt_succ_self _) (rg_k (by decide)) hq hP hD hS (lv_sub hl [1, 0] rfl)
