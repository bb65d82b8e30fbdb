abbrev rm_X12_layDayNow_0 : Room := { frames := 5, cells := 0, slots := 0, locals := 119 }
set_option maxHeartbeats 4000000 in
set_option maxRecDepth 100000 in
theorem c_X12_layDayNow_0 (l : Launch) (D : va_G) (cA : Nat → ClassId) (sz : Nat) (ad : Nat → Nat) (F : Nat → Int32) (L : Nat → Int64) (A : Nat → Nat → Int32) (B : Nat → Nat → Int64)  (hT : typM F A) (hLM : LM F A) : Met l yX12_layDayNow (Cond.code yX12_layDayNow cX12_layDayNow 1 none :: GW) rm_X12_layDayNow_0 (mPc D classes (tysM cA) (wM cA ad F L A B) sz [.ref (ad 0)]) (mQv (S := SW) D classes (tysM cA) (wM cA ad F L A B) sz (wfM cA ad) (fun u => qM [11] [16, 18, 19, 20, 21, 22] F A u.1 u.2.2.1)) 0 0 (va_A (wM cA ad F L A B) sz) := by
  refine met_v (own := "ShoeingDayModel") (by decide +kernel) rfl (Nat.le_of_ble_eq_true rfl) ?_
  intro p e s m args below meth c Q Af ls hC hP hD hS hA hl hret
  have hx := hC.1
  have hb := hC.2.1
  have hown := hC.2.2.2.1
  have hg := hC.g
  have hK := hC.K
  have hl : lv_has ls 1 [(0, .ref (ad 0))] := hl
  have hq : qM [11] [16, 18, 19, 20, 21, 22] F A F A := qM.rf hT
  obtain ⟨H, hH⟩ : ∃ H, H = s.heap := ⟨_, rfl⟩
  have hP : va_P D classes (wM cA ad F L A B) H := by rw [hH]; exact hP
  have hS : va_S Af s.heap H [] := by rw [hH]; exact hS
  obtain ⟨locs, hlo⟩ : ∃ q : List Loc, q = [] := ⟨_, rfl⟩
  rw [← hH, ← hlo]
  rw [← hlo] at hS
  refine lv_aload_n hx hb dX12_layDayNow_0 rfl (lv_at hl 0 rfl) ?_
  refine callv_v (As := []) (rest := []) hC (c_X12_layNow_0 l D cA H.size ad F L A B  hq.1) (cwV 0 hg (g_V mw_1407 mw_1404 mw_1406 ms_70 mw_20) rfl rfl rfl (by decide +kernel) ⟨(Nat.le_of_ble_eq_true rfl), (Nat.le_of_ble_eq_true rfl)⟩) hP hD hS hA atM_0 rfl rfl hl.1 rfl (Nat.le_of_ble_eq_true rfl) dX12_layDayNow_1 ⟨Nat.zero_le _, Nat.zero_le _⟩ (fun  u H locs hw hP hD hS => ?_)
  obtain ⟨F1, L1, A1, B1⟩ := u
  try dsimp only at hw
  obtain ⟨hq1, g2⟩ := hw
  have hq := hq.call hq1 (by decide)
  have hP : va_P D classes (wM cA ad F1 L1 A1 B1) H := hP
  have hD : va_D Af (wM cA ad F1 L1 A1 B1) := hD
  refine lv_aload_n hx hb dX12_layDayNow_4 rfl (lv_at hl 0 rfl) ?_
  refine callv_v (As := []) (rest := []) hC (c_X12_layDay_0 l D cA H.size ad F1 L1 A1 B1  hq.1 (LM.lay hLM (hq.2.1 8 (by decide)) (hq.2.2 3 (by decide)) (hq.2.2 4 (by decide)) g2).1 (LM.lay hLM (hq.2.1 8 (by decide)) (hq.2.2 3 (by decide)) (hq.2.2 4 (by decide)) g2).2) (cwV 0 hg (g_V mw_1447 mw_1444 mw_1446 ms_77 mw_20) rfl rfl rfl (by decide +kernel) ⟨(Nat.le_of_ble_eq_true rfl), (Nat.le_of_ble_eq_true rfl)⟩) hP hD hS hA atM_0 rfl rfl hl.1 rfl (Nat.le_of_ble_eq_true rfl) dX12_layDayNow_5 ⟨Nat.zero_le _, Nat.zero_le _⟩ (fun  u H locs hw hP hD hS => ?_)
  obtain ⟨F3, L3, A3, B3⟩ := u
  try dsimp only at hw
  have hq3 := hw
  have hq := hq.call hq3 (by decide)
  have hP : va_P D classes (wM cA ad F3 L3 A3 B3) H := hP
  have hD : va_D Af (wM cA ad F3 L3 A3 B3) := hD
  exact hret (F3, L3, A3, B3) H locs 8 ls dX12_layDayNow_8 hP hD hS hq
abbrev rm_X12_rounds_0 : Room := { frames := 6, cells := 0, slots := 0, locals := 139 }
set_option maxHeartbeats 4000000 in
set_option maxRecDepth 100000 in
theorem c_X12_rounds_0 (l : Launch) (D : va_G) (cA : Nat → ClassId) (sz : Nat) (ad : Nat → Nat) (F : Nat → Int32) (L : Nat → Int64) (A : Nat → Nat → Int32) (B : Nat → Nat → Int64)  (hT : typM F A) (hLM : LM F A) : Met l yX12_rounds (Cond.code yX12_rounds cX12_rounds 1 (some .int) :: GW) rm_X12_rounds_0 (mPc D classes (tysM cA) (wM cA ad F L A B) sz [.ref (ad 0)]) (mQi (S := SW) D classes (tysM cA) (wM cA ad F L A B) sz (wfM cA ad) (fun r u => qM [11] [16, 18, 19, 20, 21, 22] F A u.1 u.2.2.1 ∧ rg r 0 240)) 0 0 (va_A (wM cA ad F L A B) sz) := by
  refine met_i (own := "ShoeingDayModel") (by decide +kernel) rfl (Nat.le_of_ble_eq_true rfl) ?_
  intro p e s m args below meth c Q Af ls hC hP hD hS hA hl hret
  have hx := hC.1
  have hb := hC.2.1
  have hown := hC.2.2.2.1
  have hg := hC.g
  have hK := hC.K
  have hl : lv_has ls 1 [(0, .ref (ad 0))] := hl
  have hq : qM [11] [16, 18, 19, 20, 21, 22] F A F A := qM.rf hT
  obtain ⟨H, hH⟩ : ∃ H, H = s.heap := ⟨_, rfl⟩
  have hP : va_P D classes (wM cA ad F L A B) H := by rw [hH]; exact hP
  have hS : va_S Af s.heap H [] := by rw [hH]; exact hS
  obtain ⟨locs, hlo⟩ : ∃ q : List Loc, q = [] := ⟨_, rfl⟩
  rw [← hH, ← hlo]
  rw [← hlo] at hS
  refine lv_aload_n hx hb dX12_rounds_0 rfl (lv_at hl 0 rfl) ?_
  refine callv_v (As := []) (rest := []) hC (c_X12_layDayNow_0 l D cA H.size ad F L A B  hq.1 hLM) (cwV 0 hg (g_V mw_1443 mw_1440 mw_1442 ms_76 mw_20) rfl rfl rfl (by decide +kernel) ⟨(Nat.le_of_ble_eq_true rfl), (Nat.le_of_ble_eq_true rfl)⟩) hP hD hS hA atM_0 rfl rfl hl.1 rfl (Nat.le_of_ble_eq_true rfl) dX12_rounds_1 ⟨Nat.zero_le _, Nat.zero_le _⟩ (fun  u H locs hw hP hD hS => ?_)
  obtain ⟨F1, L1, A1, B1⟩ := u
  try dsimp only at hw
  have hq1 := hw
  have hq := hq.call hq1 (by decide)
  have hP : va_P D classes (wM cA ad F1 L1 A1 B1) H := hP
  have hD : va_D Af (wM cA ad F1 L1 A1 B1) := hD
  refine lv_aload_n hx hb dX12_rounds_4 rfl (lv_at hl 0 rfl) ?_
  refine va_get (ci := 12) (v := .int (F1 11)) (C := RX12) (T := TX12) (N := 57) hx hb hg inX12 hown hK hP 0 atM_0 rfl 34 (by decide) (hg _ mw_1142) (fun _ h9 => h9) rfl dX12_rounds_5 ?_
  refine lv_topi (fun x2 e3 => ?_)
  have r4 : rg x2 0 240 := rg_e e3 (hq.1.1 11)
  exact hret (x2) (F1, L1, A1, B1) H locs 8 ls rfl dX12_rounds_8 hP hD hS ⟨hq, r4⟩
abbrev rm_X12_lasts_0 : Room := { frames := 6, cells := 0, slots := 0, locals := 139 }
set_option maxHeartbeats 4000000 in
set_option maxRecDepth 100000 in
theorem c_X12_lasts_0 (l : Launch) (D : va_G) (cA : Nat → ClassId) (sz : Nat) (ad : Nat → Nat) (F : Nat → Int32) (L : Nat → Int64) (A : Nat → Nat → Int32) (B : Nat → Nat → Int64) (p1 : Int32) (hT : typM F A) (hLM : LM F A) : Met l yX12_lasts (Cond.code yX12_lasts cX12_lasts 2 (some .int) :: GW) rm_X12_lasts_0 (mPc D classes (tysM cA) (wM cA ad F L A B) sz [.ref (ad 0), .int p1]) (mQi (S := SW) D classes (tysM cA) (wM cA ad F L A B) sz (wfM cA ad) (fun r u => qM [11] [16, 18, 19, 20, 21, 22] F A u.1 u.2.2.1)) 0 0 (va_A (wM cA ad F L A B) sz) := by
  refine met_i (own := "ShoeingDayModel") (by decide +kernel) rfl (Nat.le_of_ble_eq_true rfl) ?_
  intro p e s m args below meth c Q Af ls hC hP hD hS hA hl hret
  have hx := hC.1
  have hb := hC.2.1
  have hown := hC.2.2.2.1
  have hg := hC.g
  have hK := hC.K
  have hl : lv_has ls 2 [(0, .ref (ad 0)), (1, .int p1)] := hl
  have hq : qM [11] [16, 18, 19, 20, 21, 22] F A F A := qM.rf hT
  obtain ⟨H, hH⟩ : ∃ H, H = s.heap := ⟨_, rfl⟩
  have hP : va_P D classes (wM cA ad F L A B) H := by rw [hH]; exact hP
  have hS : va_S Af s.heap H [] := by rw [hH]; exact hS
  obtain ⟨locs, hlo⟩ : ∃ q : List Loc, q = [] := ⟨_, rfl⟩
  rw [← hH, ← hlo]
  rw [← hlo] at hS
  refine lv_aload_n hx hb dX12_lasts_0 rfl (lv_at hl 0 rfl) ?_
  refine callv_v (As := []) (rest := []) hC (c_X12_layDayNow_0 l D cA H.size ad F L A B  hq.1 hLM) (cwV 0 hg (g_V mw_1443 mw_1440 mw_1442 ms_76 mw_20) rfl rfl rfl (by decide +kernel) ⟨(Nat.le_of_ble_eq_true rfl), (Nat.le_of_ble_eq_true rfl)⟩) hP hD hS hA atM_0 rfl rfl hl.1 rfl (Nat.le_of_ble_eq_true rfl) dX12_lasts_1 ⟨Nat.zero_le _, Nat.zero_le _⟩ (fun  u H locs hw hP hD hS => ?_)
  obtain ⟨F1, L1, A1, B1⟩ := u
  try dsimp only at hw
  have hq1 := hw
  have hq := hq.call hq1 (by decide)
  have hP : va_P D classes (wM cA ad F1 L1 A1 B1) H := hP
  have hD : va_D Af (wM cA ad F1 L1 A1 B1) := hD
  refine lv_iload_n hx hb dX12_lasts_4 rfl (lv_at hl 1 rfl) ?_
  refine lv_iconst (v := 0) hx hb dX12_lasts_5 (by decide) ?_
  refine lv_aload_n hx hb dX12_lasts_6 rfl (lv_at hl 0 rfl) ?_
  refine va_get (ci := 12) (v := .int (F1 11)) (C := RX12) (T := TX12) (N := 57) hx hb hg inX12 hown hK hP 0 atM_0 rfl 34 (by decide) (hg _ mw_1142) (fun _ h9 => h9) rfl dX12_lasts_7 ?_
  refine lv_topi (fun x2 e3 => ?_)
  have r4 : rg x2 0 240 := rg_e e3 (hq.1.1 11)
  refine lv_iconst (v := 1) hx hb dX12_lasts_10 (by decide) ?_
  refine lv_isub hx hb dX12_lasts_11 ?_
  refine lv_topi (fun x5 e6 => ?_)
  have r7 : rg x5 (-1) 239 := rg_sub e6 r4 ((rg_k (by decide)) : rg 1 1 1) (by decide)
  refine calls_i (As := [.int p1, .int 0, .int x5]) (rest := []) hC (c_X12_isIn l D (tysM cA) (wM cA ad F1 L1 A1 B1) H.size (p1) (0) (x5) (rg_k (by decide)) (rg_w r7 (by decide))) (cwS 3 hg (g_S mw_1391 mw_1389 mw_1390 mw_20) rfl rfl rfl (by decide +kernel) ⟨(Nat.le_of_ble_eq_true rfl), (Nat.le_of_ble_eq_true rfl)⟩) hP hD hS hA rfl hl.1 rfl (Nat.le_of_ble_eq_true rfl) dX12_lasts_12 ⟨Nat.zero_le _, Nat.zero_le _⟩ (fun x8 u H locs hw hP hD hS => ?_)
  obtain ⟨r9, g10, g11⟩ := hw
  have hP : va_P D classes (wM cA ad F1 L1 A1 B1) H := hP
  have hD : va_D Af (wM cA ad F1 L1 A1 B1) := hD
  refine lv_if_eq (tgt := 27) hx hb dX12_lasts_15 (by decide) (fun c12 => ?_) (fun c12 => ?_)
  · skip
    have r13 : rg x8 0 0 := rg_eq1 c12 (r9 : rg x8 0 1) ((rg_k (by decide)) : rg 0 0 0) (by decide)
    refine lv_iconst (v := (-1)) hx hb dX12_lasts_27 (by decide) ?_
    exact hret ((-1)) (F1, L1, A1, B1) H locs 28 ls rfl dX12_lasts_28 hP hD hS hq
  · skip
    have g14 := g10.resolve_left c12
    have r15 : rg p1 0 2147483647 := rg_le2 g14.1 ((rg_k (by decide)) : rg 0 0 0) ((rg_top _) : rg p1 (-2147483648) 2147483647)
    have r16 : rg p1 0 239 := rg_le1 g14.2 (r15 : rg p1 0 2147483647) (r7 : rg x5 (-1) 239)
    have r17 : rg x5 0 239 := rg_le2 g14.2 (r15 : rg p1 0 2147483647) (r7 : rg x5 (-1) 239)
    refine lv_aload_n hx hb dX12_lasts_18 rfl (lv_at hl 0 rfl) ?_
    refine va_get (ci := 12) (v := .ref (ad 21)) (C := RX12) (T := TX12) (N := 57) hx hb hg inX12 hown hK hP 0 atM_0 rfl 32 (by decide) (hg _ mw_1140) (fun _ h9 => h9) rfl dX12_lasts_19 ?_
    refine lv_iload_n hx hb dX12_lasts_22 rfl (lv_at hl 1 rfl) ?_
    refine va_iald hx hb hK hP 21 20 atM_21 tyM_21 (in_rg r16 (by decide)) dX12_lasts_23 ?_
    refine lv_topi (fun x18 e19 => ?_)
    refine lv_goto (tgt := 28) hx hb dX12_lasts_24 (by decide) ?_
    exact hret (x18) (F1, L1, A1, B1) H locs 28 ls rfl dX12_lasts_28 hP hD hS hq
abbrev rm_X12_with_0 : Room := { frames := 6, cells := 0, slots := 0, locals := 139 }
set_option maxHeartbeats 4000000 in
set_option maxRecDepth 100000 in
theorem c_X12_with_0 (l : Launch) (D : va_G) (cA : Nat → ClassId) (sz : Nat) (ad : Nat → Nat) (F : Nat → Int32) (L : Nat → Int64) (A : Nat → Nat → Int32) (B : Nat → Nat → Int64) (p1 : Int32) (p2 : Int32) (hT : typM F A) (hLM : LM F A) : Met l yX12_with (Cond.code yX12_with cX12_with 3 (some .int) :: GW) rm_X12_with_0 (mPc D classes (tysM cA) (wM cA ad F L A B) sz [.ref (ad 0), .int p1, .int p2]) (mQi (S := SW) D classes (tysM cA) (wM cA ad F L A B) sz (wfM cA ad) (fun r u => qM [11] [16, 18, 19, 20, 21, 22] F A u.1 u.2.2.1 ∧ rg r (-1) 9)) 0 0 (va_A (wM cA ad F L A B) sz) := by
  refine met_i (own := "ShoeingDayModel") (by decide +kernel) rfl (Nat.le_of_ble_eq_true rfl) ?_
  intro p e s m args below meth c Q Af ls hC hP hD hS hA hl hret
  have hx := hC.1
  have hb := hC.2.1
  have hown := hC.2.2.2.1
  have hg := hC.g
  have hK := hC.K
  have hl : lv_has ls 3 [(0, .ref (ad 0)), (1, .int p1), (2, .int p2)] := hl
  have hq : qM [11] [16, 18, 19, 20, 21, 22] F A F A := qM.rf hT
  obtain ⟨H, hH⟩ : ∃ H, H = s.heap := ⟨_, rfl⟩
  have hP : va_P D classes (wM cA ad F L A B) H := by rw [hH]; exact hP
  have hS : va_S Af s.heap H [] := by rw [hH]; exact hS
  obtain ⟨locs, hlo⟩ : ∃ q : List Loc, q = [] := ⟨_, rfl⟩
  rw [← hH, ← hlo]
  rw [← hlo] at hS
  refine lv_aload_n hx hb dX12_with_0 rfl (lv_at hl 0 rfl) ?_
  refine callv_v (As := []) (rest := []) hC (c_X12_layDayNow_0 l D cA H.size ad F L A B  hq.1 hLM) (cwV 0 hg (g_V mw_1443 mw_1440 mw_1442 ms_76 mw_20) rfl rfl rfl (by decide +kernel) ⟨(Nat.le_of_ble_eq_true rfl), (Nat.le_of_ble_eq_true rfl)⟩) hP hD hS hA atM_0 rfl rfl hl.1 rfl (Nat.le_of_ble_eq_true rfl) dX12_with_1 ⟨Nat.zero_le _, Nat.zero_le _⟩ (fun  u H locs hw hP hD hS => ?_)
  obtain ⟨F1, L1, A1, B1⟩ := u
  try dsimp only at hw
  have hq1 := hw
  have hq := hq.call hq1 (by decide)
  have hP : va_P D classes (wM cA ad F1 L1 A1 B1) H := hP
  have hD : va_D Af (wM cA ad F1 L1 A1 B1) := hD
  refine lv_iload_n hx hb dX12_with_4 rfl (lv_at hl 1 rfl) ?_
  refine lv_iconst (v := 0) hx hb dX12_with_5 (by decide) ?_
  refine lv_aload_n hx hb dX12_with_6 rfl (lv_at hl 0 rfl) ?_
  refine va_get (ci := 12) (v := .int (F1 11)) (C := RX12) (T := TX12) (N := 57) hx hb hg inX12 hown hK hP 0 atM_0 rfl 34 (by decide) (hg _ mw_1142) (fun _ h9 => h9) rfl dX12_with_7 ?_
  refine lv_topi (fun x2 e3 => ?_)
  have r4 : rg x2 0 240 := rg_e e3 (hq.1.1 11)
  refine lv_iconst (v := 1) hx hb dX12_with_10 (by decide) ?_
  refine lv_isub hx hb dX12_with_11 ?_
  refine lv_topi (fun x5 e6 => ?_)
  have r7 : rg x5 (-1) 239 := rg_sub e6 r4 ((rg_k (by decide)) : rg 1 1 1) (by decide)
  refine calls_i (As := [.int p1, .int 0, .int x5]) (rest := []) hC (c_X12_isIn l D (tysM cA) (wM cA ad F1 L1 A1 B1) H.size (p1) (0) (x5) (rg_k (by decide)) (rg_w r7 (by decide))) (cwS 3 hg (g_S mw_1391 mw_1389 mw_1390 mw_20) rfl rfl rfl (by decide +kernel) ⟨(Nat.le_of_ble_eq_true rfl), (Nat.le_of_ble_eq_true rfl)⟩) hP hD hS hA rfl hl.1 rfl (Nat.le_of_ble_eq_true rfl) dX12_with_12 ⟨Nat.zero_le _, Nat.zero_le _⟩ (fun x8 u H locs hw hP hD hS => ?_)
  obtain ⟨r9, g10, g11⟩ := hw
  have hP : va_P D classes (wM cA ad F1 L1 A1 B1) H := hP
  have hD : va_D Af (wM cA ad F1 L1 A1 B1) := hD
  have J40 : ∀ (F12 : Nat → Int32) (L12 : Nat → Int64) (A12 : Nat → Nat → Int32) (B12 : Nat → Nat → Int64) (H : Heap) (locs : List Loc) (ls : Array Slot), qM [11] [16, 18, 19, 20, 21, 22] F A F12 A12 → va_P D classes (wM cA ad F12 L12 A12 B12) H → va_D Af (wM cA ad F12 L12 A12 B12) → va_S Af s.heap H locs → lv_has ls 3 [] → W p l e rm_X12_with_0 s m args below meth c H locs 0 0 Q (F0 m 40 ls []) := by
    intro F12 L12 A12 B12 H locs ls hq hP hD hS hl
    refine lv_iconst (v := (-1)) hx hb dX12_with_40 (by decide) ?_
    exact hret ((-1)) (F12, L12, A12, B12) H locs 41 ls rfl dX12_with_41 hP hD hS ⟨hq, (rg_k (by decide))⟩
  refine lv_if_eq (tgt := 40) hx hb dX12_with_15 (by decide) (fun c13 => ?_) (fun c13 => ?_)
  · skip
    have r14 : rg x8 0 0 := rg_eq1 c13 (r9 : rg x8 0 1) ((rg_k (by decide)) : rg 0 0 0) (by decide)
    exact J40 (F1) (L1) (A1) (B1) H locs ls hq hP hD hS (lv_sub hl [] rfl)
  · skip
    have g15 := g10.resolve_left c13
    have r16 : rg p1 0 2147483647 := rg_le2 g15.1 ((rg_k (by decide)) : rg 0 0 0) ((rg_top _) : rg p1 (-2147483648) 2147483647)
    have r17 : rg p1 0 239 := rg_le1 g15.2 (r16 : rg p1 0 2147483647) (r7 : rg x5 (-1) 239)
    have r18 : rg x5 0 239 := rg_le2 g15.2 (r16 : rg p1 0 2147483647) (r7 : rg x5 (-1) 239)
    refine lv_aload_n hx hb dX12_with_18 rfl (lv_at hl 0 rfl) ?_
    refine lv_iload_n hx hb dX12_with_19 rfl (lv_at hl 2 rfl) ?_
    refine callv_i (As := [.int p2]) (rest := []) hC (c_X12_isSmith_0 l D cA H.size ad F1 L1 A1 B1 (p2) hq.1) (cwV 1 hg (g_V mw_1384 mw_1381 mw_1383 ms_66 mw_20) rfl rfl rfl (by decide +kernel) ⟨(Nat.le_of_ble_eq_true rfl), (Nat.le_of_ble_eq_true rfl)⟩) hP hD hS hA atM_0 rfl rfl hl.1 rfl (Nat.le_of_ble_eq_true rfl) dX12_with_20 ⟨Nat.zero_le _, Nat.zero_le _⟩ (fun x19 u H locs hw hP hD hS => ?_)
    obtain ⟨r20, g21, g22⟩ := hw
    have hP : va_P D classes (wM cA ad F1 L1 A1 B1) H := hP
    have hD : va_D Af (wM cA ad F1 L1 A1 B1) := hD
    refine lv_if_eq (tgt := 40) hx hb dX12_with_23 (by decide) (fun c23 => ?_) (fun c23 => ?_)
    · skip
      have r24 : rg x19 0 0 := rg_eq1 c23 (r20 : rg x19 0 1) ((rg_k (by decide)) : rg 0 0 0) (by decide)
      exact J40 (F1) (L1) (A1) (B1) H locs ls hq hP hD hS (lv_sub hl [] rfl)
    · skip
      have g25 := g21.resolve_left c23
      refine lv_aload_n hx hb dX12_with_26 rfl (lv_at hl 0 rfl) ?_
      refine va_get (ci := 12) (v := .ref (ad 22)) (C := RX12) (T := TX12) (N := 57) hx hb hg inX12 hown hK hP 0 atM_0 rfl 33 (by decide) (hg _ mw_1141) (fun _ h9 => h9) rfl dX12_with_27 ?_
      refine lv_bipush (v := 8) hx hb dX12_with_30 (by decide) ?_
      refine lv_iload_n hx hb dX12_with_32 rfl (lv_at hl 1 rfl) ?_
      refine lv_imul hx hb dX12_with_33 ?_
      refine lv_topi (fun x26 e27 => ?_)
      have r28 : rg x26 0 1912 := rg_mul e27 ((rg_k (by decide)) : rg 8 8 8) r17 (by decide)
      refine lv_iload_n hx hb dX12_with_34 rfl (lv_at hl 2 rfl) ?_
      refine lv_iadd hx hb dX12_with_35 ?_
      refine lv_topi (fun x29 e30 => ?_)
      have r31 : rg x29 0 1919 := rg_add e30 r28 g25 (by decide)
      refine va_iald hx hb hK hP 22 21 atM_22 tyM_22 (in_rg r31 (by decide)) dX12_with_36 ?_
      refine lv_topi (fun x32 e33 => ?_)
      have r34 : rg x32 (-1) 9 := rg_e e33 (hq.1.2 22 _)
      refine lv_goto (tgt := 41) hx hb dX12_with_37 (by decide) ?_
      exact hret (x32) (F1, L1, A1, B1) H locs 41 ls rfl dX12_with_41 hP hD hS ⟨hq, r34⟩
abbrev rm_X12_lateOf_0 : Room := { frames := 0, cells := 0, slots := 0, locals := 0 }
set_option maxHeartbeats 4000000 in
set_option maxRecDepth 100000 in
theorem c_X12_lateOf_0 (l : Launch) (D : va_G) (cA : Nat → ClassId) (sz : Nat) (ad : Nat → Nat) (F : Nat → Int32) (L : Nat → Int64) (A : Nat → Nat → Int32) (B : Nat → Nat → Int64) (p1 : Int32) (p2 : Int32) (hT : typM F A) : Met l yX12_lateOf (Cond.code yX12_lateOf cX12_lateOf 4 (some .int) :: GW) rm_X12_lateOf_0 (mPc D classes (tysM cA) (wM cA ad F L A B) sz [.ref (ad 0), .int p1, .int p2]) (mQi (S := Unit) D classes (tysM cA) (wM cA ad F L A B) sz (fun _ : Unit => wM cA ad F L A B) (fun r u => True)) 0 0 (va_A (wM cA ad F L A B) sz) := by
  refine met_i (own := "ShoeingDayModel") (by decide +kernel) rfl (Nat.le_of_ble_eq_true rfl) ?_
  intro p e s m args below meth c Q Af ls hC hP hD hS hA hl hret
  have hx := hC.1
  have hb := hC.2.1
  have hown := hC.2.2.2.1
  have hg := hC.g
  have hK := hC.K
  have hl : lv_has ls 4 [(0, .ref (ad 0)), (1, .int p1), (2, .int p2)] := hl
  have hq : qM [] [] F A F A := qM.rf hT
  obtain ⟨H, hH⟩ : ∃ H, H = s.heap := ⟨_, rfl⟩
  have hP : va_P D classes (wM cA ad F L A B) H := by rw [hH]; exact hP
  have hS : va_S Af s.heap H [] := by rw [hH]; exact hS
  obtain ⟨locs, hlo⟩ : ∃ q : List Loc, q = [] := ⟨_, rfl⟩
  rw [← hH, ← hlo]
  rw [← hlo] at hS
  refine lv_aload_n hx hb dX12_lateOf_0 rfl (lv_at hl 0 rfl) ?_
  refine va_get (ci := 12) (v := .ref (ad 7)) (C := RX12) (T := TX12) (N := 57) hx hb hg inX12 hown hK hP 0 atM_0 rfl 15 (by decide) (hg _ mw_1123) (fun _ h9 => h9) rfl dX12_lateOf_1 ?_
  refine lv_aload_n hx hb dX12_lateOf_4 rfl (lv_at hl 0 rfl) ?_
  refine va_get (ci := 12) (v := .int (F 8)) (C := RX12) (T := TX12) (N := 57) hx hb hg inX12 hown hK hP 0 atM_0 rfl 24 (by decide) (hg _ mw_1132) (fun _ h9 => h9) rfl dX12_lateOf_5 ?_
  refine lv_topi (fun x1 e2 => ?_)
  have r3 : rg x1 0 1 := rg_e e2 (hq.1.1 8)
  refine va_iald hx hb hK hP 7 6 atM_7 tyM_7 (in_rg r3 (by decide)) dX12_lateOf_8 ?_
  refine lv_topi (fun x4 e5 => ?_)
  refine lv_if_ge (tgt := 14) hx hb dX12_lateOf_9 (by decide) (fun c6 => ?_) (fun c6 => ?_)
  · skip
    have r7 : rg x4 0 2147483647 := rg_le2 (iE c6) ((rg_k (by decide)) : rg 0 0 0) ((rg_top _) : rg x4 (-2147483648) 2147483647)
    refine lv_aload_n hx hb dX12_lateOf_14 rfl (lv_at hl 0 rfl) ?_
    refine va_get (ci := 12) (v := .ref (ad 7)) (C := RX12) (T := TX12) (N := 57) hx hb hg inX12 hown hK hP 0 atM_0 rfl 15 (by decide) (hg _ mw_1123) (fun _ h9 => h9) rfl dX12_lateOf_15 ?_
    refine lv_aload_n hx hb dX12_lateOf_18 rfl (lv_at hl 0 rfl) ?_
    refine va_get (ci := 12) (v := .int x1) (C := RX12) (T := TX12) (N := 57) hx hb hg inX12 hown hK hP 0 atM_0 rfl 24 (by decide) (hg _ mw_1132) (fun _ h9 => h9) (congrArg (fun z => some (Value.int z)) (e2.symm)) dX12_lateOf_19 ?_
    refine va_iald hx hb hK hP 7 6 atM_7 tyM_7 (in_rg r3 (by decide)) dX12_lateOf_22 ?_
    refine tope (e5) ?_
    refine lv_iload_n hx hb dX12_lateOf_23 rfl (lv_at hl 1 rfl) ?_
    refine lv_isub hx hb dX12_lateOf_24 ?_
    refine lv_topi (fun x9 e10 => ?_)
    refine lv_istore_n (lv' := [(3, .int x9), (0, .ref (ad 0)), (1, .int p1), (2, .int p2)]) hx hb dX12_lateOf_25 rfl hl (by decide) rfl (fun ls hl => ?_)
    refine lv_iload_n hx hb dX12_lateOf_26 rfl (lv_at hl 0 rfl) ?_
    refine lv_if_gt (tgt := 34) hx hb dX12_lateOf_27 (by decide) (fun c11 => ?_) (fun c11 => ?_)
    · skip
      have r12 : rg x9 1 2147483647 := rg_lt2 (iL c11) ((rg_k (by decide)) : rg 0 0 0) ((rg_top _) : rg x9 (-2147483648) 2147483647)
      refine lv_iload_n hx hb dX12_lateOf_34 rfl (lv_at hl 0 rfl) ?_
      refine lv_iload_n hx hb dX12_lateOf_35 rfl (lv_at hl 3 rfl) ?_
      refine lv_icmp_lt (tgt := 43) hx hb dX12_lateOf_36 (by decide) (fun c14 => ?_) (fun c14 => ?_)
      · skip
        have r15 : rg x9 1 2147483646 := rg_lt1 (iL c14) (r12 : rg x9 1 2147483647) ((rg_top _) : rg p2 (-2147483648) 2147483647)
        have r16 : rg p2 2 2147483647 := rg_lt2 (iL c14) (r12 : rg x9 1 2147483647) ((rg_top _) : rg p2 (-2147483648) 2147483647)
        refine lv_iload_n hx hb dX12_lateOf_43 rfl (lv_at hl 3 rfl) ?_
        refine lv_iload_n hx hb dX12_lateOf_44 rfl (lv_at hl 0 rfl) ?_
        refine lv_isub hx hb dX12_lateOf_45 ?_
        refine lv_topi (fun x17 e18 => ?_)
        have r19 : rg x17 (-2147483644) 2147483646 := rg_sub e18 r16 r15 (by decide)
        exact hret (x17) () H locs 46 ls rfl dX12_lateOf_46 hP hD hS trivial
      · skip
        refine lv_iconst (v := 0) hx hb dX12_lateOf_39 (by decide) ?_
        refine lv_goto (tgt := 46) hx hb dX12_lateOf_40 (by decide) ?_
        exact hret (0) () H locs 46 ls rfl dX12_lateOf_46 hP hD hS trivial
    · skip
      have r13 : rg x9 (-2147483648) 0 := rg_le1 (iNL c11) ((rg_top _) : rg x9 (-2147483648) 2147483647) ((rg_k (by decide)) : rg 0 0 0)
      refine lv_iload_n hx hb dX12_lateOf_30 rfl (lv_at hl 3 rfl) ?_
      refine lv_goto (tgt := 46) hx hb dX12_lateOf_31 (by decide) ?_
      exact hret (p2) () H locs 46 ls rfl dX12_lateOf_46 hP hD hS trivial
  · skip
    have r8 : rg x4 (-2147483648) (-1) := rg_lt1 (iNE c6) ((rg_top _) : rg x4 (-2147483648) 2147483647) ((rg_k (by decide)) : rg 0 0 0)
    refine lv_iconst (v := 0) hx hb dX12_lateOf_12 (by decide) ?_
    exact hret (0) () H locs 13 ls rfl dX12_lateOf_13 hP hD hS trivial
abbrev rm_X12_wages_0 : Room := { frames := 6, cells := 0, slots := 0, locals := 139 }
set_option maxHeartbeats 4000000 in
set_option maxRecDepth 100000 in
theorem c_X12_wages_0 (l : Launch) (D : va_G) (cA : Nat → ClassId) (sz : Nat) (ad : Nat → Nat) (F : Nat → Int32) (L : Nat → Int64) (A : Nat → Nat → Int32) (B : Nat → Nat → Int64)  (hT : typM F A) (hLM : LM F A) : Met l yX12_wages (Cond.code yX12_wages cX12_wages 5 (some .int) :: GW) rm_X12_wages_0 (mPc D classes (tysM cA) (wM cA ad F L A B) sz [.ref (ad 0)]) (mQi (S := SW) D classes (tysM cA) (wM cA ad F L A B) sz (wfM cA ad) (fun r u => qM [11] [16, 18, 19, 20, 21, 22] F A u.1 u.2.2.1)) 0 0 (va_A (wM cA ad F L A B) sz) := by
  refine met_i (own := "ShoeingDayModel") (by decide +kernel) rfl (Nat.le_of_ble_eq_true rfl) ?_
  intro p e s m args below meth c Q Af ls hC hP hD hS hA hl hret
  have hx := hC.1
  have hb := hC.2.1
  have hown := hC.2.2.2.1
  have hg := hC.g
  have hK := hC.K
  have hl : lv_has ls 5 [(0, .ref (ad 0))] := hl
  have hq : qM [11] [16, 18, 19, 20, 21, 22] F A F A := qM.rf hT
  obtain ⟨H, hH⟩ : ∃ H, H = s.heap := ⟨_, rfl⟩
  have hP : va_P D classes (wM cA ad F L A B) H := by rw [hH]; exact hP
  have hS : va_S Af s.heap H [] := by rw [hH]; exact hS
  obtain ⟨locs, hlo⟩ : ∃ q : List Loc, q = [] := ⟨_, rfl⟩
  rw [← hH, ← hlo]
  rw [← hlo] at hS
  refine lv_aload_n hx hb dX12_wages_0 rfl (lv_at hl 0 rfl) ?_
  refine callv_v (As := []) (rest := []) hC (c_X12_layDayNow_0 l D cA H.size ad F L A B  hq.1 hLM) (cwV 0 hg (g_V mw_1443 mw_1440 mw_1442 ms_76 mw_20) rfl rfl rfl (by decide +kernel) ⟨(Nat.le_of_ble_eq_true rfl), (Nat.le_of_ble_eq_true rfl)⟩) hP hD hS hA atM_0 rfl rfl hl.1 rfl (Nat.le_of_ble_eq_true rfl) dX12_wages_1 ⟨Nat.zero_le _, Nat.zero_le _⟩ (fun  u H locs hw hP hD hS => ?_)
  obtain ⟨F1, L1, A1, B1⟩ := u
  try dsimp only at hw
  have hq1 := hw
  have hq := hq.call hq1 (by decide)
  have hP : va_P D classes (wM cA ad F1 L1 A1 B1) H := hP
  have hD : va_D Af (wM cA ad F1 L1 A1 B1) := hD
  refine lv_iconst (v := 0) hx hb dX12_wages_4 (by decide) ?_
  refine lv_istore_n (lv' := [(1, .int 0), (0, .ref (ad 0))]) hx hb dX12_wages_5 rfl hl (by decide) rfl (fun ls hl => ?_)
  refine lv_aload_n hx hb dX12_wages_6 rfl (lv_at hl 1 rfl) ?_
  refine va_get (ci := 12) (v := .int (F1 10)) (C := RX12) (T := TX12) (N := 57) hx hb hg inX12 hown hK hP 0 atM_0 rfl 28 (by decide) (hg _ mw_1136) (fun _ h9 => h9) rfl dX12_wages_7 ?_
  refine lv_topi (fun x2 e3 => ?_)
  refine lv_istore_n (lv' := [(2, .int x2), (1, .int 0), (0, .ref (ad 0))]) hx hb dX12_wages_10 rfl hl (by decide) rfl (fun ls hl => ?_)
  refine lv_iconst (v := 0) hx hb dX12_wages_11 (by decide) ?_
  refine lv_istore_n (lv' := [(3, .int 0), (2, .int x2), (1, .int 0), (0, .ref (ad 0))]) hx hb dX12_wages_12 rfl hl (by decide) rfl (fun ls hl => ?_)
  have J13 : ∀ (n13 : Nat) (a4 : Int32) (a5 : Int32) (a6 : Int32) (F8 : Nat → Int32) (L8 : Nat → Int64) (A8 : Nat → Nat → Int32) (B8 : Nat → Nat → Int64) (H : Heap) (locs : List Loc) (ls : Array Slot), (240 - a6.toInt).toNat < n13 → rg a6 0 240 → qM [11] [16, 18, 19, 20, 21, 22] F A F8 A8 → va_P D classes (wM cA ad F8 L8 A8 B8) H → va_D Af (wM cA ad F8 L8 A8 B8) → va_S Af s.heap H locs → lv_has ls 5 [(0, .ref (ad 0)), (1, .int a4), (2, .int a5), (3, .int a6)] → W p l e rm_X12_wages_0 s m args below meth c H locs 0 0 Q (F0 m 13 ls []) := by
    intro n13
    induction n13 with
    | zero =>
      intro _ _ _ _ _ _ _ _ _ _ hn
      exact absurd hn (Nat.not_lt_zero _)
    | succ n13 ih13 =>
      intro a4 a5 a6 F8 L8 A8 B8 H locs ls hn13 r7 hq hP hD hS hl
      refine lv_iload_n hx hb dX12_wages_13 rfl (lv_at hl 3 rfl) ?_
      refine lv_aload_n hx hb dX12_wages_14 rfl (lv_at hl 0 rfl) ?_
      refine va_get (ci := 12) (v := .int (F8 11)) (C := RX12) (T := TX12) (N := 57) hx hb hg inX12 hown hK hP 0 atM_0 rfl 34 (by decide) (hg _ mw_1142) (fun _ h9 => h9) rfl dX12_wages_15 ?_
      refine lv_topi (fun x9 e10 => ?_)
      have r11 : rg x9 0 240 := rg_e e10 (hq.1.1 11)
      refine lv_icmp_ge (tgt := 106) hx hb dX12_wages_18 (by decide) (fun c12 => ?_) (fun c12 => ?_)
      · skip
        refine lv_iload_n hx hb dX12_wages_106 rfl (lv_at hl 1 rfl) ?_
        exact hret (a4) (F8, L8, A8, B8) H locs 107 ls rfl dX12_wages_107 hP hD hS hq
      · skip
        have r13 : rg a6 0 239 := rg_lt1 (iNE c12) (r7 : rg a6 0 240) (r11 : rg x9 0 240)
        have r14 : rg x9 1 240 := rg_lt2 (iNE c12) (r7 : rg a6 0 240) (r11 : rg x9 0 240)
        refine lv_iconst (v := 0) hx hb dX12_wages_21 (by decide) ?_
        refine lv_istore (lv' := [(4, .int 0), (0, .ref (ad 0)), (1, .int a4), (2, .int a5), (3, .int a6)]) hx hb dX12_wages_22 hl (by decide) rfl (fun ls hl => ?_)
        have J24 : ∀ (n24 : Nat) (a15 : Int32) (a16 : Int32) (F18 : Nat → Int32) (L18 : Nat → Int64) (A18 : Nat → Nat → Int32) (B18 : Nat → Nat → Int64) (H : Heap) (locs : List Loc) (ls : Array Slot), (8 - a16.toInt).toNat < n24 → rg a16 0 8 → qM [11] [16, 18, 19, 20, 21, 22] F A F18 A18 → F18 11 = x9 → va_P D classes (wM cA ad F18 L18 A18 B18) H → va_D Af (wM cA ad F18 L18 A18 B18) → va_S Af s.heap H locs → lv_has ls 5 [(0, .ref (ad 0)), (1, .int a15), (2, .int a5), (3, .int a6), (4, .int a16)] → W p l e rm_X12_wages_0 s m args below meth c H locs 0 0 Q (F0 m 24 ls []) := by
          intro n24
          induction n24 with
          | zero =>
            intro _ _ _ _ _ _ _ _ _ hn
            exact absurd hn (Nat.not_lt_zero _)
          | succ n24 ih24 =>
            intro a15 a16 F18 L18 A18 B18 H locs ls hn24 r17 hq f19 hP hD hS hl
            refine lv_iload hx hb dX12_wages_24 (lv_at hl 4 rfl) ?_
            refine lv_aload_n hx hb dX12_wages_26 rfl (lv_at hl 0 rfl) ?_
            refine callv_i (As := []) (rest := [.int a16]) hC (c_X12_smithMany_0 l D cA H.size ad F18 L18 A18 B18  hq.1) (cwV 0 hg (g_V mw_1388 mw_1385 mw_1387 ms_67 mw_20) rfl rfl rfl (by decide +kernel) ⟨(Nat.le_of_ble_eq_true rfl), (Nat.le_of_ble_eq_true rfl)⟩) hP hD hS hA atM_0 rfl rfl hl.1 rfl (Nat.le_of_ble_eq_true rfl) dX12_wages_27 ⟨Nat.zero_le _, Nat.zero_le _⟩ (fun x20 u H locs hw hP hD hS => ?_)
            obtain ⟨r21, g22⟩ := hw
            have hP : va_P D classes (wM cA ad F18 L18 A18 B18) H := hP
            have hD : va_D Af (wM cA ad F18 L18 A18 B18) := hD
            refine lv_icmp_ge (tgt := 91) hx hb dX12_wages_30 (by decide) (fun c23 => ?_) (fun c23 => ?_)
            · skip
              refine lv_iload_n hx hb dX12_wages_91 rfl (lv_at hl 2 rfl) ?_
              refine lv_aload_n hx hb dX12_wages_92 rfl (lv_at hl 0 rfl) ?_
              refine va_get (ci := 12) (v := .ref (ad 21)) (C := RX12) (T := TX12) (N := 57) hx hb hg inX12 hown hK hP 0 atM_0 rfl 32 (by decide) (hg _ mw_1140) (fun _ h9 => h9) rfl dX12_wages_93 ?_
              refine lv_iload_n hx hb dX12_wages_96 rfl (lv_at hl 3 rfl) ?_
              refine va_iald hx hb hK hP 21 20 atM_21 tyM_21 (in_rg r13 (by decide)) dX12_wages_97 ?_
              refine lv_topi (fun x26 e27 => ?_)
              refine lv_iadd hx hb dX12_wages_98 ?_
              refine lv_topi (fun x28 e29 => ?_)
              refine lv_istore_n (lv' := [(2, .int x28), (0, .ref (ad 0)), (1, .int a15), (3, .int a6), (4, .int a16)]) hx hb dX12_wages_99 rfl hl (by decide) rfl (fun ls hl => ?_)
              obtain ⟨x30, e31⟩ : ∃ y : Int32, y = a6 + 1 := ⟨_, rfl⟩
              have r32 : rg x30 1 240 := rg_add e31 r13 (rg_k (by decide) : rg 1 1 1) (by decide)
              refine lv_iinc (v := x30) (lv' := [(3, .int x30), (2, .int x28), (0, .ref (ad 0)), (1, .int a15), (4, .int a16)]) hx hb dX12_wages_100 hl (k := 3) rfl (by rw [e31]; rfl) (by decide) rfl (fun ls hl => ?_)
              refine lv_goto (tgt := 13) hx hb dX12_wages_103 (by decide) ?_
              exact ih13 (a15) (x28) (x30) (F18) (L18) (A18) (B18) H locs ls (by have h0 : (1 : Int32).toInt = 1 := rfl; have h1 := ti_addk e31 r13 (by decide); have h2 : rg x30 0 240 := (rg_w r32 (by decide)); unfold rg at h2; omega) (rg_w r32 (by decide)) hq hP hD hS (lv_sub hl [2, 3, 1, 0] rfl)
            · skip
              have r24 : rg a16 0 7 := rg_lt1 (iNE c23) (r17 : rg a16 0 8) (r21 : rg x20 0 8)
              have r25 : rg x20 1 8 := rg_lt2 (iNE c23) (r17 : rg a16 0 8) (r21 : rg x20 0 8)
              refine lv_aload_n hx hb dX12_wages_33 rfl (lv_at hl 0 rfl) ?_
              refine va_get (ci := 12) (v := .ref (ad 22)) (C := RX12) (T := TX12) (N := 57) hx hb hg inX12 hown hK hP 0 atM_0 rfl 33 (by decide) (hg _ mw_1141) (fun _ h9 => h9) rfl dX12_wages_34 ?_
              refine lv_bipush (v := 8) hx hb dX12_wages_37 (by decide) ?_
              refine lv_iload_n hx hb dX12_wages_39 rfl (lv_at hl 3 rfl) ?_
              refine lv_imul hx hb dX12_wages_40 ?_
              refine lv_topi (fun x33 e34 => ?_)
              have r35 : rg x33 0 1912 := rg_mul e34 ((rg_k (by decide)) : rg 8 8 8) r13 (by decide)
              refine lv_iload hx hb dX12_wages_41 (lv_at hl 4 rfl) ?_
              refine lv_iadd hx hb dX12_wages_43 ?_
              refine lv_topi (fun x36 e37 => ?_)
              have r38 : rg x36 0 1919 := rg_add e37 r35 r24 (by decide)
              refine va_iald hx hb hK hP 22 21 atM_22 tyM_22 (in_rg r38 (by decide)) dX12_wages_44 ?_
              refine lv_topi (fun x39 e40 => ?_)
              have r41 : rg x39 (-1) 9 := rg_e e40 (hq.1.2 22 _)
              have J85 : ∀ (a42 : Int32) (F43 : Nat → Int32) (L43 : Nat → Int64) (A43 : Nat → Nat → Int32) (B43 : Nat → Nat → Int64) (H : Heap) (locs : List Loc) (ls : Array Slot), qM [11] [16, 18, 19, 20, 21, 22] F A F43 A43 → F43 11 = x9 → va_P D classes (wM cA ad F43 L43 A43 B43) H → va_D Af (wM cA ad F43 L43 A43 B43) → va_S Af s.heap H locs → lv_has ls 5 [(0, .ref (ad 0)), (1, .int a42), (2, .int a5), (3, .int a6), (4, .int a16)] → W p l e rm_X12_wages_0 s m args below meth c H locs 0 0 Q (F0 m 85 ls []) := by
                intro a42 F43 L43 A43 B43 H locs ls hq f44 hP hD hS hl
                obtain ⟨x45, e46⟩ : ∃ y : Int32, y = a16 + 1 := ⟨_, rfl⟩
                have r47 : rg x45 1 8 := rg_add e46 r24 (rg_k (by decide) : rg 1 1 1) (by decide)
                refine lv_iinc (v := x45) (lv' := [(4, .int x45), (0, .ref (ad 0)), (1, .int a42), (2, .int a5), (3, .int a6)]) hx hb dX12_wages_85 hl (k := 4) rfl (by rw [e46]; rfl) (by decide) rfl (fun ls hl => ?_)
                refine lv_goto (tgt := 24) hx hb dX12_wages_88 (by decide) ?_
                exact ih24 (a42) (x45) (F43) (L43) (A43) (B43) H locs ls (by have h0 : (1 : Int32).toInt = 1 := rfl; have h1 := ti_addk e46 r24 (by decide); have h2 : rg x45 0 8 := (rg_w r47 (by decide)); unfold rg at h2; omega) (rg_w r47 (by decide)) hq (f44) hP hD hS (lv_sub hl [1, 2, 3, 4, 0] rfl)
              refine lv_if_lt (tgt := 85) hx hb dX12_wages_45 (by decide) (fun c48 => ?_) (fun c48 => ?_)
              · skip
                have r49 : rg x39 (-1) (-1) := rg_lt1 (iL c48) (r41 : rg x39 (-1) 9) ((rg_k (by decide)) : rg 0 0 0)
                exact J85 (a15) (F18) (L18) (A18) (B18) H locs ls hq (f19) hP hD hS (lv_sub hl [0, 1, 2, 3, 4] rfl)
              · skip
                have r50 : rg x39 0 9 := rg_le2 (iNL c48) ((rg_k (by decide)) : rg 0 0 0) (r41 : rg x39 (-1) 9)
                refine lv_iload_n hx hb dX12_wages_48 rfl (lv_at hl 1 rfl) ?_
                refine lv_aload_n hx hb dX12_wages_49 rfl (lv_at hl 0 rfl) ?_
                refine va_get (ci := 12) (v := .ref (ad 8)) (C := RX12) (T := TX12) (N := 57) hx hb hg inX12 hown hK hP 0 atM_0 rfl 16 (by decide) (hg _ mw_1124) (fun _ h9 => h9) rfl dX12_wages_50 ?_
                refine lv_bipush (v := 8) hx hb dX12_wages_53 (by decide) ?_
                refine lv_aload_n hx hb dX12_wages_55 rfl (lv_at hl 0 rfl) ?_
                refine va_get (ci := 12) (v := .int (F18 8)) (C := RX12) (T := TX12) (N := 57) hx hb hg inX12 hown hK hP 0 atM_0 rfl 24 (by decide) (hg _ mw_1132) (fun _ h9 => h9) rfl dX12_wages_56 ?_
                refine lv_topi (fun x51 e52 => ?_)
                have r53 : rg x51 0 1 := rg_e e52 (hq.1.1 8)
                refine lv_imul hx hb dX12_wages_59 ?_
                refine lv_topi (fun x54 e55 => ?_)
                have r56 : rg x54 0 8 := rg_mul e55 ((rg_k (by decide)) : rg 8 8 8) r53 (by decide)
                refine lv_iload hx hb dX12_wages_60 (lv_at hl 4 rfl) ?_
                refine lv_iadd hx hb dX12_wages_62 ?_
                refine lv_topi (fun x57 e58 => ?_)
                have r59 : rg x57 0 15 := rg_add e58 r56 r24 (by decide)
                refine va_iald hx hb hK hP 8 7 atM_8 tyM_8 (in_rg r59 (by decide)) dX12_wages_63 ?_
                refine lv_topi (fun x60 e61 => ?_)
                refine lv_aload_n hx hb dX12_wages_64 rfl (lv_at hl 0 rfl) ?_
                refine va_get (ci := 12) (v := .ref (ad 21)) (C := RX12) (T := TX12) (N := 57) hx hb hg inX12 hown hK hP 0 atM_0 rfl 32 (by decide) (hg _ mw_1140) (fun _ h9 => h9) rfl dX12_wages_65 ?_
                refine lv_iload_n hx hb dX12_wages_68 rfl (lv_at hl 3 rfl) ?_
                refine va_iald hx hb hK hP 21 20 atM_21 tyM_21 (in_rg r13 (by decide)) dX12_wages_69 ?_
                refine lv_topi (fun x62 e63 => ?_)
                refine lv_aload_n hx hb dX12_wages_70 rfl (lv_at hl 0 rfl) ?_
                refine lv_iload_n hx hb dX12_wages_71 rfl (lv_at hl 2 rfl) ?_
                refine lv_aload_n hx hb dX12_wages_72 rfl (lv_at hl 0 rfl) ?_
                refine va_get (ci := 12) (v := .ref (ad 21)) (C := RX12) (T := TX12) (N := 57) hx hb hg inX12 hown hK hP 0 atM_0 rfl 32 (by decide) (hg _ mw_1140) (fun _ h9 => h9) rfl dX12_wages_73 ?_
                refine lv_iload_n hx hb dX12_wages_76 rfl (lv_at hl 3 rfl) ?_
                refine va_iald hx hb hK hP 21 20 atM_21 tyM_21 (in_rg r13 (by decide)) dX12_wages_77 ?_
                refine tope (e63) ?_
                refine callv_i (As := [.int a5, .int x62]) (rest := [.int x62, .int x60, .int a15]) hC (c_X12_lateOf_0 l D cA H.size ad F18 L18 A18 B18 (a5) (x62) hq.1) (cwV 2 hg (g_V mw_1482 mw_1479 mw_1481 ms_82 mw_20) rfl rfl rfl (by decide +kernel) ⟨(Nat.le_of_ble_eq_true rfl), (Nat.le_of_ble_eq_true rfl)⟩) hP hD hS hA atM_0 rfl rfl hl.1 rfl (Nat.le_of_ble_eq_true rfl) dX12_wages_78 ⟨Nat.zero_le _, Nat.zero_le _⟩ (fun x64 u H locs hw hP hD hS => ?_)
                have hP : va_P D classes (wM cA ad F18 L18 A18 B18) H := hP
                have hD : va_D Af (wM cA ad F18 L18 A18 B18) := hD
                refine lv_iadd hx hb dX12_wages_81 ?_
                refine lv_topi (fun x65 e66 => ?_)
                refine lv_imul hx hb dX12_wages_82 ?_
                refine lv_topi (fun x67 e68 => ?_)
                refine lv_iadd hx hb dX12_wages_83 ?_
                refine lv_topi (fun x69 e70 => ?_)
                refine lv_istore_n (lv' := [(1, .int x69), (0, .ref (ad 0)), (2, .int a5), (3, .int a6), (4, .int a16)]) hx hb dX12_wages_84 rfl hl (by decide) rfl (fun ls hl => ?_)
                exact J85 (x69) (F18) (L18) (A18) (B18) H locs ls hq (f19) hP hD hS (lv_sub hl [1, 0, 2, 3, 4] rfl)
        exact J24 _ (a4) (0) (F8) (L8) (A8) (B8) H locs ls (Nat.lt_succ_self _) (rg_k (by decide)) hq (e10.symm) hP hD hS (lv_sub hl [1, 2, 3, 4, 0] rfl)
  exact J13 _ (0) (x2) (0) (F1) (L1) (A1) (B1) H locs ls (Nat.lt_succ_self _) (rg_k (by decide)) hq hP hD hS (lv_sub hl [3, 2, 1, 0] rfl)
abbrev rm_X12_cut : Room := { frames := 0, cells := 0, slots := 0, locals := 0 }
set_option maxHeartbeats 4000000 in
set_option maxRecDepth 100000 in
theorem c_X12_cut (l : Launch) (D : va_G) (tys : List (ClassId × FieldType)) (ws : va_W) (sz : Nat) (p0 : Int32) (p1 : Int32) (hp1 : rg p1 1 9) : Met l yX12_cut (Cond.code yX12_cut cX12_cut 2 (some .int) :: GW) rm_X12_cut (mPc D classes tys (ws) sz [.int p0, .int p1]) (mQi (S := Unit) D classes tys (ws) sz (fun _ : Unit => ws) (fun r u => True)) 0 0 (va_A (ws) sz) := by
  refine met_i (own := "ShoeingDayModel") (by decide +kernel) rfl (Nat.le_of_ble_eq_true rfl) ?_
  intro p e s m args below meth c Q Af ls hC hP hD hS hA hl hret
  have hx := hC.1
  have hb := hC.2.1
  have hown := hC.2.2.2.1
  have hg := hC.g
  have hK := hC.K
  have hl : lv_has ls 2 [(0, .int p0), (1, .int p1)] := hl
  obtain ⟨H, hH⟩ : ∃ H, H = s.heap := ⟨_, rfl⟩
  have hP : va_P D classes (ws) H := by rw [hH]; exact hP
  have hS : va_S Af s.heap H [] := by rw [hH]; exact hS
  obtain ⟨locs, hlo⟩ : ∃ q : List Loc, q = [] := ⟨_, rfl⟩
  rw [← hH, ← hlo]
  rw [← hlo] at hS
  refine lv_iload_n hx hb dX12_cut_0 rfl (lv_at hl 0 rfl) ?_
  refine lv_iload_n hx hb dX12_cut_1 rfl (lv_at hl 1 rfl) ?_
  refine lv_idiv hx hb dX12_cut_2 (ne0_rg hp1 (by decide)) ?_
  refine lv_topi (fun x1 e2 => ?_)
  exact hret (x1) () H locs 3 ls rfl dX12_cut_3 hP hD hS trivial
abbrev rm_X12_edge_0 : Room := { frames := 0, cells := 0, slots := 0, locals := 0 }
set_option maxHeartbeats 4000000 in
set_option maxRecDepth 100000 in
theorem c_X12_edge_0 (l : Launch) (D : va_G) (cA : Nat → ClassId) (sz : Nat) (ad : Nat → Nat) (F : Nat → Int32) (L : Nat → Int64) (A : Nat → Nat → Int32) (B : Nat → Nat → Int64) (p1 : Int32) (p2 : Int32) (p3 : Int32) (p4 : Int32) (hT : typM F A) (hp1 : rg p1 0 19) (hp2 : rg p2 0 19) : Met l yX12_edge (Cond.code yX12_edge cX12_edge 5 none :: GW) rm_X12_edge_0 (mPc D classes (tysM cA) (wM cA ad F L A B) sz [.ref (ad 0), .int p1, .int p2, .int p3, .int p4]) (mQv (S := SW) D classes (tysM cA) (wM cA ad F L A B) sz (wfM cA ad) (fun u => qM [12] [23] F A u.1 u.2.2.1)) 0 0 (va_A (wM cA ad F L A B) sz) := by
  refine met_v (own := "ShoeingDayModel") (by decide +kernel) rfl (Nat.le_of_ble_eq_true rfl) ?_
  intro p e s m args below meth c Q Af ls hC hP hD hS hA hl hret
  have hx := hC.1
  have hb := hC.2.1
  have hown := hC.2.2.2.1
  have hg := hC.g
  have hK := hC.K
  have hl : lv_has ls 5 [(0, .ref (ad 0)), (1, .int p1), (2, .int p2), (3, .int p3), (4, .int p4)] := hl
  have hq : qM [12] [23] F A F A := qM.rf hT
  obtain ⟨H, hH⟩ : ∃ H, H = s.heap := ⟨_, rfl⟩
  have hP : va_P D classes (wM cA ad F L A B) H := by rw [hH]; exact hP
  have hS : va_S Af s.heap H [] := by rw [hH]; exact hS
  obtain ⟨locs, hlo⟩ : ∃ q : List Loc, q = [] := ⟨_, rfl⟩
  rw [← hH, ← hlo]
  rw [← hlo] at hS
  refine lv_aload_n hx hb dX12_edge_0 rfl (lv_at hl 0 rfl) ?_
  refine va_get (ci := 12) (v := .ref (ad 23)) (C := RX12) (T := TX12) (N := 57) hx hb hg inX12 hown hK hP 0 atM_0 rfl 35 (by decide) (hg _ mw_1143) (fun _ h9 => h9) rfl dX12_edge_1 ?_
  refine lv_bipush (v := 22) hx hb dX12_edge_4 (by decide) ?_
  refine lv_iload_n hx hb dX12_edge_6 rfl (lv_at hl 1 rfl) ?_
  refine lv_imul hx hb dX12_edge_7 ?_
  refine lv_topi (fun x1 e2 => ?_)
  have r3 : rg x1 0 418 := rg_mul e2 ((rg_k (by decide)) : rg 22 22 22) hp1 (by decide)
  refine lv_iload_n hx hb dX12_edge_8 rfl (lv_at hl 2 rfl) ?_
  refine lv_iadd hx hb dX12_edge_9 ?_
  refine lv_topi (fun x4 e5 => ?_)
  have r6 : rg x4 0 437 := rg_add e5 r3 hp2 (by decide)
  refine lv_dup2_11 hx hb dX12_edge_10 rfl rfl ?_
  refine va_iald hx hb hK hP 23 22 atM_23 tyM_23 (in_rg r6 (by decide)) dX12_edge_11 ?_
  refine lv_topi (fun x7 e8 => ?_)
  refine lv_iload hx hb dX12_edge_12 (lv_at hl 4 rfl) ?_
  refine lv_iload_n hx hb dX12_edge_14 rfl (lv_at hl 3 rfl) ?_
  refine lv_isub hx hb dX12_edge_15 ?_
  refine lv_topi (fun x9 e10 => ?_)
  refine lv_iadd hx hb dX12_edge_16 ?_
  refine lv_topi (fun x11 e12 => ?_)
  refine va_iast hx hb hK hP hD hS 23 22 atM_23 tyM_23 (in_rg r6 (by decide)) dX12_edge_17 (fun H locs hP hD hS => ?_)
  have hq := hq.ast 23 (x4).toNatClampNeg (x := x11) (by decide) (rg_top _)
  rw [setM_23] at hP hD
  have k13 : x11 = (va_up A 23 (upd (A 23) (x4).toNatClampNeg x11)) 23 (x4).toNatClampNeg := (rdA).symm
  refine lv_aload_n hx hb dX12_edge_18 rfl (lv_at hl 0 rfl) ?_
  refine va_get (ci := 12) (v := .ref (ad 23)) (C := RX12) (T := TX12) (N := 57) hx hb hg inX12 hown hK hP 0 atM_0 rfl 35 (by decide) (hg _ mw_1143) (fun _ h9 => h9) rfl dX12_edge_19 ?_
  refine lv_sipush (v := 440) hx hb dX12_edge_22 (by decide) ?_
  refine lv_iload_n hx hb dX12_edge_25 rfl (lv_at hl 2 rfl) ?_
  refine lv_iadd hx hb dX12_edge_26 ?_
  refine lv_topi (fun x14 e15 => ?_)
  have r16 : rg x14 440 459 := rg_add e15 ((rg_k (by decide)) : rg 440 440 440) hp2 (by decide)
  refine lv_dup2_11 hx hb dX12_edge_27 rfl rfl ?_
  refine va_iald hx hb hK hP 23 22 atM_23 tyM_23 (in_rg r16 (by decide)) dX12_edge_28 ?_
  refine lv_topi (fun x17 e18 => ?_)
  refine lv_iload_n hx hb dX12_edge_29 rfl (lv_at hl 3 rfl) ?_
  refine lv_iadd hx hb dX12_edge_30 ?_
  refine lv_topi (fun x19 e20 => ?_)
  refine va_iast hx hb hK hP hD hS 23 22 atM_23 tyM_23 (in_rg r16 (by decide)) dX12_edge_31 (fun H locs hP hD hS => ?_)
  have hq := hq.ast 23 (x14).toNatClampNeg (x := x19) (by decide) (rg_top _)
  rw [setM_23] at hP hD
  have k21 : x19 = (va_up (va_up A 23 (upd (A 23) (x4).toNatClampNeg x11)) 23 (upd ((va_up A 23 (upd (A 23) (x4).toNatClampNeg x11)) 23) (x14).toNatClampNeg x19)) 23 (x14).toNatClampNeg := (rdA).symm
  refine lv_aload_n hx hb dX12_edge_32 rfl (lv_at hl 0 rfl) ?_
  refine va_get (ci := 12) (v := .ref (ad 23)) (C := RX12) (T := TX12) (N := 57) hx hb hg inX12 hown hK hP 0 atM_0 rfl 35 (by decide) (hg _ mw_1143) (fun _ h9 => h9) rfl dX12_edge_33 ?_
  refine lv_bipush (v := 22) hx hb dX12_edge_36 (by decide) ?_
  refine lv_iload_n hx hb dX12_edge_38 rfl (lv_at hl 1 rfl) ?_
  refine lv_imul hx hb dX12_edge_39 ?_
  refine tope e2 ?_
  refine lv_bipush (v := 21) hx hb dX12_edge_40 (by decide) ?_
  refine lv_iadd hx hb dX12_edge_42 ?_
  refine lv_topi (fun x22 e23 => ?_)
  have r24 : rg x22 21 439 := rg_add e23 r3 ((rg_k (by decide)) : rg 21 21 21) (by decide)
  refine lv_dup2_11 hx hb dX12_edge_43 rfl rfl ?_
  refine va_iald hx hb hK hP 23 22 atM_23 tyM_23 (in_rg r24 (by decide)) dX12_edge_44 ?_
  refine lv_topi (fun x25 e26 => ?_)
  refine lv_iload_n hx hb dX12_edge_45 rfl (lv_at hl 3 rfl) ?_
  refine lv_iadd hx hb dX12_edge_46 ?_
  refine lv_topi (fun x27 e28 => ?_)
  refine va_iast hx hb hK hP hD hS 23 22 atM_23 tyM_23 (in_rg r24 (by decide)) dX12_edge_47 (fun H locs hP hD hS => ?_)
  have hq := hq.ast 23 (x22).toNatClampNeg (x := x27) (by decide) (rg_top _)
  rw [setM_23] at hP hD
  have k29 : x27 = (va_up (va_up (va_up A 23 (upd (A 23) (x4).toNatClampNeg x11)) 23 (upd ((va_up A 23 (upd (A 23) (x4).toNatClampNeg x11)) 23) (x14).toNatClampNeg x19)) 23 (upd ((va_up (va_up A 23 (upd (A 23) (x4).toNatClampNeg x11)) 23 (upd ((va_up A 23 (upd (A 23) (x4).toNatClampNeg x11)) 23) (x14).toNatClampNeg x19)) 23) (x22).toNatClampNeg x27)) 23 (x22).toNatClampNeg := (rdA).symm
  refine lv_aload_n hx hb dX12_edge_48 rfl (lv_at hl 0 rfl) ?_
  refine lv_dup hx hb dX12_edge_49 rfl ?_
  refine va_get (ci := 12) (v := .int (F 12)) (C := RX12) (T := TX12) (N := 57) hx hb hg inX12 hown hK hP 0 atM_0 rfl 39 (by decide) (hg _ mw_1147) (fun _ h9 => h9) rfl dX12_edge_50 ?_
  refine lv_topi (fun x30 e31 => ?_)
  refine lv_iload_n hx hb dX12_edge_53 rfl (lv_at hl 3 rfl) ?_
  refine lv_iadd hx hb dX12_edge_54 ?_
  refine lv_topi (fun x32 e33 => ?_)
  refine va_put (ci := 12) (v := .int x32) (ty := .int) (C := RX12) (T := TX12) (N := 57) hx hb hg inX12 tyX12 tyX12_ok nmX12 hown hK hP hD hS 0 atM_0 rfl 39 (by decide) (hg _ mw_1147) (fun _ h9 => h9) rfl (by decide +kernel) rfl rfl (Nat.le_of_ble_eq_true rfl) dX12_edge_55 (fun H locs hP hD hS => ?_)
  have hq := hq.put 12 (x := x32) (by decide) (rg_top _)
  rw [setFM_12] at hP hD
  exact hret ((upd F 12 x32), L, (va_up (va_up (va_up A 23 (upd (A 23) (x4).toNatClampNeg x11)) 23 (upd ((va_up A 23 (upd (A 23) (x4).toNatClampNeg x11)) 23) (x14).toNatClampNeg x19)) 23 (upd ((va_up (va_up A 23 (upd (A 23) (x4).toNatClampNeg x11)) 23 (upd ((va_up A 23 (upd (A 23) (x4).toNatClampNeg x11)) 23) (x14).toNatClampNeg x19)) 23) (x22).toNatClampNeg x27)), B) H locs 58 ls dX12_edge_58 hP hD hS hq
abbrev rm_X12_grows_0 : Room := { frames := 0, cells := 0, slots := 0, locals := 0 }
set_option maxHeartbeats 4000000 in
set_option maxRecDepth 100000 in
theorem c_X12_grows_0 (l : Launch) (D : va_G) (cA : Nat → ClassId) (sz : Nat) (ad : Nat → Nat) (F : Nat → Int32) (L : Nat → Int64) (A : Nat → Nat → Int32) (B : Nat → Nat → Int64)  (hT : typM F A) : Met l yX12_grows (Cond.code yX12_grows cX12_grows 4 (some .int) :: GW) rm_X12_grows_0 (mPc D classes (tysM cA) (wM cA ad F L A B) sz [.ref (ad 0)]) (mQi (S := SW) D classes (tysM cA) (wM cA ad F L A B) sz (wfM cA ad) (fun r u => qM [] [23, 24, 25] F A u.1 u.2.2.1 ∧ (r.toInt ≤ 0 ∨ phi (u.2.2.1 23) < phi (A 23)))) 0 0 (va_A (wM cA ad F L A B) sz) := by
  refine met_i (own := "ShoeingDayModel") (by decide +kernel) rfl (Nat.le_of_ble_eq_true rfl) ?_
  intro p e s m args below meth c Q Af ls hC hP hD hS hA hl hret
  have hx := hC.1
  have hb := hC.2.1
  have hown := hC.2.2.2.1
  have hg := hC.g
  have hK := hC.K
  have hl : lv_has ls 4 [(0, .ref (ad 0))] := hl
  have hq : qM [] [23, 24, 25] F A F A := qM.rf hT
  obtain ⟨H, hH⟩ : ∃ H, H = s.heap := ⟨_, rfl⟩
  have hP : va_P D classes (wM cA ad F L A B) H := by rw [hH]; exact hP
  have hS : va_S Af s.heap H [] := by rw [hH]; exact hS
  obtain ⟨locs, hlo⟩ : ∃ q : List Loc, q = [] := ⟨_, rfl⟩
  rw [← hH, ← hlo]
  rw [← hlo] at hS
  refine lv_iconst (v := 0) hx hb dX12_grows_0 (by decide) ?_
  refine lv_istore_n (lv' := [(1, .int 0), (0, .ref (ad 0))]) hx hb dX12_grows_1 rfl hl (by decide) rfl (fun ls hl => ?_)
  have J2 : ∀ (n2 : Nat) (a1 : Int32) (F3 : Nat → Int32) (L3 : Nat → Int64) (A3 : Nat → Nat → Int32) (B3 : Nat → Nat → Int64) (H : Heap) (locs : List Loc) (ls : Array Slot), (22 - a1.toInt).toNat < n2 → rg a1 0 22 → qM [] [23, 24, 25] F A F3 A3 → A3 23 = A 23 → (∀ v : Nat, (v : Int) < a1.toInt → A3 24 v = -1) → va_P D classes (wM cA ad F3 L3 A3 B3) H → va_D Af (wM cA ad F3 L3 A3 B3) → va_S Af s.heap H locs → lv_has ls 4 [(0, .ref (ad 0)), (1, .int a1)] → W p l e rm_X12_grows_0 s m args below meth c H locs 0 0 Q (F0 m 2 ls []) := by
    intro n2
    induction n2 with
    | zero =>
      intro _ _ _ _ _ _ _ _ hn
      exact absurd hn (Nat.not_lt_zero _)
    | succ n2 ih2 =>
      intro a1 F3 L3 A3 B3 H locs ls hn2 r2 hq k4 v5 hP hD hS hl
      refine lv_iload_n hx hb dX12_grows_2 rfl (lv_at hl 1 rfl) ?_
      refine lv_bipush (v := 22) hx hb dX12_grows_3 (by decide) ?_
      refine lv_icmp_ge (tgt := 21) hx hb dX12_grows_5 (by decide) (fun c6 => ?_) (fun c6 => ?_)
      · skip
        have r7 : rg a1 22 22 := rg_le2 (iE c6) ((rg_k (by decide)) : rg 22 22 22) (r2 : rg a1 0 22)
        refine lv_iconst (v := 1) hx hb dX12_grows_21 (by decide) ?_
        refine lv_istore_n (lv' := [(1, .int 1), (0, .ref (ad 0))]) hx hb dX12_grows_22 rfl hl (by decide) rfl (fun ls hl => ?_)
        refine lv_aload_n hx hb dX12_grows_23 rfl (lv_at hl 1 rfl) ?_
        refine va_get (ci := 12) (v := .ref (ad 25)) (C := RX12) (T := TX12) (N := 57) hx hb hg inX12 hown hK hP 0 atM_0 rfl 37 (by decide) (hg _ mw_1145) (fun _ h9 => h9) rfl dX12_grows_24 ?_
        refine lv_iconst (v := 0) hx hb dX12_grows_27 (by decide) ?_
        refine lv_bipush (v := 20) hx hb dX12_grows_28 (by decide) ?_
        refine va_iast hx hb hK hP hD hS 25 24 atM_25 tyM_25 (in_rg ((rg_k (by decide)) : rg 0 0 0) (by decide)) dX12_grows_30 (fun H locs hP hD hS => ?_)
        have hq := hq.ast 25 ((0 : Int32)).toNatClampNeg (x := 20) (by decide) (rg_k (by decide))
        rw [setM_25] at hP hD
        have k9 : (20 : Int32) = (va_up A3 25 (upd (A3 25) ((0 : Int32)).toNatClampNeg 20)) 25 ((0 : Int32)).toNatClampNeg := (rdA).symm
        refine lv_aload_n hx hb dX12_grows_31 rfl (lv_at hl 1 rfl) ?_
        refine va_get (ci := 12) (v := .ref (ad 24)) (C := RX12) (T := TX12) (N := 57) hx hb hg inX12 hown hK hP 0 atM_0 rfl 36 (by decide) (hg _ mw_1144) (fun _ h9 => h9) rfl dX12_grows_32 ?_
        refine lv_bipush (v := 20) hx hb dX12_grows_35 (by decide) ?_
        refine lv_bipush (v := 20) hx hb dX12_grows_37 (by decide) ?_
        refine va_iast hx hb hK hP hD hS 24 23 atM_24 tyM_24 (in_rg ((rg_k (by decide)) : rg 20 20 20) (by decide)) dX12_grows_39 (fun H locs hP hD hS => ?_)
        have hq := hq.ast 24 ((20 : Int32)).toNatClampNeg (x := 20) (by decide) (rg_k (by decide))
        rw [setM_24] at hP hD
        have k10 : (20 : Int32) = (va_up (va_up A3 25 (upd (A3 25) ((0 : Int32)).toNatClampNeg 20)) 24 (upd ((va_up A3 25 (upd (A3 25) ((0 : Int32)).toNatClampNeg 20)) 24) ((20 : Int32)).toNatClampNeg 20)) 24 ((20 : Int32)).toNatClampNeg := (rdA).symm
        refine lv_iconst (v := 0) hx hb dX12_grows_40 (by decide) ?_
        refine lv_istore_n (lv' := [(2, .int 0), (1, .int 1), (0, .ref (ad 0))]) hx hb dX12_grows_41 rfl hl (by decide) rfl (fun ls hl => ?_)
        have J42 : ∀ (n42 : Nat) (a11 : Int32) (a13 : Int32) (F15 : Nat → Int32) (L15 : Nat → Int64) (A15 : Nat → Nat → Int32) (B15 : Nat → Nat → Int64) (H : Heap) (locs : List Loc) (ls : Array Slot), (22 - a13.toInt).toNat < n42 → rg a11 1 22 → rg a13 0 22 → qM [] [23, 24, 25] F A F15 A15 → A15 23 = A 23 → (bq_ (A15 24) (A15 25) a11) → va_P D classes (wM cA ad F15 L15 A15 B15) H → va_D Af (wM cA ad F15 L15 A15 B15) → va_S Af s.heap H locs → lv_has ls 4 [(0, .ref (ad 0)), (1, .int a11), (2, .int a13)] → W p l e rm_X12_grows_0 s m args below meth c H locs 0 0 Q (F0 m 42 ls []) := by
          intro n42
          induction n42 with
          | zero =>
            intro _ _ _ _ _ _ _ _ _ hn
            exact absurd hn (Nat.not_lt_zero _)
          | succ n42 ih42 =>
            intro a11 a13 F15 L15 A15 B15 H locs ls hn42 r12 r14 hq k16 v17 hP hD hS hl
            refine lv_iload_n hx hb dX12_grows_42 rfl (lv_at hl 2 rfl) ?_
            refine lv_iload_n hx hb dX12_grows_43 rfl (lv_at hl 1 rfl) ?_
            have J130 : ∀ (F18 : Nat → Int32) (L18 : Nat → Int64) (A18 : Nat → Nat → Int32) (B18 : Nat → Nat → Int64) (H : Heap) (locs : List Loc) (ls : Array Slot), qM [] [23, 24, 25] F A F18 A18 → A18 23 = A 23 → (∃ ρ : Nat → Nat, bfs (A18 24) ρ) → va_P D classes (wM cA ad F18 L18 A18 B18) H → va_D Af (wM cA ad F18 L18 A18 B18) → va_S Af s.heap H locs → lv_has ls 4 [(0, .ref (ad 0))] → W p l e rm_X12_grows_0 s m args below meth c H locs 0 0 Q (F0 m 130 ls []) := by
              intro F18 L18 A18 B18 H locs ls hq k19 v20 hP hD hS hl
              refine lv_aload_n hx hb dX12_grows_130 rfl (lv_at hl 0 rfl) ?_
              refine va_get (ci := 12) (v := .ref (ad 24)) (C := RX12) (T := TX12) (N := 57) hx hb hg inX12 hown hK hP 0 atM_0 rfl 36 (by decide) (hg _ mw_1144) (fun _ h9 => h9) rfl dX12_grows_131 ?_
              refine lv_bipush (v := 21) hx hb dX12_grows_134 (by decide) ?_
              refine va_iald hx hb hK hP 24 23 atM_24 tyM_24 (in_rg ((rg_k (by decide)) : rg 21 21 21) (by decide)) dX12_grows_136 ?_
              refine lv_topi (fun x21 e22 => ?_)
              have r23 : rg x21 (-1) 21 := rg_e e22 (hq.1.2 24 _)
              refine lv_if_ge (tgt := 142) hx hb dX12_grows_137 (by decide) (fun c24 => ?_) (fun c24 => ?_)
              · skip
                have r25 : rg x21 0 21 := rg_le2 (iE c24) ((rg_k (by decide)) : rg 0 0 0) (r23 : rg x21 (-1) 21)
                obtain ⟨ρ, hρ⟩ := v20
                have hcf : ∀ v : Nat, rg (A18 24 v) (-1) 21 := fun v => (hq.1.2 24 v : rg _ (-1) 21)
                refine lv_aload_n hx hb dX12_grows_142 rfl (lv_at hl 0 rfl) ?_
                refine va_get (ci := 12) (v := .ref (ad 23)) (C := RX12) (T := TX12) (N := 57) hx hb hg inX12 hown hK hP 0 atM_0 rfl 35 (by decide) (hg _ mw_1143) (fun _ h9 => h9) rfl dX12_grows_143 ?_
                refine lv_bipush (v := 22) hx hb dX12_grows_146 (by decide) ?_
                refine lv_aload_n hx hb dX12_grows_148 rfl (lv_at hl 0 rfl) ?_
                refine va_get (ci := 12) (v := .ref (ad 24)) (C := RX12) (T := TX12) (N := 57) hx hb hg inX12 hown hK hP 0 atM_0 rfl 36 (by decide) (hg _ mw_1144) (fun _ h9 => h9) rfl dX12_grows_149 ?_
                refine lv_bipush (v := 21) hx hb dX12_grows_152 (by decide) ?_
                refine va_iald hx hb hK hP 24 23 atM_24 tyM_24 (in_rg ((rg_k (by decide)) : rg 21 21 21) (by decide)) dX12_grows_154 ?_
                refine tope (e22) ?_
                refine lv_imul hx hb dX12_grows_155 ?_
                refine lv_topi (fun x27 e28 => ?_)
                have r29 : rg x27 0 462 := rg_mul e28 ((rg_k (by decide)) : rg 22 22 22) r25 (by decide)
                refine lv_bipush (v := 21) hx hb dX12_grows_156 (by decide) ?_
                refine lv_iadd hx hb dX12_grows_158 ?_
                refine lv_topi (fun x30 e31 => ?_)
                have r32 : rg x30 21 483 := rg_add e31 r29 ((rg_k (by decide)) : rg 21 21 21) (by decide)
                refine va_iald hx hb hK hP 23 22 atM_23 tyM_23 (in_rg r32 (by decide)) dX12_grows_159 ?_
                refine lv_topi (fun x33 e34 => ?_)
                refine lv_istore_n (lv' := [(2, .int x33), (0, .ref (ad 0))]) hx hb dX12_grows_160 rfl hl (by decide) rfl (fun ls hl => ?_)
                refine lv_aload_n hx hb dX12_grows_161 rfl (lv_at hl 1 rfl) ?_
                refine va_get (ci := 12) (v := .ref (ad 24)) (C := RX12) (T := TX12) (N := 57) hx hb hg inX12 hown hK hP 0 atM_0 rfl 36 (by decide) (hg _ mw_1144) (fun _ h9 => h9) rfl dX12_grows_162 ?_
                refine lv_bipush (v := 21) hx hb dX12_grows_165 (by decide) ?_
                refine va_iald hx hb hK hP 24 23 atM_24 tyM_24 (in_rg ((rg_k (by decide)) : rg 21 21 21) (by decide)) dX12_grows_167 ?_
                refine tope (e22) ?_
                refine lv_istore_n (lv' := [(3, .int x21), (2, .int x33), (0, .ref (ad 0))]) hx hb dX12_grows_168 rfl hl (by decide) rfl (fun ls hl => ?_)
                have J169 : ∀ (n169 : Nat) (a35 : Int32) (a36 : Int32) (F38 : Nat → Int32) (L38 : Nat → Int64) (A38 : Nat → Nat → Int32) (B38 : Nat → Nat → Int64) (H : Heap) (locs : List Loc) (ls : Array Slot), ρ a36.toNatClampNeg < n169 → rg a36 0 21 → qM [] [23, 24, 25] F A F38 A38 → A38 23 = A 23 → (A38 24 = (A18 24) ∧ 0 ≤ ((A18 24) a36.toNatClampNeg).toInt ∧ ∃ S : Nat → Prop, pth (A18 24) (A 23) S a35 a36) → va_P D classes (wM cA ad F38 L38 A38 B38) H → va_D Af (wM cA ad F38 L38 A38 B38) → va_S Af s.heap H locs → lv_has ls 4 [(0, .ref (ad 0)), (2, .int a35), (3, .int a36)] → W p l e rm_X12_grows_0 s m args below meth c H locs 0 0 Q (F0 m 169 ls []) := by
                  intro n169
                  induction n169 with
                  | zero =>
                    intro _ _ _ _ _ _ _ _ _ hn
                    exact absurd hn (Nat.not_lt_zero _)
                  | succ n169 ih169 =>
                    intro a35 a36 F38 L38 A38 B38 H locs ls hn169 r37 hq k39 v40 hP hD hS hl
                    refine lv_iload_n hx hb dX12_grows_169 rfl (lv_at hl 2 rfl) ?_
                    refine lv_bipush (v := 20) hx hb dX12_grows_170 (by decide) ?_
                    refine lv_icmp_eq (tgt := 222) hx hb dX12_grows_172 (by decide) (fun c41 => ?_) (fun c41 => ?_)
                    · skip
                      have r42 : rg a36 20 20 := rg_eq1 c41 (r37 : rg a36 0 21) ((rg_k (by decide)) : rg 20 20 20) (by decide)
                      obtain ⟨S, hSp⟩ := v40.2.2
                      have v21 : 0 ≤ ((A18 24) (21 : Int32).toNatClampNeg).toInt := by rw [← e22]; exact (r25 : rg x21 0 21).1
                      refine lv_bipush (v := 21) hx hb dX12_grows_222 (by decide) ?_
                      refine lv_istore_n (lv' := [(3, .int 21), (0, .ref (ad 0)), (2, .int a35)]) hx hb dX12_grows_224 rfl hl (by decide) rfl (fun ls hl => ?_)
                      have J225 : ∀ (n225 : Nat) (a43 : Int32) (F45 : Nat → Int32) (L45 : Nat → Int64) (A45 : Nat → Nat → Int32) (B45 : Nat → Nat → Int64) (H : Heap) (locs : List Loc) (ls : Array Slot), ρ a43.toNatClampNeg < n225 → rg a43 0 21 → qM [] [23, 24, 25] F A F45 A45 → (A45 24 = (A18 24) ∧ 0 ≤ ((A18 24) a43.toNatClampNeg).toInt ∧ tkI (A18 24) (A 23) (A45 23) S a35 a43) → va_P D classes (wM cA ad F45 L45 A45 B45) H → va_D Af (wM cA ad F45 L45 A45 B45) → va_S Af s.heap H locs → lv_has ls 4 [(0, .ref (ad 0)), (2, .int a35), (3, .int a43)] → W p l e rm_X12_grows_0 s m args below meth c H locs 0 0 Q (F0 m 225 ls []) := by
                        intro n225
                        induction n225 with
                        | zero =>
                          intro _ _ _ _ _ _ _ _ hn
                          exact absurd hn (Nat.not_lt_zero _)
                        | succ n225 ih225 =>
                          intro a43 F45 L45 A45 B45 H locs ls hn225 r44 hq v46 hP hD hS hl
                          refine lv_iload_n hx hb dX12_grows_225 rfl (lv_at hl 2 rfl) ?_
                          refine lv_bipush (v := 20) hx hb dX12_grows_226 (by decide) ?_
                          refine lv_icmp_eq (tgt := 281) hx hb dX12_grows_228 (by decide) (fun c47 => ?_) (fun c47 => ?_)
                          · skip
                            have r48 : rg a43 20 20 := rg_eq1 c47 (r44 : rg a43 0 21) ((rg_k (by decide)) : rg 20 20 20) (by decide)
                            refine lv_iload_n hx hb dX12_grows_281 rfl (lv_at hl 1 rfl) ?_
                            exact hret (a35) (F45, L45, A45, B45) H locs 282 ls rfl dX12_grows_282 hP hD hS ⟨hq, (v46.2.2.elim (fun h9 => absurd c47 h9.1) (fun h9 => h9.2))⟩
                          · skip
                            refine lv_aload_n hx hb dX12_grows_231 rfl (lv_at hl 0 rfl) ?_
                            refine va_get (ci := 12) (v := .ref (ad 23)) (C := RX12) (T := TX12) (N := 57) hx hb hg inX12 hown hK hP 0 atM_0 rfl 35 (by decide) (hg _ mw_1143) (fun _ h9 => h9) rfl dX12_grows_232 ?_
                            refine lv_bipush (v := 22) hx hb dX12_grows_235 (by decide) ?_
                            refine lv_aload_n hx hb dX12_grows_237 rfl (lv_at hl 0 rfl) ?_
                            refine va_get (ci := 12) (v := .ref (ad 24)) (C := RX12) (T := TX12) (N := 57) hx hb hg inX12 hown hK hP 0 atM_0 rfl 36 (by decide) (hg _ mw_1144) (fun _ h9 => h9) rfl dX12_grows_238 ?_
                            refine lv_iload_n hx hb dX12_grows_241 rfl (lv_at hl 2 rfl) ?_
                            refine va_iald hx hb hK hP 24 23 atM_24 tyM_24 (in_rg r44 (by decide)) dX12_grows_242 ?_
                            refine lv_topi (fun x49 e50 => ?_)
                            have r51 : rg x49 0 21 := (by rw [e50, v46.1]; exact ⟨v46.2.1, (hcf _).2⟩)
                            refine lv_imul hx hb dX12_grows_243 ?_
                            refine lv_topi (fun x52 e53 => ?_)
                            have r54 : rg x52 0 462 := rg_mul e53 ((rg_k (by decide)) : rg 22 22 22) r51 (by decide)
                            refine lv_iload_n hx hb dX12_grows_244 rfl (lv_at hl 2 rfl) ?_
                            refine lv_iadd hx hb dX12_grows_245 ?_
                            refine lv_topi (fun x55 e56 => ?_)
                            have r57 : rg x55 0 483 := rg_add e56 r54 r44 (by decide)
                            refine lv_dup2_11 hx hb dX12_grows_246 rfl rfl ?_
                            refine va_iald hx hb hK hP 23 22 atM_23 tyM_23 (in_rg r57 (by decide)) dX12_grows_247 ?_
                            refine lv_topi (fun x58 e59 => ?_)
                            refine lv_iload_n hx hb dX12_grows_248 rfl (lv_at hl 1 rfl) ?_
                            refine lv_isub hx hb dX12_grows_249 ?_
                            refine lv_topi (fun x60 e61 => ?_)
                            refine va_iast hx hb hK hP hD hS 23 22 atM_23 tyM_23 (in_rg r57 (by decide)) dX12_grows_250 (fun H locs hP hD hS => ?_)
                            have hq := hq.ast 23 (x55).toNatClampNeg (x := x60) (by decide) (rg_top _)
                            rw [setM_23] at hP hD
                            have k62 : x60 = (va_up A45 23 (upd (A45 23) (x55).toNatClampNeg x60)) 23 (x55).toNatClampNeg := (rdA).symm
                            refine lv_aload_n hx hb dX12_grows_251 rfl (lv_at hl 0 rfl) ?_
                            refine va_get (ci := 12) (v := .ref (ad 23)) (C := RX12) (T := TX12) (N := 57) hx hb hg inX12 hown hK hP 0 atM_0 rfl 35 (by decide) (hg _ mw_1143) (fun _ h9 => h9) rfl dX12_grows_252 ?_
                            refine lv_bipush (v := 22) hx hb dX12_grows_255 (by decide) ?_
                            refine lv_iload_n hx hb dX12_grows_257 rfl (lv_at hl 2 rfl) ?_
                            refine lv_imul hx hb dX12_grows_258 ?_
                            refine lv_topi (fun x63 e64 => ?_)
                            have r65 : rg x63 0 462 := rg_mul e64 ((rg_k (by decide)) : rg 22 22 22) r44 (by decide)
                            refine lv_aload_n hx hb dX12_grows_259 rfl (lv_at hl 0 rfl) ?_
                            refine va_get (ci := 12) (v := .ref (ad 24)) (C := RX12) (T := TX12) (N := 57) hx hb hg inX12 hown hK hP 0 atM_0 rfl 36 (by decide) (hg _ mw_1144) (fun _ h9 => h9) rfl dX12_grows_260 ?_
                            refine lv_iload_n hx hb dX12_grows_263 rfl (lv_at hl 2 rfl) ?_
                            refine va_iald hx hb hK hP 24 23 atM_24 tyM_24 (in_rg r44 (by decide)) dX12_grows_264 ?_
                            refine tope (mv (by decide) (e50)) ?_
                            refine lv_iadd hx hb dX12_grows_265 ?_
                            refine lv_topi (fun x66 e67 => ?_)
                            have r68 : rg x66 0 483 := rg_add e67 r65 r51 (by decide)
                            refine lv_dup2_11 hx hb dX12_grows_266 rfl rfl ?_
                            refine va_iald hx hb hK hP 23 22 atM_23 tyM_23 (in_rg r68 (by decide)) dX12_grows_267 ?_
                            refine lv_topi (fun x69 e70 => ?_)
                            refine lv_iload_n hx hb dX12_grows_268 rfl (lv_at hl 1 rfl) ?_
                            refine lv_iadd hx hb dX12_grows_269 ?_
                            refine lv_topi (fun x71 e72 => ?_)
                            refine va_iast hx hb hK hP hD hS 23 22 atM_23 tyM_23 (in_rg r68 (by decide)) dX12_grows_270 (fun H locs hP hD hS => ?_)
                            have hq := hq.ast 23 (x66).toNatClampNeg (x := x71) (by decide) (rg_top _)
                            rw [setM_23] at hP hD
                            have k73 : x71 = (va_up (va_up A45 23 (upd (A45 23) (x55).toNatClampNeg x60)) 23 (upd ((va_up A45 23 (upd (A45 23) (x55).toNatClampNeg x60)) 23) (x66).toNatClampNeg x71)) 23 (x66).toNatClampNeg := (rdA).symm
                            refine lv_aload_n hx hb dX12_grows_271 rfl (lv_at hl 0 rfl) ?_
                            refine va_get (ci := 12) (v := .ref (ad 24)) (C := RX12) (T := TX12) (N := 57) hx hb hg inX12 hown hK hP 0 atM_0 rfl 36 (by decide) (hg _ mw_1144) (fun _ h9 => h9) rfl dX12_grows_272 ?_
                            refine lv_iload_n hx hb dX12_grows_275 rfl (lv_at hl 2 rfl) ?_
                            refine va_iald hx hb hK hP 24 23 atM_24 tyM_24 (in_rg r44 (by decide)) dX12_grows_276 ?_
                            refine tope (mv (by decide) (mv (by decide) (e50))) ?_
                            refine lv_istore_n (lv' := [(3, .int x49), (0, .ref (ad 0)), (2, .int a35)]) hx hb dX12_grows_277 rfl hl (by decide) rfl (fun ls hl => ?_)
                            have c242 := e50.trans (congrFun v46.1 _)
                            have vn := vis_next2 hρ (r44 : rg a43 0 21) v46.2.1 c47 c242
                            have w225 : (va_up (va_up A45 23 (upd (A45 23) (x55).toNatClampNeg x60)) 23 (upd ((va_up A45 23 (upd (A45 23) (x55).toNatClampNeg x60)) 23) (x66).toNatClampNeg x71)) 24 = (A18 24) ∧ 0 ≤ ((A18 24) x49.toNatClampNeg).toInt ∧ tkI (A18 24) (A 23) ((va_up (va_up A45 23 (upd (A45 23) (x55).toNatClampNeg x60)) 23 (upd ((va_up A45 23 (upd (A45 23) (x55).toNatClampNeg x60)) 23) (x66).toNatClampNeg x71)) 23) S a35 x49 := ⟨v46.1, vn.1, by rw [va_us]; exact tk_step hSp c41 v46.2.2 (r44 : rg a43 0 21) c47 c242 (r51 : rg x49 0 21) e53 e56 e59 e61 e64 e67 e70 e72 rfl⟩
                            refine lv_goto (tgt := 225) hx hb dX12_grows_278 (by decide) ?_
                            exact ih225 (x49) (F45) (L45) ((va_up (va_up A45 23 (upd (A45 23) (x55).toNatClampNeg x60)) 23 (upd ((va_up A45 23 (upd (A45 23) (x55).toNatClampNeg x60)) 23) (x66).toNatClampNeg x71))) (B45) H locs ls (Nat.lt_of_lt_of_le vn.2 (Nat.le_of_lt_succ hn225)) r51 hq w225 hP hD hS (lv_sub hl [1, 2, 0] rfl)
                      exact J225 _ (21) (F38) (L38) (A38) (B38) H locs ls (Nat.lt_succ_self _) (rg_k (by decide)) hq ⟨v40.1, v21, Or.inl ⟨by decide, hSp.1, fun m _ => congrFun k39 _⟩⟩ hP hD hS (lv_sub hl [1, 2, 0] rfl)
                    · skip
                      refine lv_aload_n hx hb dX12_grows_175 rfl (lv_at hl 0 rfl) ?_
                      refine va_get (ci := 12) (v := .ref (ad 23)) (C := RX12) (T := TX12) (N := 57) hx hb hg inX12 hown hK hP 0 atM_0 rfl 35 (by decide) (hg _ mw_1143) (fun _ h9 => h9) rfl dX12_grows_176 ?_
                      refine lv_bipush (v := 22) hx hb dX12_grows_179 (by decide) ?_
                      refine lv_aload_n hx hb dX12_grows_181 rfl (lv_at hl 0 rfl) ?_
                      refine va_get (ci := 12) (v := .ref (ad 24)) (C := RX12) (T := TX12) (N := 57) hx hb hg inX12 hown hK hP 0 atM_0 rfl 36 (by decide) (hg _ mw_1144) (fun _ h9 => h9) rfl dX12_grows_182 ?_
                      refine lv_iload_n hx hb dX12_grows_185 rfl (lv_at hl 2 rfl) ?_
                      refine va_iald hx hb hK hP 24 23 atM_24 tyM_24 (in_rg r37 (by decide)) dX12_grows_186 ?_
                      refine lv_topi (fun x74 e75 => ?_)
                      have r76 : rg x74 0 21 := (by rw [e75, v40.1]; exact ⟨v40.2.1, (hcf _).2⟩)
                      refine lv_imul hx hb dX12_grows_187 ?_
                      refine lv_topi (fun x77 e78 => ?_)
                      have r79 : rg x77 0 462 := rg_mul e78 ((rg_k (by decide)) : rg 22 22 22) r76 (by decide)
                      refine lv_iload_n hx hb dX12_grows_188 rfl (lv_at hl 2 rfl) ?_
                      refine lv_iadd hx hb dX12_grows_189 ?_
                      refine lv_topi (fun x80 e81 => ?_)
                      have r82 : rg x80 0 483 := rg_add e81 r79 r37 (by decide)
                      refine va_iald hx hb hK hP 23 22 atM_23 tyM_23 (in_rg r82 (by decide)) dX12_grows_190 ?_
                      refine lv_topi (fun x83 e84 => ?_)
                      have l190a := (e84.trans (congrFun k39 _))
                      refine lv_iload_n hx hb dX12_grows_191 rfl (lv_at hl 1 rfl) ?_
                      have J212 : ∀ (a85 : Int32) (F86 : Nat → Int32) (L86 : Nat → Int64) (A86 : Nat → Nat → Int32) (B86 : Nat → Nat → Int64) (H : Heap) (locs : List Loc) (ls : Array Slot), qM [] [23, 24, 25] F A F86 A86 → A86 23 = A 23 → (A86 24 = (A18 24) ∧ ∃ S : Nat → Prop, pth (A18 24) (A 23) S a85 a36 ∧ a85.toInt ≤ x83.toInt) → va_P D classes (wM cA ad F86 L86 A86 B86) H → va_D Af (wM cA ad F86 L86 A86 B86) → va_S Af s.heap H locs → lv_has ls 4 [(0, .ref (ad 0)), (2, .int a85), (3, .int a36)] → W p l e rm_X12_grows_0 s m args below meth c H locs 0 0 Q (F0 m 212 ls []) := by
                        intro a85 F86 L86 A86 B86 H locs ls hq k87 v88 hP hD hS hl
                        refine lv_aload_n hx hb dX12_grows_212 rfl (lv_at hl 0 rfl) ?_
                        refine va_get (ci := 12) (v := .ref (ad 24)) (C := RX12) (T := TX12) (N := 57) hx hb hg inX12 hown hK hP 0 atM_0 rfl 36 (by decide) (hg _ mw_1144) (fun _ h9 => h9) rfl dX12_grows_213 ?_
                        refine lv_iload_n hx hb dX12_grows_216 rfl (lv_at hl 2 rfl) ?_
                        refine va_iald hx hb hK hP 24 23 atM_24 tyM_24 (in_rg r37 (by decide)) dX12_grows_217 ?_
                        refine lv_topi (fun x89 e90 => ?_)
                        have r91 : rg x89 0 21 := (by rw [e90, v88.1]; exact ⟨v40.2.1, (hcf _).2⟩)
                        refine lv_istore_n (lv' := [(3, .int x89), (0, .ref (ad 0)), (2, .int a85)]) hx hb dX12_grows_218 rfl hl (by decide) rfl (fun ls hl => ?_)
                        have c186 := e75.trans (congrFun v40.1 _)
                        have c217 := e90.trans (congrFun v88.1 _)
                        have l190 := l190a
                        have vn := vis_next2 hρ (r37 : rg a36 0 21) v40.2.1 c41 c217
                        have w169 : A86 24 = (A18 24) ∧ 0 ≤ ((A18 24) x89.toNatClampNeg).toInt ∧ ∃ S : Nat → Prop, pth (A18 24) (A 23) S a85 x89 := ⟨v88.1, vn.1, by obtain ⟨S9, h9, h8⟩ := v88.2; exact ⟨_, pth_step h9 (r37 : rg a36 0 21) c41 c186 (r76 : rg x74 0 21) e78 e81 l190 h8 c217⟩⟩
                        refine lv_goto (tgt := 169) hx hb dX12_grows_219 (by decide) ?_
                        exact ih169 (a85) (x89) (F86) (L86) (A86) (B86) H locs ls (Nat.lt_of_lt_of_le vn.2 (Nat.le_of_lt_succ hn169)) r91 hq (k87) w169 hP hD hS (lv_sub hl [1, 2, 0] rfl)
                      refine lv_icmp_ge (tgt := 212) hx hb dX12_grows_192 (by decide) (fun c92 => ?_) (fun c92 => ?_)
                      · skip
                        exact J212 (a35) (F38) (L38) (A38) (B38) H locs ls hq (k39) ⟨v40.1, by obtain ⟨S9, h9⟩ := (v40.2.2); exact ⟨S9, h9, (iE c92)⟩⟩ hP hD hS (lv_sub hl [0, 1, 2] rfl)
                      · skip
                        have r93 : rg x83 (-2147483648) 2147483646 := rg_lt1 (iNE c92) ((rg_top _) : rg x83 (-2147483648) 2147483647) ((rg_top _) : rg a35 (-2147483648) 2147483647)
                        have r94 : rg a35 (-2147483647) 2147483647 := rg_lt2 (iNE c92) ((rg_top _) : rg x83 (-2147483648) 2147483647) ((rg_top _) : rg a35 (-2147483648) 2147483647)
                        refine lv_aload_n hx hb dX12_grows_195 rfl (lv_at hl 0 rfl) ?_
                        refine va_get (ci := 12) (v := .ref (ad 23)) (C := RX12) (T := TX12) (N := 57) hx hb hg inX12 hown hK hP 0 atM_0 rfl 35 (by decide) (hg _ mw_1143) (fun _ h9 => h9) rfl dX12_grows_196 ?_
                        refine lv_bipush (v := 22) hx hb dX12_grows_199 (by decide) ?_
                        refine lv_aload_n hx hb dX12_grows_201 rfl (lv_at hl 0 rfl) ?_
                        refine va_get (ci := 12) (v := .ref (ad 24)) (C := RX12) (T := TX12) (N := 57) hx hb hg inX12 hown hK hP 0 atM_0 rfl 36 (by decide) (hg _ mw_1144) (fun _ h9 => h9) rfl dX12_grows_202 ?_
                        refine lv_iload_n hx hb dX12_grows_205 rfl (lv_at hl 2 rfl) ?_
                        refine va_iald hx hb hK hP 24 23 atM_24 tyM_24 (in_rg r37 (by decide)) dX12_grows_206 ?_
                        refine tope (e75) ?_
                        refine lv_imul hx hb dX12_grows_207 ?_
                        refine tope e78 ?_
                        refine lv_iload_n hx hb dX12_grows_208 rfl (lv_at hl 2 rfl) ?_
                        refine lv_iadd hx hb dX12_grows_209 ?_
                        refine tope e81 ?_
                        refine va_iald hx hb hK hP 23 22 atM_23 tyM_23 (in_rg r82 (by decide)) dX12_grows_210 ?_
                        refine tope (e84) ?_
                        refine lv_istore_n (lv' := [(2, .int x83), (0, .ref (ad 0)), (3, .int a36)]) hx hb dX12_grows_211 rfl hl (by decide) rfl (fun ls hl => ?_)
                        exact J212 (x83) (F38) (L38) (A38) (B38) H locs ls hq (k39) ⟨v40.1, by obtain ⟨S9, h9⟩ := (v40.2.2); exact ⟨S9, pth_le h9 (Int.le_of_lt (iNE c92)), Int.le_refl _⟩⟩ hP hD hS (lv_sub hl [1, 0, 2] rfl)
                exact J169 _ (x33) (x21) (F18) (L18) (A18) (B18) H locs ls (Nat.lt_succ_self _) r25 hq (k19) ⟨rfl, (vis_next hρ (by decide) (by rw [← e22]; exact (r25 : rg x21 0 21).1) (by decide) e22).1, _, pth_0 e22 (r25 : rg x21 0 21) e28 e31 (e34.trans (congrFun k19 _))⟩ hP hD hS (lv_sub hl [2, 1, 0] rfl)
              · skip
                have r26 : rg x21 (-1) (-1) := rg_lt1 (iNE c24) (r23 : rg x21 (-1) 21) ((rg_k (by decide)) : rg 0 0 0)
                refine lv_iconst (v := 0) hx hb dX12_grows_140 (by decide) ?_
                exact hret (0) (F18, L18, A18, B18) H locs 141 ls rfl dX12_grows_141 hP hD hS ⟨hq, (Or.inl (by decide))⟩
            refine lv_icmp_ge (tgt := 130) hx hb dX12_grows_44 (by decide) (fun c95 => ?_) (fun c95 => ?_)
            · skip
              have r96 : rg a13 1 22 := rg_le2 (iE c95) (r12 : rg a11 1 22) (r14 : rg a13 0 22)
              exact J130 (F15) (L15) (A15) (B15) H locs ls hq (k16) v17.1 hP hD hS (lv_sub hl [0] rfl)
            · skip
              have r97 : rg a13 0 21 := rg_lt1 (iNE c95) (r14 : rg a13 0 22) (r12 : rg a11 1 22)
              refine lv_aload_n hx hb dX12_grows_47 rfl (lv_at hl 0 rfl) ?_
              refine va_get (ci := 12) (v := .ref (ad 24)) (C := RX12) (T := TX12) (N := 57) hx hb hg inX12 hown hK hP 0 atM_0 rfl 36 (by decide) (hg _ mw_1144) (fun _ h9 => h9) rfl dX12_grows_48 ?_
              refine lv_bipush (v := 21) hx hb dX12_grows_51 (by decide) ?_
              refine va_iald hx hb hK hP 24 23 atM_24 tyM_24 (in_rg ((rg_k (by decide)) : rg 21 21 21) (by decide)) dX12_grows_53 ?_
              refine lv_topi (fun x98 e99 => ?_)
              have r100 : rg x98 (-1) 21 := rg_e e99 (hq.1.2 24 _)
              refine lv_if_ge (tgt := 130) hx hb dX12_grows_54 (by decide) (fun c101 => ?_) (fun c101 => ?_)
              · skip
                have r102 : rg x98 0 21 := rg_le2 (iE c101) ((rg_k (by decide)) : rg 0 0 0) (r100 : rg x98 (-1) 21)
                exact J130 (F15) (L15) (A15) (B15) H locs ls hq (k16) v17.1 hP hD hS (lv_sub hl [0] rfl)
              · skip
                have r103 : rg x98 (-1) (-1) := rg_lt1 (iNE c101) (r100 : rg x98 (-1) 21) ((rg_k (by decide)) : rg 0 0 0)
                refine lv_iconst (v := 0) hx hb dX12_grows_57 (by decide) ?_
                refine lv_istore_n (lv' := [(3, .int 0), (0, .ref (ad 0)), (1, .int a11), (2, .int a13)]) hx hb dX12_grows_58 rfl hl (by decide) rfl (fun ls hl => ?_)
                have J59 : ∀ (n59 : Nat) (a104 : Int32) (a106 : Int32) (F108 : Nat → Int32) (L108 : Nat → Int64) (A108 : Nat → Nat → Int32) (B108 : Nat → Nat → Int64) (H : Heap) (locs : List Loc) (ls : Array Slot), (22 - a106.toInt).toNat < n59 → rg a104 1 22 → rg a106 0 22 → qM [] [23, 24, 25] F A F108 A108 → A108 23 = A 23 → (bq_ (A108 24) (A108 25) a104 ∧ a13.toInt < a104.toInt) → va_P D classes (wM cA ad F108 L108 A108 B108) H → va_D Af (wM cA ad F108 L108 A108 B108) → va_S Af s.heap H locs → lv_has ls 4 [(0, .ref (ad 0)), (1, .int a104), (2, .int a13), (3, .int a106)] → W p l e rm_X12_grows_0 s m args below meth c H locs 0 0 Q (F0 m 59 ls []) := by
                  intro n59
                  induction n59 with
                  | zero =>
                    intro _ _ _ _ _ _ _ _ _ hn
                    exact absurd hn (Nat.not_lt_zero _)
                  | succ n59 ih59 =>
                    intro a104 a106 F108 L108 A108 B108 H locs ls hn59 r105 r107 hq k109 v110 hP hD hS hl
                    refine lv_iload_n hx hb dX12_grows_59 rfl (lv_at hl 3 rfl) ?_
                    refine lv_bipush (v := 22) hx hb dX12_grows_60 (by decide) ?_
                    refine lv_icmp_ge (tgt := 124) hx hb dX12_grows_62 (by decide) (fun c111 => ?_) (fun c111 => ?_)
                    · skip
                      have r112 : rg a106 22 22 := rg_le2 (iE c111) ((rg_k (by decide)) : rg 22 22 22) (r107 : rg a106 0 22)
                      obtain ⟨x114, e115⟩ : ∃ y : Int32, y = a13 + 1 := ⟨_, rfl⟩
                      have r116 : rg x114 1 22 := rg_add e115 r97 (rg_k (by decide) : rg 1 1 1) (by decide)
                      refine lv_iinc (v := x114) (lv' := [(2, .int x114), (0, .ref (ad 0)), (1, .int a104), (3, .int a106)]) hx hb dX12_grows_124 hl (k := 2) rfl (by rw [e115]; rfl) (by decide) rfl (fun ls hl => ?_)
                      refine lv_goto (tgt := 42) hx hb dX12_grows_127 (by decide) ?_
                      exact ih42 (a104) (x114) (F108) (L108) (A108) (B108) H locs ls (by have h0 : (1 : Int32).toInt = 1 := rfl; have h1 := ti_addk e115 r97 (by decide); have h2 : rg x114 0 22 := (rg_w r116 (by decide)); unfold rg at h2; omega) r105 (rg_w r116 (by decide)) hq (k109) v110.1 hP hD hS (lv_sub hl [1, 2, 0] rfl)
                    · skip
                      have r113 : rg a106 0 21 := rg_lt1 (iNE c111) (r107 : rg a106 0 22) ((rg_k (by decide)) : rg 22 22 22)
                      refine lv_aload_n hx hb dX12_grows_65 rfl (lv_at hl 0 rfl) ?_
                      refine va_get (ci := 12) (v := .ref (ad 24)) (C := RX12) (T := TX12) (N := 57) hx hb hg inX12 hown hK hP 0 atM_0 rfl 36 (by decide) (hg _ mw_1144) (fun _ h9 => h9) rfl dX12_grows_66 ?_
                      refine lv_iload_n hx hb dX12_grows_69 rfl (lv_at hl 3 rfl) ?_
                      refine va_iald hx hb hK hP 24 23 atM_24 tyM_24 (in_rg r113 (by decide)) dX12_grows_70 ?_
                      refine lv_topi (fun x117 e118 => ?_)
                      have r119 : rg x117 (-1) 21 := rg_e e118 (hq.1.2 24 _)
                      have J118 : ∀ (a120 : Int32) (F122 : Nat → Int32) (L122 : Nat → Int64) (A122 : Nat → Nat → Int32) (B122 : Nat → Nat → Int64) (H : Heap) (locs : List Loc) (ls : Array Slot), rg a120 1 22 → qM [] [23, 24, 25] F A F122 A122 → A122 23 = A 23 → (bq_ (A122 24) (A122 25) a120 ∧ a13.toInt < a120.toInt) → va_P D classes (wM cA ad F122 L122 A122 B122) H → va_D Af (wM cA ad F122 L122 A122 B122) → va_S Af s.heap H locs → lv_has ls 4 [(0, .ref (ad 0)), (1, .int a120), (2, .int a13), (3, .int a106)] → W p l e rm_X12_grows_0 s m args below meth c H locs 0 0 Q (F0 m 118 ls []) := by
                        intro a120 F122 L122 A122 B122 H locs ls r121 hq k123 v124 hP hD hS hl
                        obtain ⟨x125, e126⟩ : ∃ y : Int32, y = a106 + 1 := ⟨_, rfl⟩
                        have r127 : rg x125 1 22 := rg_add e126 r113 (rg_k (by decide) : rg 1 1 1) (by decide)
                        refine lv_iinc (v := x125) (lv' := [(3, .int x125), (0, .ref (ad 0)), (1, .int a120), (2, .int a13)]) hx hb dX12_grows_118 hl (k := 3) rfl (by rw [e126]; rfl) (by decide) rfl (fun ls hl => ?_)
                        refine lv_goto (tgt := 59) hx hb dX12_grows_121 (by decide) ?_
                        exact ih59 (a120) (x125) (F122) (L122) (A122) (B122) H locs ls (by have h0 : (1 : Int32).toInt = 1 := rfl; have h1 := ti_addk e126 r113 (by decide); have h2 : rg x125 0 22 := (rg_w r127 (by decide)); unfold rg at h2; omega) r121 (rg_w r127 (by decide)) hq (k123) v124 hP hD hS (lv_sub hl [1, 2, 3, 0] rfl)
                      refine lv_if_ge (tgt := 118) hx hb dX12_grows_71 (by decide) (fun c128 => ?_) (fun c128 => ?_)
                      · skip
                        have r129 : rg x117 0 21 := rg_le2 (iE c128) ((rg_k (by decide)) : rg 0 0 0) (r119 : rg x117 (-1) 21)
                        exact J118 (a104) (F108) (L108) (A108) (B108) H locs ls r105 hq (k109) v110 hP hD hS (lv_sub hl [0, 1, 2, 3] rfl)
                      · skip
                        have r130 : rg x117 (-1) (-1) := rg_lt1 (iNE c128) (r119 : rg x117 (-1) 21) ((rg_k (by decide)) : rg 0 0 0)
                        refine lv_aload_n hx hb dX12_grows_74 rfl (lv_at hl 0 rfl) ?_
                        refine va_get (ci := 12) (v := .ref (ad 23)) (C := RX12) (T := TX12) (N := 57) hx hb hg inX12 hown hK hP 0 atM_0 rfl 35 (by decide) (hg _ mw_1143) (fun _ h9 => h9) rfl dX12_grows_75 ?_
                        refine lv_bipush (v := 22) hx hb dX12_grows_78 (by decide) ?_
                        refine lv_aload_n hx hb dX12_grows_80 rfl (lv_at hl 0 rfl) ?_
                        refine va_get (ci := 12) (v := .ref (ad 25)) (C := RX12) (T := TX12) (N := 57) hx hb hg inX12 hown hK hP 0 atM_0 rfl 37 (by decide) (hg _ mw_1145) (fun _ h9 => h9) rfl dX12_grows_81 ?_
                        refine lv_iload_n hx hb dX12_grows_84 rfl (lv_at hl 2 rfl) ?_
                        refine va_iald hx hb hK hP 25 24 atM_25 tyM_25 (in_rg r97 (by decide)) dX12_grows_85 ?_
                        refine lv_topi (fun x131 e132 => ?_)
                        have r133 : rg x131 0 21 := rg_e e132 (hq.1.2 25 _)
                        refine lv_imul hx hb dX12_grows_86 ?_
                        refine lv_topi (fun x134 e135 => ?_)
                        have r136 : rg x134 0 462 := rg_mul e135 ((rg_k (by decide)) : rg 22 22 22) r133 (by decide)
                        refine lv_iload_n hx hb dX12_grows_87 rfl (lv_at hl 3 rfl) ?_
                        refine lv_iadd hx hb dX12_grows_88 ?_
                        refine lv_topi (fun x137 e138 => ?_)
                        have r139 : rg x137 0 483 := rg_add e138 r136 r113 (by decide)
                        refine va_iald hx hb hK hP 23 22 atM_23 tyM_23 (in_rg r139 (by decide)) dX12_grows_89 ?_
                        refine lv_topi (fun x140 e141 => ?_)
                        refine lv_if_ne (tgt := 96) hx hb dX12_grows_90 (by decide) (fun c142 => ?_) (fun c142 => ?_)
                        · skip
                          have hun : (A108 24 a106.toNatClampNeg).toInt < 0 := (by rw [← e118]; have := (iNE c128); have : (0 : Int32).toInt = 0 := rfl; omega)
                          have hmany := bq_many v110.1 (r113 : rg a106 0 21) hun
                          have hcf : ∀ v : Nat, rg (A108 24 v) (-1) 21 := fun v => (hq.1.2 24 v : rg _ (-1) 21)
                          have hqq : ∀ v : Nat, rg (A108 25 v) 0 21 := fun v => (hq.1.2 25 v : rg _ 0 21)
                          refine lv_aload_n hx hb dX12_grows_96 rfl (lv_at hl 0 rfl) ?_
                          refine va_get (ci := 12) (v := .ref (ad 24)) (C := RX12) (T := TX12) (N := 57) hx hb hg inX12 hown hK hP 0 atM_0 rfl 36 (by decide) (hg _ mw_1144) (fun _ h9 => h9) rfl dX12_grows_97 ?_
                          refine lv_iload_n hx hb dX12_grows_100 rfl (lv_at hl 3 rfl) ?_
                          refine lv_aload_n hx hb dX12_grows_101 rfl (lv_at hl 0 rfl) ?_
                          refine va_get (ci := 12) (v := .ref (ad 25)) (C := RX12) (T := TX12) (N := 57) hx hb hg inX12 hown hK hP 0 atM_0 rfl 37 (by decide) (hg _ mw_1145) (fun _ h9 => h9) rfl dX12_grows_102 ?_
                          refine lv_iload_n hx hb dX12_grows_105 rfl (lv_at hl 2 rfl) ?_
                          refine va_iald hx hb hK hP 25 24 atM_25 tyM_25 (in_rg r97 (by decide)) dX12_grows_106 ?_
                          refine tope (e132) ?_
                          refine va_iast hx hb hK hP hD hS 24 23 atM_24 tyM_24 (in_rg r113 (by decide)) dX12_grows_107 (fun H locs hP hD hS => ?_)
                          have hq := hq.ast 24 (a106).toNatClampNeg (x := x131) (by decide) (rg_w r133 (by decide))
                          rw [setM_24] at hP hD
                          have k144 : x131 = (va_up A108 24 (upd (A108 24) (a106).toNatClampNeg x131)) 24 (a106).toNatClampNeg := (rdA).symm
                          refine lv_aload_n hx hb dX12_grows_108 rfl (lv_at hl 0 rfl) ?_
                          refine va_get (ci := 12) (v := .ref (ad 25)) (C := RX12) (T := TX12) (N := 57) hx hb hg inX12 hown hK hP 0 atM_0 rfl 37 (by decide) (hg _ mw_1145) (fun _ h9 => h9) rfl dX12_grows_109 ?_
                          refine lv_iload_n hx hb dX12_grows_112 rfl (lv_at hl 1 rfl) ?_
                          refine lv_iload_n hx hb dX12_grows_113 rfl (lv_at hl 3 rfl) ?_
                          refine va_iast hx hb hK hP hD hS 25 24 atM_25 tyM_25 (in_rg (⟨hmany.1, hmany.2⟩ : rg a104 0 21) (by decide)) dX12_grows_114 (fun H locs hP hD hS => ?_)
                          have hq := hq.ast 25 (a104).toNatClampNeg (x := a106) (by decide) r113
                          rw [setM_25] at hP hD
                          have k145 : a106 = (va_up (va_up A108 24 (upd (A108 24) (a106).toNatClampNeg x131)) 25 (upd ((va_up A108 24 (upd (A108 24) (a106).toNatClampNeg x131)) 25) (a104).toNatClampNeg a106)) 25 (a104).toNatClampNeg := (rdA).symm
                          obtain ⟨x146, e147⟩ : ∃ y : Int32, y = a104 + 1 := ⟨_, rfl⟩
                          have r148 : rg x146 1 22 := (by have h9 := (inc_nat (⟨hmany.1, hmany.2⟩ : rg a104 0 21) (by decide) e147).2; exact ⟨by omega, by omega⟩)
                          refine lv_iinc (v := x146) (lv' := [(1, .int x146), (0, .ref (ad 0)), (2, .int a13), (3, .int a106)]) hx hb dX12_grows_115 hl (k := 1) rfl (by rw [e147]; rfl) (by decide) rfl (fun ls hl => ?_)
                          exact J118 (x146) (F108) (L108) ((va_up (va_up A108 24 (upd (A108 24) (a106).toNatClampNeg x131)) 25 (upd ((va_up A108 24 (upd (A108 24) (a106).toNatClampNeg x131)) 25) (a104).toNatClampNeg a106))) (B108) H locs ls r148 hq (k109) ⟨bq_push v110.1 hcf hqq (r113 : rg a106 0 21) (r97 : rg a13 0 21) v110.2 hun e132 e147, (by have h9 := (inc_nat (⟨hmany.1, hmany.2⟩ : rg a104 0 21) (by decide) e147).2; have := v110.2; omega)⟩ hP hD hS (lv_sub hl [1, 0, 2, 3] rfl)
                        · skip
                          have r143 : rg x140 0 0 := rg_eq1 c142 ((rg_top _) : rg x140 (-2147483648) 2147483647) ((rg_k (by decide)) : rg 0 0 0) (by decide)
                          refine lv_goto (tgt := 118) hx hb dX12_grows_93 (by decide) ?_
                          exact J118 (a104) (F108) (L108) (A108) (B108) H locs ls r105 hq (k109) v110 hP hD hS (lv_sub hl [0, 1, 2, 3] rfl)
                exact J59 _ (a11) (0) (F15) (L15) (A15) (B15) H locs ls (Nat.lt_succ_self _) r12 (rg_k (by decide)) hq (k16) ⟨v17, (iNE c95)⟩ hP hD hS (lv_sub hl [1, 2, 3, 0] rfl)
        exact J42 _ (1) (0) (F3) (L3) ((va_up (va_up A3 25 (upd (A3 25) ((0 : Int32)).toNatClampNeg 20)) 24 (upd ((va_up A3 25 (upd (A3 25) ((0 : Int32)).toNatClampNeg 20)) 24) ((20 : Int32)).toNatClampNeg 20))) (B3) H locs ls (Nat.lt_succ_self _) (rg_k (by decide)) (rg_k (by decide)) hq (k4) (by rw [va_us]; exact bq_init v5 (by have := (r7 : rg a1 22 22).1; omega)) hP hD hS (lv_sub hl [2, 1, 0] rfl)
      · skip
        have r8 : rg a1 0 21 := rg_lt1 (iNE c6) (r2 : rg a1 0 22) ((rg_k (by decide)) : rg 22 22 22)
        refine lv_aload_n hx hb dX12_grows_8 rfl (lv_at hl 0 rfl) ?_
        refine va_get (ci := 12) (v := .ref (ad 24)) (C := RX12) (T := TX12) (N := 57) hx hb hg inX12 hown hK hP 0 atM_0 rfl 36 (by decide) (hg _ mw_1144) (fun _ h9 => h9) rfl dX12_grows_9 ?_
        refine lv_iload_n hx hb dX12_grows_12 rfl (lv_at hl 1 rfl) ?_
        refine lv_iconst (v := (-1)) hx hb dX12_grows_13 (by decide) ?_
        refine va_iast hx hb hK hP hD hS 24 23 atM_24 tyM_24 (in_rg r8 (by decide)) dX12_grows_14 (fun H locs hP hD hS => ?_)
        have hq := hq.ast 24 (a1).toNatClampNeg (x := (-1)) (by decide) (rg_k (by decide))
        rw [setM_24] at hP hD
        have k149 : ((-1) : Int32) = (va_up A3 24 (upd (A3 24) (a1).toNatClampNeg (-1))) 24 (a1).toNatClampNeg := (rdA).symm
        obtain ⟨x150, e151⟩ : ∃ y : Int32, y = a1 + 1 := ⟨_, rfl⟩
        have r152 : rg x150 1 22 := rg_add e151 r8 (rg_k (by decide) : rg 1 1 1) (by decide)
        refine lv_iinc (v := x150) (lv' := [(1, .int x150), (0, .ref (ad 0))]) hx hb dX12_grows_15 hl (k := 1) rfl (by rw [e151]; rfl) (by decide) rfl (fun ls hl => ?_)
        refine lv_goto (tgt := 2) hx hb dX12_grows_18 (by decide) ?_
        exact ih2 (x150) (F3) (L3) ((va_up A3 24 (upd (A3 24) (a1).toNatClampNeg (-1)))) (B3) H locs ls (by have h0 : (1 : Int32).toInt = 1 := rfl; have h1 := ti_addk e151 r8 (by decide); have h2 : rg x150 0 22 := (rg_w r152 (by decide)); unfold rg at h2; omega) (rg_w r152 (by decide)) hq (k4) (by rw [va_us]; exact fl_step v5 (r8 : rg a1 0 21) e151) hP hD hS (lv_sub hl [1, 0] rfl)
  exact J2 _ (0) (F) (L) (A) (B) H locs ls (Nat.lt_succ_self _) (rg_k (by decide)) hq (rfl) fl_0 hP hD hS (lv_sub hl [1, 0] rfl)
abbrev rm_X12_up : Room := { frames := 0, cells := 0, slots := 0, locals := 0 }
set_option maxHeartbeats 4000000 in
set_option maxRecDepth 100000 in
theorem c_X12_up (l : Launch) (D : va_G) (tys : List (ClassId × FieldType)) (ws : va_W) (sz : Nat) (p0 : Int32) (p1 : Int32) (hp1 : rg p1 1 31) : Met l yX12_up (Cond.code yX12_up cX12_up 2 (some .int) :: GW) rm_X12_up (mPc D classes tys (ws) sz [.int p0, .int p1]) (mQi (S := Unit) D classes tys (ws) sz (fun _ : Unit => ws) (fun r u => True)) 0 0 (va_A (ws) sz) := by
  refine met_i (own := "ShoeingDayModel") (by decide +kernel) rfl (Nat.le_of_ble_eq_true rfl) ?_
  intro p e s m args below meth c Q Af ls hC hP hD hS hA hl hret
  have hx := hC.1
  have hb := hC.2.1
  have hown := hC.2.2.2.1
  have hg := hC.g
  have hK := hC.K
  have hl : lv_has ls 2 [(0, .int p0), (1, .int p1)] := hl
  obtain ⟨H, hH⟩ : ∃ H, H = s.heap := ⟨_, rfl⟩
  have hP : va_P D classes (ws) H := by rw [hH]; exact hP
  have hS : va_S Af s.heap H [] := by rw [hH]; exact hS
  obtain ⟨locs, hlo⟩ : ∃ q : List Loc, q = [] := ⟨_, rfl⟩
  rw [← hH, ← hlo]
  rw [← hlo] at hS
  refine lv_iload_n hx hb dX12_up_0 rfl (lv_at hl 0 rfl) ?_
  refine lv_iload_n hx hb dX12_up_1 rfl (lv_at hl 1 rfl) ?_
  refine lv_iadd hx hb dX12_up_2 ?_
  refine lv_topi (fun x1 e2 => ?_)
  refine lv_iconst (v := 1) hx hb dX12_up_3 (by decide) ?_
  refine lv_isub hx hb dX12_up_4 ?_
  refine lv_topi (fun x3 e4 => ?_)
  refine lv_iload_n hx hb dX12_up_5 rfl (lv_at hl 1 rfl) ?_
  refine lv_idiv hx hb dX12_up_6 (ne0_rg hp1 (by decide)) ?_
  refine lv_topi (fun x5 e6 => ?_)
  exact hret (x5) () H locs 7 ls rfl dX12_up_7 hP hD hS trivial
abbrev rm_X12_isDay_0 : Room := { frames := 1, cells := 0, slots := 0, locals := 24 }
set_option maxHeartbeats 4000000 in
set_option maxRecDepth 100000 in
theorem c_X12_isDay_0 (l : Launch) (D : va_G) (cA : Nat → ClassId) (sz : Nat) (ad : Nat → Nat) (F : Nat → Int32) (L : Nat → Int64) (A : Nat → Nat → Int32) (B : Nat → Nat → Int64) (p1 : Int32) (p2 : Int32) (hT : typM F A) (hp1 : rg p1 1 80) (hp2 : rg p2 1 9) : Met l yX12_isDay (Cond.code yX12_isDay cX12_isDay 6 (some .boolean) :: GW) rm_X12_isDay_0 (mPc D classes (tysM cA) (wM cA ad F L A B) sz [.ref (ad 0), .int p1, .int p2]) (mQi (S := SW) D classes (tysM cA) (wM cA ad F L A B) sz (wfM cA ad) (fun r u => qM [12] [23, 24, 25] F A u.1 u.2.2.1 ∧ rg r 0 1)) 0 0 (va_A (wM cA ad F L A B) sz) := by
  refine met_i (own := "ShoeingDayModel") (by decide +kernel) rfl (Nat.le_of_ble_eq_true rfl) ?_
  intro p e s m args below meth c Q Af ls hC hP hD hS hA hl hret
  have hx := hC.1
  have hb := hC.2.1
  have hown := hC.2.2.2.1
  have hg := hC.g
  have hK := hC.K
  have hl : lv_has ls 6 [(0, .ref (ad 0)), (1, .int p1), (2, .int p2)] := hl
  have hq : qM [12] [23, 24, 25] F A F A := qM.rf hT
  obtain ⟨H, hH⟩ : ∃ H, H = s.heap := ⟨_, rfl⟩
  have hP : va_P D classes (wM cA ad F L A B) H := by rw [hH]; exact hP
  have hS : va_S Af s.heap H [] := by rw [hH]; exact hS
  obtain ⟨locs, hlo⟩ : ∃ q : List Loc, q = [] := ⟨_, rfl⟩
  rw [← hH, ← hlo]
  rw [← hlo] at hS
  refine lv_iconst (v := 0) hx hb dX12_isDay_0 (by decide) ?_
  refine lv_istore_n (lv' := [(3, .int 0), (0, .ref (ad 0)), (1, .int p1), (2, .int p2)]) hx hb dX12_isDay_1 rfl hl (by decide) rfl (fun ls hl => ?_)
  have J2 : ∀ (n2 : Nat) (a1 : Int32) (F3 : Nat → Int32) (L3 : Nat → Int64) (A3 : Nat → Nat → Int32) (B3 : Nat → Nat → Int64) (H : Heap) (locs : List Loc) (ls : Array Slot), (511 - a1.toInt).toNat < n2 → rg a1 0 511 → qM [12] [23, 24, 25] F A F3 A3 → va_P D classes (wM cA ad F3 L3 A3 B3) H → va_D Af (wM cA ad F3 L3 A3 B3) → va_S Af s.heap H locs → lv_has ls 6 [(0, .ref (ad 0)), (1, .int p1), (2, .int p2), (3, .int a1)] → W p l e rm_X12_isDay_0 s m args below meth c H locs 0 0 Q (F0 m 2 ls []) := by
    intro n2
    induction n2 with
    | zero =>
      intro _ _ _ _ _ _ _ _ hn
      exact absurd hn (Nat.not_lt_zero _)
    | succ n2 ih2 =>
      intro a1 F3 L3 A3 B3 H locs ls hn2 r2 hq hP hD hS hl
      refine lv_iload_n hx hb dX12_isDay_2 rfl (lv_at hl 3 rfl) ?_
      refine lv_sipush (v := 484) hx hb dX12_isDay_3 (by decide) ?_
      refine lv_icmp_ge (tgt := 22) hx hb dX12_isDay_6 (by decide) (fun c4 => ?_) (fun c4 => ?_)
      · skip
        have r5 : rg a1 484 511 := rg_le2 (iE c4) ((rg_k (by decide)) : rg 484 484 484) (r2 : rg a1 0 511)
        refine lv_aload_n hx hb dX12_isDay_22 rfl (lv_at hl 0 rfl) ?_
        refine lv_iconst (v := 0) hx hb dX12_isDay_23 (by decide) ?_
        refine va_put (ci := 12) (v := .int 0) (ty := .int) (C := RX12) (T := TX12) (N := 57) hx hb hg inX12 tyX12 tyX12_ok nmX12 hown hK hP hD hS 0 atM_0 rfl 39 (by decide) (hg _ mw_1147) (fun _ h9 => h9) rfl (by decide +kernel) rfl rfl (Nat.le_of_ble_eq_true rfl) dX12_isDay_24 (fun H locs hP hD hS => ?_)
        have hq := hq.put 12 (x := 0) (by decide) (rg_k (by decide))
        rw [setFM_12] at hP hD
        refine lv_iconst (v := 0) hx hb dX12_isDay_27 (by decide) ?_
        refine lv_istore_n (lv' := [(3, .int 0), (0, .ref (ad 0)), (1, .int p1), (2, .int p2)]) hx hb dX12_isDay_28 rfl hl (by decide) rfl (fun ls hl => ?_)
        refine lv_iconst (v := 0) hx hb dX12_isDay_29 (by decide) ?_
        refine lv_istore (lv' := [(4, .int 0), (3, .int 0), (0, .ref (ad 0)), (1, .int p1), (2, .int p2)]) hx hb dX12_isDay_30 hl (by decide) rfl (fun ls hl => ?_)
        have J32 : ∀ (n32 : Nat) (a7 : Int32) (a8 : Int32) (F10 : Nat → Int32) (L10 : Nat → Int64) (A10 : Nat → Nat → Int32) (B10 : Nat → Nat → Int64) (H : Heap) (locs : List Loc) (ls : Array Slot), (8 - a8.toInt).toNat < n32 → rg a8 0 8 → qM [12] [23, 24, 25] F A F10 A10 → va_P D classes (wM cA ad F10 L10 A10 B10) H → va_D Af (wM cA ad F10 L10 A10 B10) → va_S Af s.heap H locs → lv_has ls 6 [(0, .ref (ad 0)), (1, .int p1), (2, .int p2), (3, .int a7), (4, .int a8)] → W p l e rm_X12_isDay_0 s m args below meth c H locs 0 0 Q (F0 m 32 ls []) := by
          intro n32
          induction n32 with
          | zero =>
            intro _ _ _ _ _ _ _ _ _ hn
            exact absurd hn (Nat.not_lt_zero _)
          | succ n32 ih32 =>
            intro a7 a8 F10 L10 A10 B10 H locs ls hn32 r9 hq hP hD hS hl
            refine lv_iload hx hb dX12_isDay_32 (lv_at hl 4 rfl) ?_
            refine lv_bipush (v := 8) hx hb dX12_isDay_34 (by decide) ?_
            refine lv_icmp_ge (tgt := 83) hx hb dX12_isDay_36 (by decide) (fun c11 => ?_) (fun c11 => ?_)
            · skip
              have r12 : rg a8 8 8 := rg_le2 (iE c11) ((rg_k (by decide)) : rg 8 8 8) (r9 : rg a8 0 8)
              refine lv_iconst (v := 0) hx hb dX12_isDay_83 (by decide) ?_
              refine lv_istore (lv' := [(4, .int 0), (0, .ref (ad 0)), (1, .int p1), (2, .int p2), (3, .int a7)]) hx hb dX12_isDay_84 hl (by decide) rfl (fun ls hl => ?_)
              have J86 : ∀ (n86 : Nat) (a14 : Int32) (F16 : Nat → Int32) (L16 : Nat → Int64) (A16 : Nat → Nat → Int32) (B16 : Nat → Nat → Int64) (H : Heap) (locs : List Loc) (ls : Array Slot), (10 - a14.toInt).toNat < n86 → rg a14 0 10 → qM [12] [23, 24, 25] F A F16 A16 → va_P D classes (wM cA ad F16 L16 A16 B16) H → va_D Af (wM cA ad F16 L16 A16 B16) → va_S Af s.heap H locs → lv_has ls 6 [(0, .ref (ad 0)), (1, .int p1), (2, .int p2), (3, .int a7), (4, .int a14)] → W p l e rm_X12_isDay_0 s m args below meth c H locs 0 0 Q (F0 m 86 ls []) := by
                intro n86
                induction n86 with
                | zero =>
                  intro _ _ _ _ _ _ _ _ hn
                  exact absurd hn (Nat.not_lt_zero _)
                | succ n86 ih86 =>
                  intro a14 F16 L16 A16 B16 H locs ls hn86 r15 hq hP hD hS hl
                  refine lv_iload hx hb dX12_isDay_86 (lv_at hl 4 rfl) ?_
                  refine lv_bipush (v := 10) hx hb dX12_isDay_88 (by decide) ?_
                  refine lv_icmp_ge (tgt := 130) hx hb dX12_isDay_90 (by decide) (fun c17 => ?_) (fun c17 => ?_)
                  · skip
                    have r18 : rg a14 10 10 := rg_le2 (iE c17) ((rg_k (by decide)) : rg 10 10 10) (r15 : rg a14 0 10)
                    refine lv_aload_n hx hb dX12_isDay_130 rfl (lv_at hl 0 rfl) ?_
                    refine lv_bipush (v := 19) hx hb dX12_isDay_131 (by decide) ?_
                    refine lv_iconst (v := 0) hx hb dX12_isDay_133 (by decide) ?_
                    refine lv_iload_n hx hb dX12_isDay_134 rfl (lv_at hl 3 rfl) ?_
                    refine lv_iload_n hx hb dX12_isDay_135 rfl (lv_at hl 2 rfl) ?_
                    refine calls_i (As := [.int a7, .int p2]) (rest := [.int 0, .int 19, .ref (ad 0)]) hC (c_X12_cut l D (tysM cA) (wM cA ad F16 L16 A16 B16) H.size (a7) (p2) hp2) (cwS 2 hg (g_S mw_1493 mw_1491 mw_1492 mw_20) rfl rfl rfl (by decide +kernel) ⟨(Nat.le_of_ble_eq_true rfl), (Nat.le_of_ble_eq_true rfl)⟩) hP hD hS hA rfl hl.1 rfl (Nat.le_of_ble_eq_true rfl) dX12_isDay_136 ⟨Nat.zero_le _, Nat.zero_le _⟩ (fun x20 u H locs hw hP hD hS => ?_)
                    have hP : va_P D classes (wM cA ad F16 L16 A16 B16) H := hP
                    have hD : va_D Af (wM cA ad F16 L16 A16 B16) := hD
                    refine lv_iload_n hx hb dX12_isDay_139 rfl (lv_at hl 3 rfl) ?_
                    refine lv_iload_n hx hb dX12_isDay_140 rfl (lv_at hl 2 rfl) ?_
                    refine calls_i (As := [.int a7, .int p2]) (rest := [.int x20, .int 0, .int 19, .ref (ad 0)]) hC (c_X12_up l D (tysM cA) (wM cA ad F16 L16 A16 B16) H.size (a7) (p2) (rg_w hp2 (by decide))) (cwS 2 hg (g_S mw_1500 mw_1498 mw_1499 mw_20) rfl rfl rfl (by decide +kernel) ⟨(Nat.le_of_ble_eq_true rfl), (Nat.le_of_ble_eq_true rfl)⟩) hP hD hS hA rfl hl.1 rfl (Nat.le_of_ble_eq_true rfl) dX12_isDay_141 ⟨Nat.zero_le _, Nat.zero_le _⟩ (fun x21 u H locs hw hP hD hS => ?_)
                    have hP : va_P D classes (wM cA ad F16 L16 A16 B16) H := hP
                    have hD : va_D Af (wM cA ad F16 L16 A16 B16) := hD
                    refine callv_v (As := [.int 19, .int 0, .int x20, .int x21]) (rest := []) hC (c_X12_edge_0 l D cA H.size ad F16 L16 A16 B16 (19) (0) (x20) (x21) hq.1 (rg_k (by decide)) (rg_k (by decide))) (cwV 4 hg (g_V mw_1504 mw_1501 mw_1503 ms_85 mw_20) rfl rfl rfl (by decide +kernel) ⟨(Nat.le_of_ble_eq_true rfl), (Nat.le_of_ble_eq_true rfl)⟩) hP hD hS hA atM_0 rfl rfl hl.1 rfl (Nat.le_of_ble_eq_true rfl) dX12_isDay_144 ⟨Nat.zero_le _, Nat.zero_le _⟩ (fun  u H locs hw hP hD hS => ?_)
                    obtain ⟨F22, L22, A22, B22⟩ := u
                    try dsimp only at hw
                    have hq22 := hw
                    have hq := hq.call hq22 (by decide)
                    have hP : va_P D classes (wM cA ad F22 L22 A22 B22) H := hP
                    have hD : va_D Af (wM cA ad F22 L22 A22 B22) := hD
                    refine lv_iconst (v := 0) hx hb dX12_isDay_147 (by decide) ?_
                    refine lv_istore (lv' := [(4, .int 0), (0, .ref (ad 0)), (1, .int p1), (2, .int p2), (3, .int a7)]) hx hb dX12_isDay_148 hl (by decide) rfl (fun ls hl => ?_)
                    have J150 : ∀ (n150 : Nat) (a23 : Int32) (F25 : Nat → Int32) (L25 : Nat → Int64) (A25 : Nat → Nat → Int32) (B25 : Nat → Nat → Int64) (H : Heap) (locs : List Loc) (ls : Array Slot), (80 - a23.toInt).toNat < n150 → rg a23 0 80 → qM [12] [23, 24, 25] F A F25 A25 → va_P D classes (wM cA ad F25 L25 A25 B25) H → va_D Af (wM cA ad F25 L25 A25 B25) → va_S Af s.heap H locs → lv_has ls 6 [(0, .ref (ad 0)), (1, .int p1), (2, .int p2), (4, .int a23)] → W p l e rm_X12_isDay_0 s m args below meth c H locs 0 0 Q (F0 m 150 ls []) := by
                      intro n150
                      induction n150 with
                      | zero =>
                        intro _ _ _ _ _ _ _ _ hn
                        exact absurd hn (Nat.not_lt_zero _)
                      | succ n150 ih150 =>
                        intro a23 F25 L25 A25 B25 H locs ls hn150 r24 hq hP hD hS hl
                        refine lv_iload hx hb dX12_isDay_150 (lv_at hl 3 rfl) ?_
                        refine lv_bipush (v := 80) hx hb dX12_isDay_152 (by decide) ?_
                        refine lv_icmp_ge (tgt := 240) hx hb dX12_isDay_154 (by decide) (fun c26 => ?_) (fun c26 => ?_)
                        · skip
                          have r27 : rg a23 80 80 := rg_le2 (iE c26) ((rg_k (by decide)) : rg 80 80 80) (r24 : rg a23 0 80)
                          refine lv_iconst (v := 0) hx hb dX12_isDay_240 (by decide) ?_
                          refine lv_istore (lv' := [(4, .int 0), (0, .ref (ad 0)), (1, .int p1), (2, .int p2)]) hx hb dX12_isDay_241 hl (by decide) rfl (fun ls hl => ?_)
                          refine lv_aload_n hx hb dX12_isDay_243 rfl (lv_at hl 1 rfl) ?_
                          refine callv_i (As := []) (rest := []) hC (c_X12_grows_0 l D cA H.size ad F25 L25 A25 B25  hq.1) (cwV 0 hg (g_V mw_1508 mw_1505 mw_1507 ms_86 mw_20) rfl rfl rfl (by decide +kernel) ⟨(Nat.le_of_ble_eq_true rfl), (Nat.le_of_ble_eq_true rfl)⟩) hP hD hS hA atM_0 rfl rfl hl.1 rfl (Nat.le_of_ble_eq_true rfl) dX12_isDay_244 ⟨Nat.zero_le _, Nat.zero_le _⟩ (fun x29 u H locs hw hP hD hS => ?_)
                          obtain ⟨F30, L30, A30, B30⟩ := u
                          try dsimp only at hw
                          obtain ⟨hq30, g31⟩ := hw
                          have hq := hq.call hq30 (by decide)
                          have hP : va_P D classes (wM cA ad F30 L30 A30 B30) H := hP
                          have hD : va_D Af (wM cA ad F30 L30 A30 B30) := hD
                          refine lv_istore (lv' := [(5, .int x29), (4, .int 0), (0, .ref (ad 0)), (1, .int p1), (2, .int p2)]) hx hb dX12_isDay_247 hl (by decide) rfl (fun ls hl => ?_)
                          have J249 : ∀ (n249 : Nat) (a32 : Int32) (a33 : Int32) (F34 : Nat → Int32) (L34 : Nat → Int64) (A34 : Nat → Nat → Int32) (B34 : Nat → Nat → Int64) (H : Heap) (locs : List Loc) (ls : Array Slot), (grM a33 (A34 23)) < n249 → qM [12] [23, 24, 25] F A F34 A34 → va_P D classes (wM cA ad F34 L34 A34 B34) H → va_D Af (wM cA ad F34 L34 A34 B34) → va_S Af s.heap H locs → lv_has ls 6 [(0, .ref (ad 0)), (4, .int a32), (5, .int a33)] → W p l e rm_X12_isDay_0 s m args below meth c H locs 0 0 Q (F0 m 249 ls []) := by
                            intro n249
                            induction n249 with
                            | zero =>
                              intro _ _ _ _ _ _ _ _ _ hn
                              exact absurd hn (Nat.not_lt_zero _)
                            | succ n249 ih249 =>
                              intro a32 a33 F34 L34 A34 B34 H locs ls hn249 hq hP hD hS hl
                              refine lv_iload hx hb dX12_isDay_249 (lv_at hl 2 rfl) ?_
                              refine lv_if_le (tgt := 270) hx hb dX12_isDay_251 (by decide) (fun c35 => ?_) (fun c35 => ?_)
                              · skip
                                have r36 : rg a33 (-2147483648) 0 := rg_le1 (iE c35) ((rg_top _) : rg a33 (-2147483648) 2147483647) ((rg_k (by decide)) : rg 0 0 0)
                                refine lv_iload hx hb dX12_isDay_270 (lv_at hl 1 rfl) ?_
                                refine lv_aload_n hx hb dX12_isDay_272 rfl (lv_at hl 0 rfl) ?_
                                refine va_get (ci := 12) (v := .int (F34 12)) (C := RX12) (T := TX12) (N := 57) hx hb hg inX12 hown hK hP 0 atM_0 rfl 39 (by decide) (hg _ mw_1147) (fun _ h9 => h9) rfl dX12_isDay_273 ?_
                                refine lv_topi (fun x38 e39 => ?_)
                                refine lv_icmp_ne (tgt := 283) hx hb dX12_isDay_276 (by decide) (fun c40 => ?_) (fun c40 => ?_)
                                · skip
                                  refine lv_iconst (v := 0) hx hb dX12_isDay_283 (by decide) ?_
                                  exact hret (0) (F34, L34, A34, B34) H locs 284 ls rfl dX12_isDay_284 hP hD hS ⟨hq, (rg_k (by decide))⟩
                                · skip
                                  refine lv_iconst (v := 1) hx hb dX12_isDay_279 (by decide) ?_
                                  refine lv_goto (tgt := 284) hx hb dX12_isDay_280 (by decide) ?_
                                  exact hret (1) (F34, L34, A34, B34) H locs 284 ls rfl dX12_isDay_284 hP hD hS ⟨hq, (rg_k (by decide))⟩
                              · skip
                                have r37 : rg a33 1 2147483647 := rg_lt2 (iNE c35) ((rg_k (by decide)) : rg 0 0 0) ((rg_top _) : rg a33 (-2147483648) 2147483647)
                                refine lv_iload hx hb dX12_isDay_254 (lv_at hl 1 rfl) ?_
                                refine lv_iload hx hb dX12_isDay_256 (lv_at hl 2 rfl) ?_
                                refine lv_iadd hx hb dX12_isDay_258 ?_
                                refine lv_topi (fun x41 e42 => ?_)
                                refine lv_istore (lv' := [(4, .int x41), (0, .ref (ad 0)), (5, .int a33)]) hx hb dX12_isDay_259 hl (by decide) rfl (fun ls hl => ?_)
                                refine lv_aload_n hx hb dX12_isDay_261 rfl (lv_at hl 1 rfl) ?_
                                refine callv_i (As := []) (rest := []) hC (c_X12_grows_0 l D cA H.size ad F34 L34 A34 B34  hq.1) (cwV 0 hg (g_V mw_1508 mw_1505 mw_1507 ms_86 mw_20) rfl rfl rfl (by decide +kernel) ⟨(Nat.le_of_ble_eq_true rfl), (Nat.le_of_ble_eq_true rfl)⟩) hP hD hS hA atM_0 rfl rfl hl.1 rfl (Nat.le_of_ble_eq_true rfl) dX12_isDay_262 ⟨Nat.zero_le _, Nat.zero_le _⟩ (fun x43 u H locs hw hP hD hS => ?_)
                                obtain ⟨F44, L44, A44, B44⟩ := u
                                try dsimp only at hw
                                obtain ⟨hq44, g45⟩ := hw
                                have hq := hq.call hq44 (by decide)
                                have hP : va_P D classes (wM cA ad F44 L44 A44 B44) H := hP
                                have hD : va_D Af (wM cA ad F44 L44 A44 B44) := hD
                                refine lv_istore (lv' := [(5, .int x43), (4, .int x41), (0, .ref (ad 0))]) hx hb dX12_isDay_265 hl (by decide) rfl (fun ls hl => ?_)
                                refine lv_goto (tgt := 249) hx hb dX12_isDay_267 (by decide) ?_
                                exact ih249 (x41) (x43) (F44) (L44) (A44) (B44) H locs ls (gr_dec hn249 (by have := (iNE c35); have : (0 : Int32).toInt = 0 := rfl; omega) g45) hq hP hD hS (lv_sub hl [2, 1, 0] rfl)
                          exact J249 _ (0) (x29) (F30) (L30) (A30) (B30) H locs ls (Nat.lt_succ_self _) hq hP hD hS (lv_sub hl [2, 1, 0] rfl)
                        · skip
                          have r28 : rg a23 0 79 := rg_lt1 (iNE c26) (r24 : rg a23 0 80) ((rg_k (by decide)) : rg 80 80 80)
                          refine lv_iload hx hb dX12_isDay_157 (lv_at hl 3 rfl) ?_
                          refine lv_iload_n hx hb dX12_isDay_159 rfl (lv_at hl 1 rfl) ?_
                          have J184 : ∀ (a46 : Int32) (F47 : Nat → Int32) (L47 : Nat → Int64) (A47 : Nat → Nat → Int32) (B47 : Nat → Nat → Int64) (H : Heap) (locs : List Loc) (ls : Array Slot), qM [12] [23, 24, 25] F A F47 A47 → va_P D classes (wM cA ad F47 L47 A47 B47) H → va_D Af (wM cA ad F47 L47 A47 B47) → va_S Af s.heap H locs → lv_has ls 6 [(0, .ref (ad 0)), (1, .int p1), (2, .int p2), (4, .int a23)] → W p l e rm_X12_isDay_0 s m args below meth c H locs 0 0 Q (F0 m 184 ls [.int a46]) := by
                            intro a46 F47 L47 A47 B47 H locs ls hq hP hD hS hl
                            refine lv_istore (lv' := [(5, .int a46), (0, .ref (ad 0)), (1, .int p1), (2, .int p2), (4, .int a23)]) hx hb dX12_isDay_184 hl (by decide) rfl (fun ls hl => ?_)
                            refine lv_aload_n hx hb dX12_isDay_186 rfl (lv_at hl 1 rfl) ?_
                            refine lv_iconst (v := 1) hx hb dX12_isDay_187 (by decide) ?_
                            refine lv_iload hx hb dX12_isDay_188 (lv_at hl 4 rfl) ?_
                            refine lv_bipush (v := 10) hx hb dX12_isDay_190 (by decide) ?_
                            refine lv_idiv hx hb dX12_isDay_192 (by decide) ?_
                            refine lv_topi (fun x48 e49 => ?_)
                            have r50 : rg x48 0 7 := rg_div e49 r28 ((rg_k (by decide)) : rg 10 10 10) (by decide)
                            refine lv_iadd hx hb dX12_isDay_193 ?_
                            refine lv_topi (fun x51 e52 => ?_)
                            have r53 : rg x51 1 8 := rg_add e52 ((rg_k (by decide)) : rg 1 1 1) r50 (by decide)
                            refine lv_bipush (v := 9) hx hb dX12_isDay_194 (by decide) ?_
                            refine lv_iload hx hb dX12_isDay_196 (lv_at hl 4 rfl) ?_
                            refine lv_bipush (v := 10) hx hb dX12_isDay_198 (by decide) ?_
                            refine lv_irem hx hb dX12_isDay_200 (by decide) ?_
                            refine lv_topi (fun x54 e55 => ?_)
                            have r56 : rg x54 0 9 := rg_rem e55 r28 ((rg_k (by decide)) : rg 10 10 10) (by decide)
                            refine lv_iadd hx hb dX12_isDay_201 ?_
                            refine lv_topi (fun x57 e58 => ?_)
                            have r59 : rg x57 9 18 := rg_add e58 ((rg_k (by decide)) : rg 9 9 9) r56 (by decide)
                            refine lv_iload hx hb dX12_isDay_202 (lv_at hl 0 rfl) ?_
                            refine lv_iload hx hb dX12_isDay_204 (lv_at hl 4 rfl) ?_
                            refine lv_iload_n hx hb dX12_isDay_206 rfl (lv_at hl 2 rfl) ?_
                            have J231 : ∀ (a60 : Int32) (F61 : Nat → Int32) (L61 : Nat → Int64) (A61 : Nat → Nat → Int32) (B61 : Nat → Nat → Int64) (H : Heap) (locs : List Loc) (ls : Array Slot), qM [12] [23, 24, 25] F A F61 A61 → va_P D classes (wM cA ad F61 L61 A61 B61) H → va_D Af (wM cA ad F61 L61 A61 B61) → va_S Af s.heap H locs → lv_has ls 6 [(0, .ref (ad 0)), (1, .int p1), (2, .int p2), (4, .int a23)] → W p l e rm_X12_isDay_0 s m args below meth c H locs 0 0 Q (F0 m 231 ls [.int a60, .int a46, .int x57, .int x51, .ref (ad 0)]) := by
                              intro a60 F61 L61 A61 B61 H locs ls hq hP hD hS hl
                              refine callv_v (As := [.int x51, .int x57, .int a46, .int a60]) (rest := []) hC (c_X12_edge_0 l D cA H.size ad F61 L61 A61 B61 (x51) (x57) (a46) (a60) hq.1 (rg_w r53 (by decide)) (rg_w r59 (by decide))) (cwV 4 hg (g_V mw_1504 mw_1501 mw_1503 ms_85 mw_20) rfl rfl rfl (by decide +kernel) ⟨(Nat.le_of_ble_eq_true rfl), (Nat.le_of_ble_eq_true rfl)⟩) hP hD hS hA atM_0 rfl rfl hl.1 rfl (Nat.le_of_ble_eq_true rfl) dX12_isDay_231 ⟨Nat.zero_le _, Nat.zero_le _⟩ (fun  u H locs hw hP hD hS => ?_)
                              obtain ⟨F62, L62, A62, B62⟩ := u
                              try dsimp only at hw
                              have hq62 := hw
                              have hq := hq.call hq62 (by decide)
                              have hP : va_P D classes (wM cA ad F62 L62 A62 B62) H := hP
                              have hD : va_D Af (wM cA ad F62 L62 A62 B62) := hD
                              obtain ⟨x63, e64⟩ : ∃ y : Int32, y = a23 + 1 := ⟨_, rfl⟩
                              have r65 : rg x63 1 80 := rg_add e64 r28 (rg_k (by decide) : rg 1 1 1) (by decide)
                              refine lv_iinc (v := x63) (lv' := [(4, .int x63), (0, .ref (ad 0)), (1, .int p1), (2, .int p2)]) hx hb dX12_isDay_234 hl (k := 3) rfl (by rw [e64]; rfl) (by decide) rfl (fun ls hl => ?_)
                              refine lv_goto (tgt := 150) hx hb dX12_isDay_237 (by decide) ?_
                              exact ih150 (x63) (F62) (L62) (A62) (B62) H locs ls (by have h0 : (1 : Int32).toInt = 1 := rfl; have h1 := ti_addk e64 r28 (by decide); have h2 : rg x63 0 80 := (rg_w r65 (by decide)); unfold rg at h2; omega) (rg_w r65 (by decide)) hq hP hD hS (lv_sub hl [1, 2, 3, 0] rfl)
                            refine lv_icmp_ge (tgt := 220) hx hb dX12_isDay_207 (by decide) (fun c66 => ?_) (fun c66 => ?_)
                            · skip
                              have r67 : rg p1 1 79 := rg_le1 (iE c66) (hp1 : rg p1 1 80) (r28 : rg a23 0 79)
                              have r68 : rg a23 1 79 := rg_le2 (iE c66) (hp1 : rg p1 1 80) (r28 : rg a23 0 79)
                              refine lv_aload_n hx hb dX12_isDay_220 rfl (lv_at hl 1 rfl) ?_
                              refine va_get (ci := 12) (v := .ref (ad 16)) (C := RX12) (T := TX12) (N := 57) hx hb hg inX12 hown hK hP 0 atM_0 rfl 26 (by decide) (hg _ mw_1134) (fun _ h9 => h9) rfl dX12_isDay_221 ?_
                              refine lv_iload hx hb dX12_isDay_224 (lv_at hl 4 rfl) ?_
                              refine va_iald hx hb hK hP 16 15 atM_16 tyM_16 (in_rg r68 (by decide)) dX12_isDay_226 ?_
                              refine lv_topi (fun x69 e70 => ?_)
                              refine lv_iload_n hx hb dX12_isDay_227 rfl (lv_at hl 3 rfl) ?_
                              refine calls_i (As := [.int x69, .int p2]) (rest := [.int a46, .int x57, .int x51, .ref (ad 0)]) hC (c_X12_up l D (tysM cA) (wM cA ad F47 L47 A47 B47) H.size (x69) (p2) (rg_w hp2 (by decide))) (cwS 2 hg (g_S mw_1500 mw_1498 mw_1499 mw_20) rfl rfl rfl (by decide +kernel) ⟨(Nat.le_of_ble_eq_true rfl), (Nat.le_of_ble_eq_true rfl)⟩) hP hD hS hA rfl hl.1 rfl (Nat.le_of_ble_eq_true rfl) dX12_isDay_228 ⟨Nat.zero_le _, Nat.zero_le _⟩ (fun x71 u H locs hw hP hD hS => ?_)
                              have hP : va_P D classes (wM cA ad F47 L47 A47 B47) H := hP
                              have hD : va_D Af (wM cA ad F47 L47 A47 B47) := hD
                              exact J231 (x71) (F47) (L47) (A47) (B47) H locs ls hq hP hD hS (lv_sub hl [1, 2, 3, 4] rfl)
                            · skip
                              refine lv_aload_n hx hb dX12_isDay_210 rfl (lv_at hl 1 rfl) ?_
                              refine va_get (ci := 12) (v := .ref (ad 26)) (C := RX12) (T := TX12) (N := 57) hx hb hg inX12 hown hK hP 0 atM_0 rfl 38 (by decide) (hg _ mw_1146) (fun _ h9 => h9) rfl dX12_isDay_211 ?_
                              refine lv_iload hx hb dX12_isDay_214 (lv_at hl 4 rfl) ?_
                              refine va_iald hx hb hK hP 26 25 atM_26 tyM_26 (in_rg r28 (by decide)) dX12_isDay_216 ?_
                              refine lv_topi (fun x72 e73 => ?_)
                              refine lv_goto (tgt := 231) hx hb dX12_isDay_217 (by decide) ?_
                              exact J231 (x72) (F47) (L47) (A47) (B47) H locs ls hq hP hD hS (lv_sub hl [1, 2, 3, 4] rfl)
                          refine lv_icmp_ge (tgt := 173) hx hb dX12_isDay_160 (by decide) (fun c74 => ?_) (fun c74 => ?_)
                          · skip
                            have r75 : rg p1 1 79 := rg_le1 (iE c74) (hp1 : rg p1 1 80) (r28 : rg a23 0 79)
                            have r76 : rg a23 1 79 := rg_le2 (iE c74) (hp1 : rg p1 1 80) (r28 : rg a23 0 79)
                            refine lv_aload_n hx hb dX12_isDay_173 rfl (lv_at hl 0 rfl) ?_
                            refine va_get (ci := 12) (v := .ref (ad 16)) (C := RX12) (T := TX12) (N := 57) hx hb hg inX12 hown hK hP 0 atM_0 rfl 26 (by decide) (hg _ mw_1134) (fun _ h9 => h9) rfl dX12_isDay_174 ?_
                            refine lv_iload hx hb dX12_isDay_177 (lv_at hl 3 rfl) ?_
                            refine va_iald hx hb hK hP 16 15 atM_16 tyM_16 (in_rg r76 (by decide)) dX12_isDay_179 ?_
                            refine lv_topi (fun x77 e78 => ?_)
                            refine lv_iload_n hx hb dX12_isDay_180 rfl (lv_at hl 2 rfl) ?_
                            refine calls_i (As := [.int x77, .int p2]) (rest := []) hC (c_X12_cut l D (tysM cA) (wM cA ad F25 L25 A25 B25) H.size (x77) (p2) hp2) (cwS 2 hg (g_S mw_1493 mw_1491 mw_1492 mw_20) rfl rfl rfl (by decide +kernel) ⟨(Nat.le_of_ble_eq_true rfl), (Nat.le_of_ble_eq_true rfl)⟩) hP hD hS hA rfl hl.1 rfl (Nat.le_of_ble_eq_true rfl) dX12_isDay_181 ⟨Nat.zero_le _, Nat.zero_le _⟩ (fun x79 u H locs hw hP hD hS => ?_)
                            have hP : va_P D classes (wM cA ad F25 L25 A25 B25) H := hP
                            have hD : va_D Af (wM cA ad F25 L25 A25 B25) := hD
                            exact J184 (x79) (F25) (L25) (A25) (B25) H locs ls hq hP hD hS (lv_sub hl [0, 1, 2, 3] rfl)
                          · skip
                            refine lv_aload_n hx hb dX12_isDay_163 rfl (lv_at hl 0 rfl) ?_
                            refine va_get (ci := 12) (v := .ref (ad 26)) (C := RX12) (T := TX12) (N := 57) hx hb hg inX12 hown hK hP 0 atM_0 rfl 38 (by decide) (hg _ mw_1146) (fun _ h9 => h9) rfl dX12_isDay_164 ?_
                            refine lv_iload hx hb dX12_isDay_167 (lv_at hl 3 rfl) ?_
                            refine va_iald hx hb hK hP 26 25 atM_26 tyM_26 (in_rg r28 (by decide)) dX12_isDay_169 ?_
                            refine lv_topi (fun x80 e81 => ?_)
                            refine lv_goto (tgt := 184) hx hb dX12_isDay_170 (by decide) ?_
                            exact J184 (x80) (F25) (L25) (A25) (B25) H locs ls hq hP hD hS (lv_sub hl [0, 1, 2, 3] rfl)
                    exact J150 _ (0) (F22) (L22) (A22) (B22) H locs ls (Nat.lt_succ_self _) (rg_k (by decide)) hq hP hD hS (lv_sub hl [1, 2, 3, 0] rfl)
                  · skip
                    have r19 : rg a14 0 9 := rg_lt1 (iNE c17) (r15 : rg a14 0 10) ((rg_k (by decide)) : rg 10 10 10)
                    refine lv_aload_n hx hb dX12_isDay_93 rfl (lv_at hl 0 rfl) ?_
                    refine lv_bipush (v := 9) hx hb dX12_isDay_94 (by decide) ?_
                    refine lv_iload hx hb dX12_isDay_96 (lv_at hl 4 rfl) ?_
                    refine lv_iadd hx hb dX12_isDay_98 ?_
                    refine lv_topi (fun x82 e83 => ?_)
                    have r84 : rg x82 9 18 := rg_add e83 ((rg_k (by decide)) : rg 9 9 9) r19 (by decide)
                    refine lv_bipush (v := 19) hx hb dX12_isDay_99 (by decide) ?_
                    refine lv_aload_n hx hb dX12_isDay_101 rfl (lv_at hl 0 rfl) ?_
                    refine lv_iload hx hb dX12_isDay_102 (lv_at hl 4 rfl) ?_
                    refine callv_i (As := [.int a14]) (rest := [.int 19, .int x82, .ref (ad 0)]) hC (c_X12_horseSum_0 l D cA H.size ad F16 L16 A16 B16 (a14) hq.1 r19) (cwV 1 hg (g_V mw_1411 mw_1408 mw_1410 ms_71 mw_20) rfl rfl rfl (by decide +kernel) ⟨(Nat.le_of_ble_eq_true rfl), (Nat.le_of_ble_eq_true rfl)⟩) hP hD hS hA atM_0 rfl rfl hl.1 rfl (Nat.le_of_ble_eq_true rfl) dX12_isDay_104 ⟨Nat.zero_le _, Nat.zero_le _⟩ (fun x85 u H locs hw hP hD hS => ?_)
                    have hP : va_P D classes (wM cA ad F16 L16 A16 B16) H := hP
                    have hD : va_D Af (wM cA ad F16 L16 A16 B16) := hD
                    refine lv_iload_n hx hb dX12_isDay_107 rfl (lv_at hl 2 rfl) ?_
                    refine calls_i (As := [.int x85, .int p2]) (rest := [.int 19, .int x82, .ref (ad 0)]) hC (c_X12_cut l D (tysM cA) (wM cA ad F16 L16 A16 B16) H.size (x85) (p2) hp2) (cwS 2 hg (g_S mw_1493 mw_1491 mw_1492 mw_20) rfl rfl rfl (by decide +kernel) ⟨(Nat.le_of_ble_eq_true rfl), (Nat.le_of_ble_eq_true rfl)⟩) hP hD hS hA rfl hl.1 rfl (Nat.le_of_ble_eq_true rfl) dX12_isDay_108 ⟨Nat.zero_le _, Nat.zero_le _⟩ (fun x86 u H locs hw hP hD hS => ?_)
                    have hP : va_P D classes (wM cA ad F16 L16 A16 B16) H := hP
                    have hD : va_D Af (wM cA ad F16 L16 A16 B16) := hD
                    refine lv_aload_n hx hb dX12_isDay_111 rfl (lv_at hl 0 rfl) ?_
                    refine lv_iload hx hb dX12_isDay_112 (lv_at hl 4 rfl) ?_
                    refine callv_i (As := [.int a14]) (rest := [.int x86, .int 19, .int x82, .ref (ad 0)]) hC (c_X12_horseSum_0 l D cA H.size ad F16 L16 A16 B16 (a14) hq.1 r19) (cwV 1 hg (g_V mw_1411 mw_1408 mw_1410 ms_71 mw_20) rfl rfl rfl (by decide +kernel) ⟨(Nat.le_of_ble_eq_true rfl), (Nat.le_of_ble_eq_true rfl)⟩) hP hD hS hA atM_0 rfl rfl hl.1 rfl (Nat.le_of_ble_eq_true rfl) dX12_isDay_114 ⟨Nat.zero_le _, Nat.zero_le _⟩ (fun x87 u H locs hw hP hD hS => ?_)
                    have hP : va_P D classes (wM cA ad F16 L16 A16 B16) H := hP
                    have hD : va_D Af (wM cA ad F16 L16 A16 B16) := hD
                    refine lv_iload_n hx hb dX12_isDay_117 rfl (lv_at hl 2 rfl) ?_
                    refine calls_i (As := [.int x87, .int p2]) (rest := [.int x86, .int 19, .int x82, .ref (ad 0)]) hC (c_X12_up l D (tysM cA) (wM cA ad F16 L16 A16 B16) H.size (x87) (p2) (rg_w hp2 (by decide))) (cwS 2 hg (g_S mw_1500 mw_1498 mw_1499 mw_20) rfl rfl rfl (by decide +kernel) ⟨(Nat.le_of_ble_eq_true rfl), (Nat.le_of_ble_eq_true rfl)⟩) hP hD hS hA rfl hl.1 rfl (Nat.le_of_ble_eq_true rfl) dX12_isDay_118 ⟨Nat.zero_le _, Nat.zero_le _⟩ (fun x88 u H locs hw hP hD hS => ?_)
                    have hP : va_P D classes (wM cA ad F16 L16 A16 B16) H := hP
                    have hD : va_D Af (wM cA ad F16 L16 A16 B16) := hD
                    refine callv_v (As := [.int x82, .int 19, .int x86, .int x88]) (rest := []) hC (c_X12_edge_0 l D cA H.size ad F16 L16 A16 B16 (x82) (19) (x86) (x88) hq.1 (rg_w r84 (by decide)) (rg_k (by decide))) (cwV 4 hg (g_V mw_1504 mw_1501 mw_1503 ms_85 mw_20) rfl rfl rfl (by decide +kernel) ⟨(Nat.le_of_ble_eq_true rfl), (Nat.le_of_ble_eq_true rfl)⟩) hP hD hS hA atM_0 rfl rfl hl.1 rfl (Nat.le_of_ble_eq_true rfl) dX12_isDay_121 ⟨Nat.zero_le _, Nat.zero_le _⟩ (fun  u H locs hw hP hD hS => ?_)
                    obtain ⟨F89, L89, A89, B89⟩ := u
                    try dsimp only at hw
                    have hq89 := hw
                    have hq := hq.call hq89 (by decide)
                    have hP : va_P D classes (wM cA ad F89 L89 A89 B89) H := hP
                    have hD : va_D Af (wM cA ad F89 L89 A89 B89) := hD
                    obtain ⟨x90, e91⟩ : ∃ y : Int32, y = a14 + 1 := ⟨_, rfl⟩
                    have r92 : rg x90 1 10 := rg_add e91 r19 (rg_k (by decide) : rg 1 1 1) (by decide)
                    refine lv_iinc (v := x90) (lv' := [(4, .int x90), (0, .ref (ad 0)), (1, .int p1), (2, .int p2), (3, .int a7)]) hx hb dX12_isDay_124 hl (k := 4) rfl (by rw [e91]; rfl) (by decide) rfl (fun ls hl => ?_)
                    refine lv_goto (tgt := 86) hx hb dX12_isDay_127 (by decide) ?_
                    exact ih86 (x90) (F89) (L89) (A89) (B89) H locs ls (by have h0 : (1 : Int32).toInt = 1 := rfl; have h1 := ti_addk e91 r19 (by decide); have h2 : rg x90 0 10 := (rg_w r92 (by decide)); unfold rg at h2; omega) (rg_w r92 (by decide)) hq hP hD hS (lv_sub hl [1, 2, 3, 4, 0] rfl)
              exact J86 _ (0) (F10) (L10) (A10) (B10) H locs ls (Nat.lt_succ_self _) (rg_k (by decide)) hq hP hD hS (lv_sub hl [1, 2, 3, 4, 0] rfl)
            · skip
              have r13 : rg a8 0 7 := rg_lt1 (iNE c11) (r9 : rg a8 0 8) ((rg_k (by decide)) : rg 8 8 8)
              refine lv_aload_n hx hb dX12_isDay_39 rfl (lv_at hl 0 rfl) ?_
              refine lv_iconst (v := 0) hx hb dX12_isDay_40 (by decide) ?_
              refine lv_iconst (v := 1) hx hb dX12_isDay_41 (by decide) ?_
              refine lv_iload hx hb dX12_isDay_42 (lv_at hl 4 rfl) ?_
              refine lv_iadd hx hb dX12_isDay_44 ?_
              refine lv_topi (fun x93 e94 => ?_)
              have r95 : rg x93 1 8 := rg_add e94 ((rg_k (by decide)) : rg 1 1 1) r13 (by decide)
              refine lv_aload_n hx hb dX12_isDay_45 rfl (lv_at hl 0 rfl) ?_
              refine lv_iload hx hb dX12_isDay_46 (lv_at hl 4 rfl) ?_
              refine callv_i (As := [.int a8]) (rest := [.int x93, .int 0, .ref (ad 0)]) hC (c_X12_smithSum_0 l D cA H.size ad F10 L10 A10 B10 (a8) hq.1 r13) (cwV 1 hg (g_V mw_1415 mw_1412 mw_1414 ms_72 mw_20) rfl rfl rfl (by decide +kernel) ⟨(Nat.le_of_ble_eq_true rfl), (Nat.le_of_ble_eq_true rfl)⟩) hP hD hS hA atM_0 rfl rfl hl.1 rfl (Nat.le_of_ble_eq_true rfl) dX12_isDay_48 ⟨Nat.zero_le _, Nat.zero_le _⟩ (fun x96 u H locs hw hP hD hS => ?_)
              have hP : va_P D classes (wM cA ad F10 L10 A10 B10) H := hP
              have hD : va_D Af (wM cA ad F10 L10 A10 B10) := hD
              refine lv_iload_n hx hb dX12_isDay_51 rfl (lv_at hl 2 rfl) ?_
              refine calls_i (As := [.int x96, .int p2]) (rest := [.int x93, .int 0, .ref (ad 0)]) hC (c_X12_cut l D (tysM cA) (wM cA ad F10 L10 A10 B10) H.size (x96) (p2) hp2) (cwS 2 hg (g_S mw_1493 mw_1491 mw_1492 mw_20) rfl rfl rfl (by decide +kernel) ⟨(Nat.le_of_ble_eq_true rfl), (Nat.le_of_ble_eq_true rfl)⟩) hP hD hS hA rfl hl.1 rfl (Nat.le_of_ble_eq_true rfl) dX12_isDay_52 ⟨Nat.zero_le _, Nat.zero_le _⟩ (fun x97 u H locs hw hP hD hS => ?_)
              have hP : va_P D classes (wM cA ad F10 L10 A10 B10) H := hP
              have hD : va_D Af (wM cA ad F10 L10 A10 B10) := hD
              refine lv_aload_n hx hb dX12_isDay_55 rfl (lv_at hl 0 rfl) ?_
              refine lv_iload hx hb dX12_isDay_56 (lv_at hl 4 rfl) ?_
              refine callv_i (As := [.int a8]) (rest := [.int x97, .int x93, .int 0, .ref (ad 0)]) hC (c_X12_smithSum_0 l D cA H.size ad F10 L10 A10 B10 (a8) hq.1 r13) (cwV 1 hg (g_V mw_1415 mw_1412 mw_1414 ms_72 mw_20) rfl rfl rfl (by decide +kernel) ⟨(Nat.le_of_ble_eq_true rfl), (Nat.le_of_ble_eq_true rfl)⟩) hP hD hS hA atM_0 rfl rfl hl.1 rfl (Nat.le_of_ble_eq_true rfl) dX12_isDay_58 ⟨Nat.zero_le _, Nat.zero_le _⟩ (fun x98 u H locs hw hP hD hS => ?_)
              have hP : va_P D classes (wM cA ad F10 L10 A10 B10) H := hP
              have hD : va_D Af (wM cA ad F10 L10 A10 B10) := hD
              refine lv_iload_n hx hb dX12_isDay_61 rfl (lv_at hl 2 rfl) ?_
              refine calls_i (As := [.int x98, .int p2]) (rest := [.int x97, .int x93, .int 0, .ref (ad 0)]) hC (c_X12_up l D (tysM cA) (wM cA ad F10 L10 A10 B10) H.size (x98) (p2) (rg_w hp2 (by decide))) (cwS 2 hg (g_S mw_1500 mw_1498 mw_1499 mw_20) rfl rfl rfl (by decide +kernel) ⟨(Nat.le_of_ble_eq_true rfl), (Nat.le_of_ble_eq_true rfl)⟩) hP hD hS hA rfl hl.1 rfl (Nat.le_of_ble_eq_true rfl) dX12_isDay_62 ⟨Nat.zero_le _, Nat.zero_le _⟩ (fun x99 u H locs hw hP hD hS => ?_)
              have hP : va_P D classes (wM cA ad F10 L10 A10 B10) H := hP
              have hD : va_D Af (wM cA ad F10 L10 A10 B10) := hD
              refine callv_v (As := [.int 0, .int x93, .int x97, .int x99]) (rest := []) hC (c_X12_edge_0 l D cA H.size ad F10 L10 A10 B10 (0) (x93) (x97) (x99) hq.1 (rg_k (by decide)) (rg_w r95 (by decide))) (cwV 4 hg (g_V mw_1504 mw_1501 mw_1503 ms_85 mw_20) rfl rfl rfl (by decide +kernel) ⟨(Nat.le_of_ble_eq_true rfl), (Nat.le_of_ble_eq_true rfl)⟩) hP hD hS hA atM_0 rfl rfl hl.1 rfl (Nat.le_of_ble_eq_true rfl) dX12_isDay_65 ⟨Nat.zero_le _, Nat.zero_le _⟩ (fun  u H locs hw hP hD hS => ?_)
              obtain ⟨F100, L100, A100, B100⟩ := u
              try dsimp only at hw
              have hq100 := hw
              have hq := hq.call hq100 (by decide)
              have hP : va_P D classes (wM cA ad F100 L100 A100 B100) H := hP
              have hD : va_D Af (wM cA ad F100 L100 A100 B100) := hD
              refine lv_iload_n hx hb dX12_isDay_68 rfl (lv_at hl 3 rfl) ?_
              refine lv_aload_n hx hb dX12_isDay_69 rfl (lv_at hl 0 rfl) ?_
              refine lv_iload hx hb dX12_isDay_70 (lv_at hl 4 rfl) ?_
              refine callv_i (As := [.int a8]) (rest := [.int a7]) hC (c_X12_smithSum_0 l D cA H.size ad F100 L100 A100 B100 (a8) hq.1 r13) (cwV 1 hg (g_V mw_1415 mw_1412 mw_1414 ms_72 mw_20) rfl rfl rfl (by decide +kernel) ⟨(Nat.le_of_ble_eq_true rfl), (Nat.le_of_ble_eq_true rfl)⟩) hP hD hS hA atM_0 rfl rfl hl.1 rfl (Nat.le_of_ble_eq_true rfl) dX12_isDay_72 ⟨Nat.zero_le _, Nat.zero_le _⟩ (fun x101 u H locs hw hP hD hS => ?_)
              have hP : va_P D classes (wM cA ad F100 L100 A100 B100) H := hP
              have hD : va_D Af (wM cA ad F100 L100 A100 B100) := hD
              refine lv_iadd hx hb dX12_isDay_75 ?_
              refine lv_topi (fun x102 e103 => ?_)
              refine lv_istore_n (lv' := [(3, .int x102), (0, .ref (ad 0)), (1, .int p1), (2, .int p2), (4, .int a8)]) hx hb dX12_isDay_76 rfl hl (by decide) rfl (fun ls hl => ?_)
              obtain ⟨x104, e105⟩ : ∃ y : Int32, y = a8 + 1 := ⟨_, rfl⟩
              have r106 : rg x104 1 8 := rg_add e105 r13 (rg_k (by decide) : rg 1 1 1) (by decide)
              refine lv_iinc (v := x104) (lv' := [(4, .int x104), (3, .int x102), (0, .ref (ad 0)), (1, .int p1), (2, .int p2)]) hx hb dX12_isDay_77 hl (k := 4) rfl (by rw [e105]; rfl) (by decide) rfl (fun ls hl => ?_)
              refine lv_goto (tgt := 32) hx hb dX12_isDay_80 (by decide) ?_
              exact ih32 (x102) (x104) (F100) (L100) (A100) (B100) H locs ls (by have h0 : (1 : Int32).toInt = 1 := rfl; have h1 := ti_addk e105 r13 (by decide); have h2 : rg x104 0 8 := (rg_w r106 (by decide)); unfold rg at h2; omega) (rg_w r106 (by decide)) hq hP hD hS (lv_sub hl [2, 3, 4, 1, 0] rfl)
        exact J32 _ (0) (0) ((upd F3 12 (0 : Int32))) (L3) (A3) (B3) H locs ls (Nat.lt_succ_self _) (rg_k (by decide)) hq hP hD hS (lv_sub hl [2, 3, 4, 1, 0] rfl)
      · skip
        have r6 : rg a1 0 483 := rg_lt1 (iNE c4) (r2 : rg a1 0 511) ((rg_k (by decide)) : rg 484 484 484)
        refine lv_aload_n hx hb dX12_isDay_9 rfl (lv_at hl 0 rfl) ?_
        refine va_get (ci := 12) (v := .ref (ad 23)) (C := RX12) (T := TX12) (N := 57) hx hb hg inX12 hown hK hP 0 atM_0 rfl 35 (by decide) (hg _ mw_1143) (fun _ h9 => h9) rfl dX12_isDay_10 ?_
        refine lv_iload_n hx hb dX12_isDay_13 rfl (lv_at hl 3 rfl) ?_
        refine lv_iconst (v := 0) hx hb dX12_isDay_14 (by decide) ?_
        refine va_iast hx hb hK hP hD hS 23 22 atM_23 tyM_23 (in_rg r6 (by decide)) dX12_isDay_15 (fun H locs hP hD hS => ?_)
        have hq := hq.ast 23 (a1).toNatClampNeg (x := 0) (by decide) (rg_k (by decide))
        rw [setM_23] at hP hD
        have k107 : (0 : Int32) = (va_up A3 23 (upd (A3 23) (a1).toNatClampNeg 0)) 23 (a1).toNatClampNeg := (rdA).symm
        obtain ⟨x108, e109⟩ : ∃ y : Int32, y = a1 + 1 := ⟨_, rfl⟩
        have r110 : rg x108 1 484 := rg_add e109 r6 (rg_k (by decide) : rg 1 1 1) (by decide)
        refine lv_iinc (v := x108) (lv' := [(3, .int x108), (0, .ref (ad 0)), (1, .int p1), (2, .int p2)]) hx hb dX12_isDay_16 hl (k := 3) rfl (by rw [e109]; rfl) (by decide) rfl (fun ls hl => ?_)
        refine lv_goto (tgt := 2) hx hb dX12_isDay_19 (by decide) ?_
        exact ih2 (x108) (F3) (L3) ((va_up A3 23 (upd (A3 23) (a1).toNatClampNeg 0))) (B3) H locs ls (by have h0 : (1 : Int32).toInt = 1 := rfl; have h1 := ti_addk e109 r6 (by decide); have h2 : rg x108 0 511 := (rg_w r110 (by decide)); unfold rg at h2; omega) (rg_w r110 (by decide)) hq hP hD hS (lv_sub hl [1, 2, 3, 0] rfl)
  exact J2 _ (0) (F) (L) (A) (B) H locs ls (Nat.lt_succ_self _) (rg_k (by decide)) hq hP hD hS (lv_sub hl [1, 2, 3, 0] rfl)
abbrev rm_X12_layPart_0 : Room := { frames := 2, cells := 0, slots := 0, locals := 49 }
set_option maxHeartbeats 4000000 in
set_option maxRecDepth 100000 in
theorem c_X12_layPart_0 (l : Launch) (D : va_G) (cA : Nat → ClassId) (sz : Nat) (ad : Nat → Nat) (F : Nat → Int32) (L : Nat → Int64) (A : Nat → Nat → Int32) (B : Nat → Nat → Int64) (p1 : Int32) (hT : typM F A) (hp1 : rg p1 1 9) : Met l yX12_layPart (Cond.code yX12_layPart cX12_layPart 3 none :: GW) rm_X12_layPart_0 (mPc D classes (tysM cA) (wM cA ad F L A B) sz [.ref (ad 0), .int p1]) (mQv (S := SW) D classes (tysM cA) (wM cA ad F L A B) sz (wfM cA ad) (fun u => qM [12] [23, 24, 25, 26] F A u.1 u.2.2.1)) 0 0 (va_A (wM cA ad F L A B) sz) := by
  refine met_v (own := "ShoeingDayModel") (by decide +kernel) rfl (Nat.le_of_ble_eq_true rfl) ?_
  intro p e s m args below meth c Q Af ls hC hP hD hS hA hl hret
  have hx := hC.1
  have hb := hC.2.1
  have hown := hC.2.2.2.1
  have hg := hC.g
  have hK := hC.K
  have hl : lv_has ls 3 [(0, .ref (ad 0)), (1, .int p1)] := hl
  have hq : qM [12] [23, 24, 25, 26] F A F A := qM.rf hT
  obtain ⟨H, hH⟩ : ∃ H, H = s.heap := ⟨_, rfl⟩
  have hP : va_P D classes (wM cA ad F L A B) H := by rw [hH]; exact hP
  have hS : va_S Af s.heap H [] := by rw [hH]; exact hS
  obtain ⟨locs, hlo⟩ : ∃ q : List Loc, q = [] := ⟨_, rfl⟩
  rw [← hH, ← hlo]
  rw [← hlo] at hS
  refine lv_iconst (v := 0) hx hb dX12_layPart_0 (by decide) ?_
  refine lv_istore_n (lv' := [(2, .int 0), (0, .ref (ad 0)), (1, .int p1)]) hx hb dX12_layPart_1 rfl hl (by decide) rfl (fun ls hl => ?_)
  have J2 : ∀ (n2 : Nat) (a1 : Int32) (F3 : Nat → Int32) (L3 : Nat → Int64) (A3 : Nat → Nat → Int32) (B3 : Nat → Nat → Int64) (H : Heap) (locs : List Loc) (ls : Array Slot), (80 - a1.toInt).toNat < n2 → rg a1 0 80 → qM [12] [23, 24, 25, 26] F A F3 A3 → va_P D classes (wM cA ad F3 L3 A3 B3) H → va_D Af (wM cA ad F3 L3 A3 B3) → va_S Af s.heap H locs → lv_has ls 3 [(0, .ref (ad 0)), (1, .int p1), (2, .int a1)] → W p l e rm_X12_layPart_0 s m args below meth c H locs 0 0 Q (F0 m 2 ls []) := by
    intro n2
    induction n2 with
    | zero =>
      intro _ _ _ _ _ _ _ _ hn
      exact absurd hn (Nat.not_lt_zero _)
    | succ n2 ih2 =>
      intro a1 F3 L3 A3 B3 H locs ls hn2 r2 hq hP hD hS hl
      refine lv_iload_n hx hb dX12_layPart_2 rfl (lv_at hl 2 rfl) ?_
      refine lv_bipush (v := 80) hx hb dX12_layPart_3 (by decide) ?_
      refine lv_icmp_ge (tgt := 62) hx hb dX12_layPart_5 (by decide) (fun c4 => ?_) (fun c4 => ?_)
      · skip
        have r5 : rg a1 80 80 := rg_le2 (iE c4) ((rg_k (by decide)) : rg 80 80 80) (r2 : rg a1 0 80)
        exact hret (F3, L3, A3, B3) H locs 62 ls dX12_layPart_62 hP hD hS hq
      · skip
        have r6 : rg a1 0 79 := rg_lt1 (iNE c4) (r2 : rg a1 0 80) ((rg_k (by decide)) : rg 80 80 80)
        refine lv_aload_n hx hb dX12_layPart_8 rfl (lv_at hl 0 rfl) ?_
        refine va_get (ci := 12) (v := .ref (ad 26)) (C := RX12) (T := TX12) (N := 57) hx hb hg inX12 hown hK hP 0 atM_0 rfl 38 (by decide) (hg _ mw_1146) (fun _ h9 => h9) rfl dX12_layPart_9 ?_
        refine lv_iload_n hx hb dX12_layPart_12 rfl (lv_at hl 2 rfl) ?_
        refine lv_aload_n hx hb dX12_layPart_13 rfl (lv_at hl 0 rfl) ?_
        refine va_get (ci := 12) (v := .ref (ad 16)) (C := RX12) (T := TX12) (N := 57) hx hb hg inX12 hown hK hP 0 atM_0 rfl 26 (by decide) (hg _ mw_1134) (fun _ h9 => h9) rfl dX12_layPart_14 ?_
        refine lv_iload_n hx hb dX12_layPart_17 rfl (lv_at hl 2 rfl) ?_
        refine va_iald hx hb hK hP 16 15 atM_16 tyM_16 (in_rg r6 (by decide)) dX12_layPart_18 ?_
        refine lv_topi (fun x7 e8 => ?_)
        refine lv_iload_n hx hb dX12_layPart_19 rfl (lv_at hl 1 rfl) ?_
        refine calls_i (As := [.int x7, .int p1]) (rest := [.int a1, .ref (ad 26)]) hC (c_X12_cut l D (tysM cA) (wM cA ad F3 L3 A3 B3) H.size (x7) (p1) hp1) (cwS 2 hg (g_S mw_1493 mw_1491 mw_1492 mw_20) rfl rfl rfl (by decide +kernel) ⟨(Nat.le_of_ble_eq_true rfl), (Nat.le_of_ble_eq_true rfl)⟩) hP hD hS hA rfl hl.1 rfl (Nat.le_of_ble_eq_true rfl) dX12_layPart_20 ⟨Nat.zero_le _, Nat.zero_le _⟩ (fun x9 u H locs hw hP hD hS => ?_)
        have hP : va_P D classes (wM cA ad F3 L3 A3 B3) H := hP
        have hD : va_D Af (wM cA ad F3 L3 A3 B3) := hD
        refine va_iast hx hb hK hP hD hS 26 25 atM_26 tyM_26 (in_rg r6 (by decide)) dX12_layPart_23 (fun H locs hP hD hS => ?_)
        have hq := hq.ast 26 (a1).toNatClampNeg (x := x9) (by decide) (rg_top _)
        rw [setM_26] at hP hD
        have k10 : x9 = (va_up A3 26 (upd (A3 26) (a1).toNatClampNeg x9)) 26 (a1).toNatClampNeg := (rdA).symm
        refine lv_aload_n hx hb dX12_layPart_24 rfl (lv_at hl 0 rfl) ?_
        refine va_get (ci := 12) (v := .ref (ad 16)) (C := RX12) (T := TX12) (N := 57) hx hb hg inX12 hown hK hP 0 atM_0 rfl 26 (by decide) (hg _ mw_1134) (fun _ h9 => h9) rfl dX12_layPart_25 ?_
        refine lv_iload_n hx hb dX12_layPart_28 rfl (lv_at hl 2 rfl) ?_
        refine va_iald hx hb hK hP 16 15 atM_16 tyM_16 (in_rg r6 (by decide)) dX12_layPart_29 ?_
        refine tope (mv (by decide) (e8)) ?_
        refine lv_iload_n hx hb dX12_layPart_30 rfl (lv_at hl 1 rfl) ?_
        refine lv_irem hx hb dX12_layPart_31 (ne0_rg hp1 (by decide)) ?_
        refine lv_topi (fun x11 e12 => ?_)
        have J56 : ∀ (F13 : Nat → Int32) (L13 : Nat → Int64) (A13 : Nat → Nat → Int32) (B13 : Nat → Nat → Int64) (H : Heap) (locs : List Loc) (ls : Array Slot), qM [12] [23, 24, 25, 26] F A F13 A13 → va_P D classes (wM cA ad F13 L13 A13 B13) H → va_D Af (wM cA ad F13 L13 A13 B13) → va_S Af s.heap H locs → lv_has ls 3 [(0, .ref (ad 0)), (1, .int p1), (2, .int a1)] → W p l e rm_X12_layPart_0 s m args below meth c H locs 0 0 Q (F0 m 56 ls []) := by
          intro F13 L13 A13 B13 H locs ls hq hP hD hS hl
          obtain ⟨x14, e15⟩ : ∃ y : Int32, y = a1 + 1 := ⟨_, rfl⟩
          have r16 : rg x14 1 80 := rg_add e15 r6 (rg_k (by decide) : rg 1 1 1) (by decide)
          refine lv_iinc (v := x14) (lv' := [(2, .int x14), (0, .ref (ad 0)), (1, .int p1)]) hx hb dX12_layPart_56 hl (k := 2) rfl (by rw [e15]; rfl) (by decide) rfl (fun ls hl => ?_)
          refine lv_goto (tgt := 2) hx hb dX12_layPart_59 (by decide) ?_
          exact ih2 (x14) (F13) (L13) (A13) (B13) H locs ls (by have h0 : (1 : Int32).toInt = 1 := rfl; have h1 := ti_addk e15 r6 (by decide); have h2 : rg x14 0 80 := (rg_w r16 (by decide)); unfold rg at h2; omega) (rg_w r16 (by decide)) hq hP hD hS (lv_sub hl [1, 2, 0] rfl)
        refine lv_if_le (tgt := 56) hx hb dX12_layPart_32 (by decide) (fun c17 => ?_) (fun c17 => ?_)
        · skip
          have r18 : rg x11 (-2147483648) 0 := rg_le1 (iE c17) ((rg_top _) : rg x11 (-2147483648) 2147483647) ((rg_k (by decide)) : rg 0 0 0)
          exact J56 (F3) (L3) ((va_up A3 26 (upd (A3 26) (a1).toNatClampNeg x9))) (B3) H locs ls hq hP hD hS (lv_sub hl [0, 1, 2] rfl)
        · skip
          have r19 : rg x11 1 2147483647 := rg_lt2 (iNE c17) ((rg_k (by decide)) : rg 0 0 0) ((rg_top _) : rg x11 (-2147483648) 2147483647)
          refine lv_aload_n hx hb dX12_layPart_35 rfl (lv_at hl 0 rfl) ?_
          refine lv_iload_n hx hb dX12_layPart_36 rfl (lv_at hl 2 rfl) ?_
          refine lv_iconst (v := 1) hx hb dX12_layPart_37 (by decide) ?_
          refine lv_iadd hx hb dX12_layPart_38 ?_
          refine lv_topi (fun x20 e21 => ?_)
          have r22 : rg x20 1 80 := rg_add e21 r6 ((rg_k (by decide)) : rg 1 1 1) (by decide)
          refine lv_iload_n hx hb dX12_layPart_39 rfl (lv_at hl 1 rfl) ?_
          refine callv_i (As := [.int x20, .int p1]) (rest := []) hC (c_X12_isDay_0 l D cA H.size ad F3 L3 (va_up A3 26 (upd (A3 26) (a1).toNatClampNeg x9)) B3 (x20) (p1) hq.1 r22 hp1) (cwV 2 hg (g_V mw_1497 mw_1494 mw_1496 ms_84 mw_20) rfl rfl rfl (by decide +kernel) ⟨(Nat.le_of_ble_eq_true rfl), (Nat.le_of_ble_eq_true rfl)⟩) hP hD hS hA atM_0 rfl rfl hl.1 rfl (Nat.le_of_ble_eq_true rfl) dX12_layPart_40 ⟨Nat.zero_le _, Nat.zero_le _⟩ (fun x23 u H locs hw hP hD hS => ?_)
          obtain ⟨F24, L24, A24, B24⟩ := u
          try dsimp only at hw
          obtain ⟨hq24, r25⟩ := hw
          have hq := hq.call hq24 (by decide)
          have hP : va_P D classes (wM cA ad F24 L24 A24 B24) H := hP
          have hD : va_D Af (wM cA ad F24 L24 A24 B24) := hD
          refine lv_if_ne (tgt := 56) hx hb dX12_layPart_43 (by decide) (fun c26 => ?_) (fun c26 => ?_)
          · skip
            have r27 : rg x23 1 1 := (rg_ne1 c26 (r25 : rg x23 0 1) ((rg_k (by decide)) : rg 0 0 0)).1 rfl
            exact J56 (F24) (L24) (A24) (B24) H locs ls hq hP hD hS (lv_sub hl [0, 1, 2] rfl)
          · skip
            have r28 : rg x23 0 0 := rg_eq1 c26 (r25 : rg x23 0 1) ((rg_k (by decide)) : rg 0 0 0) (by decide)
            refine lv_aload_n hx hb dX12_layPart_46 rfl (lv_at hl 0 rfl) ?_
            refine va_get (ci := 12) (v := .ref (ad 26)) (C := RX12) (T := TX12) (N := 57) hx hb hg inX12 hown hK hP 0 atM_0 rfl 38 (by decide) (hg _ mw_1146) (fun _ h9 => h9) rfl dX12_layPart_47 ?_
            refine lv_iload_n hx hb dX12_layPart_50 rfl (lv_at hl 2 rfl) ?_
            refine lv_dup2_11 hx hb dX12_layPart_51 rfl rfl ?_
            refine va_iald hx hb hK hP 26 25 atM_26 tyM_26 (in_rg r6 (by decide)) dX12_layPart_52 ?_
            refine tope ((k10).trans (congrFun (hq24.2.2 26 (by decide)) _).symm) ?_
            refine lv_iconst (v := 1) hx hb dX12_layPart_53 (by decide) ?_
            refine lv_iadd hx hb dX12_layPart_54 ?_
            refine lv_topi (fun x29 e30 => ?_)
            refine va_iast hx hb hK hP hD hS 26 25 atM_26 tyM_26 (in_rg r6 (by decide)) dX12_layPart_55 (fun H locs hP hD hS => ?_)
            have hq := hq.ast 26 (a1).toNatClampNeg (x := x29) (by decide) (rg_top _)
            rw [setM_26] at hP hD
            have k31 : x29 = (va_up A24 26 (upd (A24 26) (a1).toNatClampNeg x29)) 26 (a1).toNatClampNeg := (rdA).symm
            exact J56 (F24) (L24) ((va_up A24 26 (upd (A24 26) (a1).toNatClampNeg x29))) (B24) H locs ls hq hP hD hS (lv_sub hl [0, 1, 2] rfl)
  exact J2 _ (0) (F) (L) (A) (B) H locs ls (Nat.lt_succ_self _) (rg_k (by decide)) hq hP hD hS (lv_sub hl [1, 2, 0] rfl)
