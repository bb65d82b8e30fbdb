abbrev rm_X12_about_0 : Room := { frames := 1, cells := 0, slots := 0, locals := 22 }
set_option maxHeartbeats 4000000 in
set_option maxRecDepth 100000 in
theorem c_X12_about_0 (l : Launch) (D : va_G) (cA : Nat → ClassId) (sz : Nat) (ad : Nat → Nat) (F : Nat → Int32) (L : Nat → Int64) (A : Nat → Nat → Int32) (B : Nat → Nat → Int64) (p1 : Int32) (hT : typM F A) : Met l yX12_about (Cond.code yX12_about cX12_about 2 (some .int) :: GW) rm_X12_about_0 (mPc D classes (tysM cA) (wM cA ad F L A B) sz [.ref (ad 0), .int p1]) (mQi (S := SW) D classes (tysM cA) (wM cA ad F L A B) sz (wfM cA ad) (fun r u => qM [] [16] F A u.1 u.2.2.1)) 0 0 (va_A (wM cA ad F L A B) sz) := by
  refine met_i (own := "ShoeingDayModel") (by decide +kernel) rfl (Nat.le_of_ble_eq_true rfl) ?_
  intro p e s m args below meth c Q Af ls hC hP hD hS hA hl hret
  have hx := hC.1
  have hb := hC.2.1
  have hown := hC.2.2.2.1
  have hg := hC.g
  have hK := hC.K
  have hl : lv_has ls 2 [(0, .ref (ad 0)), (1, .int p1)] := hl
  have hq : qM [] [16] F A F A := qM.rf hT
  obtain ⟨H, hH⟩ : ∃ H, H = s.heap := ⟨_, rfl⟩
  have hP : va_P D classes (wM cA ad F L A B) H := by rw [hH]; exact hP
  have hS : va_S Af s.heap H [] := by rw [hH]; exact hS
  obtain ⟨locs, hlo⟩ : ∃ q : List Loc, q = [] := ⟨_, rfl⟩
  rw [← hH, ← hlo]
  rw [← hlo] at hS
  refine lv_iload_n hx hb dX12_about_0 rfl (lv_at hl 1 rfl) ?_
  by_cases hlo : p1.toInt < 0
  · refine lv_tableOut (tgt := 124) hx hb dX12_about_1 (Or.inl hlo) (by decide) ?_
    refine lv_iconst (v := (-1)) hx hb dX12_about_124 (by decide) ?_
    exact hret ((-1)) (F, L, A, B) H locs 125 ls rfl dX12_about_125 hP hD hS hq
  by_cases hhi : 10 < p1.toInt
  · refine lv_tableOut (tgt := 124) hx hb dX12_about_1 (Or.inr hhi) (by decide) ?_
    refine lv_iconst (v := (-1)) hx hb dX12_about_124 (by decide) ?_
    exact hret ((-1)) (F, L, A, B) H locs 125 ls rfl dX12_about_125 hP hD hS hq
  have hcs : p1.toInt = 0 ∨ p1.toInt = 1 ∨ p1.toInt = 2 ∨ p1.toInt = 3 ∨ p1.toInt = 4 ∨ p1.toInt = 5 ∨ p1.toInt = 6 ∨ p1.toInt = 7 ∨ p1.toInt = 8 ∨ p1.toInt = 9 ∨ p1.toInt = 10 := by omega
  rcases hcs with hcs | hcs | hcs | hcs | hcs | hcs | hcs | hcs | hcs | hcs | hcs
  · refine lv_tableIn (off := 59) (tgt := 60) hx hb dX12_about_1 hlo hhi (by rw [hcs]; rfl) (by decide) ?_
    refine lv_aload_n hx hb dX12_about_60 rfl (lv_at hl 0 rfl) ?_
    refine callv_i (As := []) (rest := []) hC (c_X12_smithMany_0 l D cA H.size ad F L A B  hq.1) (cwV 0 hg (g_V mw_1388 mw_1385 mw_1387 ms_67 mw_20) rfl rfl rfl (by decide +kernel) ⟨(Nat.le_of_ble_eq_true rfl), (Nat.le_of_ble_eq_true rfl)⟩) hP hD hS hA atM_0 rfl rfl hl.1 rfl (Nat.le_of_ble_eq_true rfl) dX12_about_61 ⟨Nat.zero_le _, Nat.zero_le _⟩ (fun x1 u H locs hw hP hD hS => ?_)
    obtain ⟨r2, g3⟩ := hw
    have hP : va_P D classes (wM cA ad F L A B) H := hP
    have hD : va_D Af (wM cA ad F L A B) := hD
    exact hret (x1) (F, L, A, B) H locs 64 ls rfl dX12_about_64 hP hD hS hq
  · refine lv_tableIn (off := 64) (tgt := 65) hx hb dX12_about_1 hlo hhi (by rw [hcs]; rfl) (by decide) ?_
    refine lv_aload_n hx hb dX12_about_65 rfl (lv_at hl 0 rfl) ?_
    refine callv_i (As := []) (rest := []) hC (c_X12_horseMany_0 l D cA H.size ad F L A B  hq.1) (cwV 0 hg (g_V mw_1399 mw_1396 mw_1398 ms_69 mw_20) rfl rfl rfl (by decide +kernel) ⟨(Nat.le_of_ble_eq_true rfl), (Nat.le_of_ble_eq_true rfl)⟩) hP hD hS hA atM_0 rfl rfl hl.1 rfl (Nat.le_of_ble_eq_true rfl) dX12_about_66 ⟨Nat.zero_le _, Nat.zero_le _⟩ (fun x4 u H locs hw hP hD hS => ?_)
    obtain ⟨r5, g6⟩ := hw
    have hP : va_P D classes (wM cA ad F L A B) H := hP
    have hD : va_D Af (wM cA ad F L A B) := hD
    exact hret (x4) (F, L, A, B) H locs 69 ls rfl dX12_about_69 hP hD hS hq
  · refine lv_tableIn (off := 69) (tgt := 70) hx hb dX12_about_1 hlo hhi (by rw [hcs]; rfl) (by decide) ?_
    refine lv_aload_n hx hb dX12_about_70 rfl (lv_at hl 0 rfl) ?_
    refine va_get (ci := 12) (v := .int (F 10)) (C := RX12) (T := TX12) (N := 57) hx hb hg inX12 hown hK hP 0 atM_0 rfl 28 (by decide) (hg _ mw_1136) (fun _ h9 => h9) rfl dX12_about_71 ?_
    refine lv_topi (fun x7 e8 => ?_)
    exact hret (x7) (F, L, A, B) H locs 74 ls rfl dX12_about_74 hP hD hS hq
  · refine lv_tableIn (off := 74) (tgt := 75) hx hb dX12_about_1 hlo hhi (by rw [hcs]; rfl) (by decide) ?_
    refine lv_aload_n hx hb dX12_about_75 rfl (lv_at hl 0 rfl) ?_
    refine callv_v (As := []) (rest := []) hC (c_X12_layNow_0 l D cA H.size ad F L A B  hq.1) (cwV 0 hg (g_V mw_1407 mw_1404 mw_1406 ms_70 mw_20) rfl rfl rfl (by decide +kernel) ⟨(Nat.le_of_ble_eq_true rfl), (Nat.le_of_ble_eq_true rfl)⟩) hP hD hS hA atM_0 rfl rfl hl.1 rfl (Nat.le_of_ble_eq_true rfl) dX12_about_76 ⟨Nat.zero_le _, Nat.zero_le _⟩ (fun  u H locs hw hP hD hS => ?_)
    obtain ⟨F9, L9, A9, B9⟩ := u
    try dsimp only at hw
    obtain ⟨hq9, g10⟩ := hw
    have hq := hq.call hq9 (by decide)
    have hP : va_P D classes (wM cA ad F9 L9 A9 B9) H := hP
    have hD : va_D Af (wM cA ad F9 L9 A9 B9) := hD
    refine lv_aload_n hx hb dX12_about_79 rfl (lv_at hl 0 rfl) ?_
    refine callv_i (As := []) (rest := []) hC (c_X12_lackedOf_0 l D cA H.size ad F9 L9 A9 B9  hq.1) (cwV 0 hg (g_V mw_1576 mw_1573 mw_1575 ms_92 mw_20) rfl rfl rfl (by decide +kernel) ⟨(Nat.le_of_ble_eq_true rfl), (Nat.le_of_ble_eq_true rfl)⟩) hP hD hS hA atM_0 rfl rfl hl.1 rfl (Nat.le_of_ble_eq_true rfl) dX12_about_80 ⟨Nat.zero_le _, Nat.zero_le _⟩ (fun x11 u H locs hw hP hD hS => ?_)
    have hP : va_P D classes (wM cA ad F9 L9 A9 B9) H := hP
    have hD : va_D Af (wM cA ad F9 L9 A9 B9) := hD
    exact hret (x11) (F9, L9, A9, B9) H locs 83 ls rfl dX12_about_83 hP hD hS hq
  · refine lv_tableIn (off := 83) (tgt := 84) hx hb dX12_about_1 hlo hhi (by rw [hcs]; rfl) (by decide) ?_
    refine lv_aload_n hx hb dX12_about_84 rfl (lv_at hl 0 rfl) ?_
    refine va_get (ci := 12) (v := .int (F 14)) (C := RX12) (T := TX12) (N := 57) hx hb hg inX12 hown hK hP 0 atM_0 rfl 42 (by decide) (hg _ mw_1150) (fun _ h9 => h9) rfl dX12_about_85 ?_
    refine lv_topi (fun x12 e13 => ?_)
    have r14 : rg x12 0 40 := rg_e e13 (hq.1.1 14)
    exact hret (x12) (F, L, A, B) H locs 88 ls rfl dX12_about_88 hP hD hS hq
  · refine lv_tableIn (off := 88) (tgt := 89) hx hb dX12_about_1 hlo hhi (by rw [hcs]; rfl) (by decide) ?_
    refine lv_aload_n hx hb dX12_about_89 rfl (lv_at hl 0 rfl) ?_
    refine va_get (ci := 12) (v := .int (F 15)) (C := RX12) (T := TX12) (N := 57) hx hb hg inX12 hown hK hP 0 atM_0 rfl 43 (by decide) (hg _ mw_1151) (fun _ h9 => h9) rfl dX12_about_90 ?_
    refine lv_topi (fun x15 e16 => ?_)
    have r17 : rg x15 0 40 := rg_e e16 (hq.1.1 15)
    exact hret (x15) (F, L, A, B) H locs 93 ls rfl dX12_about_93 hP hD hS hq
  · refine lv_tableIn (off := 93) (tgt := 94) hx hb dX12_about_1 hlo hhi (by rw [hcs]; rfl) (by decide) ?_
    refine lv_aload_n hx hb dX12_about_94 rfl (lv_at hl 0 rfl) ?_
    refine va_get (ci := 12) (v := .int (F 16)) (C := RX12) (T := TX12) (N := 57) hx hb hg inX12 hown hK hP 0 atM_0 rfl 47 (by decide) (hg _ mw_1155) (fun _ h9 => h9) rfl dX12_about_95 ?_
    refine lv_topi (fun x18 e19 => ?_)
    have r20 : rg x18 0 12 := rg_e e19 (hq.1.1 16)
    exact hret (x18) (F, L, A, B) H locs 98 ls rfl dX12_about_98 hP hD hS hq
  · refine lv_tableIn (off := 98) (tgt := 99) hx hb dX12_about_1 hlo hhi (by rw [hcs]; rfl) (by decide) ?_
    refine lv_aload_n hx hb dX12_about_99 rfl (lv_at hl 0 rfl) ?_
    refine va_get (ci := 12) (v := .int (F 17)) (C := RX12) (T := TX12) (N := 57) hx hb hg inX12 hown hK hP 0 atM_0 rfl 53 (by decide) (hg _ mw_1161) (fun _ h9 => h9) rfl dX12_about_100 ?_
    refine lv_topi (fun x21 e22 => ?_)
    have r23 : rg x21 0 20 := rg_e e22 (hq.1.1 17)
    exact hret (x21) (F, L, A, B) H locs 103 ls rfl dX12_about_103 hP hD hS hq
  · refine lv_tableIn (off := 103) (tgt := 104) hx hb dX12_about_1 hlo hhi (by rw [hcs]; rfl) (by decide) ?_
    refine lv_aload_n hx hb dX12_about_104 rfl (lv_at hl 0 rfl) ?_
    refine va_get (ci := 12) (v := .int (F 18)) (C := RX12) (T := TX12) (N := 57) hx hb hg inX12 hown hK hP 0 atM_0 rfl 54 (by decide) (hg _ mw_1162) (fun _ h9 => h9) rfl dX12_about_105 ?_
    refine lv_topi (fun x24 e25 => ?_)
    have r26 : rg x24 0 100000 := rg_e e25 (hq.1.1 18)
    exact hret (x24) (F, L, A, B) H locs 108 ls rfl dX12_about_108 hP hD hS hq
  · refine lv_tableIn (off := 108) (tgt := 109) hx hb dX12_about_1 hlo hhi (by rw [hcs]; rfl) (by decide) ?_
    refine lv_aload_n hx hb dX12_about_109 rfl (lv_at hl 0 rfl) ?_
    refine va_get (ci := 12) (v := .int (F 0)) (C := RX12) (T := TX12) (N := 57) hx hb hg inX12 hown hK hP 0 atM_0 rfl 2 (by decide) (hg _ mw_1110) (fun _ h9 => h9) rfl dX12_about_110 ?_
    refine lv_topi (fun x27 e28 => ?_)
    have r29 : rg x27 0 1700 := rg_e e28 (hq.1.1 0)
    exact hret (x27) (F, L, A, B) H locs 113 ls rfl dX12_about_113 hP hD hS hq
  · refine lv_tableIn (off := 113) (tgt := 114) hx hb dX12_about_1 hlo hhi (by rw [hcs]; rfl) (by decide) ?_
    refine lv_aload_n hx hb dX12_about_114 rfl (lv_at hl 0 rfl) ?_
    refine va_get (ci := 12) (v := .ref (ad 7)) (C := RX12) (T := TX12) (N := 57) hx hb hg inX12 hown hK hP 0 atM_0 rfl 15 (by decide) (hg _ mw_1123) (fun _ h9 => h9) rfl dX12_about_115 ?_
    refine lv_aload_n hx hb dX12_about_118 rfl (lv_at hl 0 rfl) ?_
    refine va_get (ci := 12) (v := .int (F 8)) (C := RX12) (T := TX12) (N := 57) hx hb hg inX12 hown hK hP 0 atM_0 rfl 24 (by decide) (hg _ mw_1132) (fun _ h9 => h9) rfl dX12_about_119 ?_
    refine lv_topi (fun x30 e31 => ?_)
    have r32 : rg x30 0 1 := rg_e e31 (hq.1.1 8)
    refine va_iald hx hb hK hP 7 6 atM_7 tyM_7 (in_rg r32 (by decide)) dX12_about_122 ?_
    refine lv_topi (fun x33 e34 => ?_)
    exact hret (x33) (F, L, A, B) H locs 123 ls rfl dX12_about_123 hP hD hS hq
