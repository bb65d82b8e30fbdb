abbrev rm_X11_about_0 : Room := { frames := 3, cells := 0, slots := 0, locals := 66 }
set_option maxHeartbeats 4000000 in
set_option maxRecDepth 100000 in
theorem c_X11_about_0 (l : Launch) (D : va_G) (cA : Nat → ClassId) (sz : Nat) (ad : Nat → Nat) (F : Nat → Int32) (L : Nat → Int64) (A : Nat → Nat → Int32) (B : Nat → Nat → Int64) (p1 : Int32) (hT : typX F A) : Met l yX11_about (Cond.code yX11_about cX11_about 2 (some .int) :: GW) rm_X11_about_0 (mPc D classes (tysX cA) (wX cA ad F L A B) sz [.ref (ad 0), .int p1]) (mQi (S := Unit) D classes (tysX cA) (wX cA ad F L A B) sz (fun _ : Unit => wX cA ad F L A B) (fun r u => True)) 0 0 (va_A (wX cA ad F L A B) sz) := by
  refine met_i (own := "ShoeingDay") (by decide +kernel) rfl (Nat.le_of_ble_eq_true rfl) ?_
  intro p e s m args below meth c Q Af ls hC hP hD hS hA hl hret
  have hx := hC.1
  have hb := hC.2.1
  have hown := hC.2.2.2.1
  have hg := hC.g
  have hK := hC.K
  have hl : lv_has ls 2 [(0, .ref (ad 0)), (1, .int p1)] := hl
  have hq : qX [] [] F A F A := qX.rf hT
  obtain ⟨H, hH⟩ : ∃ H, H = s.heap := ⟨_, rfl⟩
  have hP : va_P D classes (wX cA ad F L A B) H := by rw [hH]; exact hP
  have hS : va_S Af s.heap H [] := by rw [hH]; exact hS
  obtain ⟨locs, hlo⟩ : ∃ q : List Loc, q = [] := ⟨_, rfl⟩
  rw [← hH, ← hlo]
  rw [← hlo] at hS
  refine lv_iload_n hx hb dX11_about_0 rfl (lv_at hl 1 rfl) ?_
  by_cases hlo : p1.toInt < 0
  · refine lv_tableOut (tgt := 142) hx hb dX11_about_1 (Or.inl hlo) (by decide) ?_
    refine lv_iconst (v := (-1)) hx hb dX11_about_142 (by decide) ?_
    exact hret ((-1)) () H locs 143 ls rfl dX11_about_143 hP hD hS trivial
  by_cases hhi : 10 < p1.toInt
  · refine lv_tableOut (tgt := 142) hx hb dX11_about_1 (Or.inr hhi) (by decide) ?_
    refine lv_iconst (v := (-1)) hx hb dX11_about_142 (by decide) ?_
    exact hret ((-1)) () H locs 143 ls rfl dX11_about_143 hP hD hS trivial
  have hcs : p1.toInt = 0 ∨ p1.toInt = 1 ∨ p1.toInt = 2 ∨ p1.toInt = 3 ∨ p1.toInt = 4 ∨ p1.toInt = 5 ∨ p1.toInt = 6 ∨ p1.toInt = 7 ∨ p1.toInt = 8 ∨ p1.toInt = 9 ∨ p1.toInt = 10 := by omega
  rcases hcs with hcs | hcs | hcs | hcs | hcs | hcs | hcs | hcs | hcs | hcs | hcs
  · refine lv_tableIn (off := 59) (tgt := 60) hx hb dX11_about_1 hlo hhi (by rw [hcs]; rfl) (by decide) ?_
    refine lv_aload_n hx hb dX11_about_60 rfl (lv_at hl 0 rfl) ?_
    refine va_get (ci := 11) (v := .ref (ad 11)) (C := RX11) (T := TX11) (N := 13) hx hb hg inX11 hown hK hP 0 atX_0 rfl 10 (by decide) (hg _ mw_535) (fun _ h9 => h9) rfl dX11_about_61 ?_
    refine va_get (ci := 10) (v := .int (F 15)) (C := RX10) (T := TX10) (N := 12) hx hb hg inX10 hown hK hP 11 atX_11 rfl 6 (by decide) (hg _ mw_169) (fun _ h9 => h9) rfl dX11_about_64 ?_
    refine lv_topi (fun x1 e2 => ?_)
    have r3 : rg x1 0 8 := rg_e e2 (hq.1.1 15)
    exact hret (x1) () H locs 67 ls rfl dX11_about_67 hP hD hS trivial
  · refine lv_tableIn (off := 67) (tgt := 68) hx hb dX11_about_1 hlo hhi (by rw [hcs]; rfl) (by decide) ?_
    refine lv_aload_n hx hb dX11_about_68 rfl (lv_at hl 0 rfl) ?_
    refine va_get (ci := 11) (v := .ref (ad 11)) (C := RX11) (T := TX11) (N := 13) hx hb hg inX11 hown hK hP 0 atX_0 rfl 10 (by decide) (hg _ mw_535) (fun _ h9 => h9) rfl dX11_about_69 ?_
    refine va_get (ci := 10) (v := .int (F 16)) (C := RX10) (T := TX10) (N := 12) hx hb hg inX10 hown hK hP 11 atX_11 rfl 7 (by decide) (hg _ mw_174) (fun _ h9 => h9) rfl dX11_about_72 ?_
    refine lv_topi (fun x4 e5 => ?_)
    have r6 : rg x4 0 10 := rg_e e5 (hq.1.1 16)
    exact hret (x4) () H locs 75 ls rfl dX11_about_75 hP hD hS trivial
  · refine lv_tableIn (off := 75) (tgt := 76) hx hb dX11_about_1 hlo hhi (by rw [hcs]; rfl) (by decide) ?_
    refine lv_aload_n hx hb dX11_about_76 rfl (lv_at hl 0 rfl) ?_
    refine va_get (ci := 11) (v := .ref (ad 18)) (C := RX11) (T := TX11) (N := 13) hx hb hg inX11 hown hK hP 0 atX_0 rfl 2 (by decide) (hg _ mw_527) (fun _ h9 => h9) rfl dX11_about_77 ?_
    refine va_get (ci := 3) (v := .int (F 23)) (C := RX3) (T := TX3) (N := 4) hx hb hg inX3 hown hK hP 18 atX_18 rfl 3 (by decide) (hg _ mw_249) (fun _ h9 => h9) rfl dX11_about_80 ?_
    refine lv_topi (fun x7 e8 => ?_)
    exact hret (x7) () H locs 83 ls rfl dX11_about_83 hP hD hS trivial
  · refine lv_tableIn (off := 83) (tgt := 84) hx hb dX11_about_1 hlo hhi (by rw [hcs]; rfl) (by decide) ?_
    refine lv_aload_n hx hb dX11_about_84 rfl (lv_at hl 0 rfl) ?_
    refine va_get (ci := 11) (v := .ref (ad 18)) (C := RX11) (T := TX11) (N := 13) hx hb hg inX11 hown hK hP 0 atX_0 rfl 2 (by decide) (hg _ mw_527) (fun _ h9 => h9) rfl dX11_about_85 ?_
    refine callv_i (As := []) (rest := []) hC (c_X3_together_18 l D cA H.size ad F L A B  hq.1) (cwV 0 hg (g_V mw_1024 mw_1093 mw_1022 mw_1023 mw_9) rfl rfl rfl (by decide +kernel) ⟨(Nat.le_of_ble_eq_true rfl), (Nat.le_of_ble_eq_true rfl)⟩) hP hD hS hA atX_18 rfl rfl hl.1 rfl (Nat.le_of_ble_eq_true rfl) dX11_about_88 ⟨Nat.zero_le _, Nat.zero_le _⟩ (fun x9 u H locs hw hP hD hS => ?_)
    have hP : va_P D classes (wX cA ad F L A B) H := hP
    have hD : va_D Af (wX cA ad F L A B) := hD
    exact hret (x9) () H locs 91 ls rfl dX11_about_91 hP hD hS trivial
  · refine lv_tableIn (off := 91) (tgt := 92) hx hb dX11_about_1 hlo hhi (by rw [hcs]; rfl) (by decide) ?_
    refine lv_aload_n hx hb dX11_about_92 rfl (lv_at hl 0 rfl) ?_
    refine va_get (ci := 11) (v := .ref (ad 20)) (C := RX11) (T := TX11) (N := 13) hx hb hg inX11 hown hK hP 0 atX_0 rfl 3 (by decide) (hg _ mw_528) (fun _ h9 => h9) rfl dX11_about_93 ?_
    refine va_get (ci := 0) (v := .int (F 25)) (C := RX0) (T := TX0) (N := 4) hx hb hg inX0 hown hK hP 20 atX_20 rfl 2 (by decide) (hg _ mw_294) (fun _ h9 => h9) rfl dX11_about_96 ?_
    refine lv_topi (fun x10 e11 => ?_)
    have r12 : rg x10 0 40 := rg_e e11 (hq.1.1 25)
    exact hret (x10) () H locs 99 ls rfl dX11_about_99 hP hD hS trivial
  · refine lv_tableIn (off := 99) (tgt := 100) hx hb dX11_about_1 hlo hhi (by rw [hcs]; rfl) (by decide) ?_
    refine lv_aload_n hx hb dX11_about_100 rfl (lv_at hl 0 rfl) ?_
    refine va_get (ci := 11) (v := .ref (ad 20)) (C := RX11) (T := TX11) (N := 13) hx hb hg inX11 hown hK hP 0 atX_0 rfl 3 (by decide) (hg _ mw_528) (fun _ h9 => h9) rfl dX11_about_101 ?_
    refine va_get (ci := 0) (v := .int (F 26)) (C := RX0) (T := TX0) (N := 4) hx hb hg inX0 hown hK hP 20 atX_20 rfl 3 (by decide) (hg _ mw_296) (fun _ h9 => h9) rfl dX11_about_104 ?_
    refine lv_topi (fun x13 e14 => ?_)
    have r15 : rg x13 0 40 := rg_e e14 (hq.1.1 26)
    exact hret (x13) () H locs 107 ls rfl dX11_about_107 hP hD hS trivial
  · refine lv_tableIn (off := 107) (tgt := 108) hx hb dX11_about_1 hlo hhi (by rw [hcs]; rfl) (by decide) ?_
    refine lv_aload_n hx hb dX11_about_108 rfl (lv_at hl 0 rfl) ?_
    refine va_get (ci := 11) (v := .ref (ad 56)) (C := RX11) (T := TX11) (N := 13) hx hb hg inX11 hown hK hP 0 atX_0 rfl 7 (by decide) (hg _ mw_532) (fun _ h9 => h9) rfl dX11_about_109 ?_
    refine va_get (ci := 9) (v := .int (F 39)) (C := RX9) (T := TX9) (N := 8) hx hb hg inX9 hown hK hP 56 atX_56 rfl 4 (by decide) (hg _ mw_449) (fun _ h9 => h9) rfl dX11_about_112 ?_
    refine lv_topi (fun x16 e17 => ?_)
    have r18 : rg x16 0 12 := rg_e e17 (hq.1.1 39)
    exact hret (x16) () H locs 115 ls rfl dX11_about_115 hP hD hS trivial
  · refine lv_tableIn (off := 115) (tgt := 116) hx hb dX11_about_1 hlo hhi (by rw [hcs]; rfl) (by decide) ?_
    refine lv_aload_n hx hb dX11_about_116 rfl (lv_at hl 0 rfl) ?_
    refine va_get (ci := 11) (v := .ref (ad 61)) (C := RX11) (T := TX11) (N := 13) hx hb hg inX11 hown hK hP 0 atX_0 rfl 8 (by decide) (hg _ mw_533) (fun _ h9 => h9) rfl dX11_about_117 ?_
    refine va_get (ci := 8) (v := .int (F 43)) (C := RX8) (T := TX8) (N := 9) hx hb hg inX8 hown hK hP 61 atX_61 rfl 8 (by decide) (hg _ mw_492) (fun _ h9 => h9) rfl dX11_about_120 ?_
    refine lv_topi (fun x19 e20 => ?_)
    have r21 : rg x19 0 20 := rg_e e20 (hq.1.1 43)
    exact hret (x19) () H locs 123 ls rfl dX11_about_123 hP hD hS trivial
  · refine lv_tableIn (off := 123) (tgt := 124) hx hb dX11_about_1 hlo hhi (by rw [hcs]; rfl) (by decide) ?_
    refine lv_aload_n hx hb dX11_about_124 rfl (lv_at hl 0 rfl) ?_
    refine va_get (ci := 11) (v := .int (F 1)) (C := RX11) (T := TX11) (N := 13) hx hb hg inX11 hown hK hP 0 atX_0 rfl 12 (by decide) (hg _ mw_537) (fun _ h9 => h9) rfl dX11_about_125 ?_
    refine lv_topi (fun x22 e23 => ?_)
    have r24 : rg x22 0 100000 := rg_e e23 (hq.1.1 1)
    exact hret (x22) () H locs 128 ls rfl dX11_about_128 hP hD hS trivial
  · refine lv_tableIn (off := 128) (tgt := 129) hx hb dX11_about_1 hlo hhi (by rw [hcs]; rfl) (by decide) ?_
    refine lv_aload_n hx hb dX11_about_129 rfl (lv_at hl 0 rfl) ?_
    refine va_get (ci := 11) (v := .int (F 0)) (C := RX11) (T := TX11) (N := 13) hx hb hg inX11 hown hK hP 0 atX_0 rfl 11 (by decide) (hg _ mw_536) (fun _ h9 => h9) rfl dX11_about_130 ?_
    refine lv_topi (fun x25 e26 => ?_)
    have r27 : rg x25 0 1700 := rg_e e26 (hq.1.1 0)
    exact hret (x25) () H locs 133 ls rfl dX11_about_133 hP hD hS trivial
  · refine lv_tableIn (off := 133) (tgt := 134) hx hb dX11_about_1 hlo hhi (by rw [hcs]; rfl) (by decide) ?_
    refine lv_aload_n hx hb dX11_about_134 rfl (lv_at hl 0 rfl) ?_
    refine va_get (ci := 11) (v := .ref (ad 11)) (C := RX11) (T := TX11) (N := 13) hx hb hg inX11 hown hK hP 0 atX_0 rfl 10 (by decide) (hg _ mw_535) (fun _ h9 => h9) rfl dX11_about_135 ?_
    refine va_get (ci := 10) (v := .int (F 20)) (C := RX10) (T := TX10) (N := 12) hx hb hg inX10 hown hK hP 11 atX_11 rfl 11 (by decide) (hg _ mw_184) (fun _ h9 => h9) rfl dX11_about_138 ?_
    refine lv_topi (fun x28 e29 => ?_)
    exact hret (x28) () H locs 141 ls rfl dX11_about_141 hP hD hS trivial
