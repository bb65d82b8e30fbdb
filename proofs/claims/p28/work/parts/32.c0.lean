abbrev rm_emptyS : Room := { frames := 1, cells := 0, slots := 0, locals := 23 }
set_option maxHeartbeats 4000000 in
set_option maxRecDepth 100000 in
theorem c_empty (l : Launch) (D : va_G) (tys : List (ClassId × FieldType)) (ws : va_W) (sz h0 a n q t j : Nat) {cq : ClassId} {f : Nat → Int32} {fs : List Value} (h0at : ws[0]? = some (h0, .inr (7, fs))) (hfs : fs[j]? = some (.ref a)) (hat : ws[q]? = some (a, .inl (cq, n, .inl f))) (hty : tys[t]? = some (cq, .int)) (hn : n < 2147483648 ∧ j = 2) :
    Met l yX7_empty (Cond.code yX7_empty cX7_empty 1 none :: GW) rm_emptyS (mPc D classes tys ws sz [.ref h0]) (mQv (S := Unit) D classes tys ws sz (fun _ => ws.set q (a, .inl (cq, n, .inl (fun j => if j < n then -1 else f j)))) (fun _ => True)) 0 0 (va_A ws sz) := by
  obtain ⟨hn, rfl⟩ := hn
  refine met_v (own := "ShoeingDay$Shelf") (by decide +kernel) rfl (Nat.le_of_ble_eq_true rfl) ?_
  intro p e s m args below meth c Q Af ls hC hP hD hS hA hl hret
  have hx := hC.1
  have hb := hC.2.1
  have hown := hC.2.2.2.1
  have hg := hC.g
  have hK := hC.K
  have hl : lv_has ls 1 [(0, .ref h0)] := hl
  refine lv_aload_n hx hb dX7_empty_0 rfl (lv_at hl 0 rfl) ?_
  refine va_get (ci := 7) (v := .ref a) (C := RX7) (T := TX7) (N := 3) hx hb hg inX7 hown hK hP 0 h0at rfl 2 (by decide) (hg _ mw_283) (fun _ h9 => h9) hfs dX7_empty_1 ?_
  refine lv_iconst (v := -1) hx hb dX7_empty_4 (by decide) ?_
  refine calls_v (As := [.ref a, .int (-1)]) (rest := []) hC (c_fill l D tys ws q t s.heap.size a n (-1) hat hty hn) (cwF 2 hg mw_278 mw_279 mw_13 mw_280 ⟨rfl, rfl⟩ (by decide +kernel) ⟨(Nat.le_of_ble_eq_true rfl), (Nat.le_of_ble_eq_true rfl)⟩) hP hD hS hA rfl hl.1 rfl (Nat.le_of_ble_eq_true rfl) dX7_empty_5 ⟨Nat.zero_le _, Nat.zero_le _⟩ (fun _ H locs _ hP hD hS => ?_)
  exact hret () H locs 8 ls dX7_empty_8 hP hD hS trivial
abbrev rm_X7_init_41 : Room := { frames := 2, cells := 2, slots := 3321, locals := 140 }
def BB_X7_init_41 (D : va_G) (h0 : Nat) (A9 : Nat → Prop) (t : State) : Prop := ∃ (q1 : Nat) (q3 : Nat) (c2 : ClassId) (c4 : ClassId), va_P D classes [(h0, .inr (7, [.int 41, .ref q1, .ref q3])), (q1, .inl (c2, 3280, .inl (fun _ => 0))), (q3, .inl (c4, 41, .inl (fun j => if j < 41 then -1 else 0)))] t.heap ∧ va_K D classes [(c2, .int), (c4, .int)] t ∧ va_D A9 [(h0, .inr (7, [.int 41, .ref q1, .ref q3])), (q1, .inl (c2, 3280, .inl (fun _ => 0))), (q3, .inl (c4, 41, .inl (fun j => if j < 41 then -1 else 0)))]
set_option maxHeartbeats 4000000 in
set_option maxRecDepth 100000 in
theorem c_X7_init_41 (l : Launch) (D : va_G) (h0 sz : Nat) : Met l yX7_init (Cond.code yX7_init cX7_init 2 none :: GW) rm_X7_init_41 (nPc D [(h0, .inr (7, [.int 0, .null, .null]))] sz [.ref h0, .int 41] (fun _ => True)) (va_Qv (S := Unit) (fun _ => True) (fun _ t => BB_X7_init_41 D h0 (va_A [(h0, .inr (7, [.int 0, .null, .null]))] sz) t) (va_A [(h0, .inr (7, [.int 0, .null, .null]))] sz)) 2 3321 (va_A [(h0, .inr (7, [.int 0, .null, .null]))] sz) := by
  refine met_c (ZZ := fun _ _ => True) (BB := BB_X7_init_41 D h0) (own := "ShoeingDay$Shelf") (by decide +kernel) rfl rfl (Nat.le_of_ble_eq_true rfl) ?_
  intro p e s m args below meth c Q Af ls hC hin hP hD hS hA hZ hl hret
  have hx := hC.1
  have hb := hC.2.1
  have hown := hC.2.2.2.1
  have hg := hC.g
  have hK := hC.K
  have hl : lv_has ls 2 [(0, .ref h0), (1, .int 41)] := hl
  obtain ⟨H, hH⟩ : ∃ H, H = s.heap := ⟨_, rfl⟩
  have hP : va_P D classes [(h0, .inr (7, [.int 0, .null, .null]))] H := by rw [hH]; exact hP
  have hS : va_S Af s.heap H [] := by rw [hH]; exact hS
  rw [← hH]
  refine lv_aload_n hx hb dX7_init_0 rfl (lv_at hl 0 rfl) ?_
  refine W.objInit hx hb hown (hg _ mw_270) (hg _ mw_28) (hg _ mw_29) rfl (by rw [hC.2.2.1]; exact hl.1) rfl dX7_init_1 (Nat.le_of_ble_eq_true rfl) (Nat.le_of_ble_eq_true rfl) ?_
  refine W.eq (g2 := F0 m 4 ls []) rfl ?_
  refine lv_aload_n hx hb dX7_init_4 rfl (lv_at hl 0 rfl) ?_
  refine lv_iload_n hx hb dX7_init_5 rfl (lv_at hl 1 rfl) ?_
  refine lv_iconst (v := 1) hx hb dX7_init_6 (by decide) ?_
  refine va_mmax hx hb (hC.2.2.1.trans hl.1.symm) hown (hg _ mw_271) (hg _ mw_272) (hg _ mw_12) (hg _ mw_273) (Nat.le_of_ble_eq_true rfl) (Nat.le_of_ble_eq_true rfl) (Nat.zero_le _) (Nat.zero_le _) dX7_init_7 ?_
  refine lv_topi (fun x ex => ?_)
  obtain rfl : x = 41 := by rw [ex]; decide
  refine va_putF (D := D) (ci := 7) (v := .int 41) (ty := .int) (C := RX7) (T := TX7) (N := 3) hx hb hg inX7 tyX7 tyX7_ok nmX7 hown hK hP hD hS 0 rfl rfl 0 (by decide) (hg _ mw_281) (fun _ h9 => h9) rfl hin rfl (by decide +kernel) rfl rfl (Nat.le_of_ble_eq_true rfl) dX7_init_10 (fun H locs hP hD hS => ?_)
  have hP : va_P D classes [(h0, .inr (7, [.int 41, .null, .null]))] H := hP
  have hD : va_D Af [(h0, .inr (7, [.int 41, .null, .null]))] := hD
  refine lv_aload_n hx hb dX7_init_13 rfl (lv_at hl 0 rfl) ?_
  refine lv_aload_n hx hb dX7_init_14 rfl (lv_at hl 0 rfl) ?_
  refine va_get (ci := 7) (v := .int 41) (C := RX7) (T := TX7) (N := 3) hx hb hg inX7 hown hK hP 0 rfl rfl 0 (by decide) (hg _ mw_281) (fun _ h9 => h9) rfl dX7_init_15 ?_
  refine lv_bipush (v := 80) hx hb dX7_init_18 (by decide) ?_
  refine lv_imul hx hb dX7_init_20 ?_
  refine lv_topi (fun x ex => ?_)
  obtain rfl : x = 3280 := by rw [ex]; decide
  refine va_newa (atype := .int) (ty := .int) (a0 := (3280, .inl (fun _ => 0))) hx hb (hg _ mw_211) rfl hK hP hD hS hA (fun _ => rfl) (by decide) rfl (by decide) (Nat.le_of_ble_eq_true rfl) (Nat.le_of_ble_eq_true rfl) dX7_init_21 (fun q1 c2 H hK hP hD hS => ?_)
  have hK : va_K D classes [(c2, .int)] s := hK
  refine W.widen (k := 1) (n := 3280) (Nat.le_of_ble_eq_true rfl) (Nat.le_of_ble_eq_true rfl) ?_
  refine va_putF (D := D) (ci := 7) (v := .ref q1) (ty := (.array .int)) (C := RX7) (T := TX7) (N := 3) hx hb hg inX7 tyX7 tyX7_ok nmX7 hown hK hP hD hS 0 rfl rfl 1 (by decide) (hg _ mw_282) (fun _ h9 => h9) rfl hin rfl (by decide +kernel) rfl rfl (Nat.le_of_ble_eq_true rfl) dX7_init_23 (fun H locs hP hD hS => ?_)
  have hP : va_P D classes [(h0, .inr (7, [.int 41, .ref q1, .null])), (q1, .inl (c2, 3280, .inl (fun _ => 0)))] H := hP
  have hD : va_D Af [(h0, .inr (7, [.int 41, .ref q1, .null])), (q1, .inl (c2, 3280, .inl (fun _ => 0)))] := hD
  refine lv_aload_n hx hb dX7_init_26 rfl (lv_at hl 0 rfl) ?_
  refine lv_aload_n hx hb dX7_init_27 rfl (lv_at hl 0 rfl) ?_
  refine va_get (ci := 7) (v := .int 41) (C := RX7) (T := TX7) (N := 3) hx hb hg inX7 hown hK hP 0 rfl rfl 0 (by decide) (hg _ mw_281) (fun _ h9 => h9) rfl dX7_init_28 ?_
  refine va_newa (atype := .int) (ty := .int) (a0 := (41, .inl (fun _ => 0))) hx hb (hg _ mw_211) rfl hK hP hD hS hA (fun _ => rfl) (by decide) rfl (by decide) (Nat.le_of_ble_eq_true rfl) (Nat.le_of_ble_eq_true rfl) dX7_init_31 (fun q3 c4 H hK hP hD hS => ?_)
  have hK : va_K D classes [(c2, .int), (c4, .int)] s := hK
  refine W.widen (k := 2) (n := 3321) (Nat.le_of_ble_eq_true rfl) (Nat.le_of_ble_eq_true rfl) ?_
  refine va_putF (D := D) (ci := 7) (v := .ref q3) (ty := (.array .int)) (C := RX7) (T := TX7) (N := 3) hx hb hg inX7 tyX7 tyX7_ok nmX7 hown hK hP hD hS 0 rfl rfl 2 (by decide) (hg _ mw_283) (fun _ h9 => h9) rfl hin rfl (by decide +kernel) rfl rfl (Nat.le_of_ble_eq_true rfl) dX7_init_33 (fun H locs hP hD hS => ?_)
  have hP : va_P D classes [(h0, .inr (7, [.int 41, .ref q1, .ref q3])), (q1, .inl (c2, 3280, .inl (fun _ => 0))), (q3, .inl (c4, 41, .inl (fun _ => 0)))] H := hP
  have hD : va_D Af [(h0, .inr (7, [.int 41, .ref q1, .ref q3])), (q1, .inl (c2, 3280, .inl (fun _ => 0))), (q3, .inl (c4, 41, .inl (fun _ => 0)))] := hD
  refine lv_aload_n hx hb dX7_init_36 rfl (lv_at hl 0 rfl) ?_
  refine callv_v (As := []) (rest := []) (hC.ty hK) (c_empty l D [(c2, .int), (c4, .int)] [(h0, .inr (7, [.int 41, .ref q1, .ref q3])), (q1, .inl (c2, 3280, .inl (fun _ => 0))), (q3, .inl (c4, 41, .inl (fun _ => 0)))] H.size h0 q3 41 2 1 2 rfl rfl rfl rfl (by decide)) (cwV 0 hg (g_V mw_277 mw_274 mw_275 mw_276 mw_11) rfl rfl rfl (by decide +kernel) ⟨(Nat.le_of_ble_eq_true rfl), (Nat.le_of_ble_eq_true rfl)⟩) hP hD hS hA (q0 := 0) rfl rfl rfl hl.1 rfl (Nat.le_of_ble_eq_true rfl) dX7_init_37 ⟨(Nat.le_of_ble_eq_true rfl), (Nat.le_of_ble_eq_true rfl)⟩ (fun _ H locs _ hP hD hS => ?_)
  have hP : va_P D classes [(h0, .inr (7, [.int 41, .ref q1, .ref q3])), (q1, .inl (c2, 3280, .inl (fun _ => 0))), (q3, .inl (c4, 41, .inl (fun j => if j < 41 then -1 else 0)))] H := hP
  have hD : va_D Af [(h0, .inr (7, [.int 41, .ref q1, .ref q3])), (q1, .inl (c2, 3280, .inl (fun _ => 0))), (q3, .inl (c4, 41, .inl (fun j => if j < 41 then -1 else 0)))] := hD
  refine hret H locs 40 ls dX7_init_40 hS (fun t ht hvm => ⟨q1, q3, c2, c4, by rw [ht]; exact hP, va_K.moved hvm hK, hD⟩)
abbrev rm_X7_init_3 : Room := { frames := 2, cells := 2, slots := 243, locals := 140 }
def BB_X7_init_3 (D : va_G) (h0 : Nat) (A9 : Nat → Prop) (t : State) : Prop := ∃ (q1 : Nat) (q3 : Nat) (c2 : ClassId) (c4 : ClassId), va_P D classes [(h0, .inr (7, [.int 3, .ref q1, .ref q3])), (q1, .inl (c2, 240, .inl (fun _ => 0))), (q3, .inl (c4, 3, .inl (fun j => if j < 3 then -1 else 0)))] t.heap ∧ va_K D classes [(c2, .int), (c4, .int)] t ∧ va_D A9 [(h0, .inr (7, [.int 3, .ref q1, .ref q3])), (q1, .inl (c2, 240, .inl (fun _ => 0))), (q3, .inl (c4, 3, .inl (fun j => if j < 3 then -1 else 0)))]
set_option maxHeartbeats 4000000 in
set_option maxRecDepth 100000 in
theorem c_X7_init_3 (l : Launch) (D : va_G) (h0 sz : Nat) : Met l yX7_init (Cond.code yX7_init cX7_init 2 none :: GW) rm_X7_init_3 (nPc D [(h0, .inr (7, [.int 0, .null, .null]))] sz [.ref h0, .int 3] (fun _ => True)) (va_Qv (S := Unit) (fun _ => True) (fun _ t => BB_X7_init_3 D h0 (va_A [(h0, .inr (7, [.int 0, .null, .null]))] sz) t) (va_A [(h0, .inr (7, [.int 0, .null, .null]))] sz)) 2 243 (va_A [(h0, .inr (7, [.int 0, .null, .null]))] sz) := by
  refine met_c (ZZ := fun _ _ => True) (BB := BB_X7_init_3 D h0) (own := "ShoeingDay$Shelf") (by decide +kernel) rfl rfl (Nat.le_of_ble_eq_true rfl) ?_
  intro p e s m args below meth c Q Af ls hC hin hP hD hS hA hZ hl hret
  have hx := hC.1
  have hb := hC.2.1
  have hown := hC.2.2.2.1
  have hg := hC.g
  have hK := hC.K
  have hl : lv_has ls 2 [(0, .ref h0), (1, .int 3)] := hl
  obtain ⟨H, hH⟩ : ∃ H, H = s.heap := ⟨_, rfl⟩
  have hP : va_P D classes [(h0, .inr (7, [.int 0, .null, .null]))] H := by rw [hH]; exact hP
  have hS : va_S Af s.heap H [] := by rw [hH]; exact hS
  rw [← hH]
  refine lv_aload_n hx hb dX7_init_0 rfl (lv_at hl 0 rfl) ?_
  refine W.objInit hx hb hown (hg _ mw_270) (hg _ mw_28) (hg _ mw_29) rfl (by rw [hC.2.2.1]; exact hl.1) rfl dX7_init_1 (Nat.le_of_ble_eq_true rfl) (Nat.le_of_ble_eq_true rfl) ?_
  refine W.eq (g2 := F0 m 4 ls []) rfl ?_
  refine lv_aload_n hx hb dX7_init_4 rfl (lv_at hl 0 rfl) ?_
  refine lv_iload_n hx hb dX7_init_5 rfl (lv_at hl 1 rfl) ?_
  refine lv_iconst (v := 1) hx hb dX7_init_6 (by decide) ?_
  refine va_mmax hx hb (hC.2.2.1.trans hl.1.symm) hown (hg _ mw_271) (hg _ mw_272) (hg _ mw_12) (hg _ mw_273) (Nat.le_of_ble_eq_true rfl) (Nat.le_of_ble_eq_true rfl) (Nat.zero_le _) (Nat.zero_le _) dX7_init_7 ?_
  refine lv_topi (fun x ex => ?_)
  obtain rfl : x = 3 := by rw [ex]; decide
  refine va_putF (D := D) (ci := 7) (v := .int 3) (ty := .int) (C := RX7) (T := TX7) (N := 3) hx hb hg inX7 tyX7 tyX7_ok nmX7 hown hK hP hD hS 0 rfl rfl 0 (by decide) (hg _ mw_281) (fun _ h9 => h9) rfl hin rfl (by decide +kernel) rfl rfl (Nat.le_of_ble_eq_true rfl) dX7_init_10 (fun H locs hP hD hS => ?_)
  have hP : va_P D classes [(h0, .inr (7, [.int 3, .null, .null]))] H := hP
  have hD : va_D Af [(h0, .inr (7, [.int 3, .null, .null]))] := hD
  refine lv_aload_n hx hb dX7_init_13 rfl (lv_at hl 0 rfl) ?_
  refine lv_aload_n hx hb dX7_init_14 rfl (lv_at hl 0 rfl) ?_
  refine va_get (ci := 7) (v := .int 3) (C := RX7) (T := TX7) (N := 3) hx hb hg inX7 hown hK hP 0 rfl rfl 0 (by decide) (hg _ mw_281) (fun _ h9 => h9) rfl dX7_init_15 ?_
  refine lv_bipush (v := 80) hx hb dX7_init_18 (by decide) ?_
  refine lv_imul hx hb dX7_init_20 ?_
  refine lv_topi (fun x ex => ?_)
  obtain rfl : x = 240 := by rw [ex]; decide
  refine va_newa (atype := .int) (ty := .int) (a0 := (240, .inl (fun _ => 0))) hx hb (hg _ mw_211) rfl hK hP hD hS hA (fun _ => rfl) (by decide) rfl (by decide) (Nat.le_of_ble_eq_true rfl) (Nat.le_of_ble_eq_true rfl) dX7_init_21 (fun q1 c2 H hK hP hD hS => ?_)
  have hK : va_K D classes [(c2, .int)] s := hK
  refine W.widen (k := 1) (n := 240) (Nat.le_of_ble_eq_true rfl) (Nat.le_of_ble_eq_true rfl) ?_
  refine va_putF (D := D) (ci := 7) (v := .ref q1) (ty := (.array .int)) (C := RX7) (T := TX7) (N := 3) hx hb hg inX7 tyX7 tyX7_ok nmX7 hown hK hP hD hS 0 rfl rfl 1 (by decide) (hg _ mw_282) (fun _ h9 => h9) rfl hin rfl (by decide +kernel) rfl rfl (Nat.le_of_ble_eq_true rfl) dX7_init_23 (fun H locs hP hD hS => ?_)
  have hP : va_P D classes [(h0, .inr (7, [.int 3, .ref q1, .null])), (q1, .inl (c2, 240, .inl (fun _ => 0)))] H := hP
  have hD : va_D Af [(h0, .inr (7, [.int 3, .ref q1, .null])), (q1, .inl (c2, 240, .inl (fun _ => 0)))] := hD
  refine lv_aload_n hx hb dX7_init_26 rfl (lv_at hl 0 rfl) ?_
  refine lv_aload_n hx hb dX7_init_27 rfl (lv_at hl 0 rfl) ?_
  refine va_get (ci := 7) (v := .int 3) (C := RX7) (T := TX7) (N := 3) hx hb hg inX7 hown hK hP 0 rfl rfl 0 (by decide) (hg _ mw_281) (fun _ h9 => h9) rfl dX7_init_28 ?_
  refine va_newa (atype := .int) (ty := .int) (a0 := (3, .inl (fun _ => 0))) hx hb (hg _ mw_211) rfl hK hP hD hS hA (fun _ => rfl) (by decide) rfl (by decide) (Nat.le_of_ble_eq_true rfl) (Nat.le_of_ble_eq_true rfl) dX7_init_31 (fun q3 c4 H hK hP hD hS => ?_)
  have hK : va_K D classes [(c2, .int), (c4, .int)] s := hK
  refine W.widen (k := 2) (n := 243) (Nat.le_of_ble_eq_true rfl) (Nat.le_of_ble_eq_true rfl) ?_
  refine va_putF (D := D) (ci := 7) (v := .ref q3) (ty := (.array .int)) (C := RX7) (T := TX7) (N := 3) hx hb hg inX7 tyX7 tyX7_ok nmX7 hown hK hP hD hS 0 rfl rfl 2 (by decide) (hg _ mw_283) (fun _ h9 => h9) rfl hin rfl (by decide +kernel) rfl rfl (Nat.le_of_ble_eq_true rfl) dX7_init_33 (fun H locs hP hD hS => ?_)
  have hP : va_P D classes [(h0, .inr (7, [.int 3, .ref q1, .ref q3])), (q1, .inl (c2, 240, .inl (fun _ => 0))), (q3, .inl (c4, 3, .inl (fun _ => 0)))] H := hP
  have hD : va_D Af [(h0, .inr (7, [.int 3, .ref q1, .ref q3])), (q1, .inl (c2, 240, .inl (fun _ => 0))), (q3, .inl (c4, 3, .inl (fun _ => 0)))] := hD
  refine lv_aload_n hx hb dX7_init_36 rfl (lv_at hl 0 rfl) ?_
  refine callv_v (As := []) (rest := []) (hC.ty hK) (c_empty l D [(c2, .int), (c4, .int)] [(h0, .inr (7, [.int 3, .ref q1, .ref q3])), (q1, .inl (c2, 240, .inl (fun _ => 0))), (q3, .inl (c4, 3, .inl (fun _ => 0)))] H.size h0 q3 3 2 1 2 rfl rfl rfl rfl (by decide)) (cwV 0 hg (g_V mw_277 mw_274 mw_275 mw_276 mw_11) rfl rfl rfl (by decide +kernel) ⟨(Nat.le_of_ble_eq_true rfl), (Nat.le_of_ble_eq_true rfl)⟩) hP hD hS hA (q0 := 0) rfl rfl rfl hl.1 rfl (Nat.le_of_ble_eq_true rfl) dX7_init_37 ⟨(Nat.le_of_ble_eq_true rfl), (Nat.le_of_ble_eq_true rfl)⟩ (fun _ H locs _ hP hD hS => ?_)
  have hP : va_P D classes [(h0, .inr (7, [.int 3, .ref q1, .ref q3])), (q1, .inl (c2, 240, .inl (fun _ => 0))), (q3, .inl (c4, 3, .inl (fun j => if j < 3 then -1 else 0)))] H := hP
  have hD : va_D Af [(h0, .inr (7, [.int 3, .ref q1, .ref q3])), (q1, .inl (c2, 240, .inl (fun _ => 0))), (q3, .inl (c4, 3, .inl (fun j => if j < 3 then -1 else 0)))] := hD
  refine hret H locs 40 ls dX7_init_40 hS (fun t ht hvm => ⟨q1, q3, c2, c4, by rw [ht]; exact hP, va_K.moved hvm hK, hD⟩)
abbrev rm_X0_init : Room := { frames := 3, cells := 3, slots := 3324, locals := 161 }
def BB_X0_init (D : va_G) (h0 : Nat) (A9 : Nat → Prop) (t : State) : Prop := ∃ (q1 : Nat) (q2 : Nat) (q3 : Nat) (c4 : ClassId) (c5 : ClassId), va_P D classes [(h0, .inr (0, [.ref q1, .int 0, .int 0, .int 0])), (q1, .inr (7, [.int 41, .ref q2, .ref q3])), (q2, .inl (c4, 3280, .inl (fun _ => 0))), (q3, .inl (c5, 41, .inl (fun j => if j < 41 then -1 else 0)))] t.heap ∧ va_K D classes [(c4, .int), (c5, .int)] t ∧ va_D A9 [(h0, .inr (0, [.ref q1, .int 0, .int 0, .int 0])), (q1, .inr (7, [.int 41, .ref q2, .ref q3])), (q2, .inl (c4, 3280, .inl (fun _ => 0))), (q3, .inl (c5, 41, .inl (fun j => if j < 41 then -1 else 0)))]
set_option maxHeartbeats 4000000 in
set_option maxRecDepth 100000 in
theorem c_X0_init (l : Launch) (D : va_G) (h0 sz : Nat) : Met l yX0_init (Cond.code yX0_init cX0_init 1 none :: GW) rm_X0_init (nPc D [(h0, .inr (0, [.null, .int 0, .int 0, .int 0]))] sz [.ref h0] (fun _ => True)) (va_Qv (S := Unit) (fun _ => True) (fun _ t => BB_X0_init D h0 (va_A [(h0, .inr (0, [.null, .int 0, .int 0, .int 0]))] sz) t) (va_A [(h0, .inr (0, [.null, .int 0, .int 0, .int 0]))] sz)) 3 3324 (va_A [(h0, .inr (0, [.null, .int 0, .int 0, .int 0]))] sz) := by
  refine met_c (ZZ := fun _ _ => True) (BB := BB_X0_init D h0) (own := "ShoeingDay$Acts") (by decide +kernel) rfl rfl (Nat.le_of_ble_eq_true rfl) ?_
  intro p e s m args below meth c Q Af ls hC hin hP hD hS hA hZ hl hret
  have hx := hC.1
  have hb := hC.2.1
  have hown := hC.2.2.2.1
  have hg := hC.g
  have hK := hC.K
  have hl : lv_has ls 1 [(0, .ref h0)] := hl
  obtain ⟨H, hH⟩ : ∃ H, H = s.heap := ⟨_, rfl⟩
  have hP : va_P D classes [(h0, .inr (0, [.null, .int 0, .int 0, .int 0]))] H := by rw [hH]; exact hP
  have hS : va_S Af s.heap H [] := by rw [hH]; exact hS
  rw [← hH]
  refine lv_aload_n hx hb dX0_init_0 rfl (lv_at hl 0 rfl) ?_
  refine W.objInit hx hb hown (hg _ mw_264) (hg _ mw_28) (hg _ mw_29) rfl (by rw [hC.2.2.1]; exact hl.1) rfl dX0_init_1 (Nat.le_of_ble_eq_true rfl) (Nat.le_of_ble_eq_true rfl) ?_
  refine W.eq (g2 := F0 m 4 ls []) rfl ?_
  refine lv_aload_n hx hb dX0_init_4 rfl (lv_at hl 0 rfl) ?_
  refine va_new (ci := 7) (fs := [.int 0, .null, .null]) (C := RX7) (T := TX7) (N := 3) hx hb hg inX7 tyX7 tyX7_ok hown (hg _ mw_265) (hg _ mw_266) (hg _ mw_11) hK hP hD hS hA rfl (fun j hj => by rcases (show j = 0 ∨ j = 1 ∨ j = 2 by omega) with rfl | rfl | rfl <;> rfl) (Nat.le_of_ble_eq_true rfl) (Nat.le_of_ble_eq_true rfl) dX0_init_5 (fun q1 H hP hD hS => ?_)
  refine W.widen (k := 1) (n := 3) (Nat.le_of_ble_eq_true rfl) (Nat.le_of_ble_eq_true rfl) ?_
  refine lv_dup hx hb dX0_init_8 rfl ?_
  refine lv_bipush (v := 41) hx hb dX0_init_9 (by decide) ?_
  refine ci_v (mc := 2) (ms := 3321) (rm := rm_X7_init_41) (BB := BB_X7_init_41 D q1) (As := [.int 41]) (rest := [.ref q1, .ref h0]) (u := [(q1, .inr (7, [.int 0, .null, .null]))]) (v := [(h0, .inr (0, [.null, .int 0, .int 0, .int 0]))]) hC (c_X7_init_41 l D q1 H.size) (cwI 1 hg (g_N mw_269) rfl rfl rfl (hg _ mw_11) (hg _ mw_267) (hg _ mw_268) rfl (by decide +kernel) ⟨(Nat.le_of_ble_eq_true rfl), (Nat.le_of_ble_eq_true rfl)⟩) (fun _ _ _ _ _ => trivial) (fun _ _ _ => trivial) hP hD hS hA rfl hl.1 rfl (Nat.le_of_ble_eq_true rfl) dX0_init_11 ⟨(Nat.le_of_ble_eq_true rfl), (Nat.le_of_ble_eq_true rfl)⟩ (fun t H locs ht hvm hB hJ hS => ?_)
  obtain ⟨q2, q3, c4, c5, hP1, hK1, hD1⟩ := hB
  rw [ht] at hP1
  have hK1 := va_K.moved hvm.symm hK1
  obtain ⟨hP, hD⟩ := hJ _ hP1 hD1
  have hK := hK.app hK1
  have hP : va_P D classes [(h0, .inr (0, [.null, .int 0, .int 0, .int 0])), (q1, .inr (7, [.int 41, .ref q2, .ref q3])), (q2, .inl (c4, 3280, .inl (fun _ => 0))), (q3, .inl (c5, 41, .inl (fun j => if j < 41 then -1 else 0)))] H := hP
  have hD : va_D Af [(h0, .inr (0, [.null, .int 0, .int 0, .int 0])), (q1, .inr (7, [.int 41, .ref q2, .ref q3])), (q2, .inl (c4, 3280, .inl (fun _ => 0))), (q3, .inl (c5, 41, .inl (fun j => if j < 41 then -1 else 0)))] := hD
  have hK : va_K D classes [(c4, .int), (c5, .int)] s := hK
  refine W.widen (k := 3) (n := 3324) (Nat.le_of_ble_eq_true rfl) (Nat.le_of_ble_eq_true rfl) ?_
  refine va_putF (D := D) (ci := 0) (v := .ref q1) (ty := (.object "ShoeingDay$Shelf")) (C := RX0) (T := TX0) (N := 4) hx hb hg inX0 tyX0 tyX0_ok nmX0 hown hK hP hD hS 0 rfl rfl 0 (by decide) (hg _ mw_291) (fun _ h9 => h9) rfl hin rfl (by decide +kernel) rfl rfl (Nat.le_of_ble_eq_true rfl) dX0_init_14 (fun H locs hP hD hS => ?_)
  have hP : va_P D classes [(h0, .inr (0, [.ref q1, .int 0, .int 0, .int 0])), (q1, .inr (7, [.int 41, .ref q2, .ref q3])), (q2, .inl (c4, 3280, .inl (fun _ => 0))), (q3, .inl (c5, 41, .inl (fun j => if j < 41 then -1 else 0)))] H := hP
  have hD : va_D Af [(h0, .inr (0, [.ref q1, .int 0, .int 0, .int 0])), (q1, .inr (7, [.int 41, .ref q2, .ref q3])), (q2, .inl (c4, 3280, .inl (fun _ => 0))), (q3, .inl (c5, 41, .inl (fun j => if j < 41 then -1 else 0)))] := hD
  refine lv_aload_n hx hb dX0_init_17 rfl (lv_at hl 0 rfl) ?_
  refine lv_iconst (v := 0) hx hb dX0_init_18 (by decide) ?_
  refine va_put (D := D) (ci := 0) (v := .int 0) (ty := .int) (C := RX0) (T := TX0) (N := 4) hx hb hg inX0 tyX0 tyX0_ok nmX0 hown hK hP hD hS 0 rfl rfl 1 (by decide) (hg _ mw_292) (fun _ h9 => h9) rfl (by decide +kernel) rfl rfl (Nat.le_of_ble_eq_true rfl) dX0_init_19 (fun H locs hP hD hS => ?_)
  have hP : va_P D classes [(h0, .inr (0, [.ref q1, .int 0, .int 0, .int 0])), (q1, .inr (7, [.int 41, .ref q2, .ref q3])), (q2, .inl (c4, 3280, .inl (fun _ => 0))), (q3, .inl (c5, 41, .inl (fun j => if j < 41 then -1 else 0)))] H := hP
  have hD : va_D Af [(h0, .inr (0, [.ref q1, .int 0, .int 0, .int 0])), (q1, .inr (7, [.int 41, .ref q2, .ref q3])), (q2, .inl (c4, 3280, .inl (fun _ => 0))), (q3, .inl (c5, 41, .inl (fun j => if j < 41 then -1 else 0)))] := hD
  refine lv_aload_n hx hb dX0_init_22 rfl (lv_at hl 0 rfl) ?_
  refine lv_iconst (v := 0) hx hb dX0_init_23 (by decide) ?_
  refine va_put (D := D) (ci := 0) (v := .int 0) (ty := .int) (C := RX0) (T := TX0) (N := 4) hx hb hg inX0 tyX0 tyX0_ok nmX0 hown hK hP hD hS 0 rfl rfl 2 (by decide) (hg _ mw_293) (fun _ h9 => h9) rfl (by decide +kernel) rfl rfl (Nat.le_of_ble_eq_true rfl) dX0_init_24 (fun H locs hP hD hS => ?_)
  have hP : va_P D classes [(h0, .inr (0, [.ref q1, .int 0, .int 0, .int 0])), (q1, .inr (7, [.int 41, .ref q2, .ref q3])), (q2, .inl (c4, 3280, .inl (fun _ => 0))), (q3, .inl (c5, 41, .inl (fun j => if j < 41 then -1 else 0)))] H := hP
  have hD : va_D Af [(h0, .inr (0, [.ref q1, .int 0, .int 0, .int 0])), (q1, .inr (7, [.int 41, .ref q2, .ref q3])), (q2, .inl (c4, 3280, .inl (fun _ => 0))), (q3, .inl (c5, 41, .inl (fun j => if j < 41 then -1 else 0)))] := hD
  refine lv_aload_n hx hb dX0_init_27 rfl (lv_at hl 0 rfl) ?_
  refine lv_iconst (v := 0) hx hb dX0_init_28 (by decide) ?_
  refine va_put (D := D) (ci := 0) (v := .int 0) (ty := .int) (C := RX0) (T := TX0) (N := 4) hx hb hg inX0 tyX0 tyX0_ok nmX0 hown hK hP hD hS 0 rfl rfl 3 (by decide) (hg _ mw_295) (fun _ h9 => h9) rfl (by decide +kernel) rfl rfl (Nat.le_of_ble_eq_true rfl) dX0_init_29 (fun H locs hP hD hS => ?_)
  have hP : va_P D classes [(h0, .inr (0, [.ref q1, .int 0, .int 0, .int 0])), (q1, .inr (7, [.int 41, .ref q2, .ref q3])), (q2, .inl (c4, 3280, .inl (fun _ => 0))), (q3, .inl (c5, 41, .inl (fun j => if j < 41 then -1 else 0)))] H := hP
  have hD : va_D Af [(h0, .inr (0, [.ref q1, .int 0, .int 0, .int 0])), (q1, .inr (7, [.int 41, .ref q2, .ref q3])), (q2, .inl (c4, 3280, .inl (fun _ => 0))), (q3, .inl (c5, 41, .inl (fun j => if j < 41 then -1 else 0)))] := hD
  refine hret H locs 32 ls dX0_init_32 hS (fun t ht hvm => ⟨q1, q2, q3, c4, c5, by rw [ht]; exact hP, va_K.moved hvm hK, hD⟩)
abbrev rm_X1_init : Room := { frames := 1, cells := 5, slots := 51, locals := 20 }
def BB_X1_init (D : va_G) (h0 : Nat) (A9 : Nat → Prop) (t : State) : Prop := ∃ (q1 : Nat) (q3 : Nat) (q5 : Nat) (q7 : Nat) (q9 : Nat) (c2 : ClassId) (c4 : ClassId) (c6 : ClassId) (c8 : ClassId) (c10 : ClassId), va_P D classes [(h0, .inr (1, [.ref q1, .ref q3, .ref q5, .ref q7, .ref q9])), (q1, .inl (c2, 10, .inl (fun _ => 0))), (q3, .inl (c4, 10, .inl (fun _ => 0))), (q5, .inl (c6, 10, .inl (fun _ => 0))), (q7, .inl (c8, 10, .inl (fun _ => 0))), (q9, .inl (c10, 11, .inl (fun _ => 0)))] t.heap ∧ va_K D classes [(c2, .int), (c4, .int), (c6, .int), (c8, .int), (c10, .int)] t ∧ va_D A9 [(h0, .inr (1, [.ref q1, .ref q3, .ref q5, .ref q7, .ref q9])), (q1, .inl (c2, 10, .inl (fun _ => 0))), (q3, .inl (c4, 10, .inl (fun _ => 0))), (q5, .inl (c6, 10, .inl (fun _ => 0))), (q7, .inl (c8, 10, .inl (fun _ => 0))), (q9, .inl (c10, 11, .inl (fun _ => 0)))]
set_option maxHeartbeats 4000000 in
set_option maxRecDepth 100000 in
theorem c_X1_init (l : Launch) (D : va_G) (h0 sz : Nat) : Met l yX1_init (Cond.code yX1_init cX1_init 1 none :: GW) rm_X1_init (nPc D [(h0, .inr (1, [.null, .null, .null, .null, .null]))] sz [.ref h0] (fun _ => True)) (va_Qv (S := Unit) (fun _ => True) (fun _ t => BB_X1_init D h0 (va_A [(h0, .inr (1, [.null, .null, .null, .null, .null]))] sz) t) (va_A [(h0, .inr (1, [.null, .null, .null, .null, .null]))] sz)) 5 51 (va_A [(h0, .inr (1, [.null, .null, .null, .null, .null]))] sz) := by
  refine met_c (ZZ := fun _ _ => True) (BB := BB_X1_init D h0) (own := "ShoeingDay$Cover") (by decide +kernel) rfl rfl (Nat.le_of_ble_eq_true rfl) ?_
  intro p e s m args below meth c Q Af ls hC hin hP hD hS hA hZ hl hret
  have hx := hC.1
  have hb := hC.2.1
  have hown := hC.2.2.2.1
  have hg := hC.g
  have hK := hC.K
  have hl : lv_has ls 1 [(0, .ref h0)] := hl
  obtain ⟨H, hH⟩ : ∃ H, H = s.heap := ⟨_, rfl⟩
  have hP : va_P D classes [(h0, .inr (1, [.null, .null, .null, .null, .null]))] H := by rw [hH]; exact hP
  have hS : va_S Af s.heap H [] := by rw [hH]; exact hS
  rw [← hH]
  refine lv_aload_n hx hb dX1_init_0 rfl (lv_at hl 0 rfl) ?_
  refine W.objInit hx hb hown (hg _ mw_319) (hg _ mw_28) (hg _ mw_29) rfl (by rw [hC.2.2.1]; exact hl.1) rfl dX1_init_1 (Nat.le_of_ble_eq_true rfl) (Nat.le_of_ble_eq_true rfl) ?_
  refine W.eq (g2 := F0 m 4 ls []) rfl ?_
  refine lv_aload_n hx hb dX1_init_4 rfl (lv_at hl 0 rfl) ?_
  refine lv_bipush (v := 10) hx hb dX1_init_5 (by decide) ?_
  refine va_newa (atype := .int) (ty := .int) (a0 := (10, .inl (fun _ => 0))) hx hb (hg _ mw_211) rfl hK hP hD hS hA (fun _ => rfl) (by decide) rfl (by decide) (Nat.le_of_ble_eq_true rfl) (Nat.le_of_ble_eq_true rfl) dX1_init_7 (fun q1 c2 H hK hP hD hS => ?_)
  have hK : va_K D classes [(c2, .int)] s := hK
  refine W.widen (k := 1) (n := 10) (Nat.le_of_ble_eq_true rfl) (Nat.le_of_ble_eq_true rfl) ?_
  refine va_putF (D := D) (ci := 1) (v := .ref q1) (ty := (.array .int)) (C := RX1) (T := TX1) (N := 5) hx hb hg inX1 tyX1 tyX1_ok nmX1 hown hK hP hD hS 0 rfl rfl 0 (by decide) (hg _ mw_320) (fun _ h9 => h9) rfl hin rfl (by decide +kernel) rfl rfl (Nat.le_of_ble_eq_true rfl) dX1_init_9 (fun H locs hP hD hS => ?_)
  have hP : va_P D classes [(h0, .inr (1, [.ref q1, .null, .null, .null, .null])), (q1, .inl (c2, 10, .inl (fun _ => 0)))] H := hP
  have hD : va_D Af [(h0, .inr (1, [.ref q1, .null, .null, .null, .null])), (q1, .inl (c2, 10, .inl (fun _ => 0)))] := hD
  refine lv_aload_n hx hb dX1_init_12 rfl (lv_at hl 0 rfl) ?_
  refine lv_bipush (v := 10) hx hb dX1_init_13 (by decide) ?_
  refine va_newa (atype := .int) (ty := .int) (a0 := (10, .inl (fun _ => 0))) hx hb (hg _ mw_211) rfl hK hP hD hS hA (fun _ => rfl) (by decide) rfl (by decide) (Nat.le_of_ble_eq_true rfl) (Nat.le_of_ble_eq_true rfl) dX1_init_15 (fun q3 c4 H hK hP hD hS => ?_)
  have hK : va_K D classes [(c2, .int), (c4, .int)] s := hK
  refine W.widen (k := 2) (n := 20) (Nat.le_of_ble_eq_true rfl) (Nat.le_of_ble_eq_true rfl) ?_
  refine va_putF (D := D) (ci := 1) (v := .ref q3) (ty := (.array .int)) (C := RX1) (T := TX1) (N := 5) hx hb hg inX1 tyX1 tyX1_ok nmX1 hown hK hP hD hS 0 rfl rfl 1 (by decide) (hg _ mw_322) (fun _ h9 => h9) rfl hin rfl (by decide +kernel) rfl rfl (Nat.le_of_ble_eq_true rfl) dX1_init_17 (fun H locs hP hD hS => ?_)
  have hP : va_P D classes [(h0, .inr (1, [.ref q1, .ref q3, .null, .null, .null])), (q1, .inl (c2, 10, .inl (fun _ => 0))), (q3, .inl (c4, 10, .inl (fun _ => 0)))] H := hP
  have hD : va_D Af [(h0, .inr (1, [.ref q1, .ref q3, .null, .null, .null])), (q1, .inl (c2, 10, .inl (fun _ => 0))), (q3, .inl (c4, 10, .inl (fun _ => 0)))] := hD
  refine lv_aload_n hx hb dX1_init_20 rfl (lv_at hl 0 rfl) ?_
  refine lv_bipush (v := 10) hx hb dX1_init_21 (by decide) ?_
  refine va_newa (atype := .int) (ty := .int) (a0 := (10, .inl (fun _ => 0))) hx hb (hg _ mw_211) rfl hK hP hD hS hA (fun _ => rfl) (by decide) rfl (by decide) (Nat.le_of_ble_eq_true rfl) (Nat.le_of_ble_eq_true rfl) dX1_init_23 (fun q5 c6 H hK hP hD hS => ?_)
  have hK : va_K D classes [(c2, .int), (c4, .int), (c6, .int)] s := hK
  refine W.widen (k := 3) (n := 30) (Nat.le_of_ble_eq_true rfl) (Nat.le_of_ble_eq_true rfl) ?_
  refine va_putF (D := D) (ci := 1) (v := .ref q5) (ty := (.array .int)) (C := RX1) (T := TX1) (N := 5) hx hb hg inX1 tyX1 tyX1_ok nmX1 hown hK hP hD hS 0 rfl rfl 2 (by decide) (hg _ mw_324) (fun _ h9 => h9) rfl hin rfl (by decide +kernel) rfl rfl (Nat.le_of_ble_eq_true rfl) dX1_init_25 (fun H locs hP hD hS => ?_)
  have hP : va_P D classes [(h0, .inr (1, [.ref q1, .ref q3, .ref q5, .null, .null])), (q1, .inl (c2, 10, .inl (fun _ => 0))), (q3, .inl (c4, 10, .inl (fun _ => 0))), (q5, .inl (c6, 10, .inl (fun _ => 0)))] H := hP
  have hD : va_D Af [(h0, .inr (1, [.ref q1, .ref q3, .ref q5, .null, .null])), (q1, .inl (c2, 10, .inl (fun _ => 0))), (q3, .inl (c4, 10, .inl (fun _ => 0))), (q5, .inl (c6, 10, .inl (fun _ => 0)))] := hD
  refine lv_aload_n hx hb dX1_init_28 rfl (lv_at hl 0 rfl) ?_
  refine lv_bipush (v := 10) hx hb dX1_init_29 (by decide) ?_
  refine va_newa (atype := .int) (ty := .int) (a0 := (10, .inl (fun _ => 0))) hx hb (hg _ mw_211) rfl hK hP hD hS hA (fun _ => rfl) (by decide) rfl (by decide) (Nat.le_of_ble_eq_true rfl) (Nat.le_of_ble_eq_true rfl) dX1_init_31 (fun q7 c8 H hK hP hD hS => ?_)
  have hK : va_K D classes [(c2, .int), (c4, .int), (c6, .int), (c8, .int)] s := hK
  refine W.widen (k := 4) (n := 40) (Nat.le_of_ble_eq_true rfl) (Nat.le_of_ble_eq_true rfl) ?_
  refine va_putF (D := D) (ci := 1) (v := .ref q7) (ty := (.array .int)) (C := RX1) (T := TX1) (N := 5) hx hb hg inX1 tyX1 tyX1_ok nmX1 hown hK hP hD hS 0 rfl rfl 3 (by decide) (hg _ mw_326) (fun _ h9 => h9) rfl hin rfl (by decide +kernel) rfl rfl (Nat.le_of_ble_eq_true rfl) dX1_init_33 (fun H locs hP hD hS => ?_)
  have hP : va_P D classes [(h0, .inr (1, [.ref q1, .ref q3, .ref q5, .ref q7, .null])), (q1, .inl (c2, 10, .inl (fun _ => 0))), (q3, .inl (c4, 10, .inl (fun _ => 0))), (q5, .inl (c6, 10, .inl (fun _ => 0))), (q7, .inl (c8, 10, .inl (fun _ => 0)))] H := hP
  have hD : va_D Af [(h0, .inr (1, [.ref q1, .ref q3, .ref q5, .ref q7, .null])), (q1, .inl (c2, 10, .inl (fun _ => 0))), (q3, .inl (c4, 10, .inl (fun _ => 0))), (q5, .inl (c6, 10, .inl (fun _ => 0))), (q7, .inl (c8, 10, .inl (fun _ => 0)))] := hD
  refine lv_aload_n hx hb dX1_init_36 rfl (lv_at hl 0 rfl) ?_
  refine lv_bipush (v := 11) hx hb dX1_init_37 (by decide) ?_
  refine va_newa (atype := .int) (ty := .int) (a0 := (11, .inl (fun _ => 0))) hx hb (hg _ mw_211) rfl hK hP hD hS hA (fun _ => rfl) (by decide) rfl (by decide) (Nat.le_of_ble_eq_true rfl) (Nat.le_of_ble_eq_true rfl) dX1_init_39 (fun q9 c10 H hK hP hD hS => ?_)
  have hK : va_K D classes [(c2, .int), (c4, .int), (c6, .int), (c8, .int), (c10, .int)] s := hK
  refine W.widen (k := 5) (n := 51) (Nat.le_of_ble_eq_true rfl) (Nat.le_of_ble_eq_true rfl) ?_
  refine va_putF (D := D) (ci := 1) (v := .ref q9) (ty := (.array .int)) (C := RX1) (T := TX1) (N := 5) hx hb hg inX1 tyX1 tyX1_ok nmX1 hown hK hP hD hS 0 rfl rfl 4 (by decide) (hg _ mw_327) (fun _ h9 => h9) rfl hin rfl (by decide +kernel) rfl rfl (Nat.le_of_ble_eq_true rfl) dX1_init_41 (fun H locs hP hD hS => ?_)
  have hP : va_P D classes [(h0, .inr (1, [.ref q1, .ref q3, .ref q5, .ref q7, .ref q9])), (q1, .inl (c2, 10, .inl (fun _ => 0))), (q3, .inl (c4, 10, .inl (fun _ => 0))), (q5, .inl (c6, 10, .inl (fun _ => 0))), (q7, .inl (c8, 10, .inl (fun _ => 0))), (q9, .inl (c10, 11, .inl (fun _ => 0)))] H := hP
  have hD : va_D Af [(h0, .inr (1, [.ref q1, .ref q3, .ref q5, .ref q7, .ref q9])), (q1, .inl (c2, 10, .inl (fun _ => 0))), (q3, .inl (c4, 10, .inl (fun _ => 0))), (q5, .inl (c6, 10, .inl (fun _ => 0))), (q7, .inl (c8, 10, .inl (fun _ => 0))), (q9, .inl (c10, 11, .inl (fun _ => 0)))] := hD
  refine hret H locs 44 ls dX1_init_44 hS (fun t ht hvm => ⟨q1, q3, q5, q7, q9, c2, c4, c6, c8, c10, by rw [ht]; exact hP, va_K.moved hvm hK, hD⟩)
abbrev rm_X2_init : Room := { frames := 2, cells := 18, slots := 1118, locals := 40 }
def BB_X2_init (D : va_G) (h0 : Nat) (A9 : Nat → Prop) (t : State) : Prop := ∃ (q1 : Nat) (q3 : Nat) (q5 : Nat) (q7 : Nat) (q9 : Nat) (q11 : Nat) (q13 : Nat) (q14 : Nat) (q15 : Nat) (q16 : Nat) (q17 : Nat) (q18 : Nat) (q24 : Nat) (q25 : Nat) (q26 : Nat) (q27 : Nat) (q28 : Nat) (q29 : Nat) (c2 : ClassId) (c4 : ClassId) (c6 : ClassId) (c8 : ClassId) (c10 : ClassId) (c12 : ClassId) (c19 : ClassId) (c20 : ClassId) (c21 : ClassId) (c22 : ClassId) (c23 : ClassId) (c30 : ClassId) (c31 : ClassId) (c32 : ClassId) (c33 : ClassId) (c34 : ClassId), va_P D classes [(h0, .inr (2, [.ref q1, .ref q3, .int 0, .int 0, .ref q5, .ref q7, .int 0, .int 0, .ref q9, .ref q11, .ref q13, .ref q24, .int 0, .int 0, .int 0])), (q1, .inl (c2, 80, .inl (fun _ => 0))), (q3, .inl (c4, 8, .inl (fun _ => 0))), (q5, .inl (c6, 100, .inl (fun _ => 0))), (q7, .inl (c8, 800, .inl (fun _ => 0))), (q9, .inl (c10, 8, .inl (fun _ => 0))), (q11, .inl (c12, 10, .inl (fun _ => 0))), (q13, .inr (1, [.ref q14, .ref q15, .ref q16, .ref q17, .ref q18])), (q14, .inl (c19, 10, .inl (fun _ => 0))), (q15, .inl (c20, 10, .inl (fun _ => 0))), (q16, .inl (c21, 10, .inl (fun _ => 0))), (q17, .inl (c22, 10, .inl (fun _ => 0))), (q18, .inl (c23, 11, .inl (fun _ => 0))), (q24, .inr (1, [.ref q25, .ref q26, .ref q27, .ref q28, .ref q29])), (q25, .inl (c30, 10, .inl (fun _ => 0))), (q26, .inl (c31, 10, .inl (fun _ => 0))), (q27, .inl (c32, 10, .inl (fun _ => 0))), (q28, .inl (c33, 10, .inl (fun _ => 0))), (q29, .inl (c34, 11, .inl (fun _ => 0)))] t.heap ∧ va_K D classes [(c2, .int), (c4, .int), (c6, .int), (c8, .int), (c10, .int), (c12, .int), (c19, .int), (c20, .int), (c21, .int), (c22, .int), (c23, .int), (c30, .int), (c31, .int), (c32, .int), (c33, .int), (c34, .int)] t ∧ va_D A9 [(h0, .inr (2, [.ref q1, .ref q3, .int 0, .int 0, .ref q5, .ref q7, .int 0, .int 0, .ref q9, .ref q11, .ref q13, .ref q24, .int 0, .int 0, .int 0])), (q1, .inl (c2, 80, .inl (fun _ => 0))), (q3, .inl (c4, 8, .inl (fun _ => 0))), (q5, .inl (c6, 100, .inl (fun _ => 0))), (q7, .inl (c8, 800, .inl (fun _ => 0))), (q9, .inl (c10, 8, .inl (fun _ => 0))), (q11, .inl (c12, 10, .inl (fun _ => 0))), (q13, .inr (1, [.ref q14, .ref q15, .ref q16, .ref q17, .ref q18])), (q14, .inl (c19, 10, .inl (fun _ => 0))), (q15, .inl (c20, 10, .inl (fun _ => 0))), (q16, .inl (c21, 10, .inl (fun _ => 0))), (q17, .inl (c22, 10, .inl (fun _ => 0))), (q18, .inl (c23, 11, .inl (fun _ => 0))), (q24, .inr (1, [.ref q25, .ref q26, .ref q27, .ref q28, .ref q29])), (q25, .inl (c30, 10, .inl (fun _ => 0))), (q26, .inl (c31, 10, .inl (fun _ => 0))), (q27, .inl (c32, 10, .inl (fun _ => 0))), (q28, .inl (c33, 10, .inl (fun _ => 0))), (q29, .inl (c34, 11, .inl (fun _ => 0)))]
set_option maxHeartbeats 4000000 in
set_option maxRecDepth 100000 in
theorem c_X2_init (l : Launch) (D : va_G) (h0 sz : Nat) : Met l yX2_init (Cond.code yX2_init cX2_init 1 none :: GW) rm_X2_init (nPc D [(h0, .inr (2, [.null, .null, .int 0, .int 0, .null, .null, .int 0, .int 0, .null, .null, .null, .null, .int 0, .int 0, .int 0]))] sz [.ref h0] (fun _ => True)) (va_Qv (S := Unit) (fun _ => True) (fun _ t => BB_X2_init D h0 (va_A [(h0, .inr (2, [.null, .null, .int 0, .int 0, .null, .null, .int 0, .int 0, .null, .null, .null, .null, .int 0, .int 0, .int 0]))] sz) t) (va_A [(h0, .inr (2, [.null, .null, .int 0, .int 0, .null, .null, .int 0, .int 0, .null, .null, .null, .null, .int 0, .int 0, .int 0]))] sz)) 18 1118 (va_A [(h0, .inr (2, [.null, .null, .int 0, .int 0, .null, .null, .int 0, .int 0, .null, .null, .null, .null, .int 0, .int 0, .int 0]))] sz) := by
  refine met_c (ZZ := fun _ _ => True) (BB := BB_X2_init D h0) (own := "ShoeingDay$Day") (by decide +kernel) rfl rfl (Nat.le_of_ble_eq_true rfl) ?_
  intro p e s m args below meth c Q Af ls hC hin hP hD hS hA hZ hl hret
  have hx := hC.1
  have hb := hC.2.1
  have hown := hC.2.2.2.1
  have hg := hC.g
  have hK := hC.K
  have hl : lv_has ls 1 [(0, .ref h0)] := hl
  obtain ⟨H, hH⟩ : ∃ H, H = s.heap := ⟨_, rfl⟩
  have hP : va_P D classes [(h0, .inr (2, [.null, .null, .int 0, .int 0, .null, .null, .int 0, .int 0, .null, .null, .null, .null, .int 0, .int 0, .int 0]))] H := by rw [hH]; exact hP
  have hS : va_S Af s.heap H [] := by rw [hH]; exact hS
  rw [← hH]
  refine lv_aload_n hx hb dX2_init_0 rfl (lv_at hl 0 rfl) ?_
  refine W.objInit hx hb hown (hg _ mw_313) (hg _ mw_28) (hg _ mw_29) rfl (by rw [hC.2.2.1]; exact hl.1) rfl dX2_init_1 (Nat.le_of_ble_eq_true rfl) (Nat.le_of_ble_eq_true rfl) ?_
  refine W.eq (g2 := F0 m 4 ls []) rfl ?_
  refine lv_aload_n hx hb dX2_init_4 rfl (lv_at hl 0 rfl) ?_
  refine lv_bipush (v := 80) hx hb dX2_init_5 (by decide) ?_
  refine va_newa (atype := .int) (ty := .int) (a0 := (80, .inl (fun _ => 0))) hx hb (hg _ mw_211) rfl hK hP hD hS hA (fun _ => rfl) (by decide) rfl (by decide) (Nat.le_of_ble_eq_true rfl) (Nat.le_of_ble_eq_true rfl) dX2_init_7 (fun q1 c2 H hK hP hD hS => ?_)
  have hK : va_K D classes [(c2, .int)] s := hK
  refine W.widen (k := 1) (n := 80) (Nat.le_of_ble_eq_true rfl) (Nat.le_of_ble_eq_true rfl) ?_
  refine va_putF (D := D) (ci := 2) (v := .ref q1) (ty := (.array .int)) (C := RX2) (T := TX2) (N := 15) hx hb hg inX2 tyX2 tyX2_ok nmX2 hown hK hP hD hS 0 rfl rfl 0 (by decide) (hg _ mw_339) (fun _ h9 => h9) rfl hin rfl (by decide +kernel) rfl rfl (Nat.le_of_ble_eq_true rfl) dX2_init_9 (fun H locs hP hD hS => ?_)
  have hP : va_P D classes [(h0, .inr (2, [.ref q1, .null, .int 0, .int 0, .null, .null, .int 0, .int 0, .null, .null, .null, .null, .int 0, .int 0, .int 0])), (q1, .inl (c2, 80, .inl (fun _ => 0)))] H := hP
  have hD : va_D Af [(h0, .inr (2, [.ref q1, .null, .int 0, .int 0, .null, .null, .int 0, .int 0, .null, .null, .null, .null, .int 0, .int 0, .int 0])), (q1, .inl (c2, 80, .inl (fun _ => 0)))] := hD
  refine lv_aload_n hx hb dX2_init_12 rfl (lv_at hl 0 rfl) ?_
  refine lv_bipush (v := 8) hx hb dX2_init_13 (by decide) ?_
  refine va_newa (atype := .int) (ty := .int) (a0 := (8, .inl (fun _ => 0))) hx hb (hg _ mw_211) rfl hK hP hD hS hA (fun _ => rfl) (by decide) rfl (by decide) (Nat.le_of_ble_eq_true rfl) (Nat.le_of_ble_eq_true rfl) dX2_init_15 (fun q3 c4 H hK hP hD hS => ?_)
  have hK : va_K D classes [(c2, .int), (c4, .int)] s := hK
  refine W.widen (k := 2) (n := 88) (Nat.le_of_ble_eq_true rfl) (Nat.le_of_ble_eq_true rfl) ?_
  refine va_putF (D := D) (ci := 2) (v := .ref q3) (ty := (.array .int)) (C := RX2) (T := TX2) (N := 15) hx hb hg inX2 tyX2 tyX2_ok nmX2 hown hK hP hD hS 0 rfl rfl 1 (by decide) (hg _ mw_341) (fun _ h9 => h9) rfl hin rfl (by decide +kernel) rfl rfl (Nat.le_of_ble_eq_true rfl) dX2_init_17 (fun H locs hP hD hS => ?_)
  have hP : va_P D classes [(h0, .inr (2, [.ref q1, .ref q3, .int 0, .int 0, .null, .null, .int 0, .int 0, .null, .null, .null, .null, .int 0, .int 0, .int 0])), (q1, .inl (c2, 80, .inl (fun _ => 0))), (q3, .inl (c4, 8, .inl (fun _ => 0)))] H := hP
  have hD : va_D Af [(h0, .inr (2, [.ref q1, .ref q3, .int 0, .int 0, .null, .null, .int 0, .int 0, .null, .null, .null, .null, .int 0, .int 0, .int 0])), (q1, .inl (c2, 80, .inl (fun _ => 0))), (q3, .inl (c4, 8, .inl (fun _ => 0)))] := hD
  refine lv_aload_n hx hb dX2_init_20 rfl (lv_at hl 0 rfl) ?_
  refine lv_iconst (v := 0) hx hb dX2_init_21 (by decide) ?_
  refine va_put (D := D) (ci := 2) (v := .int 0) (ty := .int) (C := RX2) (T := TX2) (N := 15) hx hb hg inX2 tyX2 tyX2_ok nmX2 hown hK hP hD hS 0 rfl rfl 2 (by decide) (hg _ mw_343) (fun _ h9 => h9) rfl (by decide +kernel) rfl rfl (Nat.le_of_ble_eq_true rfl) dX2_init_22 (fun H locs hP hD hS => ?_)
  have hP : va_P D classes [(h0, .inr (2, [.ref q1, .ref q3, .int 0, .int 0, .null, .null, .int 0, .int 0, .null, .null, .null, .null, .int 0, .int 0, .int 0])), (q1, .inl (c2, 80, .inl (fun _ => 0))), (q3, .inl (c4, 8, .inl (fun _ => 0)))] H := hP
  have hD : va_D Af [(h0, .inr (2, [.ref q1, .ref q3, .int 0, .int 0, .null, .null, .int 0, .int 0, .null, .null, .null, .null, .int 0, .int 0, .int 0])), (q1, .inl (c2, 80, .inl (fun _ => 0))), (q3, .inl (c4, 8, .inl (fun _ => 0)))] := hD
  refine lv_aload_n hx hb dX2_init_25 rfl (lv_at hl 0 rfl) ?_
  refine lv_iconst (v := 0) hx hb dX2_init_26 (by decide) ?_
  refine va_put (D := D) (ci := 2) (v := .int 0) (ty := .int) (C := RX2) (T := TX2) (N := 15) hx hb hg inX2 tyX2 tyX2_ok nmX2 hown hK hP hD hS 0 rfl rfl 3 (by decide) (hg _ mw_345) (fun _ h9 => h9) rfl (by decide +kernel) rfl rfl (Nat.le_of_ble_eq_true rfl) dX2_init_27 (fun H locs hP hD hS => ?_)
  have hP : va_P D classes [(h0, .inr (2, [.ref q1, .ref q3, .int 0, .int 0, .null, .null, .int 0, .int 0, .null, .null, .null, .null, .int 0, .int 0, .int 0])), (q1, .inl (c2, 80, .inl (fun _ => 0))), (q3, .inl (c4, 8, .inl (fun _ => 0)))] H := hP
  have hD : va_D Af [(h0, .inr (2, [.ref q1, .ref q3, .int 0, .int 0, .null, .null, .int 0, .int 0, .null, .null, .null, .null, .int 0, .int 0, .int 0])), (q1, .inl (c2, 80, .inl (fun _ => 0))), (q3, .inl (c4, 8, .inl (fun _ => 0)))] := hD
  refine lv_aload_n hx hb dX2_init_30 rfl (lv_at hl 0 rfl) ?_
  refine lv_bipush (v := 100) hx hb dX2_init_31 (by decide) ?_
  refine va_newa (atype := .int) (ty := .int) (a0 := (100, .inl (fun _ => 0))) hx hb (hg _ mw_211) rfl hK hP hD hS hA (fun _ => rfl) (by decide) rfl (by decide) (Nat.le_of_ble_eq_true rfl) (Nat.le_of_ble_eq_true rfl) dX2_init_33 (fun q5 c6 H hK hP hD hS => ?_)
  have hK : va_K D classes [(c2, .int), (c4, .int), (c6, .int)] s := hK
  refine W.widen (k := 3) (n := 188) (Nat.le_of_ble_eq_true rfl) (Nat.le_of_ble_eq_true rfl) ?_
  refine va_putF (D := D) (ci := 2) (v := .ref q5) (ty := (.array .int)) (C := RX2) (T := TX2) (N := 15) hx hb hg inX2 tyX2 tyX2_ok nmX2 hown hK hP hD hS 0 rfl rfl 4 (by decide) (hg _ mw_347) (fun _ h9 => h9) rfl hin rfl (by decide +kernel) rfl rfl (Nat.le_of_ble_eq_true rfl) dX2_init_35 (fun H locs hP hD hS => ?_)
  have hP : va_P D classes [(h0, .inr (2, [.ref q1, .ref q3, .int 0, .int 0, .ref q5, .null, .int 0, .int 0, .null, .null, .null, .null, .int 0, .int 0, .int 0])), (q1, .inl (c2, 80, .inl (fun _ => 0))), (q3, .inl (c4, 8, .inl (fun _ => 0))), (q5, .inl (c6, 100, .inl (fun _ => 0)))] H := hP
  have hD : va_D Af [(h0, .inr (2, [.ref q1, .ref q3, .int 0, .int 0, .ref q5, .null, .int 0, .int 0, .null, .null, .null, .null, .int 0, .int 0, .int 0])), (q1, .inl (c2, 80, .inl (fun _ => 0))), (q3, .inl (c4, 8, .inl (fun _ => 0))), (q5, .inl (c6, 100, .inl (fun _ => 0)))] := hD
  refine lv_aload_n hx hb dX2_init_38 rfl (lv_at hl 0 rfl) ?_
  refine lv_sipush (v := 800) hx hb dX2_init_39 (by decide) ?_
  refine va_newa (atype := .int) (ty := .int) (a0 := (800, .inl (fun _ => 0))) hx hb (hg _ mw_211) rfl hK hP hD hS hA (fun _ => rfl) (by decide) rfl (by decide) (Nat.le_of_ble_eq_true rfl) (Nat.le_of_ble_eq_true rfl) dX2_init_42 (fun q7 c8 H hK hP hD hS => ?_)
  have hK : va_K D classes [(c2, .int), (c4, .int), (c6, .int), (c8, .int)] s := hK
  refine W.widen (k := 4) (n := 988) (Nat.le_of_ble_eq_true rfl) (Nat.le_of_ble_eq_true rfl) ?_
  refine va_putF (D := D) (ci := 2) (v := .ref q7) (ty := (.array .int)) (C := RX2) (T := TX2) (N := 15) hx hb hg inX2 tyX2 tyX2_ok nmX2 hown hK hP hD hS 0 rfl rfl 5 (by decide) (hg _ mw_349) (fun _ h9 => h9) rfl hin rfl (by decide +kernel) rfl rfl (Nat.le_of_ble_eq_true rfl) dX2_init_44 (fun H locs hP hD hS => ?_)
  have hP : va_P D classes [(h0, .inr (2, [.ref q1, .ref q3, .int 0, .int 0, .ref q5, .ref q7, .int 0, .int 0, .null, .null, .null, .null, .int 0, .int 0, .int 0])), (q1, .inl (c2, 80, .inl (fun _ => 0))), (q3, .inl (c4, 8, .inl (fun _ => 0))), (q5, .inl (c6, 100, .inl (fun _ => 0))), (q7, .inl (c8, 800, .inl (fun _ => 0)))] H := hP
  have hD : va_D Af [(h0, .inr (2, [.ref q1, .ref q3, .int 0, .int 0, .ref q5, .ref q7, .int 0, .int 0, .null, .null, .null, .null, .int 0, .int 0, .int 0])), (q1, .inl (c2, 80, .inl (fun _ => 0))), (q3, .inl (c4, 8, .inl (fun _ => 0))), (q5, .inl (c6, 100, .inl (fun _ => 0))), (q7, .inl (c8, 800, .inl (fun _ => 0)))] := hD
  refine lv_aload_n hx hb dX2_init_47 rfl (lv_at hl 0 rfl) ?_
  refine lv_iconst (v := 0) hx hb dX2_init_48 (by decide) ?_
  refine va_put (D := D) (ci := 2) (v := .int 0) (ty := .int) (C := RX2) (T := TX2) (N := 15) hx hb hg inX2 tyX2 tyX2_ok nmX2 hown hK hP hD hS 0 rfl rfl 6 (by decide) (hg _ mw_351) (fun _ h9 => h9) rfl (by decide +kernel) rfl rfl (Nat.le_of_ble_eq_true rfl) dX2_init_49 (fun H locs hP hD hS => ?_)
  have hP : va_P D classes [(h0, .inr (2, [.ref q1, .ref q3, .int 0, .int 0, .ref q5, .ref q7, .int 0, .int 0, .null, .null, .null, .null, .int 0, .int 0, .int 0])), (q1, .inl (c2, 80, .inl (fun _ => 0))), (q3, .inl (c4, 8, .inl (fun _ => 0))), (q5, .inl (c6, 100, .inl (fun _ => 0))), (q7, .inl (c8, 800, .inl (fun _ => 0)))] H := hP
  have hD : va_D Af [(h0, .inr (2, [.ref q1, .ref q3, .int 0, .int 0, .ref q5, .ref q7, .int 0, .int 0, .null, .null, .null, .null, .int 0, .int 0, .int 0])), (q1, .inl (c2, 80, .inl (fun _ => 0))), (q3, .inl (c4, 8, .inl (fun _ => 0))), (q5, .inl (c6, 100, .inl (fun _ => 0))), (q7, .inl (c8, 800, .inl (fun _ => 0)))] := hD
  refine lv_aload_n hx hb dX2_init_52 rfl (lv_at hl 0 rfl) ?_
  refine lv_iconst (v := 0) hx hb dX2_init_53 (by decide) ?_
  refine va_put (D := D) (ci := 2) (v := .int 0) (ty := .boolean) (C := RX2) (T := TX2) (N := 15) hx hb hg inX2 tyX2 tyX2_ok nmX2 hown hK hP hD hS 0 rfl rfl 7 (by decide) (hg _ mw_353) (fun _ h9 => h9) rfl (by decide +kernel) rfl rfl (Nat.le_of_ble_eq_true rfl) dX2_init_54 (fun H locs hP hD hS => ?_)
  have hP : va_P D classes [(h0, .inr (2, [.ref q1, .ref q3, .int 0, .int 0, .ref q5, .ref q7, .int 0, .int 0, .null, .null, .null, .null, .int 0, .int 0, .int 0])), (q1, .inl (c2, 80, .inl (fun _ => 0))), (q3, .inl (c4, 8, .inl (fun _ => 0))), (q5, .inl (c6, 100, .inl (fun _ => 0))), (q7, .inl (c8, 800, .inl (fun _ => 0)))] H := hP
  have hD : va_D Af [(h0, .inr (2, [.ref q1, .ref q3, .int 0, .int 0, .ref q5, .ref q7, .int 0, .int 0, .null, .null, .null, .null, .int 0, .int 0, .int 0])), (q1, .inl (c2, 80, .inl (fun _ => 0))), (q3, .inl (c4, 8, .inl (fun _ => 0))), (q5, .inl (c6, 100, .inl (fun _ => 0))), (q7, .inl (c8, 800, .inl (fun _ => 0)))] := hD
  refine lv_aload_n hx hb dX2_init_57 rfl (lv_at hl 0 rfl) ?_
  refine lv_bipush (v := 8) hx hb dX2_init_58 (by decide) ?_
  refine va_newa (atype := .int) (ty := .int) (a0 := (8, .inl (fun _ => 0))) hx hb (hg _ mw_211) rfl hK hP hD hS hA (fun _ => rfl) (by decide) rfl (by decide) (Nat.le_of_ble_eq_true rfl) (Nat.le_of_ble_eq_true rfl) dX2_init_60 (fun q9 c10 H hK hP hD hS => ?_)
  have hK : va_K D classes [(c2, .int), (c4, .int), (c6, .int), (c8, .int), (c10, .int)] s := hK
  refine W.widen (k := 5) (n := 996) (Nat.le_of_ble_eq_true rfl) (Nat.le_of_ble_eq_true rfl) ?_
  refine va_putF (D := D) (ci := 2) (v := .ref q9) (ty := (.array .int)) (C := RX2) (T := TX2) (N := 15) hx hb hg inX2 tyX2 tyX2_ok nmX2 hown hK hP hD hS 0 rfl rfl 8 (by decide) (hg _ mw_355) (fun _ h9 => h9) rfl hin rfl (by decide +kernel) rfl rfl (Nat.le_of_ble_eq_true rfl) dX2_init_62 (fun H locs hP hD hS => ?_)
  have hP : va_P D classes [(h0, .inr (2, [.ref q1, .ref q3, .int 0, .int 0, .ref q5, .ref q7, .int 0, .int 0, .ref q9, .null, .null, .null, .int 0, .int 0, .int 0])), (q1, .inl (c2, 80, .inl (fun _ => 0))), (q3, .inl (c4, 8, .inl (fun _ => 0))), (q5, .inl (c6, 100, .inl (fun _ => 0))), (q7, .inl (c8, 800, .inl (fun _ => 0))), (q9, .inl (c10, 8, .inl (fun _ => 0)))] H := hP
  have hD : va_D Af [(h0, .inr (2, [.ref q1, .ref q3, .int 0, .int 0, .ref q5, .ref q7, .int 0, .int 0, .ref q9, .null, .null, .null, .int 0, .int 0, .int 0])), (q1, .inl (c2, 80, .inl (fun _ => 0))), (q3, .inl (c4, 8, .inl (fun _ => 0))), (q5, .inl (c6, 100, .inl (fun _ => 0))), (q7, .inl (c8, 800, .inl (fun _ => 0))), (q9, .inl (c10, 8, .inl (fun _ => 0)))] := hD
  refine lv_aload_n hx hb dX2_init_65 rfl (lv_at hl 0 rfl) ?_
  refine lv_bipush (v := 10) hx hb dX2_init_66 (by decide) ?_
  refine va_newa (atype := .int) (ty := .int) (a0 := (10, .inl (fun _ => 0))) hx hb (hg _ mw_211) rfl hK hP hD hS hA (fun _ => rfl) (by decide) rfl (by decide) (Nat.le_of_ble_eq_true rfl) (Nat.le_of_ble_eq_true rfl) dX2_init_68 (fun q11 c12 H hK hP hD hS => ?_)
  have hK : va_K D classes [(c2, .int), (c4, .int), (c6, .int), (c8, .int), (c10, .int), (c12, .int)] s := hK
  refine W.widen (k := 6) (n := 1006) (Nat.le_of_ble_eq_true rfl) (Nat.le_of_ble_eq_true rfl) ?_
  refine va_putF (D := D) (ci := 2) (v := .ref q11) (ty := (.array .int)) (C := RX2) (T := TX2) (N := 15) hx hb hg inX2 tyX2 tyX2_ok nmX2 hown hK hP hD hS 0 rfl rfl 9 (by decide) (hg _ mw_356) (fun _ h9 => h9) rfl hin rfl (by decide +kernel) rfl rfl (Nat.le_of_ble_eq_true rfl) dX2_init_70 (fun H locs hP hD hS => ?_)
  have hP : va_P D classes [(h0, .inr (2, [.ref q1, .ref q3, .int 0, .int 0, .ref q5, .ref q7, .int 0, .int 0, .ref q9, .ref q11, .null, .null, .int 0, .int 0, .int 0])), (q1, .inl (c2, 80, .inl (fun _ => 0))), (q3, .inl (c4, 8, .inl (fun _ => 0))), (q5, .inl (c6, 100, .inl (fun _ => 0))), (q7, .inl (c8, 800, .inl (fun _ => 0))), (q9, .inl (c10, 8, .inl (fun _ => 0))), (q11, .inl (c12, 10, .inl (fun _ => 0)))] H := hP
  have hD : va_D Af [(h0, .inr (2, [.ref q1, .ref q3, .int 0, .int 0, .ref q5, .ref q7, .int 0, .int 0, .ref q9, .ref q11, .null, .null, .int 0, .int 0, .int 0])), (q1, .inl (c2, 80, .inl (fun _ => 0))), (q3, .inl (c4, 8, .inl (fun _ => 0))), (q5, .inl (c6, 100, .inl (fun _ => 0))), (q7, .inl (c8, 800, .inl (fun _ => 0))), (q9, .inl (c10, 8, .inl (fun _ => 0))), (q11, .inl (c12, 10, .inl (fun _ => 0)))] := hD
  refine lv_aload_n hx hb dX2_init_73 rfl (lv_at hl 0 rfl) ?_
  refine va_new (ci := 1) (fs := [.null, .null, .null, .null, .null]) (C := RX1) (T := TX1) (N := 5) hx hb hg inX1 tyX1 tyX1_ok hown (hg _ mw_314) (hg _ mw_315) (hg _ mw_15) hK hP hD hS hA rfl (fun j hj => by rcases (show j = 0 ∨ j = 1 ∨ j = 2 ∨ j = 3 ∨ j = 4 by omega) with rfl | rfl | rfl | rfl | rfl <;> rfl) (Nat.le_of_ble_eq_true rfl) (Nat.le_of_ble_eq_true rfl) dX2_init_74 (fun q13 H hP hD hS => ?_)
  refine W.widen (k := 7) (n := 1011) (Nat.le_of_ble_eq_true rfl) (Nat.le_of_ble_eq_true rfl) ?_
  refine lv_dup hx hb dX2_init_77 rfl ?_
  refine cn_v (mc := 5) (ms := 51) (rm := rm_X1_init) (BB := BB_X1_init D q13) (As := []) (rest := [.ref q13, .ref h0]) (u := [(q13, .inr (1, [.null, .null, .null, .null, .null]))]) (v := [(h0, .inr (2, [.ref q1, .ref q3, .int 0, .int 0, .ref q5, .ref q7, .int 0, .int 0, .ref q9, .ref q11, .null, .null, .int 0, .int 0, .int 0])), (q1, .inl (c2, 80, .inl (fun _ => 0))), (q3, .inl (c4, 8, .inl (fun _ => 0))), (q5, .inl (c6, 100, .inl (fun _ => 0))), (q7, .inl (c8, 800, .inl (fun _ => 0))), (q9, .inl (c10, 8, .inl (fun _ => 0))), (q11, .inl (c12, 10, .inl (fun _ => 0)))]) hC (c_X1_init l D q13 H.size) ⟨va_cnB 0 hg (g_N mw_318) rfl rfl rfl (mn_6 hC.N) (hg _ mw_15) (by decide +kernel) ⟨(Nat.le_of_ble_eq_true rfl), (Nat.le_of_ble_eq_true rfl)⟩, rfl, (hg _ mw_317)⟩ (fun _ _ _ _ _ => trivial) (fun _ _ _ => trivial) hP hD hS hA rfl hl.1 rfl (Nat.le_of_ble_eq_true rfl) dX2_init_78 ⟨(Nat.le_of_ble_eq_true rfl), (Nat.le_of_ble_eq_true rfl)⟩ (fun t H locs ht hvm hB hJ hS => ?_)
  obtain ⟨q14, q15, q16, q17, q18, c19, c20, c21, c22, c23, hP1, hK1, hD1⟩ := hB
  rw [ht] at hP1
  have hK1 := va_K.moved hvm.symm hK1
  obtain ⟨hP, hD⟩ := hJ _ hP1 hD1
  have hK := hK.app hK1
  have hP : va_P D classes [(h0, .inr (2, [.ref q1, .ref q3, .int 0, .int 0, .ref q5, .ref q7, .int 0, .int 0, .ref q9, .ref q11, .null, .null, .int 0, .int 0, .int 0])), (q1, .inl (c2, 80, .inl (fun _ => 0))), (q3, .inl (c4, 8, .inl (fun _ => 0))), (q5, .inl (c6, 100, .inl (fun _ => 0))), (q7, .inl (c8, 800, .inl (fun _ => 0))), (q9, .inl (c10, 8, .inl (fun _ => 0))), (q11, .inl (c12, 10, .inl (fun _ => 0))), (q13, .inr (1, [.ref q14, .ref q15, .ref q16, .ref q17, .ref q18])), (q14, .inl (c19, 10, .inl (fun _ => 0))), (q15, .inl (c20, 10, .inl (fun _ => 0))), (q16, .inl (c21, 10, .inl (fun _ => 0))), (q17, .inl (c22, 10, .inl (fun _ => 0))), (q18, .inl (c23, 11, .inl (fun _ => 0)))] H := hP
  have hD : va_D Af [(h0, .inr (2, [.ref q1, .ref q3, .int 0, .int 0, .ref q5, .ref q7, .int 0, .int 0, .ref q9, .ref q11, .null, .null, .int 0, .int 0, .int 0])), (q1, .inl (c2, 80, .inl (fun _ => 0))), (q3, .inl (c4, 8, .inl (fun _ => 0))), (q5, .inl (c6, 100, .inl (fun _ => 0))), (q7, .inl (c8, 800, .inl (fun _ => 0))), (q9, .inl (c10, 8, .inl (fun _ => 0))), (q11, .inl (c12, 10, .inl (fun _ => 0))), (q13, .inr (1, [.ref q14, .ref q15, .ref q16, .ref q17, .ref q18])), (q14, .inl (c19, 10, .inl (fun _ => 0))), (q15, .inl (c20, 10, .inl (fun _ => 0))), (q16, .inl (c21, 10, .inl (fun _ => 0))), (q17, .inl (c22, 10, .inl (fun _ => 0))), (q18, .inl (c23, 11, .inl (fun _ => 0)))] := hD
  have hK : va_K D classes [(c2, .int), (c4, .int), (c6, .int), (c8, .int), (c10, .int), (c12, .int), (c19, .int), (c20, .int), (c21, .int), (c22, .int), (c23, .int)] s := hK
  refine W.widen (k := 12) (n := 1062) (Nat.le_of_ble_eq_true rfl) (Nat.le_of_ble_eq_true rfl) ?_
  refine va_putF (D := D) (ci := 2) (v := .ref q13) (ty := (.object "ShoeingDay$Cover")) (C := RX2) (T := TX2) (N := 15) hx hb hg inX2 tyX2 tyX2_ok nmX2 hown hK hP hD hS 0 rfl rfl 10 (by decide) (hg _ mw_357) (fun _ h9 => h9) rfl hin rfl (by decide +kernel) rfl rfl (Nat.le_of_ble_eq_true rfl) dX2_init_81 (fun H locs hP hD hS => ?_)
  have hP : va_P D classes [(h0, .inr (2, [.ref q1, .ref q3, .int 0, .int 0, .ref q5, .ref q7, .int 0, .int 0, .ref q9, .ref q11, .ref q13, .null, .int 0, .int 0, .int 0])), (q1, .inl (c2, 80, .inl (fun _ => 0))), (q3, .inl (c4, 8, .inl (fun _ => 0))), (q5, .inl (c6, 100, .inl (fun _ => 0))), (q7, .inl (c8, 800, .inl (fun _ => 0))), (q9, .inl (c10, 8, .inl (fun _ => 0))), (q11, .inl (c12, 10, .inl (fun _ => 0))), (q13, .inr (1, [.ref q14, .ref q15, .ref q16, .ref q17, .ref q18])), (q14, .inl (c19, 10, .inl (fun _ => 0))), (q15, .inl (c20, 10, .inl (fun _ => 0))), (q16, .inl (c21, 10, .inl (fun _ => 0))), (q17, .inl (c22, 10, .inl (fun _ => 0))), (q18, .inl (c23, 11, .inl (fun _ => 0)))] H := hP
  have hD : va_D Af [(h0, .inr (2, [.ref q1, .ref q3, .int 0, .int 0, .ref q5, .ref q7, .int 0, .int 0, .ref q9, .ref q11, .ref q13, .null, .int 0, .int 0, .int 0])), (q1, .inl (c2, 80, .inl (fun _ => 0))), (q3, .inl (c4, 8, .inl (fun _ => 0))), (q5, .inl (c6, 100, .inl (fun _ => 0))), (q7, .inl (c8, 800, .inl (fun _ => 0))), (q9, .inl (c10, 8, .inl (fun _ => 0))), (q11, .inl (c12, 10, .inl (fun _ => 0))), (q13, .inr (1, [.ref q14, .ref q15, .ref q16, .ref q17, .ref q18])), (q14, .inl (c19, 10, .inl (fun _ => 0))), (q15, .inl (c20, 10, .inl (fun _ => 0))), (q16, .inl (c21, 10, .inl (fun _ => 0))), (q17, .inl (c22, 10, .inl (fun _ => 0))), (q18, .inl (c23, 11, .inl (fun _ => 0)))] := hD
  refine lv_aload_n hx hb dX2_init_84 rfl (lv_at hl 0 rfl) ?_
  refine va_new (ci := 1) (fs := [.null, .null, .null, .null, .null]) (C := RX1) (T := TX1) (N := 5) hx hb hg inX1 tyX1 tyX1_ok hown (hg _ mw_314) (hg _ mw_315) (hg _ mw_15) hK hP hD hS hA rfl (fun j hj => by rcases (show j = 0 ∨ j = 1 ∨ j = 2 ∨ j = 3 ∨ j = 4 by omega) with rfl | rfl | rfl | rfl | rfl <;> rfl) (Nat.le_of_ble_eq_true rfl) (Nat.le_of_ble_eq_true rfl) dX2_init_85 (fun q24 H hP hD hS => ?_)
  refine W.widen (k := 13) (n := 1067) (Nat.le_of_ble_eq_true rfl) (Nat.le_of_ble_eq_true rfl) ?_
  refine lv_dup hx hb dX2_init_88 rfl ?_
  refine cn_v (mc := 5) (ms := 51) (rm := rm_X1_init) (BB := BB_X1_init D q24) (As := []) (rest := [.ref q24, .ref h0]) (u := [(q24, .inr (1, [.null, .null, .null, .null, .null]))]) (v := [(h0, .inr (2, [.ref q1, .ref q3, .int 0, .int 0, .ref q5, .ref q7, .int 0, .int 0, .ref q9, .ref q11, .ref q13, .null, .int 0, .int 0, .int 0])), (q1, .inl (c2, 80, .inl (fun _ => 0))), (q3, .inl (c4, 8, .inl (fun _ => 0))), (q5, .inl (c6, 100, .inl (fun _ => 0))), (q7, .inl (c8, 800, .inl (fun _ => 0))), (q9, .inl (c10, 8, .inl (fun _ => 0))), (q11, .inl (c12, 10, .inl (fun _ => 0))), (q13, .inr (1, [.ref q14, .ref q15, .ref q16, .ref q17, .ref q18])), (q14, .inl (c19, 10, .inl (fun _ => 0))), (q15, .inl (c20, 10, .inl (fun _ => 0))), (q16, .inl (c21, 10, .inl (fun _ => 0))), (q17, .inl (c22, 10, .inl (fun _ => 0))), (q18, .inl (c23, 11, .inl (fun _ => 0)))]) hC (c_X1_init l D q24 H.size) ⟨va_cnB 0 hg (g_N mw_318) rfl rfl rfl (mn_6 hC.N) (hg _ mw_15) (by decide +kernel) ⟨(Nat.le_of_ble_eq_true rfl), (Nat.le_of_ble_eq_true rfl)⟩, rfl, (hg _ mw_317)⟩ (fun _ _ _ _ _ => trivial) (fun _ _ _ => trivial) hP hD hS hA rfl hl.1 rfl (Nat.le_of_ble_eq_true rfl) dX2_init_89 ⟨(Nat.le_of_ble_eq_true rfl), (Nat.le_of_ble_eq_true rfl)⟩ (fun t H locs ht hvm hB hJ hS => ?_)
  obtain ⟨q25, q26, q27, q28, q29, c30, c31, c32, c33, c34, hP1, hK1, hD1⟩ := hB
  rw [ht] at hP1
  have hK1 := va_K.moved hvm.symm hK1
  obtain ⟨hP, hD⟩ := hJ _ hP1 hD1
  have hK := hK.app hK1
  have hP : va_P D classes [(h0, .inr (2, [.ref q1, .ref q3, .int 0, .int 0, .ref q5, .ref q7, .int 0, .int 0, .ref q9, .ref q11, .ref q13, .null, .int 0, .int 0, .int 0])), (q1, .inl (c2, 80, .inl (fun _ => 0))), (q3, .inl (c4, 8, .inl (fun _ => 0))), (q5, .inl (c6, 100, .inl (fun _ => 0))), (q7, .inl (c8, 800, .inl (fun _ => 0))), (q9, .inl (c10, 8, .inl (fun _ => 0))), (q11, .inl (c12, 10, .inl (fun _ => 0))), (q13, .inr (1, [.ref q14, .ref q15, .ref q16, .ref q17, .ref q18])), (q14, .inl (c19, 10, .inl (fun _ => 0))), (q15, .inl (c20, 10, .inl (fun _ => 0))), (q16, .inl (c21, 10, .inl (fun _ => 0))), (q17, .inl (c22, 10, .inl (fun _ => 0))), (q18, .inl (c23, 11, .inl (fun _ => 0))), (q24, .inr (1, [.ref q25, .ref q26, .ref q27, .ref q28, .ref q29])), (q25, .inl (c30, 10, .inl (fun _ => 0))), (q26, .inl (c31, 10, .inl (fun _ => 0))), (q27, .inl (c32, 10, .inl (fun _ => 0))), (q28, .inl (c33, 10, .inl (fun _ => 0))), (q29, .inl (c34, 11, .inl (fun _ => 0)))] H := hP
  have hD : va_D Af [(h0, .inr (2, [.ref q1, .ref q3, .int 0, .int 0, .ref q5, .ref q7, .int 0, .int 0, .ref q9, .ref q11, .ref q13, .null, .int 0, .int 0, .int 0])), (q1, .inl (c2, 80, .inl (fun _ => 0))), (q3, .inl (c4, 8, .inl (fun _ => 0))), (q5, .inl (c6, 100, .inl (fun _ => 0))), (q7, .inl (c8, 800, .inl (fun _ => 0))), (q9, .inl (c10, 8, .inl (fun _ => 0))), (q11, .inl (c12, 10, .inl (fun _ => 0))), (q13, .inr (1, [.ref q14, .ref q15, .ref q16, .ref q17, .ref q18])), (q14, .inl (c19, 10, .inl (fun _ => 0))), (q15, .inl (c20, 10, .inl (fun _ => 0))), (q16, .inl (c21, 10, .inl (fun _ => 0))), (q17, .inl (c22, 10, .inl (fun _ => 0))), (q18, .inl (c23, 11, .inl (fun _ => 0))), (q24, .inr (1, [.ref q25, .ref q26, .ref q27, .ref q28, .ref q29])), (q25, .inl (c30, 10, .inl (fun _ => 0))), (q26, .inl (c31, 10, .inl (fun _ => 0))), (q27, .inl (c32, 10, .inl (fun _ => 0))), (q28, .inl (c33, 10, .inl (fun _ => 0))), (q29, .inl (c34, 11, .inl (fun _ => 0)))] := hD
  have hK : va_K D classes [(c2, .int), (c4, .int), (c6, .int), (c8, .int), (c10, .int), (c12, .int), (c19, .int), (c20, .int), (c21, .int), (c22, .int), (c23, .int), (c30, .int), (c31, .int), (c32, .int), (c33, .int), (c34, .int)] s := hK
  refine W.widen (k := 18) (n := 1118) (Nat.le_of_ble_eq_true rfl) (Nat.le_of_ble_eq_true rfl) ?_
  refine va_putF (D := D) (ci := 2) (v := .ref q24) (ty := (.object "ShoeingDay$Cover")) (C := RX2) (T := TX2) (N := 15) hx hb hg inX2 tyX2 tyX2_ok nmX2 hown hK hP hD hS 0 rfl rfl 11 (by decide) (hg _ mw_358) (fun _ h9 => h9) rfl hin rfl (by decide +kernel) rfl rfl (Nat.le_of_ble_eq_true rfl) dX2_init_92 (fun H locs hP hD hS => ?_)
  have hP : va_P D classes [(h0, .inr (2, [.ref q1, .ref q3, .int 0, .int 0, .ref q5, .ref q7, .int 0, .int 0, .ref q9, .ref q11, .ref q13, .ref q24, .int 0, .int 0, .int 0])), (q1, .inl (c2, 80, .inl (fun _ => 0))), (q3, .inl (c4, 8, .inl (fun _ => 0))), (q5, .inl (c6, 100, .inl (fun _ => 0))), (q7, .inl (c8, 800, .inl (fun _ => 0))), (q9, .inl (c10, 8, .inl (fun _ => 0))), (q11, .inl (c12, 10, .inl (fun _ => 0))), (q13, .inr (1, [.ref q14, .ref q15, .ref q16, .ref q17, .ref q18])), (q14, .inl (c19, 10, .inl (fun _ => 0))), (q15, .inl (c20, 10, .inl (fun _ => 0))), (q16, .inl (c21, 10, .inl (fun _ => 0))), (q17, .inl (c22, 10, .inl (fun _ => 0))), (q18, .inl (c23, 11, .inl (fun _ => 0))), (q24, .inr (1, [.ref q25, .ref q26, .ref q27, .ref q28, .ref q29])), (q25, .inl (c30, 10, .inl (fun _ => 0))), (q26, .inl (c31, 10, .inl (fun _ => 0))), (q27, .inl (c32, 10, .inl (fun _ => 0))), (q28, .inl (c33, 10, .inl (fun _ => 0))), (q29, .inl (c34, 11, .inl (fun _ => 0)))] H := hP
  have hD : va_D Af [(h0, .inr (2, [.ref q1, .ref q3, .int 0, .int 0, .ref q5, .ref q7, .int 0, .int 0, .ref q9, .ref q11, .ref q13, .ref q24, .int 0, .int 0, .int 0])), (q1, .inl (c2, 80, .inl (fun _ => 0))), (q3, .inl (c4, 8, .inl (fun _ => 0))), (q5, .inl (c6, 100, .inl (fun _ => 0))), (q7, .inl (c8, 800, .inl (fun _ => 0))), (q9, .inl (c10, 8, .inl (fun _ => 0))), (q11, .inl (c12, 10, .inl (fun _ => 0))), (q13, .inr (1, [.ref q14, .ref q15, .ref q16, .ref q17, .ref q18])), (q14, .inl (c19, 10, .inl (fun _ => 0))), (q15, .inl (c20, 10, .inl (fun _ => 0))), (q16, .inl (c21, 10, .inl (fun _ => 0))), (q17, .inl (c22, 10, .inl (fun _ => 0))), (q18, .inl (c23, 11, .inl (fun _ => 0))), (q24, .inr (1, [.ref q25, .ref q26, .ref q27, .ref q28, .ref q29])), (q25, .inl (c30, 10, .inl (fun _ => 0))), (q26, .inl (c31, 10, .inl (fun _ => 0))), (q27, .inl (c32, 10, .inl (fun _ => 0))), (q28, .inl (c33, 10, .inl (fun _ => 0))), (q29, .inl (c34, 11, .inl (fun _ => 0)))] := hD
  refine lv_aload_n hx hb dX2_init_95 rfl (lv_at hl 0 rfl) ?_
  refine lv_iconst (v := 0) hx hb dX2_init_96 (by decide) ?_
  refine va_put (D := D) (ci := 2) (v := .int 0) (ty := .int) (C := RX2) (T := TX2) (N := 15) hx hb hg inX2 tyX2 tyX2_ok nmX2 hown hK hP hD hS 0 rfl rfl 12 (by decide) (hg _ mw_359) (fun _ h9 => h9) rfl (by decide +kernel) rfl rfl (Nat.le_of_ble_eq_true rfl) dX2_init_97 (fun H locs hP hD hS => ?_)
  have hP : va_P D classes [(h0, .inr (2, [.ref q1, .ref q3, .int 0, .int 0, .ref q5, .ref q7, .int 0, .int 0, .ref q9, .ref q11, .ref q13, .ref q24, .int 0, .int 0, .int 0])), (q1, .inl (c2, 80, .inl (fun _ => 0))), (q3, .inl (c4, 8, .inl (fun _ => 0))), (q5, .inl (c6, 100, .inl (fun _ => 0))), (q7, .inl (c8, 800, .inl (fun _ => 0))), (q9, .inl (c10, 8, .inl (fun _ => 0))), (q11, .inl (c12, 10, .inl (fun _ => 0))), (q13, .inr (1, [.ref q14, .ref q15, .ref q16, .ref q17, .ref q18])), (q14, .inl (c19, 10, .inl (fun _ => 0))), (q15, .inl (c20, 10, .inl (fun _ => 0))), (q16, .inl (c21, 10, .inl (fun _ => 0))), (q17, .inl (c22, 10, .inl (fun _ => 0))), (q18, .inl (c23, 11, .inl (fun _ => 0))), (q24, .inr (1, [.ref q25, .ref q26, .ref q27, .ref q28, .ref q29])), (q25, .inl (c30, 10, .inl (fun _ => 0))), (q26, .inl (c31, 10, .inl (fun _ => 0))), (q27, .inl (c32, 10, .inl (fun _ => 0))), (q28, .inl (c33, 10, .inl (fun _ => 0))), (q29, .inl (c34, 11, .inl (fun _ => 0)))] H := hP
  have hD : va_D Af [(h0, .inr (2, [.ref q1, .ref q3, .int 0, .int 0, .ref q5, .ref q7, .int 0, .int 0, .ref q9, .ref q11, .ref q13, .ref q24, .int 0, .int 0, .int 0])), (q1, .inl (c2, 80, .inl (fun _ => 0))), (q3, .inl (c4, 8, .inl (fun _ => 0))), (q5, .inl (c6, 100, .inl (fun _ => 0))), (q7, .inl (c8, 800, .inl (fun _ => 0))), (q9, .inl (c10, 8, .inl (fun _ => 0))), (q11, .inl (c12, 10, .inl (fun _ => 0))), (q13, .inr (1, [.ref q14, .ref q15, .ref q16, .ref q17, .ref q18])), (q14, .inl (c19, 10, .inl (fun _ => 0))), (q15, .inl (c20, 10, .inl (fun _ => 0))), (q16, .inl (c21, 10, .inl (fun _ => 0))), (q17, .inl (c22, 10, .inl (fun _ => 0))), (q18, .inl (c23, 11, .inl (fun _ => 0))), (q24, .inr (1, [.ref q25, .ref q26, .ref q27, .ref q28, .ref q29])), (q25, .inl (c30, 10, .inl (fun _ => 0))), (q26, .inl (c31, 10, .inl (fun _ => 0))), (q27, .inl (c32, 10, .inl (fun _ => 0))), (q28, .inl (c33, 10, .inl (fun _ => 0))), (q29, .inl (c34, 11, .inl (fun _ => 0)))] := hD
  refine lv_aload_n hx hb dX2_init_100 rfl (lv_at hl 0 rfl) ?_
  refine lv_iconst (v := 0) hx hb dX2_init_101 (by decide) ?_
  refine va_put (D := D) (ci := 2) (v := .int 0) (ty := .int) (C := RX2) (T := TX2) (N := 15) hx hb hg inX2 tyX2 tyX2_ok nmX2 hown hK hP hD hS 0 rfl rfl 13 (by decide) (hg _ mw_360) (fun _ h9 => h9) rfl (by decide +kernel) rfl rfl (Nat.le_of_ble_eq_true rfl) dX2_init_102 (fun H locs hP hD hS => ?_)
  have hP : va_P D classes [(h0, .inr (2, [.ref q1, .ref q3, .int 0, .int 0, .ref q5, .ref q7, .int 0, .int 0, .ref q9, .ref q11, .ref q13, .ref q24, .int 0, .int 0, .int 0])), (q1, .inl (c2, 80, .inl (fun _ => 0))), (q3, .inl (c4, 8, .inl (fun _ => 0))), (q5, .inl (c6, 100, .inl (fun _ => 0))), (q7, .inl (c8, 800, .inl (fun _ => 0))), (q9, .inl (c10, 8, .inl (fun _ => 0))), (q11, .inl (c12, 10, .inl (fun _ => 0))), (q13, .inr (1, [.ref q14, .ref q15, .ref q16, .ref q17, .ref q18])), (q14, .inl (c19, 10, .inl (fun _ => 0))), (q15, .inl (c20, 10, .inl (fun _ => 0))), (q16, .inl (c21, 10, .inl (fun _ => 0))), (q17, .inl (c22, 10, .inl (fun _ => 0))), (q18, .inl (c23, 11, .inl (fun _ => 0))), (q24, .inr (1, [.ref q25, .ref q26, .ref q27, .ref q28, .ref q29])), (q25, .inl (c30, 10, .inl (fun _ => 0))), (q26, .inl (c31, 10, .inl (fun _ => 0))), (q27, .inl (c32, 10, .inl (fun _ => 0))), (q28, .inl (c33, 10, .inl (fun _ => 0))), (q29, .inl (c34, 11, .inl (fun _ => 0)))] H := hP
  have hD : va_D Af [(h0, .inr (2, [.ref q1, .ref q3, .int 0, .int 0, .ref q5, .ref q7, .int 0, .int 0, .ref q9, .ref q11, .ref q13, .ref q24, .int 0, .int 0, .int 0])), (q1, .inl (c2, 80, .inl (fun _ => 0))), (q3, .inl (c4, 8, .inl (fun _ => 0))), (q5, .inl (c6, 100, .inl (fun _ => 0))), (q7, .inl (c8, 800, .inl (fun _ => 0))), (q9, .inl (c10, 8, .inl (fun _ => 0))), (q11, .inl (c12, 10, .inl (fun _ => 0))), (q13, .inr (1, [.ref q14, .ref q15, .ref q16, .ref q17, .ref q18])), (q14, .inl (c19, 10, .inl (fun _ => 0))), (q15, .inl (c20, 10, .inl (fun _ => 0))), (q16, .inl (c21, 10, .inl (fun _ => 0))), (q17, .inl (c22, 10, .inl (fun _ => 0))), (q18, .inl (c23, 11, .inl (fun _ => 0))), (q24, .inr (1, [.ref q25, .ref q26, .ref q27, .ref q28, .ref q29])), (q25, .inl (c30, 10, .inl (fun _ => 0))), (q26, .inl (c31, 10, .inl (fun _ => 0))), (q27, .inl (c32, 10, .inl (fun _ => 0))), (q28, .inl (c33, 10, .inl (fun _ => 0))), (q29, .inl (c34, 11, .inl (fun _ => 0)))] := hD
  refine lv_aload_n hx hb dX2_init_105 rfl (lv_at hl 0 rfl) ?_
  refine lv_iconst (v := 0) hx hb dX2_init_106 (by decide) ?_
  refine va_put (D := D) (ci := 2) (v := .int 0) (ty := .int) (C := RX2) (T := TX2) (N := 15) hx hb hg inX2 tyX2 tyX2_ok nmX2 hown hK hP hD hS 0 rfl rfl 14 (by decide) (hg _ mw_361) (fun _ h9 => h9) rfl (by decide +kernel) rfl rfl (Nat.le_of_ble_eq_true rfl) dX2_init_107 (fun H locs hP hD hS => ?_)
  have hP : va_P D classes [(h0, .inr (2, [.ref q1, .ref q3, .int 0, .int 0, .ref q5, .ref q7, .int 0, .int 0, .ref q9, .ref q11, .ref q13, .ref q24, .int 0, .int 0, .int 0])), (q1, .inl (c2, 80, .inl (fun _ => 0))), (q3, .inl (c4, 8, .inl (fun _ => 0))), (q5, .inl (c6, 100, .inl (fun _ => 0))), (q7, .inl (c8, 800, .inl (fun _ => 0))), (q9, .inl (c10, 8, .inl (fun _ => 0))), (q11, .inl (c12, 10, .inl (fun _ => 0))), (q13, .inr (1, [.ref q14, .ref q15, .ref q16, .ref q17, .ref q18])), (q14, .inl (c19, 10, .inl (fun _ => 0))), (q15, .inl (c20, 10, .inl (fun _ => 0))), (q16, .inl (c21, 10, .inl (fun _ => 0))), (q17, .inl (c22, 10, .inl (fun _ => 0))), (q18, .inl (c23, 11, .inl (fun _ => 0))), (q24, .inr (1, [.ref q25, .ref q26, .ref q27, .ref q28, .ref q29])), (q25, .inl (c30, 10, .inl (fun _ => 0))), (q26, .inl (c31, 10, .inl (fun _ => 0))), (q27, .inl (c32, 10, .inl (fun _ => 0))), (q28, .inl (c33, 10, .inl (fun _ => 0))), (q29, .inl (c34, 11, .inl (fun _ => 0)))] H := hP
  have hD : va_D Af [(h0, .inr (2, [.ref q1, .ref q3, .int 0, .int 0, .ref q5, .ref q7, .int 0, .int 0, .ref q9, .ref q11, .ref q13, .ref q24, .int 0, .int 0, .int 0])), (q1, .inl (c2, 80, .inl (fun _ => 0))), (q3, .inl (c4, 8, .inl (fun _ => 0))), (q5, .inl (c6, 100, .inl (fun _ => 0))), (q7, .inl (c8, 800, .inl (fun _ => 0))), (q9, .inl (c10, 8, .inl (fun _ => 0))), (q11, .inl (c12, 10, .inl (fun _ => 0))), (q13, .inr (1, [.ref q14, .ref q15, .ref q16, .ref q17, .ref q18])), (q14, .inl (c19, 10, .inl (fun _ => 0))), (q15, .inl (c20, 10, .inl (fun _ => 0))), (q16, .inl (c21, 10, .inl (fun _ => 0))), (q17, .inl (c22, 10, .inl (fun _ => 0))), (q18, .inl (c23, 11, .inl (fun _ => 0))), (q24, .inr (1, [.ref q25, .ref q26, .ref q27, .ref q28, .ref q29])), (q25, .inl (c30, 10, .inl (fun _ => 0))), (q26, .inl (c31, 10, .inl (fun _ => 0))), (q27, .inl (c32, 10, .inl (fun _ => 0))), (q28, .inl (c33, 10, .inl (fun _ => 0))), (q29, .inl (c34, 11, .inl (fun _ => 0)))] := hD
  refine hret H locs 110 ls dX2_init_110 hS (fun t ht hvm => ⟨q1, q3, q5, q7, q9, q11, q13, q14, q15, q16, q17, q18, q24, q25, q26, q27, q28, q29, c2, c4, c6, c8, c10, c12, c19, c20, c21, c22, c23, c30, c31, c32, c33, c34, by rw [ht]; exact hP, va_K.moved hvm hK, hD⟩)
abbrev rm_X3_init : Room := { frames := 1, cells := 1, slots := 80, locals := 20 }
def BB_X3_init (D : va_G) (h0 : Nat) (A9 : Nat → Prop) (t : State) : Prop := ∃ (q1 : Nat) (c2 : ClassId), va_P D classes [(h0, .inr (3, [.ref q1, .int 0, .int 0, .int 0])), (q1, .inl (c2, 80, .inl (fun _ => 0)))] t.heap ∧ va_K D classes [(c2, .int)] t ∧ va_D A9 [(h0, .inr (3, [.ref q1, .int 0, .int 0, .int 0])), (q1, .inl (c2, 80, .inl (fun _ => 0)))]
set_option maxHeartbeats 4000000 in
set_option maxRecDepth 100000 in
theorem c_X3_init (l : Launch) (D : va_G) (h0 sz : Nat) : Met l yX3_init (Cond.code yX3_init cX3_init 1 none :: GW) rm_X3_init (nPc D [(h0, .inr (3, [.null, .int 0, .int 0, .int 0]))] sz [.ref h0] (fun _ => True)) (va_Qv (S := Unit) (fun _ => True) (fun _ t => BB_X3_init D h0 (va_A [(h0, .inr (3, [.null, .int 0, .int 0, .int 0]))] sz) t) (va_A [(h0, .inr (3, [.null, .int 0, .int 0, .int 0]))] sz)) 1 80 (va_A [(h0, .inr (3, [.null, .int 0, .int 0, .int 0]))] sz) := by
  refine met_c (ZZ := fun _ _ => True) (BB := BB_X3_init D h0) (own := "ShoeingDay$Ledger") (by decide +kernel) rfl rfl (Nat.le_of_ble_eq_true rfl) ?_
  intro p e s m args below meth c Q Af ls hC hin hP hD hS hA hZ hl hret
  have hx := hC.1
  have hb := hC.2.1
  have hown := hC.2.2.2.1
  have hg := hC.g
  have hK := hC.K
  have hl : lv_has ls 1 [(0, .ref h0)] := hl
  obtain ⟨H, hH⟩ : ∃ H, H = s.heap := ⟨_, rfl⟩
  have hP : va_P D classes [(h0, .inr (3, [.null, .int 0, .int 0, .int 0]))] H := by rw [hH]; exact hP
  have hS : va_S Af s.heap H [] := by rw [hH]; exact hS
  rw [← hH]
  refine lv_aload_n hx hb dX3_init_0 rfl (lv_at hl 0 rfl) ?_
  refine W.objInit hx hb hown (hg _ mw_232) (hg _ mw_28) (hg _ mw_29) rfl (by rw [hC.2.2.1]; exact hl.1) rfl dX3_init_1 (Nat.le_of_ble_eq_true rfl) (Nat.le_of_ble_eq_true rfl) ?_
  refine W.eq (g2 := F0 m 4 ls []) rfl ?_
  refine lv_aload_n hx hb dX3_init_4 rfl (lv_at hl 0 rfl) ?_
  refine lv_bipush (v := 80) hx hb dX3_init_5 (by decide) ?_
  refine va_newa (atype := .int) (ty := .int) (a0 := (80, .inl (fun _ => 0))) hx hb (hg _ mw_211) rfl hK hP hD hS hA (fun _ => rfl) (by decide) rfl (by decide) (Nat.le_of_ble_eq_true rfl) (Nat.le_of_ble_eq_true rfl) dX3_init_7 (fun q1 c2 H hK hP hD hS => ?_)
  have hK : va_K D classes [(c2, .int)] s := hK
  refine W.widen (k := 1) (n := 80) (Nat.le_of_ble_eq_true rfl) (Nat.le_of_ble_eq_true rfl) ?_
  refine va_putF (D := D) (ci := 3) (v := .ref q1) (ty := (.array .int)) (C := RX3) (T := TX3) (N := 4) hx hb hg inX3 tyX3 tyX3_ok nmX3 hown hK hP hD hS 0 rfl rfl 0 (by decide) (hg _ mw_233) (fun _ h9 => h9) rfl hin rfl (by decide +kernel) rfl rfl (Nat.le_of_ble_eq_true rfl) dX3_init_9 (fun H locs hP hD hS => ?_)
  have hP : va_P D classes [(h0, .inr (3, [.ref q1, .int 0, .int 0, .int 0])), (q1, .inl (c2, 80, .inl (fun _ => 0)))] H := hP
  have hD : va_D Af [(h0, .inr (3, [.ref q1, .int 0, .int 0, .int 0])), (q1, .inl (c2, 80, .inl (fun _ => 0)))] := hD
  refine lv_aload_n hx hb dX3_init_12 rfl (lv_at hl 0 rfl) ?_
  refine lv_iconst (v := 0) hx hb dX3_init_13 (by decide) ?_
  refine va_put (D := D) (ci := 3) (v := .int 0) (ty := .int) (C := RX3) (T := TX3) (N := 4) hx hb hg inX3 tyX3 tyX3_ok nmX3 hown hK hP hD hS 0 rfl rfl 1 (by decide) (hg _ mw_239) (fun _ h9 => h9) rfl (by decide +kernel) rfl rfl (Nat.le_of_ble_eq_true rfl) dX3_init_14 (fun H locs hP hD hS => ?_)
  have hP : va_P D classes [(h0, .inr (3, [.ref q1, .int 0, .int 0, .int 0])), (q1, .inl (c2, 80, .inl (fun _ => 0)))] H := hP
  have hD : va_D Af [(h0, .inr (3, [.ref q1, .int 0, .int 0, .int 0])), (q1, .inl (c2, 80, .inl (fun _ => 0)))] := hD
  refine lv_aload_n hx hb dX3_init_17 rfl (lv_at hl 0 rfl) ?_
  refine lv_iconst (v := 0) hx hb dX3_init_18 (by decide) ?_
  refine va_put (D := D) (ci := 3) (v := .int 0) (ty := .int) (C := RX3) (T := TX3) (N := 4) hx hb hg inX3 tyX3 tyX3_ok nmX3 hown hK hP hD hS 0 rfl rfl 2 (by decide) (hg _ mw_243) (fun _ h9 => h9) rfl (by decide +kernel) rfl rfl (Nat.le_of_ble_eq_true rfl) dX3_init_19 (fun H locs hP hD hS => ?_)
  have hP : va_P D classes [(h0, .inr (3, [.ref q1, .int 0, .int 0, .int 0])), (q1, .inl (c2, 80, .inl (fun _ => 0)))] H := hP
  have hD : va_D Af [(h0, .inr (3, [.ref q1, .int 0, .int 0, .int 0])), (q1, .inl (c2, 80, .inl (fun _ => 0)))] := hD
  refine lv_aload_n hx hb dX3_init_22 rfl (lv_at hl 0 rfl) ?_
  refine lv_iconst (v := 0) hx hb dX3_init_23 (by decide) ?_
  refine va_put (D := D) (ci := 3) (v := .int 0) (ty := .int) (C := RX3) (T := TX3) (N := 4) hx hb hg inX3 tyX3 tyX3_ok nmX3 hown hK hP hD hS 0 rfl rfl 3 (by decide) (hg _ mw_247) (fun _ h9 => h9) rfl (by decide +kernel) rfl rfl (Nat.le_of_ble_eq_true rfl) dX3_init_24 (fun H locs hP hD hS => ?_)
  have hP : va_P D classes [(h0, .inr (3, [.ref q1, .int 0, .int 0, .int 0])), (q1, .inl (c2, 80, .inl (fun _ => 0)))] H := hP
  have hD : va_D Af [(h0, .inr (3, [.ref q1, .int 0, .int 0, .int 0])), (q1, .inl (c2, 80, .inl (fun _ => 0)))] := hD
  refine hret H locs 27 ls dX3_init_27 hS (fun t ht hvm => ⟨q1, c2, by rw [ht]; exact hP, va_K.moved hvm hK, hD⟩)
abbrev rm_X4_init : Room := { frames := 1, cells := 9, slots := 916, locals := 20 }
def BB_X4_init (D : va_G) (h0 : Nat) (A9 : Nat → Prop) (t : State) : Prop := ∃ (q1 : Nat) (q3 : Nat) (q5 : Nat) (q7 : Nat) (q9 : Nat) (q11 : Nat) (q13 : Nat) (q15 : Nat) (q17 : Nat) (c2 : ClassId) (c4 : ClassId) (c6 : ClassId) (c8 : ClassId) (c10 : ClassId) (c12 : ClassId) (c14 : ClassId) (c16 : ClassId) (c18 : ClassId), va_P D classes [(h0, .inr (4, [.ref q1, .int 0, .ref q3, .ref q5, .ref q7, .ref q9, .ref q11, .ref q13, .ref q15, .ref q17, .int 0, .int 0])), (q1, .inl (c2, 720, .inl (fun _ => 0))), (q3, .inl (c4, 80, .inl (fun _ => 0))), (q5, .inl (c6, 8, .inl (fun _ => 0))), (q7, .inl (c8, 8, .inl (fun _ => 0))), (q9, .inl (c10, 20, .inl (fun _ => 0))), (q11, .inl (c12, 20, .inl (fun _ => 0))), (q13, .inl (c14, 20, .inl (fun _ => 0))), (q15, .inl (c16, 20, .inl (fun _ => 0))), (q17, .inl (c18, 20, .inl (fun _ => 0)))] t.heap ∧ va_K D classes [(c2, .int), (c4, .int), (c6, .int), (c8, .int), (c10, .int), (c12, .int), (c14, .int), (c16, .int), (c18, .int)] t ∧ va_D A9 [(h0, .inr (4, [.ref q1, .int 0, .ref q3, .ref q5, .ref q7, .ref q9, .ref q11, .ref q13, .ref q15, .ref q17, .int 0, .int 0])), (q1, .inl (c2, 720, .inl (fun _ => 0))), (q3, .inl (c4, 80, .inl (fun _ => 0))), (q5, .inl (c6, 8, .inl (fun _ => 0))), (q7, .inl (c8, 8, .inl (fun _ => 0))), (q9, .inl (c10, 20, .inl (fun _ => 0))), (q11, .inl (c12, 20, .inl (fun _ => 0))), (q13, .inl (c14, 20, .inl (fun _ => 0))), (q15, .inl (c16, 20, .inl (fun _ => 0))), (q17, .inl (c18, 20, .inl (fun _ => 0)))]
set_option maxHeartbeats 4000000 in
set_option maxRecDepth 100000 in
theorem c_X4_init (l : Launch) (D : va_G) (h0 sz : Nat) : Met l yX4_init (Cond.code yX4_init cX4_init 1 none :: GW) rm_X4_init (nPc D [(h0, .inr (4, [.null, .int 0, .null, .null, .null, .null, .null, .null, .null, .null, .int 0, .int 0]))] sz [.ref h0] (fun _ => True)) (va_Qv (S := Unit) (fun _ => True) (fun _ t => BB_X4_init D h0 (va_A [(h0, .inr (4, [.null, .int 0, .null, .null, .null, .null, .null, .null, .null, .null, .int 0, .int 0]))] sz) t) (va_A [(h0, .inr (4, [.null, .int 0, .null, .null, .null, .null, .null, .null, .null, .null, .int 0, .int 0]))] sz)) 9 916 (va_A [(h0, .inr (4, [.null, .int 0, .null, .null, .null, .null, .null, .null, .null, .null, .int 0, .int 0]))] sz) := by
  refine met_c (ZZ := fun _ _ => True) (BB := BB_X4_init D h0) (own := "ShoeingDay$Parting") (by decide +kernel) rfl rfl (Nat.le_of_ble_eq_true rfl) ?_
  intro p e s m args below meth c Q Af ls hC hin hP hD hS hA hZ hl hret
  have hx := hC.1
  have hb := hC.2.1
  have hown := hC.2.2.2.1
  have hg := hC.g
  have hK := hC.K
  have hl : lv_has ls 1 [(0, .ref h0)] := hl
  obtain ⟨H, hH⟩ : ∃ H, H = s.heap := ⟨_, rfl⟩
  have hP : va_P D classes [(h0, .inr (4, [.null, .int 0, .null, .null, .null, .null, .null, .null, .null, .null, .int 0, .int 0]))] H := by rw [hH]; exact hP
  have hS : va_S Af s.heap H [] := by rw [hH]; exact hS
  rw [← hH]
  refine lv_aload_n hx hb dX4_init_0 rfl (lv_at hl 0 rfl) ?_
  refine W.objInit hx hb hown (hg _ mw_398) (hg _ mw_28) (hg _ mw_29) rfl (by rw [hC.2.2.1]; exact hl.1) rfl dX4_init_1 (Nat.le_of_ble_eq_true rfl) (Nat.le_of_ble_eq_true rfl) ?_
  refine W.eq (g2 := F0 m 4 ls []) rfl ?_
  refine lv_aload_n hx hb dX4_init_4 rfl (lv_at hl 0 rfl) ?_
  refine lv_sipush (v := 720) hx hb dX4_init_5 (by decide) ?_
  refine va_newa (atype := .int) (ty := .int) (a0 := (720, .inl (fun _ => 0))) hx hb (hg _ mw_211) rfl hK hP hD hS hA (fun _ => rfl) (by decide) rfl (by decide) (Nat.le_of_ble_eq_true rfl) (Nat.le_of_ble_eq_true rfl) dX4_init_8 (fun q1 c2 H hK hP hD hS => ?_)
  have hK : va_K D classes [(c2, .int)] s := hK
  refine W.widen (k := 1) (n := 720) (Nat.le_of_ble_eq_true rfl) (Nat.le_of_ble_eq_true rfl) ?_
  refine va_putF (D := D) (ci := 4) (v := .ref q1) (ty := (.array .int)) (C := RX4) (T := TX4) (N := 12) hx hb hg inX4 tyX4 tyX4_ok nmX4 hown hK hP hD hS 0 rfl rfl 0 (by decide) (hg _ mw_399) (fun _ h9 => h9) rfl hin rfl (by decide +kernel) rfl rfl (Nat.le_of_ble_eq_true rfl) dX4_init_10 (fun H locs hP hD hS => ?_)
  have hP : va_P D classes [(h0, .inr (4, [.ref q1, .int 0, .null, .null, .null, .null, .null, .null, .null, .null, .int 0, .int 0])), (q1, .inl (c2, 720, .inl (fun _ => 0)))] H := hP
  have hD : va_D Af [(h0, .inr (4, [.ref q1, .int 0, .null, .null, .null, .null, .null, .null, .null, .null, .int 0, .int 0])), (q1, .inl (c2, 720, .inl (fun _ => 0)))] := hD
  refine lv_aload_n hx hb dX4_init_13 rfl (lv_at hl 0 rfl) ?_
  refine lv_iconst (v := 0) hx hb dX4_init_14 (by decide) ?_
  refine va_put (D := D) (ci := 4) (v := .int 0) (ty := .int) (C := RX4) (T := TX4) (N := 12) hx hb hg inX4 tyX4 tyX4_ok nmX4 hown hK hP hD hS 0 rfl rfl 1 (by decide) (hg _ mw_401) (fun _ h9 => h9) rfl (by decide +kernel) rfl rfl (Nat.le_of_ble_eq_true rfl) dX4_init_15 (fun H locs hP hD hS => ?_)
  have hP : va_P D classes [(h0, .inr (4, [.ref q1, .int 0, .null, .null, .null, .null, .null, .null, .null, .null, .int 0, .int 0])), (q1, .inl (c2, 720, .inl (fun _ => 0)))] H := hP
  have hD : va_D Af [(h0, .inr (4, [.ref q1, .int 0, .null, .null, .null, .null, .null, .null, .null, .null, .int 0, .int 0])), (q1, .inl (c2, 720, .inl (fun _ => 0)))] := hD
  refine lv_aload_n hx hb dX4_init_18 rfl (lv_at hl 0 rfl) ?_
  refine lv_bipush (v := 80) hx hb dX4_init_19 (by decide) ?_
  refine va_newa (atype := .int) (ty := .int) (a0 := (80, .inl (fun _ => 0))) hx hb (hg _ mw_211) rfl hK hP hD hS hA (fun _ => rfl) (by decide) rfl (by decide) (Nat.le_of_ble_eq_true rfl) (Nat.le_of_ble_eq_true rfl) dX4_init_21 (fun q3 c4 H hK hP hD hS => ?_)
  have hK : va_K D classes [(c2, .int), (c4, .int)] s := hK
  refine W.widen (k := 2) (n := 800) (Nat.le_of_ble_eq_true rfl) (Nat.le_of_ble_eq_true rfl) ?_
  refine va_putF (D := D) (ci := 4) (v := .ref q3) (ty := (.array .int)) (C := RX4) (T := TX4) (N := 12) hx hb hg inX4 tyX4 tyX4_ok nmX4 hown hK hP hD hS 0 rfl rfl 2 (by decide) (hg _ mw_403) (fun _ h9 => h9) rfl hin rfl (by decide +kernel) rfl rfl (Nat.le_of_ble_eq_true rfl) dX4_init_23 (fun H locs hP hD hS => ?_)
  have hP : va_P D classes [(h0, .inr (4, [.ref q1, .int 0, .ref q3, .null, .null, .null, .null, .null, .null, .null, .int 0, .int 0])), (q1, .inl (c2, 720, .inl (fun _ => 0))), (q3, .inl (c4, 80, .inl (fun _ => 0)))] H := hP
  have hD : va_D Af [(h0, .inr (4, [.ref q1, .int 0, .ref q3, .null, .null, .null, .null, .null, .null, .null, .int 0, .int 0])), (q1, .inl (c2, 720, .inl (fun _ => 0))), (q3, .inl (c4, 80, .inl (fun _ => 0)))] := hD
  refine lv_aload_n hx hb dX4_init_26 rfl (lv_at hl 0 rfl) ?_
  refine lv_bipush (v := 8) hx hb dX4_init_27 (by decide) ?_
  refine va_newa (atype := .int) (ty := .int) (a0 := (8, .inl (fun _ => 0))) hx hb (hg _ mw_211) rfl hK hP hD hS hA (fun _ => rfl) (by decide) rfl (by decide) (Nat.le_of_ble_eq_true rfl) (Nat.le_of_ble_eq_true rfl) dX4_init_29 (fun q5 c6 H hK hP hD hS => ?_)
  have hK : va_K D classes [(c2, .int), (c4, .int), (c6, .int)] s := hK
  refine W.widen (k := 3) (n := 808) (Nat.le_of_ble_eq_true rfl) (Nat.le_of_ble_eq_true rfl) ?_
  refine va_putF (D := D) (ci := 4) (v := .ref q5) (ty := (.array .int)) (C := RX4) (T := TX4) (N := 12) hx hb hg inX4 tyX4 tyX4_ok nmX4 hown hK hP hD hS 0 rfl rfl 3 (by decide) (hg _ mw_404) (fun _ h9 => h9) rfl hin rfl (by decide +kernel) rfl rfl (Nat.le_of_ble_eq_true rfl) dX4_init_31 (fun H locs hP hD hS => ?_)
  have hP : va_P D classes [(h0, .inr (4, [.ref q1, .int 0, .ref q3, .ref q5, .null, .null, .null, .null, .null, .null, .int 0, .int 0])), (q1, .inl (c2, 720, .inl (fun _ => 0))), (q3, .inl (c4, 80, .inl (fun _ => 0))), (q5, .inl (c6, 8, .inl (fun _ => 0)))] H := hP
  have hD : va_D Af [(h0, .inr (4, [.ref q1, .int 0, .ref q3, .ref q5, .null, .null, .null, .null, .null, .null, .int 0, .int 0])), (q1, .inl (c2, 720, .inl (fun _ => 0))), (q3, .inl (c4, 80, .inl (fun _ => 0))), (q5, .inl (c6, 8, .inl (fun _ => 0)))] := hD
  refine lv_aload_n hx hb dX4_init_34 rfl (lv_at hl 0 rfl) ?_
  refine lv_bipush (v := 8) hx hb dX4_init_35 (by decide) ?_
  refine va_newa (atype := .int) (ty := .int) (a0 := (8, .inl (fun _ => 0))) hx hb (hg _ mw_211) rfl hK hP hD hS hA (fun _ => rfl) (by decide) rfl (by decide) (Nat.le_of_ble_eq_true rfl) (Nat.le_of_ble_eq_true rfl) dX4_init_37 (fun q7 c8 H hK hP hD hS => ?_)
  have hK : va_K D classes [(c2, .int), (c4, .int), (c6, .int), (c8, .int)] s := hK
  refine W.widen (k := 4) (n := 816) (Nat.le_of_ble_eq_true rfl) (Nat.le_of_ble_eq_true rfl) ?_
  refine va_putF (D := D) (ci := 4) (v := .ref q7) (ty := (.array .int)) (C := RX4) (T := TX4) (N := 12) hx hb hg inX4 tyX4 tyX4_ok nmX4 hown hK hP hD hS 0 rfl rfl 4 (by decide) (hg _ mw_405) (fun _ h9 => h9) rfl hin rfl (by decide +kernel) rfl rfl (Nat.le_of_ble_eq_true rfl) dX4_init_39 (fun H locs hP hD hS => ?_)
  have hP : va_P D classes [(h0, .inr (4, [.ref q1, .int 0, .ref q3, .ref q5, .ref q7, .null, .null, .null, .null, .null, .int 0, .int 0])), (q1, .inl (c2, 720, .inl (fun _ => 0))), (q3, .inl (c4, 80, .inl (fun _ => 0))), (q5, .inl (c6, 8, .inl (fun _ => 0))), (q7, .inl (c8, 8, .inl (fun _ => 0)))] H := hP
  have hD : va_D Af [(h0, .inr (4, [.ref q1, .int 0, .ref q3, .ref q5, .ref q7, .null, .null, .null, .null, .null, .int 0, .int 0])), (q1, .inl (c2, 720, .inl (fun _ => 0))), (q3, .inl (c4, 80, .inl (fun _ => 0))), (q5, .inl (c6, 8, .inl (fun _ => 0))), (q7, .inl (c8, 8, .inl (fun _ => 0)))] := hD
  refine lv_aload_n hx hb dX4_init_42 rfl (lv_at hl 0 rfl) ?_
  refine lv_bipush (v := 20) hx hb dX4_init_43 (by decide) ?_
  refine va_newa (atype := .int) (ty := .int) (a0 := (20, .inl (fun _ => 0))) hx hb (hg _ mw_211) rfl hK hP hD hS hA (fun _ => rfl) (by decide) rfl (by decide) (Nat.le_of_ble_eq_true rfl) (Nat.le_of_ble_eq_true rfl) dX4_init_45 (fun q9 c10 H hK hP hD hS => ?_)
  have hK : va_K D classes [(c2, .int), (c4, .int), (c6, .int), (c8, .int), (c10, .int)] s := hK
  refine W.widen (k := 5) (n := 836) (Nat.le_of_ble_eq_true rfl) (Nat.le_of_ble_eq_true rfl) ?_
  refine va_putF (D := D) (ci := 4) (v := .ref q9) (ty := (.array .int)) (C := RX4) (T := TX4) (N := 12) hx hb hg inX4 tyX4 tyX4_ok nmX4 hown hK hP hD hS 0 rfl rfl 5 (by decide) (hg _ mw_406) (fun _ h9 => h9) rfl hin rfl (by decide +kernel) rfl rfl (Nat.le_of_ble_eq_true rfl) dX4_init_47 (fun H locs hP hD hS => ?_)
  have hP : va_P D classes [(h0, .inr (4, [.ref q1, .int 0, .ref q3, .ref q5, .ref q7, .ref q9, .null, .null, .null, .null, .int 0, .int 0])), (q1, .inl (c2, 720, .inl (fun _ => 0))), (q3, .inl (c4, 80, .inl (fun _ => 0))), (q5, .inl (c6, 8, .inl (fun _ => 0))), (q7, .inl (c8, 8, .inl (fun _ => 0))), (q9, .inl (c10, 20, .inl (fun _ => 0)))] H := hP
  have hD : va_D Af [(h0, .inr (4, [.ref q1, .int 0, .ref q3, .ref q5, .ref q7, .ref q9, .null, .null, .null, .null, .int 0, .int 0])), (q1, .inl (c2, 720, .inl (fun _ => 0))), (q3, .inl (c4, 80, .inl (fun _ => 0))), (q5, .inl (c6, 8, .inl (fun _ => 0))), (q7, .inl (c8, 8, .inl (fun _ => 0))), (q9, .inl (c10, 20, .inl (fun _ => 0)))] := hD
  refine lv_aload_n hx hb dX4_init_50 rfl (lv_at hl 0 rfl) ?_
  refine lv_bipush (v := 20) hx hb dX4_init_51 (by decide) ?_
  refine va_newa (atype := .int) (ty := .int) (a0 := (20, .inl (fun _ => 0))) hx hb (hg _ mw_211) rfl hK hP hD hS hA (fun _ => rfl) (by decide) rfl (by decide) (Nat.le_of_ble_eq_true rfl) (Nat.le_of_ble_eq_true rfl) dX4_init_53 (fun q11 c12 H hK hP hD hS => ?_)
  have hK : va_K D classes [(c2, .int), (c4, .int), (c6, .int), (c8, .int), (c10, .int), (c12, .int)] s := hK
  refine W.widen (k := 6) (n := 856) (Nat.le_of_ble_eq_true rfl) (Nat.le_of_ble_eq_true rfl) ?_
  refine va_putF (D := D) (ci := 4) (v := .ref q11) (ty := (.array .int)) (C := RX4) (T := TX4) (N := 12) hx hb hg inX4 tyX4 tyX4_ok nmX4 hown hK hP hD hS 0 rfl rfl 6 (by decide) (hg _ mw_407) (fun _ h9 => h9) rfl hin rfl (by decide +kernel) rfl rfl (Nat.le_of_ble_eq_true rfl) dX4_init_55 (fun H locs hP hD hS => ?_)
  have hP : va_P D classes [(h0, .inr (4, [.ref q1, .int 0, .ref q3, .ref q5, .ref q7, .ref q9, .ref q11, .null, .null, .null, .int 0, .int 0])), (q1, .inl (c2, 720, .inl (fun _ => 0))), (q3, .inl (c4, 80, .inl (fun _ => 0))), (q5, .inl (c6, 8, .inl (fun _ => 0))), (q7, .inl (c8, 8, .inl (fun _ => 0))), (q9, .inl (c10, 20, .inl (fun _ => 0))), (q11, .inl (c12, 20, .inl (fun _ => 0)))] H := hP
  have hD : va_D Af [(h0, .inr (4, [.ref q1, .int 0, .ref q3, .ref q5, .ref q7, .ref q9, .ref q11, .null, .null, .null, .int 0, .int 0])), (q1, .inl (c2, 720, .inl (fun _ => 0))), (q3, .inl (c4, 80, .inl (fun _ => 0))), (q5, .inl (c6, 8, .inl (fun _ => 0))), (q7, .inl (c8, 8, .inl (fun _ => 0))), (q9, .inl (c10, 20, .inl (fun _ => 0))), (q11, .inl (c12, 20, .inl (fun _ => 0)))] := hD
  refine lv_aload_n hx hb dX4_init_58 rfl (lv_at hl 0 rfl) ?_
  refine lv_bipush (v := 20) hx hb dX4_init_59 (by decide) ?_
  refine va_newa (atype := .int) (ty := .int) (a0 := (20, .inl (fun _ => 0))) hx hb (hg _ mw_211) rfl hK hP hD hS hA (fun _ => rfl) (by decide) rfl (by decide) (Nat.le_of_ble_eq_true rfl) (Nat.le_of_ble_eq_true rfl) dX4_init_61 (fun q13 c14 H hK hP hD hS => ?_)
  have hK : va_K D classes [(c2, .int), (c4, .int), (c6, .int), (c8, .int), (c10, .int), (c12, .int), (c14, .int)] s := hK
  refine W.widen (k := 7) (n := 876) (Nat.le_of_ble_eq_true rfl) (Nat.le_of_ble_eq_true rfl) ?_
  refine va_putF (D := D) (ci := 4) (v := .ref q13) (ty := (.array .int)) (C := RX4) (T := TX4) (N := 12) hx hb hg inX4 tyX4 tyX4_ok nmX4 hown hK hP hD hS 0 rfl rfl 7 (by decide) (hg _ mw_408) (fun _ h9 => h9) rfl hin rfl (by decide +kernel) rfl rfl (Nat.le_of_ble_eq_true rfl) dX4_init_63 (fun H locs hP hD hS => ?_)
  have hP : va_P D classes [(h0, .inr (4, [.ref q1, .int 0, .ref q3, .ref q5, .ref q7, .ref q9, .ref q11, .ref q13, .null, .null, .int 0, .int 0])), (q1, .inl (c2, 720, .inl (fun _ => 0))), (q3, .inl (c4, 80, .inl (fun _ => 0))), (q5, .inl (c6, 8, .inl (fun _ => 0))), (q7, .inl (c8, 8, .inl (fun _ => 0))), (q9, .inl (c10, 20, .inl (fun _ => 0))), (q11, .inl (c12, 20, .inl (fun _ => 0))), (q13, .inl (c14, 20, .inl (fun _ => 0)))] H := hP
  have hD : va_D Af [(h0, .inr (4, [.ref q1, .int 0, .ref q3, .ref q5, .ref q7, .ref q9, .ref q11, .ref q13, .null, .null, .int 0, .int 0])), (q1, .inl (c2, 720, .inl (fun _ => 0))), (q3, .inl (c4, 80, .inl (fun _ => 0))), (q5, .inl (c6, 8, .inl (fun _ => 0))), (q7, .inl (c8, 8, .inl (fun _ => 0))), (q9, .inl (c10, 20, .inl (fun _ => 0))), (q11, .inl (c12, 20, .inl (fun _ => 0))), (q13, .inl (c14, 20, .inl (fun _ => 0)))] := hD
  refine lv_aload_n hx hb dX4_init_66 rfl (lv_at hl 0 rfl) ?_
  refine lv_bipush (v := 20) hx hb dX4_init_67 (by decide) ?_
  refine va_newa (atype := .int) (ty := .int) (a0 := (20, .inl (fun _ => 0))) hx hb (hg _ mw_211) rfl hK hP hD hS hA (fun _ => rfl) (by decide) rfl (by decide) (Nat.le_of_ble_eq_true rfl) (Nat.le_of_ble_eq_true rfl) dX4_init_69 (fun q15 c16 H hK hP hD hS => ?_)
  have hK : va_K D classes [(c2, .int), (c4, .int), (c6, .int), (c8, .int), (c10, .int), (c12, .int), (c14, .int), (c16, .int)] s := hK
  refine W.widen (k := 8) (n := 896) (Nat.le_of_ble_eq_true rfl) (Nat.le_of_ble_eq_true rfl) ?_
  refine va_putF (D := D) (ci := 4) (v := .ref q15) (ty := (.array .int)) (C := RX4) (T := TX4) (N := 12) hx hb hg inX4 tyX4 tyX4_ok nmX4 hown hK hP hD hS 0 rfl rfl 8 (by decide) (hg _ mw_409) (fun _ h9 => h9) rfl hin rfl (by decide +kernel) rfl rfl (Nat.le_of_ble_eq_true rfl) dX4_init_71 (fun H locs hP hD hS => ?_)
  have hP : va_P D classes [(h0, .inr (4, [.ref q1, .int 0, .ref q3, .ref q5, .ref q7, .ref q9, .ref q11, .ref q13, .ref q15, .null, .int 0, .int 0])), (q1, .inl (c2, 720, .inl (fun _ => 0))), (q3, .inl (c4, 80, .inl (fun _ => 0))), (q5, .inl (c6, 8, .inl (fun _ => 0))), (q7, .inl (c8, 8, .inl (fun _ => 0))), (q9, .inl (c10, 20, .inl (fun _ => 0))), (q11, .inl (c12, 20, .inl (fun _ => 0))), (q13, .inl (c14, 20, .inl (fun _ => 0))), (q15, .inl (c16, 20, .inl (fun _ => 0)))] H := hP
  have hD : va_D Af [(h0, .inr (4, [.ref q1, .int 0, .ref q3, .ref q5, .ref q7, .ref q9, .ref q11, .ref q13, .ref q15, .null, .int 0, .int 0])), (q1, .inl (c2, 720, .inl (fun _ => 0))), (q3, .inl (c4, 80, .inl (fun _ => 0))), (q5, .inl (c6, 8, .inl (fun _ => 0))), (q7, .inl (c8, 8, .inl (fun _ => 0))), (q9, .inl (c10, 20, .inl (fun _ => 0))), (q11, .inl (c12, 20, .inl (fun _ => 0))), (q13, .inl (c14, 20, .inl (fun _ => 0))), (q15, .inl (c16, 20, .inl (fun _ => 0)))] := hD
  refine lv_aload_n hx hb dX4_init_74 rfl (lv_at hl 0 rfl) ?_
  refine lv_bipush (v := 20) hx hb dX4_init_75 (by decide) ?_
  refine va_newa (atype := .int) (ty := .int) (a0 := (20, .inl (fun _ => 0))) hx hb (hg _ mw_211) rfl hK hP hD hS hA (fun _ => rfl) (by decide) rfl (by decide) (Nat.le_of_ble_eq_true rfl) (Nat.le_of_ble_eq_true rfl) dX4_init_77 (fun q17 c18 H hK hP hD hS => ?_)
  have hK : va_K D classes [(c2, .int), (c4, .int), (c6, .int), (c8, .int), (c10, .int), (c12, .int), (c14, .int), (c16, .int), (c18, .int)] s := hK
  refine W.widen (k := 9) (n := 916) (Nat.le_of_ble_eq_true rfl) (Nat.le_of_ble_eq_true rfl) ?_
  refine va_putF (D := D) (ci := 4) (v := .ref q17) (ty := (.array .int)) (C := RX4) (T := TX4) (N := 12) hx hb hg inX4 tyX4 tyX4_ok nmX4 hown hK hP hD hS 0 rfl rfl 9 (by decide) (hg _ mw_410) (fun _ h9 => h9) rfl hin rfl (by decide +kernel) rfl rfl (Nat.le_of_ble_eq_true rfl) dX4_init_79 (fun H locs hP hD hS => ?_)
  have hP : va_P D classes [(h0, .inr (4, [.ref q1, .int 0, .ref q3, .ref q5, .ref q7, .ref q9, .ref q11, .ref q13, .ref q15, .ref q17, .int 0, .int 0])), (q1, .inl (c2, 720, .inl (fun _ => 0))), (q3, .inl (c4, 80, .inl (fun _ => 0))), (q5, .inl (c6, 8, .inl (fun _ => 0))), (q7, .inl (c8, 8, .inl (fun _ => 0))), (q9, .inl (c10, 20, .inl (fun _ => 0))), (q11, .inl (c12, 20, .inl (fun _ => 0))), (q13, .inl (c14, 20, .inl (fun _ => 0))), (q15, .inl (c16, 20, .inl (fun _ => 0))), (q17, .inl (c18, 20, .inl (fun _ => 0)))] H := hP
  have hD : va_D Af [(h0, .inr (4, [.ref q1, .int 0, .ref q3, .ref q5, .ref q7, .ref q9, .ref q11, .ref q13, .ref q15, .ref q17, .int 0, .int 0])), (q1, .inl (c2, 720, .inl (fun _ => 0))), (q3, .inl (c4, 80, .inl (fun _ => 0))), (q5, .inl (c6, 8, .inl (fun _ => 0))), (q7, .inl (c8, 8, .inl (fun _ => 0))), (q9, .inl (c10, 20, .inl (fun _ => 0))), (q11, .inl (c12, 20, .inl (fun _ => 0))), (q13, .inl (c14, 20, .inl (fun _ => 0))), (q15, .inl (c16, 20, .inl (fun _ => 0))), (q17, .inl (c18, 20, .inl (fun _ => 0)))] := hD
  refine lv_aload_n hx hb dX4_init_82 rfl (lv_at hl 0 rfl) ?_
  refine lv_iconst (v := 0) hx hb dX4_init_83 (by decide) ?_
  refine va_put (D := D) (ci := 4) (v := .int 0) (ty := .int) (C := RX4) (T := TX4) (N := 12) hx hb hg inX4 tyX4 tyX4_ok nmX4 hown hK hP hD hS 0 rfl rfl 10 (by decide) (hg _ mw_411) (fun _ h9 => h9) rfl (by decide +kernel) rfl rfl (Nat.le_of_ble_eq_true rfl) dX4_init_84 (fun H locs hP hD hS => ?_)
  have hP : va_P D classes [(h0, .inr (4, [.ref q1, .int 0, .ref q3, .ref q5, .ref q7, .ref q9, .ref q11, .ref q13, .ref q15, .ref q17, .int 0, .int 0])), (q1, .inl (c2, 720, .inl (fun _ => 0))), (q3, .inl (c4, 80, .inl (fun _ => 0))), (q5, .inl (c6, 8, .inl (fun _ => 0))), (q7, .inl (c8, 8, .inl (fun _ => 0))), (q9, .inl (c10, 20, .inl (fun _ => 0))), (q11, .inl (c12, 20, .inl (fun _ => 0))), (q13, .inl (c14, 20, .inl (fun _ => 0))), (q15, .inl (c16, 20, .inl (fun _ => 0))), (q17, .inl (c18, 20, .inl (fun _ => 0)))] H := hP
  have hD : va_D Af [(h0, .inr (4, [.ref q1, .int 0, .ref q3, .ref q5, .ref q7, .ref q9, .ref q11, .ref q13, .ref q15, .ref q17, .int 0, .int 0])), (q1, .inl (c2, 720, .inl (fun _ => 0))), (q3, .inl (c4, 80, .inl (fun _ => 0))), (q5, .inl (c6, 8, .inl (fun _ => 0))), (q7, .inl (c8, 8, .inl (fun _ => 0))), (q9, .inl (c10, 20, .inl (fun _ => 0))), (q11, .inl (c12, 20, .inl (fun _ => 0))), (q13, .inl (c14, 20, .inl (fun _ => 0))), (q15, .inl (c16, 20, .inl (fun _ => 0))), (q17, .inl (c18, 20, .inl (fun _ => 0)))] := hD
  refine lv_aload_n hx hb dX4_init_87 rfl (lv_at hl 0 rfl) ?_
  refine lv_iconst (v := 0) hx hb dX4_init_88 (by decide) ?_
  refine va_put (D := D) (ci := 4) (v := .int 0) (ty := .int) (C := RX4) (T := TX4) (N := 12) hx hb hg inX4 tyX4 tyX4_ok nmX4 hown hK hP hD hS 0 rfl rfl 11 (by decide) (hg _ mw_412) (fun _ h9 => h9) rfl (by decide +kernel) rfl rfl (Nat.le_of_ble_eq_true rfl) dX4_init_89 (fun H locs hP hD hS => ?_)
  have hP : va_P D classes [(h0, .inr (4, [.ref q1, .int 0, .ref q3, .ref q5, .ref q7, .ref q9, .ref q11, .ref q13, .ref q15, .ref q17, .int 0, .int 0])), (q1, .inl (c2, 720, .inl (fun _ => 0))), (q3, .inl (c4, 80, .inl (fun _ => 0))), (q5, .inl (c6, 8, .inl (fun _ => 0))), (q7, .inl (c8, 8, .inl (fun _ => 0))), (q9, .inl (c10, 20, .inl (fun _ => 0))), (q11, .inl (c12, 20, .inl (fun _ => 0))), (q13, .inl (c14, 20, .inl (fun _ => 0))), (q15, .inl (c16, 20, .inl (fun _ => 0))), (q17, .inl (c18, 20, .inl (fun _ => 0)))] H := hP
  have hD : va_D Af [(h0, .inr (4, [.ref q1, .int 0, .ref q3, .ref q5, .ref q7, .ref q9, .ref q11, .ref q13, .ref q15, .ref q17, .int 0, .int 0])), (q1, .inl (c2, 720, .inl (fun _ => 0))), (q3, .inl (c4, 80, .inl (fun _ => 0))), (q5, .inl (c6, 8, .inl (fun _ => 0))), (q7, .inl (c8, 8, .inl (fun _ => 0))), (q9, .inl (c10, 20, .inl (fun _ => 0))), (q11, .inl (c12, 20, .inl (fun _ => 0))), (q13, .inl (c14, 20, .inl (fun _ => 0))), (q15, .inl (c16, 20, .inl (fun _ => 0))), (q17, .inl (c18, 20, .inl (fun _ => 0)))] := hD
  refine hret H locs 92 ls dX4_init_92 hS (fun t ht hvm => ⟨q1, q3, q5, q7, q9, q11, q13, q15, q17, c2, c4, c6, c8, c10, c12, c14, c16, c18, by rw [ht]; exact hP, va_K.moved hvm hK, hD⟩)
abbrev rm_X8_init : Room := { frames := 1, cells := 8, slots := 340, locals := 60 }
def BB_X8_init (D : va_G) (h0 : Nat) (A9 : Nat → Prop) (t : State) : Prop := ∃ (q1 : Nat) (q3 : Nat) (q5 : Nat) (q7 : Nat) (q9 : Nat) (q11 : Nat) (q13 : Nat) (q15 : Nat) (c2 : ClassId) (c4 : ClassId) (c6 : ClassId) (c8 : ClassId) (c10 : ClassId) (c12 : ClassId) (c14 : ClassId) (c16 : ClassId), va_P D classes [(h0, .inr (8, [.ref q1, .ref q3, .ref q5, .ref q7, .ref q9, .ref q11, .ref q13, .ref q15, .int 0])), (q1, .inl (c2, 20, .inl (fun _ => 0))), (q3, .inl (c4, 20, .inl (fun _ => 0))), (q5, .inl (c6, 20, .inl (fun _ => 0))), (q7, .inl (c8, 20, .inl (fun _ => 0))), (q9, .inl (c10, 20, .inl (fun _ => 0))), (q11, .inl (c12, 80, .inl (fun _ => 0))), (q13, .inl (c14, 80, .inl (fun j => if j < 80 then -1 else 0))), (q15, .inl (c16, 80, .inr (.inl (fun _ => 0))))] t.heap ∧ va_K D classes [(c2, .int), (c4, .int), (c6, .int), (c8, .int), (c10, .int), (c12, .int), (c14, .int), (c16, .long)] t ∧ va_D A9 [(h0, .inr (8, [.ref q1, .ref q3, .ref q5, .ref q7, .ref q9, .ref q11, .ref q13, .ref q15, .int 0])), (q1, .inl (c2, 20, .inl (fun _ => 0))), (q3, .inl (c4, 20, .inl (fun _ => 0))), (q5, .inl (c6, 20, .inl (fun _ => 0))), (q7, .inl (c8, 20, .inl (fun _ => 0))), (q9, .inl (c10, 20, .inl (fun _ => 0))), (q11, .inl (c12, 80, .inl (fun _ => 0))), (q13, .inl (c14, 80, .inl (fun j => if j < 80 then -1 else 0))), (q15, .inl (c16, 80, .inr (.inl (fun _ => 0))))]
set_option maxHeartbeats 4000000 in
set_option maxRecDepth 100000 in
theorem c_X8_init (l : Launch) (D : va_G) (h0 sz : Nat) : Met l yX8_init (Cond.code yX8_init cX8_init 1 none :: GW) rm_X8_init (nPc D [(h0, .inr (8, [.null, .null, .null, .null, .null, .null, .null, .null, .int 0]))] sz [.ref h0] (fun _ => True)) (va_Qv (S := Unit) (fun _ => True) (fun _ t => BB_X8_init D h0 (va_A [(h0, .inr (8, [.null, .null, .null, .null, .null, .null, .null, .null, .int 0]))] sz) t) (va_A [(h0, .inr (8, [.null, .null, .null, .null, .null, .null, .null, .null, .int 0]))] sz)) 8 340 (va_A [(h0, .inr (8, [.null, .null, .null, .null, .null, .null, .null, .null, .int 0]))] sz) := by
  refine met_c (ZZ := fun _ _ => True) (BB := BB_X8_init D h0) (own := "ShoeingDay$Sights") (by decide +kernel) rfl rfl (Nat.le_of_ble_eq_true rfl) ?_
  intro p e s m args below meth c Q Af ls hC hin hP hD hS hA hZ hl hret
  have hx := hC.1
  have hb := hC.2.1
  have hown := hC.2.2.2.1
  have hg := hC.g
  have hK := hC.K
  have hl : lv_has ls 1 [(0, .ref h0)] := hl
  obtain ⟨H, hH⟩ : ∃ H, H = s.heap := ⟨_, rfl⟩
  have hP : va_P D classes [(h0, .inr (8, [.null, .null, .null, .null, .null, .null, .null, .null, .int 0]))] H := by rw [hH]; exact hP
  have hS : va_S Af s.heap H [] := by rw [hH]; exact hS
  rw [← hH]
  refine lv_aload_n hx hb dX8_init_0 rfl (lv_at hl 0 rfl) ?_
  refine W.objInit hx hb hown (hg _ mw_478) (hg _ mw_28) (hg _ mw_29) rfl (by rw [hC.2.2.1]; exact hl.1) rfl dX8_init_1 (Nat.le_of_ble_eq_true rfl) (Nat.le_of_ble_eq_true rfl) ?_
  refine W.eq (g2 := F0 m 4 ls []) rfl ?_
  refine lv_aload_n hx hb dX8_init_4 rfl (lv_at hl 0 rfl) ?_
  refine lv_bipush (v := 20) hx hb dX8_init_5 (by decide) ?_
  refine va_newa (atype := .int) (ty := .int) (a0 := (20, .inl (fun _ => 0))) hx hb (hg _ mw_211) rfl hK hP hD hS hA (fun _ => rfl) (by decide) rfl (by decide) (Nat.le_of_ble_eq_true rfl) (Nat.le_of_ble_eq_true rfl) dX8_init_7 (fun q1 c2 H hK hP hD hS => ?_)
  have hK : va_K D classes [(c2, .int)] s := hK
  refine W.widen (k := 1) (n := 20) (Nat.le_of_ble_eq_true rfl) (Nat.le_of_ble_eq_true rfl) ?_
  refine va_putF (D := D) (ci := 8) (v := .ref q1) (ty := (.array .int)) (C := RX8) (T := TX8) (N := 9) hx hb hg inX8 tyX8 tyX8_ok nmX8 hown hK hP hD hS 0 rfl rfl 0 (by decide) (hg _ mw_480) (fun _ h9 => h9) rfl hin rfl (by decide +kernel) rfl rfl (Nat.le_of_ble_eq_true rfl) dX8_init_9 (fun H locs hP hD hS => ?_)
  have hP : va_P D classes [(h0, .inr (8, [.ref q1, .null, .null, .null, .null, .null, .null, .null, .int 0])), (q1, .inl (c2, 20, .inl (fun _ => 0)))] H := hP
  have hD : va_D Af [(h0, .inr (8, [.ref q1, .null, .null, .null, .null, .null, .null, .null, .int 0])), (q1, .inl (c2, 20, .inl (fun _ => 0)))] := hD
  refine lv_aload_n hx hb dX8_init_12 rfl (lv_at hl 0 rfl) ?_
  refine lv_bipush (v := 20) hx hb dX8_init_13 (by decide) ?_
  refine va_newa (atype := .int) (ty := .int) (a0 := (20, .inl (fun _ => 0))) hx hb (hg _ mw_211) rfl hK hP hD hS hA (fun _ => rfl) (by decide) rfl (by decide) (Nat.le_of_ble_eq_true rfl) (Nat.le_of_ble_eq_true rfl) dX8_init_15 (fun q3 c4 H hK hP hD hS => ?_)
  have hK : va_K D classes [(c2, .int), (c4, .int)] s := hK
  refine W.widen (k := 2) (n := 40) (Nat.le_of_ble_eq_true rfl) (Nat.le_of_ble_eq_true rfl) ?_
  refine va_putF (D := D) (ci := 8) (v := .ref q3) (ty := (.array .int)) (C := RX8) (T := TX8) (N := 9) hx hb hg inX8 tyX8 tyX8_ok nmX8 hown hK hP hD hS 0 rfl rfl 1 (by decide) (hg _ mw_481) (fun _ h9 => h9) rfl hin rfl (by decide +kernel) rfl rfl (Nat.le_of_ble_eq_true rfl) dX8_init_17 (fun H locs hP hD hS => ?_)
  have hP : va_P D classes [(h0, .inr (8, [.ref q1, .ref q3, .null, .null, .null, .null, .null, .null, .int 0])), (q1, .inl (c2, 20, .inl (fun _ => 0))), (q3, .inl (c4, 20, .inl (fun _ => 0)))] H := hP
  have hD : va_D Af [(h0, .inr (8, [.ref q1, .ref q3, .null, .null, .null, .null, .null, .null, .int 0])), (q1, .inl (c2, 20, .inl (fun _ => 0))), (q3, .inl (c4, 20, .inl (fun _ => 0)))] := hD
  refine lv_aload_n hx hb dX8_init_20 rfl (lv_at hl 0 rfl) ?_
  refine lv_bipush (v := 20) hx hb dX8_init_21 (by decide) ?_
  refine va_newa (atype := .int) (ty := .int) (a0 := (20, .inl (fun _ => 0))) hx hb (hg _ mw_211) rfl hK hP hD hS hA (fun _ => rfl) (by decide) rfl (by decide) (Nat.le_of_ble_eq_true rfl) (Nat.le_of_ble_eq_true rfl) dX8_init_23 (fun q5 c6 H hK hP hD hS => ?_)
  have hK : va_K D classes [(c2, .int), (c4, .int), (c6, .int)] s := hK
  refine W.widen (k := 3) (n := 60) (Nat.le_of_ble_eq_true rfl) (Nat.le_of_ble_eq_true rfl) ?_
  refine va_putF (D := D) (ci := 8) (v := .ref q5) (ty := (.array .int)) (C := RX8) (T := TX8) (N := 9) hx hb hg inX8 tyX8 tyX8_ok nmX8 hown hK hP hD hS 0 rfl rfl 2 (by decide) (hg _ mw_482) (fun _ h9 => h9) rfl hin rfl (by decide +kernel) rfl rfl (Nat.le_of_ble_eq_true rfl) dX8_init_25 (fun H locs hP hD hS => ?_)
  have hP : va_P D classes [(h0, .inr (8, [.ref q1, .ref q3, .ref q5, .null, .null, .null, .null, .null, .int 0])), (q1, .inl (c2, 20, .inl (fun _ => 0))), (q3, .inl (c4, 20, .inl (fun _ => 0))), (q5, .inl (c6, 20, .inl (fun _ => 0)))] H := hP
  have hD : va_D Af [(h0, .inr (8, [.ref q1, .ref q3, .ref q5, .null, .null, .null, .null, .null, .int 0])), (q1, .inl (c2, 20, .inl (fun _ => 0))), (q3, .inl (c4, 20, .inl (fun _ => 0))), (q5, .inl (c6, 20, .inl (fun _ => 0)))] := hD
  refine lv_aload_n hx hb dX8_init_28 rfl (lv_at hl 0 rfl) ?_
  refine lv_bipush (v := 20) hx hb dX8_init_29 (by decide) ?_
  refine va_newa (atype := .int) (ty := .int) (a0 := (20, .inl (fun _ => 0))) hx hb (hg _ mw_211) rfl hK hP hD hS hA (fun _ => rfl) (by decide) rfl (by decide) (Nat.le_of_ble_eq_true rfl) (Nat.le_of_ble_eq_true rfl) dX8_init_31 (fun q7 c8 H hK hP hD hS => ?_)
  have hK : va_K D classes [(c2, .int), (c4, .int), (c6, .int), (c8, .int)] s := hK
  refine W.widen (k := 4) (n := 80) (Nat.le_of_ble_eq_true rfl) (Nat.le_of_ble_eq_true rfl) ?_
  refine va_putF (D := D) (ci := 8) (v := .ref q7) (ty := (.array .int)) (C := RX8) (T := TX8) (N := 9) hx hb hg inX8 tyX8 tyX8_ok nmX8 hown hK hP hD hS 0 rfl rfl 3 (by decide) (hg _ mw_483) (fun _ h9 => h9) rfl hin rfl (by decide +kernel) rfl rfl (Nat.le_of_ble_eq_true rfl) dX8_init_33 (fun H locs hP hD hS => ?_)
  have hP : va_P D classes [(h0, .inr (8, [.ref q1, .ref q3, .ref q5, .ref q7, .null, .null, .null, .null, .int 0])), (q1, .inl (c2, 20, .inl (fun _ => 0))), (q3, .inl (c4, 20, .inl (fun _ => 0))), (q5, .inl (c6, 20, .inl (fun _ => 0))), (q7, .inl (c8, 20, .inl (fun _ => 0)))] H := hP
  have hD : va_D Af [(h0, .inr (8, [.ref q1, .ref q3, .ref q5, .ref q7, .null, .null, .null, .null, .int 0])), (q1, .inl (c2, 20, .inl (fun _ => 0))), (q3, .inl (c4, 20, .inl (fun _ => 0))), (q5, .inl (c6, 20, .inl (fun _ => 0))), (q7, .inl (c8, 20, .inl (fun _ => 0)))] := hD
  refine lv_aload_n hx hb dX8_init_36 rfl (lv_at hl 0 rfl) ?_
  refine lv_bipush (v := 20) hx hb dX8_init_37 (by decide) ?_
  refine va_newa (atype := .int) (ty := .int) (a0 := (20, .inl (fun _ => 0))) hx hb (hg _ mw_211) rfl hK hP hD hS hA (fun _ => rfl) (by decide) rfl (by decide) (Nat.le_of_ble_eq_true rfl) (Nat.le_of_ble_eq_true rfl) dX8_init_39 (fun q9 c10 H hK hP hD hS => ?_)
  have hK : va_K D classes [(c2, .int), (c4, .int), (c6, .int), (c8, .int), (c10, .int)] s := hK
  refine W.widen (k := 5) (n := 100) (Nat.le_of_ble_eq_true rfl) (Nat.le_of_ble_eq_true rfl) ?_
  refine va_putF (D := D) (ci := 8) (v := .ref q9) (ty := (.array .int)) (C := RX8) (T := TX8) (N := 9) hx hb hg inX8 tyX8 tyX8_ok nmX8 hown hK hP hD hS 0 rfl rfl 4 (by decide) (hg _ mw_484) (fun _ h9 => h9) rfl hin rfl (by decide +kernel) rfl rfl (Nat.le_of_ble_eq_true rfl) dX8_init_41 (fun H locs hP hD hS => ?_)
  have hP : va_P D classes [(h0, .inr (8, [.ref q1, .ref q3, .ref q5, .ref q7, .ref q9, .null, .null, .null, .int 0])), (q1, .inl (c2, 20, .inl (fun _ => 0))), (q3, .inl (c4, 20, .inl (fun _ => 0))), (q5, .inl (c6, 20, .inl (fun _ => 0))), (q7, .inl (c8, 20, .inl (fun _ => 0))), (q9, .inl (c10, 20, .inl (fun _ => 0)))] H := hP
  have hD : va_D Af [(h0, .inr (8, [.ref q1, .ref q3, .ref q5, .ref q7, .ref q9, .null, .null, .null, .int 0])), (q1, .inl (c2, 20, .inl (fun _ => 0))), (q3, .inl (c4, 20, .inl (fun _ => 0))), (q5, .inl (c6, 20, .inl (fun _ => 0))), (q7, .inl (c8, 20, .inl (fun _ => 0))), (q9, .inl (c10, 20, .inl (fun _ => 0)))] := hD
  refine lv_aload_n hx hb dX8_init_44 rfl (lv_at hl 0 rfl) ?_
  refine lv_bipush (v := 80) hx hb dX8_init_45 (by decide) ?_
  refine va_newa (atype := .int) (ty := .int) (a0 := (80, .inl (fun _ => 0))) hx hb (hg _ mw_211) rfl hK hP hD hS hA (fun _ => rfl) (by decide) rfl (by decide) (Nat.le_of_ble_eq_true rfl) (Nat.le_of_ble_eq_true rfl) dX8_init_47 (fun q11 c12 H hK hP hD hS => ?_)
  have hK : va_K D classes [(c2, .int), (c4, .int), (c6, .int), (c8, .int), (c10, .int), (c12, .int)] s := hK
  refine W.widen (k := 6) (n := 180) (Nat.le_of_ble_eq_true rfl) (Nat.le_of_ble_eq_true rfl) ?_
  refine va_putF (D := D) (ci := 8) (v := .ref q11) (ty := (.array .int)) (C := RX8) (T := TX8) (N := 9) hx hb hg inX8 tyX8 tyX8_ok nmX8 hown hK hP hD hS 0 rfl rfl 5 (by decide) (hg _ mw_485) (fun _ h9 => h9) rfl hin rfl (by decide +kernel) rfl rfl (Nat.le_of_ble_eq_true rfl) dX8_init_49 (fun H locs hP hD hS => ?_)
  have hP : va_P D classes [(h0, .inr (8, [.ref q1, .ref q3, .ref q5, .ref q7, .ref q9, .ref q11, .null, .null, .int 0])), (q1, .inl (c2, 20, .inl (fun _ => 0))), (q3, .inl (c4, 20, .inl (fun _ => 0))), (q5, .inl (c6, 20, .inl (fun _ => 0))), (q7, .inl (c8, 20, .inl (fun _ => 0))), (q9, .inl (c10, 20, .inl (fun _ => 0))), (q11, .inl (c12, 80, .inl (fun _ => 0)))] H := hP
  have hD : va_D Af [(h0, .inr (8, [.ref q1, .ref q3, .ref q5, .ref q7, .ref q9, .ref q11, .null, .null, .int 0])), (q1, .inl (c2, 20, .inl (fun _ => 0))), (q3, .inl (c4, 20, .inl (fun _ => 0))), (q5, .inl (c6, 20, .inl (fun _ => 0))), (q7, .inl (c8, 20, .inl (fun _ => 0))), (q9, .inl (c10, 20, .inl (fun _ => 0))), (q11, .inl (c12, 80, .inl (fun _ => 0)))] := hD
  refine lv_aload_n hx hb dX8_init_52 rfl (lv_at hl 0 rfl) ?_
  refine lv_bipush (v := 80) hx hb dX8_init_53 (by decide) ?_
  refine va_newa (atype := .int) (ty := .int) (a0 := (80, .inl (fun _ => 0))) hx hb (hg _ mw_211) rfl hK hP hD hS hA (fun _ => rfl) (by decide) rfl (by decide) (Nat.le_of_ble_eq_true rfl) (Nat.le_of_ble_eq_true rfl) dX8_init_55 (fun q13 c14 H hK hP hD hS => ?_)
  have hK : va_K D classes [(c2, .int), (c4, .int), (c6, .int), (c8, .int), (c10, .int), (c12, .int), (c14, .int)] s := hK
  refine W.widen (k := 7) (n := 260) (Nat.le_of_ble_eq_true rfl) (Nat.le_of_ble_eq_true rfl) ?_
  refine va_putF (D := D) (ci := 8) (v := .ref q13) (ty := (.array .int)) (C := RX8) (T := TX8) (N := 9) hx hb hg inX8 tyX8 tyX8_ok nmX8 hown hK hP hD hS 0 rfl rfl 6 (by decide) (hg _ mw_487) (fun _ h9 => h9) rfl hin rfl (by decide +kernel) rfl rfl (Nat.le_of_ble_eq_true rfl) dX8_init_57 (fun H locs hP hD hS => ?_)
  have hP : va_P D classes [(h0, .inr (8, [.ref q1, .ref q3, .ref q5, .ref q7, .ref q9, .ref q11, .ref q13, .null, .int 0])), (q1, .inl (c2, 20, .inl (fun _ => 0))), (q3, .inl (c4, 20, .inl (fun _ => 0))), (q5, .inl (c6, 20, .inl (fun _ => 0))), (q7, .inl (c8, 20, .inl (fun _ => 0))), (q9, .inl (c10, 20, .inl (fun _ => 0))), (q11, .inl (c12, 80, .inl (fun _ => 0))), (q13, .inl (c14, 80, .inl (fun _ => 0)))] H := hP
  have hD : va_D Af [(h0, .inr (8, [.ref q1, .ref q3, .ref q5, .ref q7, .ref q9, .ref q11, .ref q13, .null, .int 0])), (q1, .inl (c2, 20, .inl (fun _ => 0))), (q3, .inl (c4, 20, .inl (fun _ => 0))), (q5, .inl (c6, 20, .inl (fun _ => 0))), (q7, .inl (c8, 20, .inl (fun _ => 0))), (q9, .inl (c10, 20, .inl (fun _ => 0))), (q11, .inl (c12, 80, .inl (fun _ => 0))), (q13, .inl (c14, 80, .inl (fun _ => 0)))] := hD
  refine lv_aload_n hx hb dX8_init_60 rfl (lv_at hl 0 rfl) ?_
  refine lv_bipush (v := 80) hx hb dX8_init_61 (by decide) ?_
  refine va_newa (atype := .long) (ty := .long) (a0 := (80, .inr (.inl (fun _ => 0)))) hx hb (hg _ mw_210) rfl hK hP hD hS hA (fun _ => rfl) (by decide) rfl (by decide) (Nat.le_of_ble_eq_true rfl) (Nat.le_of_ble_eq_true rfl) dX8_init_63 (fun q15 c16 H hK hP hD hS => ?_)
  have hK : va_K D classes [(c2, .int), (c4, .int), (c6, .int), (c8, .int), (c10, .int), (c12, .int), (c14, .int), (c16, .long)] s := hK
  refine W.widen (k := 8) (n := 340) (Nat.le_of_ble_eq_true rfl) (Nat.le_of_ble_eq_true rfl) ?_
  refine va_putF (D := D) (ci := 8) (v := .ref q15) (ty := (.array .long)) (C := RX8) (T := TX8) (N := 9) hx hb hg inX8 tyX8 tyX8_ok nmX8 hown hK hP hD hS 0 rfl rfl 7 (by decide) (hg _ mw_489) (fun _ h9 => h9) rfl hin rfl (by decide +kernel) rfl rfl (Nat.le_of_ble_eq_true rfl) dX8_init_65 (fun H locs hP hD hS => ?_)
  have hP : va_P D classes [(h0, .inr (8, [.ref q1, .ref q3, .ref q5, .ref q7, .ref q9, .ref q11, .ref q13, .ref q15, .int 0])), (q1, .inl (c2, 20, .inl (fun _ => 0))), (q3, .inl (c4, 20, .inl (fun _ => 0))), (q5, .inl (c6, 20, .inl (fun _ => 0))), (q7, .inl (c8, 20, .inl (fun _ => 0))), (q9, .inl (c10, 20, .inl (fun _ => 0))), (q11, .inl (c12, 80, .inl (fun _ => 0))), (q13, .inl (c14, 80, .inl (fun _ => 0))), (q15, .inl (c16, 80, .inr (.inl (fun _ => 0))))] H := hP
  have hD : va_D Af [(h0, .inr (8, [.ref q1, .ref q3, .ref q5, .ref q7, .ref q9, .ref q11, .ref q13, .ref q15, .int 0])), (q1, .inl (c2, 20, .inl (fun _ => 0))), (q3, .inl (c4, 20, .inl (fun _ => 0))), (q5, .inl (c6, 20, .inl (fun _ => 0))), (q7, .inl (c8, 20, .inl (fun _ => 0))), (q9, .inl (c10, 20, .inl (fun _ => 0))), (q11, .inl (c12, 80, .inl (fun _ => 0))), (q13, .inl (c14, 80, .inl (fun _ => 0))), (q15, .inl (c16, 80, .inr (.inl (fun _ => 0))))] := hD
  refine lv_aload_n hx hb dX8_init_68 rfl (lv_at hl 0 rfl) ?_
  refine lv_iconst (v := 0) hx hb dX8_init_69 (by decide) ?_
  refine va_put (D := D) (ci := 8) (v := .int 0) (ty := .int) (C := RX8) (T := TX8) (N := 9) hx hb hg inX8 tyX8 tyX8_ok nmX8 hown hK hP hD hS 0 rfl rfl 8 (by decide) (hg _ mw_491) (fun _ h9 => h9) rfl (by decide +kernel) rfl rfl (Nat.le_of_ble_eq_true rfl) dX8_init_70 (fun H locs hP hD hS => ?_)
  have hP : va_P D classes [(h0, .inr (8, [.ref q1, .ref q3, .ref q5, .ref q7, .ref q9, .ref q11, .ref q13, .ref q15, .int 0])), (q1, .inl (c2, 20, .inl (fun _ => 0))), (q3, .inl (c4, 20, .inl (fun _ => 0))), (q5, .inl (c6, 20, .inl (fun _ => 0))), (q7, .inl (c8, 20, .inl (fun _ => 0))), (q9, .inl (c10, 20, .inl (fun _ => 0))), (q11, .inl (c12, 80, .inl (fun _ => 0))), (q13, .inl (c14, 80, .inl (fun _ => 0))), (q15, .inl (c16, 80, .inr (.inl (fun _ => 0))))] H := hP
  have hD : va_D Af [(h0, .inr (8, [.ref q1, .ref q3, .ref q5, .ref q7, .ref q9, .ref q11, .ref q13, .ref q15, .int 0])), (q1, .inl (c2, 20, .inl (fun _ => 0))), (q3, .inl (c4, 20, .inl (fun _ => 0))), (q5, .inl (c6, 20, .inl (fun _ => 0))), (q7, .inl (c8, 20, .inl (fun _ => 0))), (q9, .inl (c10, 20, .inl (fun _ => 0))), (q11, .inl (c12, 80, .inl (fun _ => 0))), (q13, .inl (c14, 80, .inl (fun _ => 0))), (q15, .inl (c16, 80, .inr (.inl (fun _ => 0))))] := hD
  refine lv_aload_n hx hb dX8_init_73 rfl (lv_at hl 0 rfl) ?_
  refine va_get (ci := 8) (v := .ref q13) (C := RX8) (T := TX8) (N := 9) hx hb hg inX8 hown hK hP 0 rfl rfl 6 (by decide) (hg _ mw_487) (fun _ h9 => h9) rfl dX8_init_74 ?_
  refine lv_iconst (v := (-1)) hx hb dX8_init_77 (by decide) ?_
  refine calls_v (As := [.ref q13, .int (-1)]) (rest := []) (hC.ty hK) (c_fill l D [(c2, .int), (c4, .int), (c6, .int), (c8, .int), (c10, .int), (c12, .int), (c14, .int), (c16, .long)] [(h0, .inr (8, [.ref q1, .ref q3, .ref q5, .ref q7, .ref q9, .ref q11, .ref q13, .ref q15, .int 0])), (q1, .inl (c2, 20, .inl (fun _ => 0))), (q3, .inl (c4, 20, .inl (fun _ => 0))), (q5, .inl (c6, 20, .inl (fun _ => 0))), (q7, .inl (c8, 20, .inl (fun _ => 0))), (q9, .inl (c10, 20, .inl (fun _ => 0))), (q11, .inl (c12, 80, .inl (fun _ => 0))), (q13, .inl (c14, 80, .inl (fun _ => 0))), (q15, .inl (c16, 80, .inr (.inl (fun _ => 0))))] 7 6 H.size q13 80 (-1) rfl rfl (by decide)) (cwF 2 hg mw_479 mw_279 mw_13 mw_280 ⟨rfl, rfl⟩ (by decide +kernel) ⟨(Nat.le_of_ble_eq_true rfl), (Nat.le_of_ble_eq_true rfl)⟩) hP hD hS hA rfl hl.1 rfl (Nat.le_of_ble_eq_true rfl) dX8_init_78 ⟨(Nat.le_of_ble_eq_true rfl), (Nat.le_of_ble_eq_true rfl)⟩ (fun _ H locs _ hP hD hS => ?_)
  have hP : va_P D classes [(h0, .inr (8, [.ref q1, .ref q3, .ref q5, .ref q7, .ref q9, .ref q11, .ref q13, .ref q15, .int 0])), (q1, .inl (c2, 20, .inl (fun _ => 0))), (q3, .inl (c4, 20, .inl (fun _ => 0))), (q5, .inl (c6, 20, .inl (fun _ => 0))), (q7, .inl (c8, 20, .inl (fun _ => 0))), (q9, .inl (c10, 20, .inl (fun _ => 0))), (q11, .inl (c12, 80, .inl (fun _ => 0))), (q13, .inl (c14, 80, .inl (fun j => if j < 80 then -1 else 0))), (q15, .inl (c16, 80, .inr (.inl (fun _ => 0))))] H := hP
  have hD : va_D Af [(h0, .inr (8, [.ref q1, .ref q3, .ref q5, .ref q7, .ref q9, .ref q11, .ref q13, .ref q15, .int 0])), (q1, .inl (c2, 20, .inl (fun _ => 0))), (q3, .inl (c4, 20, .inl (fun _ => 0))), (q5, .inl (c6, 20, .inl (fun _ => 0))), (q7, .inl (c8, 20, .inl (fun _ => 0))), (q9, .inl (c10, 20, .inl (fun _ => 0))), (q11, .inl (c12, 80, .inl (fun _ => 0))), (q13, .inl (c14, 80, .inl (fun j => if j < 80 then -1 else 0))), (q15, .inl (c16, 80, .inr (.inl (fun _ => 0))))] := hD
  refine hret H locs 81 ls dX8_init_81 hS (fun t ht hvm => ⟨q1, q3, q5, q7, q9, q11, q13, q15, c2, c4, c6, c8, c10, c12, c14, c16, by rw [ht]; exact hP, va_K.moved hvm hK, hD⟩)
abbrev rm_X9_init : Room := { frames := 1, cells := 4, slots := 224, locals := 20 }
def BB_X9_init (D : va_G) (h0 : Nat) (A9 : Nat → Prop) (t : State) : Prop := ∃ (q1 : Nat) (q3 : Nat) (q5 : Nat) (q7 : Nat) (c2 : ClassId) (c4 : ClassId) (c6 : ClassId) (c8 : ClassId), va_P D classes [(h0, .inr (9, [.ref q1, .ref q3, .ref q5, .ref q7, .int 0, .int (-1), .int 0, .int 0])), (q1, .inl (c2, 12, .inl (fun _ => 0))), (q3, .inl (c4, 12, .inl (fun _ => 0))), (q5, .inl (c6, 120, .inl (fun _ => 0))), (q7, .inl (c8, 80, .inl (fun _ => 0)))] t.heap ∧ va_K D classes [(c2, .int), (c4, .int), (c6, .int), (c8, .int)] t ∧ va_D A9 [(h0, .inr (9, [.ref q1, .ref q3, .ref q5, .ref q7, .int 0, .int (-1), .int 0, .int 0])), (q1, .inl (c2, 12, .inl (fun _ => 0))), (q3, .inl (c4, 12, .inl (fun _ => 0))), (q5, .inl (c6, 120, .inl (fun _ => 0))), (q7, .inl (c8, 80, .inl (fun _ => 0)))]
set_option maxHeartbeats 4000000 in
set_option maxRecDepth 100000 in
theorem c_X9_init (l : Launch) (D : va_G) (h0 sz : Nat) : Met l yX9_init (Cond.code yX9_init cX9_init 1 none :: GW) rm_X9_init (nPc D [(h0, .inr (9, [.null, .null, .null, .null, .int 0, .int 0, .int 0, .int 0]))] sz [.ref h0] (fun _ => True)) (va_Qv (S := Unit) (fun _ => True) (fun _ t => BB_X9_init D h0 (va_A [(h0, .inr (9, [.null, .null, .null, .null, .int 0, .int 0, .int 0, .int 0]))] sz) t) (va_A [(h0, .inr (9, [.null, .null, .null, .null, .int 0, .int 0, .int 0, .int 0]))] sz)) 4 224 (va_A [(h0, .inr (9, [.null, .null, .null, .null, .int 0, .int 0, .int 0, .int 0]))] sz) := by
  refine met_c (ZZ := fun _ _ => True) (BB := BB_X9_init D h0) (own := "ShoeingDay$ToldRounds") (by decide +kernel) rfl rfl (Nat.le_of_ble_eq_true rfl) ?_
  intro p e s m args below meth c Q Af ls hC hin hP hD hS hA hZ hl hret
  have hx := hC.1
  have hb := hC.2.1
  have hown := hC.2.2.2.1
  have hg := hC.g
  have hK := hC.K
  have hl : lv_has ls 1 [(0, .ref h0)] := hl
  obtain ⟨H, hH⟩ : ∃ H, H = s.heap := ⟨_, rfl⟩
  have hP : va_P D classes [(h0, .inr (9, [.null, .null, .null, .null, .int 0, .int 0, .int 0, .int 0]))] H := by rw [hH]; exact hP
  have hS : va_S Af s.heap H [] := by rw [hH]; exact hS
  rw [← hH]
  refine lv_aload_n hx hb dX9_init_0 rfl (lv_at hl 0 rfl) ?_
  refine W.objInit hx hb hown (hg _ mw_443) (hg _ mw_28) (hg _ mw_29) rfl (by rw [hC.2.2.1]; exact hl.1) rfl dX9_init_1 (Nat.le_of_ble_eq_true rfl) (Nat.le_of_ble_eq_true rfl) ?_
  refine W.eq (g2 := F0 m 4 ls []) rfl ?_
  refine lv_aload_n hx hb dX9_init_4 rfl (lv_at hl 0 rfl) ?_
  refine lv_bipush (v := 12) hx hb dX9_init_5 (by decide) ?_
  refine va_newa (atype := .int) (ty := .int) (a0 := (12, .inl (fun _ => 0))) hx hb (hg _ mw_211) rfl hK hP hD hS hA (fun _ => rfl) (by decide) rfl (by decide) (Nat.le_of_ble_eq_true rfl) (Nat.le_of_ble_eq_true rfl) dX9_init_7 (fun q1 c2 H hK hP hD hS => ?_)
  have hK : va_K D classes [(c2, .int)] s := hK
  refine W.widen (k := 1) (n := 12) (Nat.le_of_ble_eq_true rfl) (Nat.le_of_ble_eq_true rfl) ?_
  refine va_putF (D := D) (ci := 9) (v := .ref q1) (ty := (.array .int)) (C := RX9) (T := TX9) (N := 8) hx hb hg inX9 tyX9 tyX9_ok nmX9 hown hK hP hD hS 0 rfl rfl 0 (by decide) (hg _ mw_444) (fun _ h9 => h9) rfl hin rfl (by decide +kernel) rfl rfl (Nat.le_of_ble_eq_true rfl) dX9_init_9 (fun H locs hP hD hS => ?_)
  have hP : va_P D classes [(h0, .inr (9, [.ref q1, .null, .null, .null, .int 0, .int 0, .int 0, .int 0])), (q1, .inl (c2, 12, .inl (fun _ => 0)))] H := hP
  have hD : va_D Af [(h0, .inr (9, [.ref q1, .null, .null, .null, .int 0, .int 0, .int 0, .int 0])), (q1, .inl (c2, 12, .inl (fun _ => 0)))] := hD
  refine lv_aload_n hx hb dX9_init_12 rfl (lv_at hl 0 rfl) ?_
  refine lv_bipush (v := 12) hx hb dX9_init_13 (by decide) ?_
  refine va_newa (atype := .int) (ty := .int) (a0 := (12, .inl (fun _ => 0))) hx hb (hg _ mw_211) rfl hK hP hD hS hA (fun _ => rfl) (by decide) rfl (by decide) (Nat.le_of_ble_eq_true rfl) (Nat.le_of_ble_eq_true rfl) dX9_init_15 (fun q3 c4 H hK hP hD hS => ?_)
  have hK : va_K D classes [(c2, .int), (c4, .int)] s := hK
  refine W.widen (k := 2) (n := 24) (Nat.le_of_ble_eq_true rfl) (Nat.le_of_ble_eq_true rfl) ?_
  refine va_putF (D := D) (ci := 9) (v := .ref q3) (ty := (.array .int)) (C := RX9) (T := TX9) (N := 8) hx hb hg inX9 tyX9 tyX9_ok nmX9 hown hK hP hD hS 0 rfl rfl 1 (by decide) (hg _ mw_445) (fun _ h9 => h9) rfl hin rfl (by decide +kernel) rfl rfl (Nat.le_of_ble_eq_true rfl) dX9_init_17 (fun H locs hP hD hS => ?_)
  have hP : va_P D classes [(h0, .inr (9, [.ref q1, .ref q3, .null, .null, .int 0, .int 0, .int 0, .int 0])), (q1, .inl (c2, 12, .inl (fun _ => 0))), (q3, .inl (c4, 12, .inl (fun _ => 0)))] H := hP
  have hD : va_D Af [(h0, .inr (9, [.ref q1, .ref q3, .null, .null, .int 0, .int 0, .int 0, .int 0])), (q1, .inl (c2, 12, .inl (fun _ => 0))), (q3, .inl (c4, 12, .inl (fun _ => 0)))] := hD
  refine lv_aload_n hx hb dX9_init_20 rfl (lv_at hl 0 rfl) ?_
  refine lv_bipush (v := 120) hx hb dX9_init_21 (by decide) ?_
  refine va_newa (atype := .int) (ty := .int) (a0 := (120, .inl (fun _ => 0))) hx hb (hg _ mw_211) rfl hK hP hD hS hA (fun _ => rfl) (by decide) rfl (by decide) (Nat.le_of_ble_eq_true rfl) (Nat.le_of_ble_eq_true rfl) dX9_init_23 (fun q5 c6 H hK hP hD hS => ?_)
  have hK : va_K D classes [(c2, .int), (c4, .int), (c6, .int)] s := hK
  refine W.widen (k := 3) (n := 144) (Nat.le_of_ble_eq_true rfl) (Nat.le_of_ble_eq_true rfl) ?_
  refine va_putF (D := D) (ci := 9) (v := .ref q5) (ty := (.array .int)) (C := RX9) (T := TX9) (N := 8) hx hb hg inX9 tyX9 tyX9_ok nmX9 hown hK hP hD hS 0 rfl rfl 2 (by decide) (hg _ mw_446) (fun _ h9 => h9) rfl hin rfl (by decide +kernel) rfl rfl (Nat.le_of_ble_eq_true rfl) dX9_init_25 (fun H locs hP hD hS => ?_)
  have hP : va_P D classes [(h0, .inr (9, [.ref q1, .ref q3, .ref q5, .null, .int 0, .int 0, .int 0, .int 0])), (q1, .inl (c2, 12, .inl (fun _ => 0))), (q3, .inl (c4, 12, .inl (fun _ => 0))), (q5, .inl (c6, 120, .inl (fun _ => 0)))] H := hP
  have hD : va_D Af [(h0, .inr (9, [.ref q1, .ref q3, .ref q5, .null, .int 0, .int 0, .int 0, .int 0])), (q1, .inl (c2, 12, .inl (fun _ => 0))), (q3, .inl (c4, 12, .inl (fun _ => 0))), (q5, .inl (c6, 120, .inl (fun _ => 0)))] := hD
  refine lv_aload_n hx hb dX9_init_28 rfl (lv_at hl 0 rfl) ?_
  refine lv_bipush (v := 80) hx hb dX9_init_29 (by decide) ?_
  refine va_newa (atype := .int) (ty := .int) (a0 := (80, .inl (fun _ => 0))) hx hb (hg _ mw_211) rfl hK hP hD hS hA (fun _ => rfl) (by decide) rfl (by decide) (Nat.le_of_ble_eq_true rfl) (Nat.le_of_ble_eq_true rfl) dX9_init_31 (fun q7 c8 H hK hP hD hS => ?_)
  have hK : va_K D classes [(c2, .int), (c4, .int), (c6, .int), (c8, .int)] s := hK
  refine W.widen (k := 4) (n := 224) (Nat.le_of_ble_eq_true rfl) (Nat.le_of_ble_eq_true rfl) ?_
  refine va_putF (D := D) (ci := 9) (v := .ref q7) (ty := (.array .int)) (C := RX9) (T := TX9) (N := 8) hx hb hg inX9 tyX9 tyX9_ok nmX9 hown hK hP hD hS 0 rfl rfl 3 (by decide) (hg _ mw_447) (fun _ h9 => h9) rfl hin rfl (by decide +kernel) rfl rfl (Nat.le_of_ble_eq_true rfl) dX9_init_33 (fun H locs hP hD hS => ?_)
  have hP : va_P D classes [(h0, .inr (9, [.ref q1, .ref q3, .ref q5, .ref q7, .int 0, .int 0, .int 0, .int 0])), (q1, .inl (c2, 12, .inl (fun _ => 0))), (q3, .inl (c4, 12, .inl (fun _ => 0))), (q5, .inl (c6, 120, .inl (fun _ => 0))), (q7, .inl (c8, 80, .inl (fun _ => 0)))] H := hP
  have hD : va_D Af [(h0, .inr (9, [.ref q1, .ref q3, .ref q5, .ref q7, .int 0, .int 0, .int 0, .int 0])), (q1, .inl (c2, 12, .inl (fun _ => 0))), (q3, .inl (c4, 12, .inl (fun _ => 0))), (q5, .inl (c6, 120, .inl (fun _ => 0))), (q7, .inl (c8, 80, .inl (fun _ => 0)))] := hD
  refine lv_aload_n hx hb dX9_init_36 rfl (lv_at hl 0 rfl) ?_
  refine lv_iconst (v := 0) hx hb dX9_init_37 (by decide) ?_
  refine va_put (D := D) (ci := 9) (v := .int 0) (ty := .int) (C := RX9) (T := TX9) (N := 8) hx hb hg inX9 tyX9 tyX9_ok nmX9 hown hK hP hD hS 0 rfl rfl 4 (by decide) (hg _ mw_448) (fun _ h9 => h9) rfl (by decide +kernel) rfl rfl (Nat.le_of_ble_eq_true rfl) dX9_init_38 (fun H locs hP hD hS => ?_)
  have hP : va_P D classes [(h0, .inr (9, [.ref q1, .ref q3, .ref q5, .ref q7, .int 0, .int 0, .int 0, .int 0])), (q1, .inl (c2, 12, .inl (fun _ => 0))), (q3, .inl (c4, 12, .inl (fun _ => 0))), (q5, .inl (c6, 120, .inl (fun _ => 0))), (q7, .inl (c8, 80, .inl (fun _ => 0)))] H := hP
  have hD : va_D Af [(h0, .inr (9, [.ref q1, .ref q3, .ref q5, .ref q7, .int 0, .int 0, .int 0, .int 0])), (q1, .inl (c2, 12, .inl (fun _ => 0))), (q3, .inl (c4, 12, .inl (fun _ => 0))), (q5, .inl (c6, 120, .inl (fun _ => 0))), (q7, .inl (c8, 80, .inl (fun _ => 0)))] := hD
  refine lv_aload_n hx hb dX9_init_41 rfl (lv_at hl 0 rfl) ?_
  refine lv_iconst (v := (-1)) hx hb dX9_init_42 (by decide) ?_
  refine va_put (D := D) (ci := 9) (v := .int (-1)) (ty := .int) (C := RX9) (T := TX9) (N := 8) hx hb hg inX9 tyX9 tyX9_ok nmX9 hown hK hP hD hS 0 rfl rfl 5 (by decide) (hg _ mw_450) (fun _ h9 => h9) rfl (by decide +kernel) rfl rfl (Nat.le_of_ble_eq_true rfl) dX9_init_43 (fun H locs hP hD hS => ?_)
  have hP : va_P D classes [(h0, .inr (9, [.ref q1, .ref q3, .ref q5, .ref q7, .int 0, .int (-1), .int 0, .int 0])), (q1, .inl (c2, 12, .inl (fun _ => 0))), (q3, .inl (c4, 12, .inl (fun _ => 0))), (q5, .inl (c6, 120, .inl (fun _ => 0))), (q7, .inl (c8, 80, .inl (fun _ => 0)))] H := hP
  have hD : va_D Af [(h0, .inr (9, [.ref q1, .ref q3, .ref q5, .ref q7, .int 0, .int (-1), .int 0, .int 0])), (q1, .inl (c2, 12, .inl (fun _ => 0))), (q3, .inl (c4, 12, .inl (fun _ => 0))), (q5, .inl (c6, 120, .inl (fun _ => 0))), (q7, .inl (c8, 80, .inl (fun _ => 0)))] := hD
  refine lv_aload_n hx hb dX9_init_46 rfl (lv_at hl 0 rfl) ?_
  refine lv_iconst (v := 0) hx hb dX9_init_47 (by decide) ?_
  refine va_put (D := D) (ci := 9) (v := .int 0) (ty := .int) (C := RX9) (T := TX9) (N := 8) hx hb hg inX9 tyX9 tyX9_ok nmX9 hown hK hP hD hS 0 rfl rfl 6 (by decide) (hg _ mw_452) (fun _ h9 => h9) rfl (by decide +kernel) rfl rfl (Nat.le_of_ble_eq_true rfl) dX9_init_48 (fun H locs hP hD hS => ?_)
  have hP : va_P D classes [(h0, .inr (9, [.ref q1, .ref q3, .ref q5, .ref q7, .int 0, .int (-1), .int 0, .int 0])), (q1, .inl (c2, 12, .inl (fun _ => 0))), (q3, .inl (c4, 12, .inl (fun _ => 0))), (q5, .inl (c6, 120, .inl (fun _ => 0))), (q7, .inl (c8, 80, .inl (fun _ => 0)))] H := hP
  have hD : va_D Af [(h0, .inr (9, [.ref q1, .ref q3, .ref q5, .ref q7, .int 0, .int (-1), .int 0, .int 0])), (q1, .inl (c2, 12, .inl (fun _ => 0))), (q3, .inl (c4, 12, .inl (fun _ => 0))), (q5, .inl (c6, 120, .inl (fun _ => 0))), (q7, .inl (c8, 80, .inl (fun _ => 0)))] := hD
  refine lv_aload_n hx hb dX9_init_51 rfl (lv_at hl 0 rfl) ?_
  refine lv_iconst (v := 0) hx hb dX9_init_52 (by decide) ?_
  refine va_put (D := D) (ci := 9) (v := .int 0) (ty := .int) (C := RX9) (T := TX9) (N := 8) hx hb hg inX9 tyX9 tyX9_ok nmX9 hown hK hP hD hS 0 rfl rfl 7 (by decide) (hg _ mw_454) (fun _ h9 => h9) rfl (by decide +kernel) rfl rfl (Nat.le_of_ble_eq_true rfl) dX9_init_53 (fun H locs hP hD hS => ?_)
  have hP : va_P D classes [(h0, .inr (9, [.ref q1, .ref q3, .ref q5, .ref q7, .int 0, .int (-1), .int 0, .int 0])), (q1, .inl (c2, 12, .inl (fun _ => 0))), (q3, .inl (c4, 12, .inl (fun _ => 0))), (q5, .inl (c6, 120, .inl (fun _ => 0))), (q7, .inl (c8, 80, .inl (fun _ => 0)))] H := hP
  have hD : va_D Af [(h0, .inr (9, [.ref q1, .ref q3, .ref q5, .ref q7, .int 0, .int (-1), .int 0, .int 0])), (q1, .inl (c2, 12, .inl (fun _ => 0))), (q3, .inl (c4, 12, .inl (fun _ => 0))), (q5, .inl (c6, 120, .inl (fun _ => 0))), (q7, .inl (c8, 80, .inl (fun _ => 0)))] := hD
  refine hret H locs 56 ls dX9_init_56 hS (fun t ht hvm => ⟨q1, q3, q5, q7, c2, c4, c6, c8, by rw [ht]; exact hP, va_K.moved hvm hK, hD⟩)
abbrev rm_X10_init : Room := { frames := 1, cells := 6, slots := 122, locals := 20 }
def BB_X10_init (D : va_G) (h0 : Nat) (A9 : Nat → Prop) (t : State) : Prop := ∃ (q1 : Nat) (q3 : Nat) (q5 : Nat) (q7 : Nat) (q9 : Nat) (q11 : Nat) (c2 : ClassId) (c4 : ClassId) (c6 : ClassId) (c8 : ClassId) (c10 : ClassId) (c12 : ClassId), va_P D classes [(h0, .inr (10, [.ref q1, .ref q3, .ref q5, .ref q7, .ref q9, .ref q11, .int 0, .int 0, .int 0, .int 0, .int 0, .int (-1)])), (q1, .inl (c2, 8, .inr (.inl (fun _ => 0)))), (q3, .inl (c4, 10, .inr (.inl (fun _ => 0)))), (q5, .inl (c6, 8, .inl (fun _ => 0))), (q7, .inl (c8, 8, .inl (fun _ => 0))), (q9, .inl (c10, 8, .inl (fun _ => 0))), (q11, .inl (c12, 80, .inl (fun _ => 0)))] t.heap ∧ va_K D classes [(c2, .long), (c4, .long), (c6, .int), (c8, .int), (c10, .int), (c12, .int)] t ∧ va_D A9 [(h0, .inr (10, [.ref q1, .ref q3, .ref q5, .ref q7, .ref q9, .ref q11, .int 0, .int 0, .int 0, .int 0, .int 0, .int (-1)])), (q1, .inl (c2, 8, .inr (.inl (fun _ => 0)))), (q3, .inl (c4, 10, .inr (.inl (fun _ => 0)))), (q5, .inl (c6, 8, .inl (fun _ => 0))), (q7, .inl (c8, 8, .inl (fun _ => 0))), (q9, .inl (c10, 8, .inl (fun _ => 0))), (q11, .inl (c12, 80, .inl (fun _ => 0)))]
set_option maxHeartbeats 4000000 in
set_option maxRecDepth 100000 in
theorem c_X10_init (l : Launch) (D : va_G) (h0 sz : Nat) : Met l yX10_init (Cond.code yX10_init cX10_init 1 none :: GW) rm_X10_init (nPc D [(h0, .inr (10, [.null, .null, .null, .null, .null, .null, .int 0, .int 0, .int 0, .int 0, .int 0, .int 0]))] sz [.ref h0] (fun _ => True)) (va_Qv (S := Unit) (fun _ => True) (fun _ t => BB_X10_init D h0 (va_A [(h0, .inr (10, [.null, .null, .null, .null, .null, .null, .int 0, .int 0, .int 0, .int 0, .int 0, .int 0]))] sz) t) (va_A [(h0, .inr (10, [.null, .null, .null, .null, .null, .null, .int 0, .int 0, .int 0, .int 0, .int 0, .int 0]))] sz)) 6 122 (va_A [(h0, .inr (10, [.null, .null, .null, .null, .null, .null, .int 0, .int 0, .int 0, .int 0, .int 0, .int 0]))] sz) := by
  refine met_c (ZZ := fun _ _ => True) (BB := BB_X10_init D h0) (own := "ShoeingDay$Yard") (by decide +kernel) rfl rfl (Nat.le_of_ble_eq_true rfl) ?_
  intro p e s m args below meth c Q Af ls hC hin hP hD hS hA hZ hl hret
  have hx := hC.1
  have hb := hC.2.1
  have hown := hC.2.2.2.1
  have hg := hC.g
  have hK := hC.K
  have hl : lv_has ls 1 [(0, .ref h0)] := hl
  obtain ⟨H, hH⟩ : ∃ H, H = s.heap := ⟨_, rfl⟩
  have hP : va_P D classes [(h0, .inr (10, [.null, .null, .null, .null, .null, .null, .int 0, .int 0, .int 0, .int 0, .int 0, .int 0]))] H := by rw [hH]; exact hP
  have hS : va_S Af s.heap H [] := by rw [hH]; exact hS
  rw [← hH]
  refine lv_aload_n hx hb dX10_init_0 rfl (lv_at hl 0 rfl) ?_
  refine W.objInit hx hb hown (hg _ mw_153) (hg _ mw_28) (hg _ mw_29) rfl (by rw [hC.2.2.1]; exact hl.1) rfl dX10_init_1 (Nat.le_of_ble_eq_true rfl) (Nat.le_of_ble_eq_true rfl) ?_
  refine W.eq (g2 := F0 m 4 ls []) rfl ?_
  refine lv_aload_n hx hb dX10_init_4 rfl (lv_at hl 0 rfl) ?_
  refine lv_bipush (v := 8) hx hb dX10_init_5 (by decide) ?_
  refine va_newa (atype := .long) (ty := .long) (a0 := (8, .inr (.inl (fun _ => 0)))) hx hb (hg _ mw_210) rfl hK hP hD hS hA (fun _ => rfl) (by decide) rfl (by decide) (Nat.le_of_ble_eq_true rfl) (Nat.le_of_ble_eq_true rfl) dX10_init_7 (fun q1 c2 H hK hP hD hS => ?_)
  have hK : va_K D classes [(c2, .long)] s := hK
  refine W.widen (k := 1) (n := 8) (Nat.le_of_ble_eq_true rfl) (Nat.le_of_ble_eq_true rfl) ?_
  refine va_putF (D := D) (ci := 10) (v := .ref q1) (ty := (.array .long)) (C := RX10) (T := TX10) (N := 12) hx hb hg inX10 tyX10 tyX10_ok nmX10 hown hK hP hD hS 0 rfl rfl 0 (by decide) (hg _ mw_154) (fun _ h9 => h9) rfl hin rfl (by decide +kernel) rfl rfl (Nat.le_of_ble_eq_true rfl) dX10_init_9 (fun H locs hP hD hS => ?_)
  have hP : va_P D classes [(h0, .inr (10, [.ref q1, .null, .null, .null, .null, .null, .int 0, .int 0, .int 0, .int 0, .int 0, .int 0])), (q1, .inl (c2, 8, .inr (.inl (fun _ => 0))))] H := hP
  have hD : va_D Af [(h0, .inr (10, [.ref q1, .null, .null, .null, .null, .null, .int 0, .int 0, .int 0, .int 0, .int 0, .int 0])), (q1, .inl (c2, 8, .inr (.inl (fun _ => 0))))] := hD
  refine lv_aload_n hx hb dX10_init_12 rfl (lv_at hl 0 rfl) ?_
  refine lv_bipush (v := 10) hx hb dX10_init_13 (by decide) ?_
  refine va_newa (atype := .long) (ty := .long) (a0 := (10, .inr (.inl (fun _ => 0)))) hx hb (hg _ mw_210) rfl hK hP hD hS hA (fun _ => rfl) (by decide) rfl (by decide) (Nat.le_of_ble_eq_true rfl) (Nat.le_of_ble_eq_true rfl) dX10_init_15 (fun q3 c4 H hK hP hD hS => ?_)
  have hK : va_K D classes [(c2, .long), (c4, .long)] s := hK
  refine W.widen (k := 2) (n := 18) (Nat.le_of_ble_eq_true rfl) (Nat.le_of_ble_eq_true rfl) ?_
  refine va_putF (D := D) (ci := 10) (v := .ref q3) (ty := (.array .long)) (C := RX10) (T := TX10) (N := 12) hx hb hg inX10 tyX10 tyX10_ok nmX10 hown hK hP hD hS 0 rfl rfl 1 (by decide) (hg _ mw_155) (fun _ h9 => h9) rfl hin rfl (by decide +kernel) rfl rfl (Nat.le_of_ble_eq_true rfl) dX10_init_17 (fun H locs hP hD hS => ?_)
  have hP : va_P D classes [(h0, .inr (10, [.ref q1, .ref q3, .null, .null, .null, .null, .int 0, .int 0, .int 0, .int 0, .int 0, .int 0])), (q1, .inl (c2, 8, .inr (.inl (fun _ => 0)))), (q3, .inl (c4, 10, .inr (.inl (fun _ => 0))))] H := hP
  have hD : va_D Af [(h0, .inr (10, [.ref q1, .ref q3, .null, .null, .null, .null, .int 0, .int 0, .int 0, .int 0, .int 0, .int 0])), (q1, .inl (c2, 8, .inr (.inl (fun _ => 0)))), (q3, .inl (c4, 10, .inr (.inl (fun _ => 0))))] := hD
  refine lv_aload_n hx hb dX10_init_20 rfl (lv_at hl 0 rfl) ?_
  refine lv_bipush (v := 8) hx hb dX10_init_21 (by decide) ?_
  refine va_newa (atype := .int) (ty := .int) (a0 := (8, .inl (fun _ => 0))) hx hb (hg _ mw_211) rfl hK hP hD hS hA (fun _ => rfl) (by decide) rfl (by decide) (Nat.le_of_ble_eq_true rfl) (Nat.le_of_ble_eq_true rfl) dX10_init_23 (fun q5 c6 H hK hP hD hS => ?_)
  have hK : va_K D classes [(c2, .long), (c4, .long), (c6, .int)] s := hK
  refine W.widen (k := 3) (n := 26) (Nat.le_of_ble_eq_true rfl) (Nat.le_of_ble_eq_true rfl) ?_
  refine va_putF (D := D) (ci := 10) (v := .ref q5) (ty := (.array .int)) (C := RX10) (T := TX10) (N := 12) hx hb hg inX10 tyX10 tyX10_ok nmX10 hown hK hP hD hS 0 rfl rfl 2 (by decide) (hg _ mw_156) (fun _ h9 => h9) rfl hin rfl (by decide +kernel) rfl rfl (Nat.le_of_ble_eq_true rfl) dX10_init_25 (fun H locs hP hD hS => ?_)
  have hP : va_P D classes [(h0, .inr (10, [.ref q1, .ref q3, .ref q5, .null, .null, .null, .int 0, .int 0, .int 0, .int 0, .int 0, .int 0])), (q1, .inl (c2, 8, .inr (.inl (fun _ => 0)))), (q3, .inl (c4, 10, .inr (.inl (fun _ => 0)))), (q5, .inl (c6, 8, .inl (fun _ => 0)))] H := hP
  have hD : va_D Af [(h0, .inr (10, [.ref q1, .ref q3, .ref q5, .null, .null, .null, .int 0, .int 0, .int 0, .int 0, .int 0, .int 0])), (q1, .inl (c2, 8, .inr (.inl (fun _ => 0)))), (q3, .inl (c4, 10, .inr (.inl (fun _ => 0)))), (q5, .inl (c6, 8, .inl (fun _ => 0)))] := hD
  refine lv_aload_n hx hb dX10_init_28 rfl (lv_at hl 0 rfl) ?_
  refine lv_bipush (v := 8) hx hb dX10_init_29 (by decide) ?_
  refine va_newa (atype := .int) (ty := .int) (a0 := (8, .inl (fun _ => 0))) hx hb (hg _ mw_211) rfl hK hP hD hS hA (fun _ => rfl) (by decide) rfl (by decide) (Nat.le_of_ble_eq_true rfl) (Nat.le_of_ble_eq_true rfl) dX10_init_31 (fun q7 c8 H hK hP hD hS => ?_)
  have hK : va_K D classes [(c2, .long), (c4, .long), (c6, .int), (c8, .int)] s := hK
  refine W.widen (k := 4) (n := 34) (Nat.le_of_ble_eq_true rfl) (Nat.le_of_ble_eq_true rfl) ?_
  refine va_putF (D := D) (ci := 10) (v := .ref q7) (ty := (.array .int)) (C := RX10) (T := TX10) (N := 12) hx hb hg inX10 tyX10 tyX10_ok nmX10 hown hK hP hD hS 0 rfl rfl 3 (by decide) (hg _ mw_158) (fun _ h9 => h9) rfl hin rfl (by decide +kernel) rfl rfl (Nat.le_of_ble_eq_true rfl) dX10_init_33 (fun H locs hP hD hS => ?_)
  have hP : va_P D classes [(h0, .inr (10, [.ref q1, .ref q3, .ref q5, .ref q7, .null, .null, .int 0, .int 0, .int 0, .int 0, .int 0, .int 0])), (q1, .inl (c2, 8, .inr (.inl (fun _ => 0)))), (q3, .inl (c4, 10, .inr (.inl (fun _ => 0)))), (q5, .inl (c6, 8, .inl (fun _ => 0))), (q7, .inl (c8, 8, .inl (fun _ => 0)))] H := hP
  have hD : va_D Af [(h0, .inr (10, [.ref q1, .ref q3, .ref q5, .ref q7, .null, .null, .int 0, .int 0, .int 0, .int 0, .int 0, .int 0])), (q1, .inl (c2, 8, .inr (.inl (fun _ => 0)))), (q3, .inl (c4, 10, .inr (.inl (fun _ => 0)))), (q5, .inl (c6, 8, .inl (fun _ => 0))), (q7, .inl (c8, 8, .inl (fun _ => 0)))] := hD
  refine lv_aload_n hx hb dX10_init_36 rfl (lv_at hl 0 rfl) ?_
  refine lv_bipush (v := 8) hx hb dX10_init_37 (by decide) ?_
  refine va_newa (atype := .int) (ty := .int) (a0 := (8, .inl (fun _ => 0))) hx hb (hg _ mw_211) rfl hK hP hD hS hA (fun _ => rfl) (by decide) rfl (by decide) (Nat.le_of_ble_eq_true rfl) (Nat.le_of_ble_eq_true rfl) dX10_init_39 (fun q9 c10 H hK hP hD hS => ?_)
  have hK : va_K D classes [(c2, .long), (c4, .long), (c6, .int), (c8, .int), (c10, .int)] s := hK
  refine W.widen (k := 5) (n := 42) (Nat.le_of_ble_eq_true rfl) (Nat.le_of_ble_eq_true rfl) ?_
  refine va_putF (D := D) (ci := 10) (v := .ref q9) (ty := (.array .int)) (C := RX10) (T := TX10) (N := 12) hx hb hg inX10 tyX10 tyX10_ok nmX10 hown hK hP hD hS 0 rfl rfl 4 (by decide) (hg _ mw_161) (fun _ h9 => h9) rfl hin rfl (by decide +kernel) rfl rfl (Nat.le_of_ble_eq_true rfl) dX10_init_41 (fun H locs hP hD hS => ?_)
  have hP : va_P D classes [(h0, .inr (10, [.ref q1, .ref q3, .ref q5, .ref q7, .ref q9, .null, .int 0, .int 0, .int 0, .int 0, .int 0, .int 0])), (q1, .inl (c2, 8, .inr (.inl (fun _ => 0)))), (q3, .inl (c4, 10, .inr (.inl (fun _ => 0)))), (q5, .inl (c6, 8, .inl (fun _ => 0))), (q7, .inl (c8, 8, .inl (fun _ => 0))), (q9, .inl (c10, 8, .inl (fun _ => 0)))] H := hP
  have hD : va_D Af [(h0, .inr (10, [.ref q1, .ref q3, .ref q5, .ref q7, .ref q9, .null, .int 0, .int 0, .int 0, .int 0, .int 0, .int 0])), (q1, .inl (c2, 8, .inr (.inl (fun _ => 0)))), (q3, .inl (c4, 10, .inr (.inl (fun _ => 0)))), (q5, .inl (c6, 8, .inl (fun _ => 0))), (q7, .inl (c8, 8, .inl (fun _ => 0))), (q9, .inl (c10, 8, .inl (fun _ => 0)))] := hD
  refine lv_aload_n hx hb dX10_init_44 rfl (lv_at hl 0 rfl) ?_
  refine lv_bipush (v := 80) hx hb dX10_init_45 (by decide) ?_
  refine va_newa (atype := .int) (ty := .int) (a0 := (80, .inl (fun _ => 0))) hx hb (hg _ mw_211) rfl hK hP hD hS hA (fun _ => rfl) (by decide) rfl (by decide) (Nat.le_of_ble_eq_true rfl) (Nat.le_of_ble_eq_true rfl) dX10_init_47 (fun q11 c12 H hK hP hD hS => ?_)
  have hK : va_K D classes [(c2, .long), (c4, .long), (c6, .int), (c8, .int), (c10, .int), (c12, .int)] s := hK
  refine W.widen (k := 6) (n := 122) (Nat.le_of_ble_eq_true rfl) (Nat.le_of_ble_eq_true rfl) ?_
  refine va_putF (D := D) (ci := 10) (v := .ref q11) (ty := (.array .int)) (C := RX10) (T := TX10) (N := 12) hx hb hg inX10 tyX10 tyX10_ok nmX10 hown hK hP hD hS 0 rfl rfl 5 (by decide) (hg _ mw_163) (fun _ h9 => h9) rfl hin rfl (by decide +kernel) rfl rfl (Nat.le_of_ble_eq_true rfl) dX10_init_49 (fun H locs hP hD hS => ?_)
  have hP : va_P D classes [(h0, .inr (10, [.ref q1, .ref q3, .ref q5, .ref q7, .ref q9, .ref q11, .int 0, .int 0, .int 0, .int 0, .int 0, .int 0])), (q1, .inl (c2, 8, .inr (.inl (fun _ => 0)))), (q3, .inl (c4, 10, .inr (.inl (fun _ => 0)))), (q5, .inl (c6, 8, .inl (fun _ => 0))), (q7, .inl (c8, 8, .inl (fun _ => 0))), (q9, .inl (c10, 8, .inl (fun _ => 0))), (q11, .inl (c12, 80, .inl (fun _ => 0)))] H := hP
  have hD : va_D Af [(h0, .inr (10, [.ref q1, .ref q3, .ref q5, .ref q7, .ref q9, .ref q11, .int 0, .int 0, .int 0, .int 0, .int 0, .int 0])), (q1, .inl (c2, 8, .inr (.inl (fun _ => 0)))), (q3, .inl (c4, 10, .inr (.inl (fun _ => 0)))), (q5, .inl (c6, 8, .inl (fun _ => 0))), (q7, .inl (c8, 8, .inl (fun _ => 0))), (q9, .inl (c10, 8, .inl (fun _ => 0))), (q11, .inl (c12, 80, .inl (fun _ => 0)))] := hD
  refine lv_aload_n hx hb dX10_init_52 rfl (lv_at hl 0 rfl) ?_
  refine lv_iconst (v := 0) hx hb dX10_init_53 (by decide) ?_
  refine va_put (D := D) (ci := 10) (v := .int 0) (ty := .int) (C := RX10) (T := TX10) (N := 12) hx hb hg inX10 tyX10 tyX10_ok nmX10 hown hK hP hD hS 0 rfl rfl 6 (by decide) (hg _ mw_166) (fun _ h9 => h9) rfl (by decide +kernel) rfl rfl (Nat.le_of_ble_eq_true rfl) dX10_init_54 (fun H locs hP hD hS => ?_)
  have hP : va_P D classes [(h0, .inr (10, [.ref q1, .ref q3, .ref q5, .ref q7, .ref q9, .ref q11, .int 0, .int 0, .int 0, .int 0, .int 0, .int 0])), (q1, .inl (c2, 8, .inr (.inl (fun _ => 0)))), (q3, .inl (c4, 10, .inr (.inl (fun _ => 0)))), (q5, .inl (c6, 8, .inl (fun _ => 0))), (q7, .inl (c8, 8, .inl (fun _ => 0))), (q9, .inl (c10, 8, .inl (fun _ => 0))), (q11, .inl (c12, 80, .inl (fun _ => 0)))] H := hP
  have hD : va_D Af [(h0, .inr (10, [.ref q1, .ref q3, .ref q5, .ref q7, .ref q9, .ref q11, .int 0, .int 0, .int 0, .int 0, .int 0, .int 0])), (q1, .inl (c2, 8, .inr (.inl (fun _ => 0)))), (q3, .inl (c4, 10, .inr (.inl (fun _ => 0)))), (q5, .inl (c6, 8, .inl (fun _ => 0))), (q7, .inl (c8, 8, .inl (fun _ => 0))), (q9, .inl (c10, 8, .inl (fun _ => 0))), (q11, .inl (c12, 80, .inl (fun _ => 0)))] := hD
  refine lv_aload_n hx hb dX10_init_57 rfl (lv_at hl 0 rfl) ?_
  refine lv_iconst (v := 0) hx hb dX10_init_58 (by decide) ?_
  refine va_put (D := D) (ci := 10) (v := .int 0) (ty := .int) (C := RX10) (T := TX10) (N := 12) hx hb hg inX10 tyX10 tyX10_ok nmX10 hown hK hP hD hS 0 rfl rfl 7 (by decide) (hg _ mw_171) (fun _ h9 => h9) rfl (by decide +kernel) rfl rfl (Nat.le_of_ble_eq_true rfl) dX10_init_59 (fun H locs hP hD hS => ?_)
  have hP : va_P D classes [(h0, .inr (10, [.ref q1, .ref q3, .ref q5, .ref q7, .ref q9, .ref q11, .int 0, .int 0, .int 0, .int 0, .int 0, .int 0])), (q1, .inl (c2, 8, .inr (.inl (fun _ => 0)))), (q3, .inl (c4, 10, .inr (.inl (fun _ => 0)))), (q5, .inl (c6, 8, .inl (fun _ => 0))), (q7, .inl (c8, 8, .inl (fun _ => 0))), (q9, .inl (c10, 8, .inl (fun _ => 0))), (q11, .inl (c12, 80, .inl (fun _ => 0)))] H := hP
  have hD : va_D Af [(h0, .inr (10, [.ref q1, .ref q3, .ref q5, .ref q7, .ref q9, .ref q11, .int 0, .int 0, .int 0, .int 0, .int 0, .int 0])), (q1, .inl (c2, 8, .inr (.inl (fun _ => 0)))), (q3, .inl (c4, 10, .inr (.inl (fun _ => 0)))), (q5, .inl (c6, 8, .inl (fun _ => 0))), (q7, .inl (c8, 8, .inl (fun _ => 0))), (q9, .inl (c10, 8, .inl (fun _ => 0))), (q11, .inl (c12, 80, .inl (fun _ => 0)))] := hD
  refine lv_aload_n hx hb dX10_init_62 rfl (lv_at hl 0 rfl) ?_
  refine lv_iconst (v := 0) hx hb dX10_init_63 (by decide) ?_
  refine va_put (D := D) (ci := 10) (v := .int 0) (ty := .int) (C := RX10) (T := TX10) (N := 12) hx hb hg inX10 tyX10 tyX10_ok nmX10 hown hK hP hD hS 0 rfl rfl 8 (by decide) (hg _ mw_175) (fun _ h9 => h9) rfl (by decide +kernel) rfl rfl (Nat.le_of_ble_eq_true rfl) dX10_init_64 (fun H locs hP hD hS => ?_)
  have hP : va_P D classes [(h0, .inr (10, [.ref q1, .ref q3, .ref q5, .ref q7, .ref q9, .ref q11, .int 0, .int 0, .int 0, .int 0, .int 0, .int 0])), (q1, .inl (c2, 8, .inr (.inl (fun _ => 0)))), (q3, .inl (c4, 10, .inr (.inl (fun _ => 0)))), (q5, .inl (c6, 8, .inl (fun _ => 0))), (q7, .inl (c8, 8, .inl (fun _ => 0))), (q9, .inl (c10, 8, .inl (fun _ => 0))), (q11, .inl (c12, 80, .inl (fun _ => 0)))] H := hP
  have hD : va_D Af [(h0, .inr (10, [.ref q1, .ref q3, .ref q5, .ref q7, .ref q9, .ref q11, .int 0, .int 0, .int 0, .int 0, .int 0, .int 0])), (q1, .inl (c2, 8, .inr (.inl (fun _ => 0)))), (q3, .inl (c4, 10, .inr (.inl (fun _ => 0)))), (q5, .inl (c6, 8, .inl (fun _ => 0))), (q7, .inl (c8, 8, .inl (fun _ => 0))), (q9, .inl (c10, 8, .inl (fun _ => 0))), (q11, .inl (c12, 80, .inl (fun _ => 0)))] := hD
  refine lv_aload_n hx hb dX10_init_67 rfl (lv_at hl 0 rfl) ?_
  refine lv_iconst (v := 0) hx hb dX10_init_68 (by decide) ?_
  refine va_put (D := D) (ci := 10) (v := .int 0) (ty := .int) (C := RX10) (T := TX10) (N := 12) hx hb hg inX10 tyX10 tyX10_ok nmX10 hown hK hP hD hS 0 rfl rfl 9 (by decide) (hg _ mw_177) (fun _ h9 => h9) rfl (by decide +kernel) rfl rfl (Nat.le_of_ble_eq_true rfl) dX10_init_69 (fun H locs hP hD hS => ?_)
  have hP : va_P D classes [(h0, .inr (10, [.ref q1, .ref q3, .ref q5, .ref q7, .ref q9, .ref q11, .int 0, .int 0, .int 0, .int 0, .int 0, .int 0])), (q1, .inl (c2, 8, .inr (.inl (fun _ => 0)))), (q3, .inl (c4, 10, .inr (.inl (fun _ => 0)))), (q5, .inl (c6, 8, .inl (fun _ => 0))), (q7, .inl (c8, 8, .inl (fun _ => 0))), (q9, .inl (c10, 8, .inl (fun _ => 0))), (q11, .inl (c12, 80, .inl (fun _ => 0)))] H := hP
  have hD : va_D Af [(h0, .inr (10, [.ref q1, .ref q3, .ref q5, .ref q7, .ref q9, .ref q11, .int 0, .int 0, .int 0, .int 0, .int 0, .int 0])), (q1, .inl (c2, 8, .inr (.inl (fun _ => 0)))), (q3, .inl (c4, 10, .inr (.inl (fun _ => 0)))), (q5, .inl (c6, 8, .inl (fun _ => 0))), (q7, .inl (c8, 8, .inl (fun _ => 0))), (q9, .inl (c10, 8, .inl (fun _ => 0))), (q11, .inl (c12, 80, .inl (fun _ => 0)))] := hD
  refine lv_aload_n hx hb dX10_init_72 rfl (lv_at hl 0 rfl) ?_
  refine lv_iconst (v := 0) hx hb dX10_init_73 (by decide) ?_
  refine va_put (D := D) (ci := 10) (v := .int 0) (ty := .int) (C := RX10) (T := TX10) (N := 12) hx hb hg inX10 tyX10 tyX10_ok nmX10 hown hK hP hD hS 0 rfl rfl 10 (by decide) (hg _ mw_179) (fun _ h9 => h9) rfl (by decide +kernel) rfl rfl (Nat.le_of_ble_eq_true rfl) dX10_init_74 (fun H locs hP hD hS => ?_)
  have hP : va_P D classes [(h0, .inr (10, [.ref q1, .ref q3, .ref q5, .ref q7, .ref q9, .ref q11, .int 0, .int 0, .int 0, .int 0, .int 0, .int 0])), (q1, .inl (c2, 8, .inr (.inl (fun _ => 0)))), (q3, .inl (c4, 10, .inr (.inl (fun _ => 0)))), (q5, .inl (c6, 8, .inl (fun _ => 0))), (q7, .inl (c8, 8, .inl (fun _ => 0))), (q9, .inl (c10, 8, .inl (fun _ => 0))), (q11, .inl (c12, 80, .inl (fun _ => 0)))] H := hP
  have hD : va_D Af [(h0, .inr (10, [.ref q1, .ref q3, .ref q5, .ref q7, .ref q9, .ref q11, .int 0, .int 0, .int 0, .int 0, .int 0, .int 0])), (q1, .inl (c2, 8, .inr (.inl (fun _ => 0)))), (q3, .inl (c4, 10, .inr (.inl (fun _ => 0)))), (q5, .inl (c6, 8, .inl (fun _ => 0))), (q7, .inl (c8, 8, .inl (fun _ => 0))), (q9, .inl (c10, 8, .inl (fun _ => 0))), (q11, .inl (c12, 80, .inl (fun _ => 0)))] := hD
  refine lv_aload_n hx hb dX10_init_77 rfl (lv_at hl 0 rfl) ?_
  refine lv_iconst (v := (-1)) hx hb dX10_init_78 (by decide) ?_
  refine va_put (D := D) (ci := 10) (v := .int (-1)) (ty := .int) (C := RX10) (T := TX10) (N := 12) hx hb hg inX10 tyX10 tyX10_ok nmX10 hown hK hP hD hS 0 rfl rfl 11 (by decide) (hg _ mw_181) (fun _ h9 => h9) rfl (by decide +kernel) rfl rfl (Nat.le_of_ble_eq_true rfl) dX10_init_79 (fun H locs hP hD hS => ?_)
  have hP : va_P D classes [(h0, .inr (10, [.ref q1, .ref q3, .ref q5, .ref q7, .ref q9, .ref q11, .int 0, .int 0, .int 0, .int 0, .int 0, .int (-1)])), (q1, .inl (c2, 8, .inr (.inl (fun _ => 0)))), (q3, .inl (c4, 10, .inr (.inl (fun _ => 0)))), (q5, .inl (c6, 8, .inl (fun _ => 0))), (q7, .inl (c8, 8, .inl (fun _ => 0))), (q9, .inl (c10, 8, .inl (fun _ => 0))), (q11, .inl (c12, 80, .inl (fun _ => 0)))] H := hP
  have hD : va_D Af [(h0, .inr (10, [.ref q1, .ref q3, .ref q5, .ref q7, .ref q9, .ref q11, .int 0, .int 0, .int 0, .int 0, .int 0, .int (-1)])), (q1, .inl (c2, 8, .inr (.inl (fun _ => 0)))), (q3, .inl (c4, 10, .inr (.inl (fun _ => 0)))), (q5, .inl (c6, 8, .inl (fun _ => 0))), (q7, .inl (c8, 8, .inl (fun _ => 0))), (q9, .inl (c10, 8, .inl (fun _ => 0))), (q11, .inl (c12, 80, .inl (fun _ => 0)))] := hD
  refine hret H locs 82 ls dX10_init_82 hS (fun t ht hvm => ⟨q1, q3, q5, q7, q9, q11, c2, c4, c6, c8, c10, c12, by rw [ht]; exact hP, va_K.moved hvm hK, hD⟩)
abbrev rm_X5_init : Room := { frames := 5, cells := 1, slots := 0, locals := 200 }
def BB_X5_init (D : va_G) (h0 : Nat) (A9 : Nat → Prop) (t : State) : Prop := ∃ (q8 : Nat) (c9 : ClassId) (z1 : Int64) (z2 : Int64) (z3 : Int64) (z4 : Int64) (z5 : Int64) (z6 : Int64) (z7 : Int64), va_P D classes [(h0, .inr (5, [.long z1, .long z2, .long z3, .long z4, .long z5, .long z6, .long z7, .ref q8, .int 0, .int 0, .int 0, .int 0, .long 0, .int 0])), (q8, .inl (c9, 0, .inl (fun _ => 0)))] t.heap ∧ va_K D classes [(c9, .byte)] t ∧ va_D A9 [(h0, .inr (5, [.long z1, .long z2, .long z3, .long z4, .long z5, .long z6, .long z7, .ref q8, .int 0, .int 0, .int 0, .int 0, .long 0, .int 0])), (q8, .inl (c9, 0, .inl (fun _ => 0)))]
set_option maxHeartbeats 4000000 in
set_option maxRecDepth 100000 in
theorem c_X5_init (l : Launch) (D : va_G) (h0 sz : Nat) (adK adV : Nat → Nat) (fv : Value) : Met l yX5_init (Cond.code yX5_init cX5_init 1 none :: GW) rm_X5_init (nPc D [(h0, .inr (5, [.long 0, .long 0, .long 0, .long 0, .long 0, .long 0, .long 0, .null, .int 0, .int 0, .int 0, .int 0, .long 0, .int 0]))] sz [.ref h0] (ZS adK adV fv (va_A [(h0, .inr (5, [.long 0, .long 0, .long 0, .long 0, .long 0, .long 0, .long 0, .null, .int 0, .int 0, .int 0, .int 0, .long 0, .int 0]))] sz))) (va_Qv (S := Unit) (fun _ => True) (fun _ t => BB_X5_init D h0 (va_A [(h0, .inr (5, [.long 0, .long 0, .long 0, .long 0, .long 0, .long 0, .long 0, .null, .int 0, .int 0, .int 0, .int 0, .long 0, .int 0]))] sz) t) (va_A [(h0, .inr (5, [.long 0, .long 0, .long 0, .long 0, .long 0, .long 0, .long 0, .null, .int 0, .int 0, .int 0, .int 0, .long 0, .int 0]))] sz)) 1 0 (va_A [(h0, .inr (5, [.long 0, .long 0, .long 0, .long 0, .long 0, .long 0, .long 0, .null, .int 0, .int 0, .int 0, .int 0, .long 0, .int 0]))] sz) := by
  refine met_c (ZZ := fun A9 U => ZS adK adV fv A9 U) (BB := BB_X5_init D h0) (own := "ShoeingDay$Reader") (by decide +kernel) rfl rfl (Nat.le_of_ble_eq_true rfl) ?_
  intro p e s m args below meth c Q Af ls hC hin hP hD hS hA hZ hl hret
  have hx := hC.1
  have hb := hC.2.1
  have hown := hC.2.2.2.1
  have hg := hC.g
  have hK := hC.K
  have hl : lv_has ls 1 [(0, .ref h0)] := hl
  obtain ⟨H, hH⟩ : ∃ H, H = s.heap := ⟨_, rfl⟩
  have hP : va_P D classes [(h0, .inr (5, [.long 0, .long 0, .long 0, .long 0, .long 0, .long 0, .long 0, .null, .int 0, .int 0, .int 0, .int 0, .long 0, .int 0]))] H := by rw [hH]; exact hP
  have hS : va_S Af s.heap H [] := by rw [hH]; exact hS
  rw [← hH]
  refine lv_aload_n hx hb dX5_init_0 rfl (lv_at hl 0 rfl) ?_
  refine W.objInit hx hb hown (hg _ mw_41) (hg _ mw_28) (hg _ mw_29) rfl (by rw [hC.2.2.1]; exact hl.1) rfl dX5_init_1 (Nat.le_of_ble_eq_true rfl) (Nat.le_of_ble_eq_true rfl) ?_
  refine W.eq (g2 := F0 m 4 ls []) rfl ?_
  refine lv_aload_n hx hb dX5_init_4 rfl (lv_at hl 0 rfl) ?_
  refine va_ldcS hx hb hown (hZ.2 (7, "smith", 0) (List.mem_of_getElem? (i := 0) rfl)) dX5_init_5 ?_
  refine code_l (i := 0) (rest := [.ref h0]) hC hZ.1 hA hS (c_codeOf l adK adV fv H.size 0 (by decide)) (cwF 1 hg mw_43 mw_44 mw_3 mw_45 ⟨rfl, rfl⟩ (by decide +kernel) ⟨(Nat.le_of_ble_eq_true rfl), (Nat.le_of_ble_eq_true rfl)⟩) hP hD hl.1 (Nat.le_of_ble_eq_true rfl) dX5_init_7 ⟨Nat.zero_le _, Nat.zero_le _⟩ (fun z1 H locs hP hS => ?_)
  refine va_putF (D := D) (ci := 5) (v := .long z1) (ty := .long) (C := RX5) (T := TX5) (N := 14) hx hb hg inX5 tyX5 tyX5_ok nmX5 hown hK hP hD hS 0 rfl rfl 0 (by decide) (hg _ mw_100) (fun _ h9 => h9) rfl hin rfl (by decide +kernel) rfl rfl (Nat.le_of_ble_eq_true rfl) dX5_init_10 (fun H locs hP hD hS => ?_)
  have hP : va_P D classes [(h0, .inr (5, [.long z1, .long 0, .long 0, .long 0, .long 0, .long 0, .long 0, .null, .int 0, .int 0, .int 0, .int 0, .long 0, .int 0]))] H := hP
  have hD : va_D Af [(h0, .inr (5, [.long z1, .long 0, .long 0, .long 0, .long 0, .long 0, .long 0, .null, .int 0, .int 0, .int 0, .int 0, .long 0, .int 0]))] := hD
  refine lv_aload_n hx hb dX5_init_13 rfl (lv_at hl 0 rfl) ?_
  refine va_ldcS hx hb hown (hZ.2 (19, "master", 1) (List.mem_of_getElem? (i := 1) rfl)) dX5_init_14 ?_
  refine code_l (i := 1) (rest := [.ref h0]) hC hZ.1 hA hS (c_codeOf l adK adV fv H.size 1 (by decide)) (cwF 1 hg mw_43 mw_44 mw_3 mw_45 ⟨rfl, rfl⟩ (by decide +kernel) ⟨(Nat.le_of_ble_eq_true rfl), (Nat.le_of_ble_eq_true rfl)⟩) hP hD hl.1 (Nat.le_of_ble_eq_true rfl) dX5_init_16 ⟨Nat.zero_le _, Nat.zero_le _⟩ (fun z2 H locs hP hS => ?_)
  refine va_putF (D := D) (ci := 5) (v := .long z2) (ty := .long) (C := RX5) (T := TX5) (N := 14) hx hb hg inX5 tyX5 tyX5_ok nmX5 hown hK hP hD hS 0 rfl rfl 1 (by decide) (hg _ mw_101) (fun _ h9 => h9) rfl hin rfl (by decide +kernel) rfl rfl (Nat.le_of_ble_eq_true rfl) dX5_init_19 (fun H locs hP hD hS => ?_)
  have hP : va_P D classes [(h0, .inr (5, [.long z1, .long z2, .long 0, .long 0, .long 0, .long 0, .long 0, .null, .int 0, .int 0, .int 0, .int 0, .long 0, .int 0]))] H := hP
  have hD : va_D Af [(h0, .inr (5, [.long z1, .long z2, .long 0, .long 0, .long 0, .long 0, .long 0, .null, .int 0, .int 0, .int 0, .int 0, .long 0, .int 0]))] := hD
  refine lv_aload_n hx hb dX5_init_22 rfl (lv_at hl 0 rfl) ?_
  refine va_ldcS hx hb hown (hZ.2 (24, "wage", 2) (List.mem_of_getElem? (i := 2) rfl)) dX5_init_23 ?_
  refine code_l (i := 2) (rest := [.ref h0]) hC hZ.1 hA hS (c_codeOf l adK adV fv H.size 2 (by decide)) (cwF 1 hg mw_43 mw_44 mw_3 mw_45 ⟨rfl, rfl⟩ (by decide +kernel) ⟨(Nat.le_of_ble_eq_true rfl), (Nat.le_of_ble_eq_true rfl)⟩) hP hD hl.1 (Nat.le_of_ble_eq_true rfl) dX5_init_25 ⟨Nat.zero_le _, Nat.zero_le _⟩ (fun z3 H locs hP hS => ?_)
  refine va_putF (D := D) (ci := 5) (v := .long z3) (ty := .long) (C := RX5) (T := TX5) (N := 14) hx hb hg inX5 tyX5 tyX5_ok nmX5 hown hK hP hD hS 0 rfl rfl 2 (by decide) (hg _ mw_102) (fun _ h9 => h9) rfl hin rfl (by decide +kernel) rfl rfl (Nat.le_of_ble_eq_true rfl) dX5_init_28 (fun H locs hP hD hS => ?_)
  have hP : va_P D classes [(h0, .inr (5, [.long z1, .long z2, .long z3, .long 0, .long 0, .long 0, .long 0, .null, .int 0, .int 0, .int 0, .int 0, .long 0, .int 0]))] H := hP
  have hD : va_D Af [(h0, .inr (5, [.long z1, .long z2, .long z3, .long 0, .long 0, .long 0, .long 0, .null, .int 0, .int 0, .int 0, .int 0, .long 0, .int 0]))] := hD
  refine lv_aload_n hx hb dX5_init_31 rfl (lv_at hl 0 rfl) ?_
  refine va_ldcS hx hb hown (hZ.2 (29, "horse", 3) (List.mem_of_getElem? (i := 3) rfl)) dX5_init_32 ?_
  refine code_l (i := 3) (rest := [.ref h0]) hC hZ.1 hA hS (c_codeOf l adK adV fv H.size 3 (by decide)) (cwF 1 hg mw_43 mw_44 mw_3 mw_45 ⟨rfl, rfl⟩ (by decide +kernel) ⟨(Nat.le_of_ble_eq_true rfl), (Nat.le_of_ble_eq_true rfl)⟩) hP hD hl.1 (Nat.le_of_ble_eq_true rfl) dX5_init_34 ⟨Nat.zero_le _, Nat.zero_le _⟩ (fun z4 H locs hP hS => ?_)
  refine va_putF (D := D) (ci := 5) (v := .long z4) (ty := .long) (C := RX5) (T := TX5) (N := 14) hx hb hg inX5 tyX5 tyX5_ok nmX5 hown hK hP hD hS 0 rfl rfl 3 (by decide) (hg _ mw_103) (fun _ h9 => h9) rfl hin rfl (by decide +kernel) rfl rfl (Nat.le_of_ble_eq_true rfl) dX5_init_37 (fun H locs hP hD hS => ?_)
  have hP : va_P D classes [(h0, .inr (5, [.long z1, .long z2, .long z3, .long z4, .long 0, .long 0, .long 0, .null, .int 0, .int 0, .int 0, .int 0, .long 0, .int 0]))] H := hP
  have hD : va_D Af [(h0, .inr (5, [.long z1, .long z2, .long z3, .long z4, .long 0, .long 0, .long 0, .null, .int 0, .int 0, .int 0, .int 0, .long 0, .int 0]))] := hD
  refine lv_aload_n hx hb dX5_init_40 rfl (lv_at hl 0 rfl) ?_
  refine va_ldcS hx hb hown (hZ.2 (34, "hours", 4) (List.mem_of_getElem? (i := 4) rfl)) dX5_init_41 ?_
  refine code_l (i := 4) (rest := [.ref h0]) hC hZ.1 hA hS (c_codeOf l adK adV fv H.size 4 (by decide)) (cwF 1 hg mw_43 mw_44 mw_3 mw_45 ⟨rfl, rfl⟩ (by decide +kernel) ⟨(Nat.le_of_ble_eq_true rfl), (Nat.le_of_ble_eq_true rfl)⟩) hP hD hl.1 (Nat.le_of_ble_eq_true rfl) dX5_init_43 ⟨Nat.zero_le _, Nat.zero_le _⟩ (fun z5 H locs hP hS => ?_)
  refine va_putF (D := D) (ci := 5) (v := .long z5) (ty := .long) (C := RX5) (T := TX5) (N := 14) hx hb hg inX5 tyX5 tyX5_ok nmX5 hown hK hP hD hS 0 rfl rfl 4 (by decide) (hg _ mw_104) (fun _ h9 => h9) rfl hin rfl (by decide +kernel) rfl rfl (Nat.le_of_ble_eq_true rfl) dX5_init_46 (fun H locs hP hD hS => ?_)
  have hP : va_P D classes [(h0, .inr (5, [.long z1, .long z2, .long z3, .long z4, .long z5, .long 0, .long 0, .null, .int 0, .int 0, .int 0, .int 0, .long 0, .int 0]))] H := hP
  have hD : va_D Af [(h0, .inr (5, [.long z1, .long z2, .long z3, .long z4, .long z5, .long 0, .long 0, .null, .int 0, .int 0, .int 0, .int 0, .long 0, .int 0]))] := hD
  refine lv_aload_n hx hb dX5_init_49 rfl (lv_at hl 0 rfl) ?_
  refine va_ldcS hx hb hown (hZ.2 (39, "lends", 5) (List.mem_of_getElem? (i := 5) rfl)) dX5_init_50 ?_
  refine code_l (i := 5) (rest := [.ref h0]) hC hZ.1 hA hS (c_codeOf l adK adV fv H.size 5 (by decide)) (cwF 1 hg mw_43 mw_44 mw_3 mw_45 ⟨rfl, rfl⟩ (by decide +kernel) ⟨(Nat.le_of_ble_eq_true rfl), (Nat.le_of_ble_eq_true rfl)⟩) hP hD hl.1 (Nat.le_of_ble_eq_true rfl) dX5_init_52 ⟨Nat.zero_le _, Nat.zero_le _⟩ (fun z6 H locs hP hS => ?_)
  refine va_putF (D := D) (ci := 5) (v := .long z6) (ty := .long) (C := RX5) (T := TX5) (N := 14) hx hb hg inX5 tyX5 tyX5_ok nmX5 hown hK hP hD hS 0 rfl rfl 5 (by decide) (hg _ mw_105) (fun _ h9 => h9) rfl hin rfl (by decide +kernel) rfl rfl (Nat.le_of_ble_eq_true rfl) dX5_init_55 (fun H locs hP hD hS => ?_)
  have hP : va_P D classes [(h0, .inr (5, [.long z1, .long z2, .long z3, .long z4, .long z5, .long z6, .long 0, .null, .int 0, .int 0, .int 0, .int 0, .long 0, .int 0]))] H := hP
  have hD : va_D Af [(h0, .inr (5, [.long z1, .long z2, .long z3, .long z4, .long z5, .long z6, .long 0, .null, .int 0, .int 0, .int 0, .int 0, .long 0, .int 0]))] := hD
  refine lv_aload_n hx hb dX5_init_58 rfl (lv_at hl 0 rfl) ?_
  refine va_ldcS hx hb hown (hZ.2 (44, "late", 6) (List.mem_of_getElem? (i := 6) rfl)) dX5_init_59 ?_
  refine code_l (i := 6) (rest := [.ref h0]) hC hZ.1 hA hS (c_codeOf l adK adV fv H.size 6 (by decide)) (cwF 1 hg mw_43 mw_44 mw_3 mw_45 ⟨rfl, rfl⟩ (by decide +kernel) ⟨(Nat.le_of_ble_eq_true rfl), (Nat.le_of_ble_eq_true rfl)⟩) hP hD hl.1 (Nat.le_of_ble_eq_true rfl) dX5_init_61 ⟨Nat.zero_le _, Nat.zero_le _⟩ (fun z7 H locs hP hS => ?_)
  refine va_putF (D := D) (ci := 5) (v := .long z7) (ty := .long) (C := RX5) (T := TX5) (N := 14) hx hb hg inX5 tyX5 tyX5_ok nmX5 hown hK hP hD hS 0 rfl rfl 6 (by decide) (hg _ mw_106) (fun _ h9 => h9) rfl hin rfl (by decide +kernel) rfl rfl (Nat.le_of_ble_eq_true rfl) dX5_init_64 (fun H locs hP hD hS => ?_)
  have hP : va_P D classes [(h0, .inr (5, [.long z1, .long z2, .long z3, .long z4, .long z5, .long z6, .long z7, .null, .int 0, .int 0, .int 0, .int 0, .long 0, .int 0]))] H := hP
  have hD : va_D Af [(h0, .inr (5, [.long z1, .long z2, .long z3, .long z4, .long z5, .long z6, .long z7, .null, .int 0, .int 0, .int 0, .int 0, .long 0, .int 0]))] := hD
  refine lv_aload_n hx hb dX5_init_67 rfl (lv_at hl 0 rfl) ?_
  refine lv_iconst (v := 0) hx hb dX5_init_68 (by decide) ?_
  refine va_newa (atype := .byte) (ty := .byte) (a0 := (0, .inl (fun _ => 0))) hx hb (hg _ mw_147) rfl hK hP hD hS hA (fun _ => rfl) (by decide) rfl (by decide) (Nat.le_of_ble_eq_true rfl) (Nat.le_of_ble_eq_true rfl) dX5_init_69 (fun q8 c9 H hK hP hD hS => ?_)
  have hK : va_K D classes [(c9, .byte)] s := hK
  refine W.widen (k := 1) (n := 0) (Nat.le_of_ble_eq_true rfl) (Nat.le_of_ble_eq_true rfl) ?_
  refine va_put (D := D) (ci := 5) (v := .ref q8) (ty := (.array .byte)) (C := RX5) (T := TX5) (N := 14) hx hb hg inX5 tyX5 tyX5_ok nmX5 hown hK hP hD hS 0 rfl rfl 7 (by decide) (hg _ mw_107) (fun _ h9 => h9) rfl (by decide +kernel) rfl rfl (Nat.le_of_ble_eq_true rfl) dX5_init_71 (fun H locs hP hD hS => ?_)
  have hP : va_P D classes [(h0, .inr (5, [.long z1, .long z2, .long z3, .long z4, .long z5, .long z6, .long z7, .ref q8, .int 0, .int 0, .int 0, .int 0, .long 0, .int 0])), (q8, .inl (c9, 0, .inl (fun _ => 0)))] H := hP
  have hD : va_D Af [(h0, .inr (5, [.long z1, .long z2, .long z3, .long z4, .long z5, .long z6, .long z7, .ref q8, .int 0, .int 0, .int 0, .int 0, .long 0, .int 0])), (q8, .inl (c9, 0, .inl (fun _ => 0)))] := hD
  refine lv_aload_n hx hb dX5_init_74 rfl (lv_at hl 0 rfl) ?_
  refine lv_iconst (v := 0) hx hb dX5_init_75 (by decide) ?_
  refine va_put (D := D) (ci := 5) (v := .int 0) (ty := .int) (C := RX5) (T := TX5) (N := 14) hx hb hg inX5 tyX5 tyX5_ok nmX5 hown hK hP hD hS 0 rfl rfl 8 (by decide) (hg _ mw_108) (fun _ h9 => h9) rfl (by decide +kernel) rfl rfl (Nat.le_of_ble_eq_true rfl) dX5_init_76 (fun H locs hP hD hS => ?_)
  have hP : va_P D classes [(h0, .inr (5, [.long z1, .long z2, .long z3, .long z4, .long z5, .long z6, .long z7, .ref q8, .int 0, .int 0, .int 0, .int 0, .long 0, .int 0])), (q8, .inl (c9, 0, .inl (fun _ => 0)))] H := hP
  have hD : va_D Af [(h0, .inr (5, [.long z1, .long z2, .long z3, .long z4, .long z5, .long z6, .long z7, .ref q8, .int 0, .int 0, .int 0, .int 0, .long 0, .int 0])), (q8, .inl (c9, 0, .inl (fun _ => 0)))] := hD
  refine lv_aload_n hx hb dX5_init_79 rfl (lv_at hl 0 rfl) ?_
  refine lv_iconst (v := 0) hx hb dX5_init_80 (by decide) ?_
  refine va_put (D := D) (ci := 5) (v := .int 0) (ty := .int) (C := RX5) (T := TX5) (N := 14) hx hb hg inX5 tyX5 tyX5_ok nmX5 hown hK hP hD hS 0 rfl rfl 9 (by decide) (hg _ mw_109) (fun _ h9 => h9) rfl (by decide +kernel) rfl rfl (Nat.le_of_ble_eq_true rfl) dX5_init_81 (fun H locs hP hD hS => ?_)
  have hP : va_P D classes [(h0, .inr (5, [.long z1, .long z2, .long z3, .long z4, .long z5, .long z6, .long z7, .ref q8, .int 0, .int 0, .int 0, .int 0, .long 0, .int 0])), (q8, .inl (c9, 0, .inl (fun _ => 0)))] H := hP
  have hD : va_D Af [(h0, .inr (5, [.long z1, .long z2, .long z3, .long z4, .long z5, .long z6, .long z7, .ref q8, .int 0, .int 0, .int 0, .int 0, .long 0, .int 0])), (q8, .inl (c9, 0, .inl (fun _ => 0)))] := hD
  refine lv_aload_n hx hb dX5_init_84 rfl (lv_at hl 0 rfl) ?_
  refine lv_iconst (v := 0) hx hb dX5_init_85 (by decide) ?_
  refine va_put (D := D) (ci := 5) (v := .int 0) (ty := .int) (C := RX5) (T := TX5) (N := 14) hx hb hg inX5 tyX5 tyX5_ok nmX5 hown hK hP hD hS 0 rfl rfl 10 (by decide) (hg _ mw_110) (fun _ h9 => h9) rfl (by decide +kernel) rfl rfl (Nat.le_of_ble_eq_true rfl) dX5_init_86 (fun H locs hP hD hS => ?_)
  have hP : va_P D classes [(h0, .inr (5, [.long z1, .long z2, .long z3, .long z4, .long z5, .long z6, .long z7, .ref q8, .int 0, .int 0, .int 0, .int 0, .long 0, .int 0])), (q8, .inl (c9, 0, .inl (fun _ => 0)))] H := hP
  have hD : va_D Af [(h0, .inr (5, [.long z1, .long z2, .long z3, .long z4, .long z5, .long z6, .long z7, .ref q8, .int 0, .int 0, .int 0, .int 0, .long 0, .int 0])), (q8, .inl (c9, 0, .inl (fun _ => 0)))] := hD
  refine lv_aload_n hx hb dX5_init_89 rfl (lv_at hl 0 rfl) ?_
  refine lv_iconst (v := 0) hx hb dX5_init_90 (by decide) ?_
  refine va_put (D := D) (ci := 5) (v := .int 0) (ty := .int) (C := RX5) (T := TX5) (N := 14) hx hb hg inX5 tyX5 tyX5_ok nmX5 hown hK hP hD hS 0 rfl rfl 11 (by decide) (hg _ mw_112) (fun _ h9 => h9) rfl (by decide +kernel) rfl rfl (Nat.le_of_ble_eq_true rfl) dX5_init_91 (fun H locs hP hD hS => ?_)
  have hP : va_P D classes [(h0, .inr (5, [.long z1, .long z2, .long z3, .long z4, .long z5, .long z6, .long z7, .ref q8, .int 0, .int 0, .int 0, .int 0, .long 0, .int 0])), (q8, .inl (c9, 0, .inl (fun _ => 0)))] H := hP
  have hD : va_D Af [(h0, .inr (5, [.long z1, .long z2, .long z3, .long z4, .long z5, .long z6, .long z7, .ref q8, .int 0, .int 0, .int 0, .int 0, .long 0, .int 0])), (q8, .inl (c9, 0, .inl (fun _ => 0)))] := hD
  refine lv_aload_n hx hb dX5_init_94 rfl (lv_at hl 0 rfl) ?_
  refine lv_lconst (v := 0) hx hb dX5_init_95 rfl ?_
  refine va_put (D := D) (ci := 5) (v := .long 0) (ty := .long) (C := RX5) (T := TX5) (N := 14) hx hb hg inX5 tyX5 tyX5_ok nmX5 hown hK hP hD hS 0 rfl rfl 12 (by decide) (hg _ mw_114) (fun _ h9 => h9) rfl (by decide +kernel) rfl rfl (Nat.le_of_ble_eq_true rfl) dX5_init_96 (fun H locs hP hD hS => ?_)
  have hP : va_P D classes [(h0, .inr (5, [.long z1, .long z2, .long z3, .long z4, .long z5, .long z6, .long z7, .ref q8, .int 0, .int 0, .int 0, .int 0, .long 0, .int 0])), (q8, .inl (c9, 0, .inl (fun _ => 0)))] H := hP
  have hD : va_D Af [(h0, .inr (5, [.long z1, .long z2, .long z3, .long z4, .long z5, .long z6, .long z7, .ref q8, .int 0, .int 0, .int 0, .int 0, .long 0, .int 0])), (q8, .inl (c9, 0, .inl (fun _ => 0)))] := hD
  refine lv_aload_n hx hb dX5_init_99 rfl (lv_at hl 0 rfl) ?_
  refine lv_iconst (v := 0) hx hb dX5_init_100 (by decide) ?_
  refine va_put (D := D) (ci := 5) (v := .int 0) (ty := .int) (C := RX5) (T := TX5) (N := 14) hx hb hg inX5 tyX5 tyX5_ok nmX5 hown hK hP hD hS 0 rfl rfl 13 (by decide) (hg _ mw_116) (fun _ h9 => h9) rfl (by decide +kernel) rfl rfl (Nat.le_of_ble_eq_true rfl) dX5_init_101 (fun H locs hP hD hS => ?_)
  have hP : va_P D classes [(h0, .inr (5, [.long z1, .long z2, .long z3, .long z4, .long z5, .long z6, .long z7, .ref q8, .int 0, .int 0, .int 0, .int 0, .long 0, .int 0])), (q8, .inl (c9, 0, .inl (fun _ => 0)))] H := hP
  have hD : va_D Af [(h0, .inr (5, [.long z1, .long z2, .long z3, .long z4, .long z5, .long z6, .long z7, .ref q8, .int 0, .int 0, .int 0, .int 0, .long 0, .int 0])), (q8, .inl (c9, 0, .inl (fun _ => 0)))] := hD
  refine hret H locs 104 ls dX5_init_104 hS (fun t ht hvm => ⟨q8, c9, z1, z2, z3, z4, z5, z6, z7, by rw [ht]; exact hP, va_K.moved hvm hK, hD⟩)
abbrev rm_X6_init : Room := { frames := 6, cells := 9, slots := 148, locals := 220 }
def BB_X6_init (D : va_G) (h0 : Nat) (A9 : Nat → Prop) (t : State) : Prop := ∃ (q1 : Nat) (q2 : Nat) (q11 : Nat) (q12 : Nat) (q13 : Nat) (q14 : Nat) (q15 : Nat) (q16 : Nat) (q17 : Nat) (c3 : ClassId) (c18 : ClassId) (c19 : ClassId) (c20 : ClassId) (c21 : ClassId) (c22 : ClassId) (c23 : ClassId) (z4 : Int64) (z5 : Int64) (z6 : Int64) (z7 : Int64) (z8 : Int64) (z9 : Int64) (z10 : Int64), va_P D classes [(h0, .inr (6, [.ref q1, .ref q11, .int 0, .int (-1)])), (q1, .inr (5, [.long z4, .long z5, .long z6, .long z7, .long z8, .long z9, .long z10, .ref q2, .int 0, .int 0, .int 0, .int 0, .long 0, .int 0])), (q2, .inl (c3, 0, .inl (fun _ => 0))), (q11, .inr (10, [.ref q12, .ref q13, .ref q14, .ref q15, .ref q16, .ref q17, .int 0, .int 0, .int 0, .int 0, .int 0, .int (-1)])), (q12, .inl (c18, 8, .inr (.inl (fun _ => 0)))), (q13, .inl (c19, 10, .inr (.inl (fun _ => 0)))), (q14, .inl (c20, 8, .inl (fun _ => 0))), (q15, .inl (c21, 8, .inl (fun _ => 0))), (q16, .inl (c22, 8, .inl (fun _ => 0))), (q17, .inl (c23, 80, .inl (fun _ => 0)))] t.heap ∧ va_K D classes [(c3, .byte), (c18, .long), (c19, .long), (c20, .int), (c21, .int), (c22, .int), (c23, .int)] t ∧ va_D A9 [(h0, .inr (6, [.ref q1, .ref q11, .int 0, .int (-1)])), (q1, .inr (5, [.long z4, .long z5, .long z6, .long z7, .long z8, .long z9, .long z10, .ref q2, .int 0, .int 0, .int 0, .int 0, .long 0, .int 0])), (q2, .inl (c3, 0, .inl (fun _ => 0))), (q11, .inr (10, [.ref q12, .ref q13, .ref q14, .ref q15, .ref q16, .ref q17, .int 0, .int 0, .int 0, .int 0, .int 0, .int (-1)])), (q12, .inl (c18, 8, .inr (.inl (fun _ => 0)))), (q13, .inl (c19, 10, .inr (.inl (fun _ => 0)))), (q14, .inl (c20, 8, .inl (fun _ => 0))), (q15, .inl (c21, 8, .inl (fun _ => 0))), (q16, .inl (c22, 8, .inl (fun _ => 0))), (q17, .inl (c23, 80, .inl (fun _ => 0)))]
set_option maxHeartbeats 4000000 in
set_option maxRecDepth 100000 in
theorem c_X6_init (l : Launch) (D : va_G) (h0 sz : Nat) (adK adV : Nat → Nat) (fv : Value) : Met l yX6_init (Cond.code yX6_init cX6_init 1 none :: GW) rm_X6_init (nPc D [(h0, .inr (6, [.null, .null, .int 0, .int 0]))] sz [.ref h0] (ZS adK adV fv (va_A [(h0, .inr (6, [.null, .null, .int 0, .int 0]))] sz))) (va_Qv (S := Unit) (fun _ => True) (fun _ t => BB_X6_init D h0 (va_A [(h0, .inr (6, [.null, .null, .int 0, .int 0]))] sz) t) (va_A [(h0, .inr (6, [.null, .null, .int 0, .int 0]))] sz)) 9 148 (va_A [(h0, .inr (6, [.null, .null, .int 0, .int 0]))] sz) := by
  refine met_c (ZZ := fun A9 U => ZS adK adV fv A9 U) (BB := BB_X6_init D h0) (own := "ShoeingDay$Scribe") (by decide +kernel) rfl rfl (Nat.le_of_ble_eq_true rfl) ?_
  intro p e s m args below meth c Q Af ls hC hin hP hD hS hA hZ hl hret
  have hx := hC.1
  have hb := hC.2.1
  have hown := hC.2.2.2.1
  have hg := hC.g
  have hK := hC.K
  have hl : lv_has ls 1 [(0, .ref h0)] := hl
  obtain ⟨H, hH⟩ : ∃ H, H = s.heap := ⟨_, rfl⟩
  have hP : va_P D classes [(h0, .inr (6, [.null, .null, .int 0, .int 0]))] H := by rw [hH]; exact hP
  have hS : va_S Af s.heap H [] := by rw [hH]; exact hS
  rw [← hH]
  refine lv_aload_n hx hb dX6_init_0 rfl (lv_at hl 0 rfl) ?_
  refine W.objInit hx hb hown (hg _ mw_35) (hg _ mw_28) (hg _ mw_29) rfl (by rw [hC.2.2.1]; exact hl.1) rfl dX6_init_1 (Nat.le_of_ble_eq_true rfl) (Nat.le_of_ble_eq_true rfl) ?_
  refine W.eq (g2 := F0 m 4 ls []) rfl ?_
  refine lv_aload_n hx hb dX6_init_4 rfl (lv_at hl 0 rfl) ?_
  refine va_new (ci := 5) (fs := [.long 0, .long 0, .long 0, .long 0, .long 0, .long 0, .long 0, .null, .int 0, .int 0, .int 0, .int 0, .long 0, .int 0]) (C := RX5) (T := TX5) (N := 14) hx hb hg inX5 tyX5 tyX5_ok hown (hg _ mw_36) (hg _ mw_37) (hg _ mw_3) hK hP hD hS hA rfl (fun j hj => by rcases (show j = 0 ∨ j = 1 ∨ j = 2 ∨ j = 3 ∨ j = 4 ∨ j = 5 ∨ j = 6 ∨ j = 7 ∨ j = 8 ∨ j = 9 ∨ j = 10 ∨ j = 11 ∨ j = 12 ∨ j = 13 by omega) with rfl | rfl | rfl | rfl | rfl | rfl | rfl | rfl | rfl | rfl | rfl | rfl | rfl | rfl <;> rfl) (Nat.le_of_ble_eq_true rfl) (Nat.le_of_ble_eq_true rfl) dX6_init_5 (fun q1 H hP hD hS => ?_)
  refine W.widen (k := 1) (n := 14) (Nat.le_of_ble_eq_true rfl) (Nat.le_of_ble_eq_true rfl) ?_
  refine lv_dup hx hb dX6_init_8 rfl ?_
  refine cn_v (mc := 1) (ms := 0) (rm := rm_X5_init) (BB := BB_X5_init D q1) (As := []) (rest := [.ref q1, .ref h0]) (u := [(q1, .inr (5, [.long 0, .long 0, .long 0, .long 0, .long 0, .long 0, .long 0, .null, .int 0, .int 0, .int 0, .int 0, .long 0, .int 0]))]) (v := [(h0, .inr (6, [.null, .null, .int 0, .int 0]))]) hC (c_X5_init l D q1 H.size adK adV fv) ⟨va_cnB 0 hg (g_N mw_40) rfl rfl rfl (mn_1 hC.N) (hg _ mw_3) (by decide +kernel) ⟨(Nat.le_of_ble_eq_true rfl), (Nat.le_of_ble_eq_true rfl)⟩, rfl, (hg _ mw_39)⟩ (fun _ _ _ _ h => h.blind) (fun U hU hW => hZ.now hS (fr_all (two_Dr (u := [(h0, .inr (6, [.null, .null, .int 0, .int 0]))]) (v := [(q1, .inr (5, [.long 0, .long 0, .long 0, .long 0, .long 0, .long 0, .long 0, .null, .int 0, .int 0, .int 0, .int 0, .long 0, .int 0]))]) hD) hS hA) hU hW) hP hD hS hA rfl hl.1 rfl (Nat.le_of_ble_eq_true rfl) dX6_init_9 ⟨(Nat.le_of_ble_eq_true rfl), (Nat.le_of_ble_eq_true rfl)⟩ (fun t H locs ht hvm hB hJ hS => ?_)
  obtain ⟨q2, c3, z4, z5, z6, z7, z8, z9, z10, hP1, hK1, hD1⟩ := hB
  rw [ht] at hP1
  have hK1 := va_K.moved hvm.symm hK1
  obtain ⟨hP, hD⟩ := hJ _ hP1 hD1
  have hK := hK.app hK1
  have hP : va_P D classes [(h0, .inr (6, [.null, .null, .int 0, .int 0])), (q1, .inr (5, [.long z4, .long z5, .long z6, .long z7, .long z8, .long z9, .long z10, .ref q2, .int 0, .int 0, .int 0, .int 0, .long 0, .int 0])), (q2, .inl (c3, 0, .inl (fun _ => 0)))] H := hP
  have hD : va_D Af [(h0, .inr (6, [.null, .null, .int 0, .int 0])), (q1, .inr (5, [.long z4, .long z5, .long z6, .long z7, .long z8, .long z9, .long z10, .ref q2, .int 0, .int 0, .int 0, .int 0, .long 0, .int 0])), (q2, .inl (c3, 0, .inl (fun _ => 0)))] := hD
  have hK : va_K D classes [(c3, .byte)] s := hK
  refine W.widen (k := 2) (n := 14) (Nat.le_of_ble_eq_true rfl) (Nat.le_of_ble_eq_true rfl) ?_
  refine va_putF (D := D) (ci := 6) (v := .ref q1) (ty := (.object "ShoeingDay$Reader")) (C := RX6) (T := TX6) (N := 4) hx hb hg inX6 tyX6 tyX6_ok nmX6 hown hK hP hD hS 0 rfl rfl 0 (by decide) (hg _ mw_212) (fun _ h9 => h9) rfl hin rfl (by decide +kernel) rfl rfl (Nat.le_of_ble_eq_true rfl) dX6_init_12 (fun H locs hP hD hS => ?_)
  have hP : va_P D classes [(h0, .inr (6, [.ref q1, .null, .int 0, .int 0])), (q1, .inr (5, [.long z4, .long z5, .long z6, .long z7, .long z8, .long z9, .long z10, .ref q2, .int 0, .int 0, .int 0, .int 0, .long 0, .int 0])), (q2, .inl (c3, 0, .inl (fun _ => 0)))] H := hP
  have hD : va_D Af [(h0, .inr (6, [.ref q1, .null, .int 0, .int 0])), (q1, .inr (5, [.long z4, .long z5, .long z6, .long z7, .long z8, .long z9, .long z10, .ref q2, .int 0, .int 0, .int 0, .int 0, .long 0, .int 0])), (q2, .inl (c3, 0, .inl (fun _ => 0)))] := hD
  refine lv_aload_n hx hb dX6_init_15 rfl (lv_at hl 0 rfl) ?_
  refine va_new (ci := 10) (fs := [.null, .null, .null, .null, .null, .null, .int 0, .int 0, .int 0, .int 0, .int 0, .int 0]) (C := RX10) (T := TX10) (N := 12) hx hb hg inX10 tyX10 tyX10_ok hown (hg _ mw_148) (hg _ mw_149) (hg _ mw_8) hK hP hD hS hA rfl (fun j hj => by rcases (show j = 0 ∨ j = 1 ∨ j = 2 ∨ j = 3 ∨ j = 4 ∨ j = 5 ∨ j = 6 ∨ j = 7 ∨ j = 8 ∨ j = 9 ∨ j = 10 ∨ j = 11 by omega) with rfl | rfl | rfl | rfl | rfl | rfl | rfl | rfl | rfl | rfl | rfl | rfl <;> rfl) (Nat.le_of_ble_eq_true rfl) (Nat.le_of_ble_eq_true rfl) dX6_init_16 (fun q11 H hP hD hS => ?_)
  refine W.widen (k := 3) (n := 26) (Nat.le_of_ble_eq_true rfl) (Nat.le_of_ble_eq_true rfl) ?_
  refine lv_dup hx hb dX6_init_19 rfl ?_
  refine cn_v (mc := 6) (ms := 122) (rm := rm_X10_init) (BB := BB_X10_init D q11) (As := []) (rest := [.ref q11, .ref h0]) (u := [(q11, .inr (10, [.null, .null, .null, .null, .null, .null, .int 0, .int 0, .int 0, .int 0, .int 0, .int 0]))]) (v := [(h0, .inr (6, [.ref q1, .null, .int 0, .int 0])), (q1, .inr (5, [.long z4, .long z5, .long z6, .long z7, .long z8, .long z9, .long z10, .ref q2, .int 0, .int 0, .int 0, .int 0, .long 0, .int 0])), (q2, .inl (c3, 0, .inl (fun _ => 0)))]) hC (c_X10_init l D q11 H.size) ⟨va_cnB 0 hg (g_N mw_152) rfl rfl rfl (mn_2 hC.N) (hg _ mw_8) (by decide +kernel) ⟨(Nat.le_of_ble_eq_true rfl), (Nat.le_of_ble_eq_true rfl)⟩, rfl, (hg _ mw_151)⟩ (fun _ _ _ _ _ => trivial) (fun _ _ _ => trivial) hP hD hS hA rfl hl.1 rfl (Nat.le_of_ble_eq_true rfl) dX6_init_20 ⟨(Nat.le_of_ble_eq_true rfl), (Nat.le_of_ble_eq_true rfl)⟩ (fun t H locs ht hvm hB hJ hS => ?_)
  obtain ⟨q12, q13, q14, q15, q16, q17, c18, c19, c20, c21, c22, c23, hP1, hK1, hD1⟩ := hB
  rw [ht] at hP1
  have hK1 := va_K.moved hvm.symm hK1
  obtain ⟨hP, hD⟩ := hJ _ hP1 hD1
  have hK := hK.app hK1
  have hP : va_P D classes [(h0, .inr (6, [.ref q1, .null, .int 0, .int 0])), (q1, .inr (5, [.long z4, .long z5, .long z6, .long z7, .long z8, .long z9, .long z10, .ref q2, .int 0, .int 0, .int 0, .int 0, .long 0, .int 0])), (q2, .inl (c3, 0, .inl (fun _ => 0))), (q11, .inr (10, [.ref q12, .ref q13, .ref q14, .ref q15, .ref q16, .ref q17, .int 0, .int 0, .int 0, .int 0, .int 0, .int (-1)])), (q12, .inl (c18, 8, .inr (.inl (fun _ => 0)))), (q13, .inl (c19, 10, .inr (.inl (fun _ => 0)))), (q14, .inl (c20, 8, .inl (fun _ => 0))), (q15, .inl (c21, 8, .inl (fun _ => 0))), (q16, .inl (c22, 8, .inl (fun _ => 0))), (q17, .inl (c23, 80, .inl (fun _ => 0)))] H := hP
  have hD : va_D Af [(h0, .inr (6, [.ref q1, .null, .int 0, .int 0])), (q1, .inr (5, [.long z4, .long z5, .long z6, .long z7, .long z8, .long z9, .long z10, .ref q2, .int 0, .int 0, .int 0, .int 0, .long 0, .int 0])), (q2, .inl (c3, 0, .inl (fun _ => 0))), (q11, .inr (10, [.ref q12, .ref q13, .ref q14, .ref q15, .ref q16, .ref q17, .int 0, .int 0, .int 0, .int 0, .int 0, .int (-1)])), (q12, .inl (c18, 8, .inr (.inl (fun _ => 0)))), (q13, .inl (c19, 10, .inr (.inl (fun _ => 0)))), (q14, .inl (c20, 8, .inl (fun _ => 0))), (q15, .inl (c21, 8, .inl (fun _ => 0))), (q16, .inl (c22, 8, .inl (fun _ => 0))), (q17, .inl (c23, 80, .inl (fun _ => 0)))] := hD
  have hK : va_K D classes [(c3, .byte), (c18, .long), (c19, .long), (c20, .int), (c21, .int), (c22, .int), (c23, .int)] s := hK
  refine W.widen (k := 9) (n := 148) (Nat.le_of_ble_eq_true rfl) (Nat.le_of_ble_eq_true rfl) ?_
  refine va_put (D := D) (ci := 6) (v := .ref q11) (ty := (.object "ShoeingDay$Yard")) (C := RX6) (T := TX6) (N := 4) hx hb hg inX6 tyX6 tyX6_ok nmX6 hown hK hP hD hS 0 rfl rfl 1 (by decide) (hg _ mw_213) (fun _ h9 => h9) rfl (by decide +kernel) rfl rfl (Nat.le_of_ble_eq_true rfl) dX6_init_23 (fun H locs hP hD hS => ?_)
  have hP : va_P D classes [(h0, .inr (6, [.ref q1, .ref q11, .int 0, .int 0])), (q1, .inr (5, [.long z4, .long z5, .long z6, .long z7, .long z8, .long z9, .long z10, .ref q2, .int 0, .int 0, .int 0, .int 0, .long 0, .int 0])), (q2, .inl (c3, 0, .inl (fun _ => 0))), (q11, .inr (10, [.ref q12, .ref q13, .ref q14, .ref q15, .ref q16, .ref q17, .int 0, .int 0, .int 0, .int 0, .int 0, .int (-1)])), (q12, .inl (c18, 8, .inr (.inl (fun _ => 0)))), (q13, .inl (c19, 10, .inr (.inl (fun _ => 0)))), (q14, .inl (c20, 8, .inl (fun _ => 0))), (q15, .inl (c21, 8, .inl (fun _ => 0))), (q16, .inl (c22, 8, .inl (fun _ => 0))), (q17, .inl (c23, 80, .inl (fun _ => 0)))] H := hP
  have hD : va_D Af [(h0, .inr (6, [.ref q1, .ref q11, .int 0, .int 0])), (q1, .inr (5, [.long z4, .long z5, .long z6, .long z7, .long z8, .long z9, .long z10, .ref q2, .int 0, .int 0, .int 0, .int 0, .long 0, .int 0])), (q2, .inl (c3, 0, .inl (fun _ => 0))), (q11, .inr (10, [.ref q12, .ref q13, .ref q14, .ref q15, .ref q16, .ref q17, .int 0, .int 0, .int 0, .int 0, .int 0, .int (-1)])), (q12, .inl (c18, 8, .inr (.inl (fun _ => 0)))), (q13, .inl (c19, 10, .inr (.inl (fun _ => 0)))), (q14, .inl (c20, 8, .inl (fun _ => 0))), (q15, .inl (c21, 8, .inl (fun _ => 0))), (q16, .inl (c22, 8, .inl (fun _ => 0))), (q17, .inl (c23, 80, .inl (fun _ => 0)))] := hD
  refine lv_aload_n hx hb dX6_init_26 rfl (lv_at hl 0 rfl) ?_
  refine lv_iconst (v := 0) hx hb dX6_init_27 (by decide) ?_
  refine va_put (D := D) (ci := 6) (v := .int 0) (ty := .int) (C := RX6) (T := TX6) (N := 4) hx hb hg inX6 tyX6 tyX6_ok nmX6 hown hK hP hD hS 0 rfl rfl 2 (by decide) (hg _ mw_214) (fun _ h9 => h9) rfl (by decide +kernel) rfl rfl (Nat.le_of_ble_eq_true rfl) dX6_init_28 (fun H locs hP hD hS => ?_)
  have hP : va_P D classes [(h0, .inr (6, [.ref q1, .ref q11, .int 0, .int 0])), (q1, .inr (5, [.long z4, .long z5, .long z6, .long z7, .long z8, .long z9, .long z10, .ref q2, .int 0, .int 0, .int 0, .int 0, .long 0, .int 0])), (q2, .inl (c3, 0, .inl (fun _ => 0))), (q11, .inr (10, [.ref q12, .ref q13, .ref q14, .ref q15, .ref q16, .ref q17, .int 0, .int 0, .int 0, .int 0, .int 0, .int (-1)])), (q12, .inl (c18, 8, .inr (.inl (fun _ => 0)))), (q13, .inl (c19, 10, .inr (.inl (fun _ => 0)))), (q14, .inl (c20, 8, .inl (fun _ => 0))), (q15, .inl (c21, 8, .inl (fun _ => 0))), (q16, .inl (c22, 8, .inl (fun _ => 0))), (q17, .inl (c23, 80, .inl (fun _ => 0)))] H := hP
  have hD : va_D Af [(h0, .inr (6, [.ref q1, .ref q11, .int 0, .int 0])), (q1, .inr (5, [.long z4, .long z5, .long z6, .long z7, .long z8, .long z9, .long z10, .ref q2, .int 0, .int 0, .int 0, .int 0, .long 0, .int 0])), (q2, .inl (c3, 0, .inl (fun _ => 0))), (q11, .inr (10, [.ref q12, .ref q13, .ref q14, .ref q15, .ref q16, .ref q17, .int 0, .int 0, .int 0, .int 0, .int 0, .int (-1)])), (q12, .inl (c18, 8, .inr (.inl (fun _ => 0)))), (q13, .inl (c19, 10, .inr (.inl (fun _ => 0)))), (q14, .inl (c20, 8, .inl (fun _ => 0))), (q15, .inl (c21, 8, .inl (fun _ => 0))), (q16, .inl (c22, 8, .inl (fun _ => 0))), (q17, .inl (c23, 80, .inl (fun _ => 0)))] := hD
  refine lv_aload_n hx hb dX6_init_31 rfl (lv_at hl 0 rfl) ?_
  refine lv_iconst (v := (-1)) hx hb dX6_init_32 (by decide) ?_
  refine va_put (D := D) (ci := 6) (v := .int (-1)) (ty := .int) (C := RX6) (T := TX6) (N := 4) hx hb hg inX6 tyX6 tyX6_ok nmX6 hown hK hP hD hS 0 rfl rfl 3 (by decide) (hg _ mw_216) (fun _ h9 => h9) rfl (by decide +kernel) rfl rfl (Nat.le_of_ble_eq_true rfl) dX6_init_33 (fun H locs hP hD hS => ?_)
  have hP : va_P D classes [(h0, .inr (6, [.ref q1, .ref q11, .int 0, .int (-1)])), (q1, .inr (5, [.long z4, .long z5, .long z6, .long z7, .long z8, .long z9, .long z10, .ref q2, .int 0, .int 0, .int 0, .int 0, .long 0, .int 0])), (q2, .inl (c3, 0, .inl (fun _ => 0))), (q11, .inr (10, [.ref q12, .ref q13, .ref q14, .ref q15, .ref q16, .ref q17, .int 0, .int 0, .int 0, .int 0, .int 0, .int (-1)])), (q12, .inl (c18, 8, .inr (.inl (fun _ => 0)))), (q13, .inl (c19, 10, .inr (.inl (fun _ => 0)))), (q14, .inl (c20, 8, .inl (fun _ => 0))), (q15, .inl (c21, 8, .inl (fun _ => 0))), (q16, .inl (c22, 8, .inl (fun _ => 0))), (q17, .inl (c23, 80, .inl (fun _ => 0)))] H := hP
  have hD : va_D Af [(h0, .inr (6, [.ref q1, .ref q11, .int 0, .int (-1)])), (q1, .inr (5, [.long z4, .long z5, .long z6, .long z7, .long z8, .long z9, .long z10, .ref q2, .int 0, .int 0, .int 0, .int 0, .long 0, .int 0])), (q2, .inl (c3, 0, .inl (fun _ => 0))), (q11, .inr (10, [.ref q12, .ref q13, .ref q14, .ref q15, .ref q16, .ref q17, .int 0, .int 0, .int 0, .int 0, .int 0, .int (-1)])), (q12, .inl (c18, 8, .inr (.inl (fun _ => 0)))), (q13, .inl (c19, 10, .inr (.inl (fun _ => 0)))), (q14, .inl (c20, 8, .inl (fun _ => 0))), (q15, .inl (c21, 8, .inl (fun _ => 0))), (q16, .inl (c22, 8, .inl (fun _ => 0))), (q17, .inl (c23, 80, .inl (fun _ => 0)))] := hD
  refine hret H locs 36 ls dX6_init_36 hS (fun t ht hvm => ⟨q1, q2, q11, q12, q13, q14, q15, q16, q17, c3, c18, c19, c20, c21, c22, c23, z4, z5, z6, z7, z8, z9, z10, by rw [ht]; exact hP, va_K.moved hvm hK, hD⟩)
