set_option maxHeartbeats 4000000 in
set_option maxRecDepth 100000 in
theorem law_c8 {p : Program} {e : Env} {s : State} {m : MethodId} {below : List Frame} {meth : Method} {c : Code} {l : Launch} {D : va_G} {b Ls : Nat} {xs : Nat → Int32} {nC nS : Nat} {Q : State → Prop} (hC : LC p s m c b Ls xs) (hL : Ls ≤ 3072) (hf : nC ≤ room_1.cells ∧ nS ≤ room_1.slots) {i : Int32} (hi0 : 0 ≤ i.toInt) (hi6 : i.toInt + 6 ≤ (Ls : Int)) {cA : Nat → ClassId} {ad : Nat → Nat} {F : Nat → Int32} {L : Nat → Int64} {A : Nat → Nat → Int32} {B : Nat → Nat → Int64} {cM : Nat → ClassId} {aM : Nat → Nat} {G : Nat → Int32} {LG : Nat → Int64} {C : Nat → Nat → Int32} {BG : Nat → Nat → Int64} {H : Heap} {locs : List Loc} {ls : Array Slot} (hV : LV F A G C) (hKX : va_K D classes (tysX cA) s) (hKM : va_K D classes (tysM cM) s) (hP : va_P D classes (wX cA ad F L A B ++ wM cM aM G LG C BG) H) (hD : va_D (fun q : Nat => s.heap.size ≤ q) (wX cA ad F L A B ++ wM cM aM G LG C BG)) (hS : va_S (fun q : Nat => s.heap.size ≤ q) s.heap H locs) (hl : lv_has ls 4 [(0, .ref b), (1, .ref (ad 0)), (2, .ref (aM 0)), (3, .int i)]) (K : ∀ (cA : Nat → ClassId) (ad : Nat → Nat) (F : Nat → Int32) (L : Nat → Int64) (A : Nat → Nat → Int32) (B : Nat → Nat → Int64) (cM : Nat → ClassId) (aM : Nat → Nat) (G : Nat → Int32) (LG : Nat → Int64) (C : Nat → Nat → Int32) (BG : Nat → Nat → Int64) (H : Heap) (locs : List Loc) (ls : Array Slot), LV F A G C → va_K D classes (tysX cA) s → va_K D classes (tysM cM) s → va_P D classes (wX cA ad F L A B ++ wM cM aM G LG C BG) H → va_D (fun q : Nat => s.heap.size ≤ q) (wX cA ad F L A B ++ wM cM aM G LG C BG) → va_S (fun q : Nat => s.heap.size ≤ q) s.heap H locs → lv_has ls 4 [(0, .ref b), (1, .ref (ad 0)), (2, .ref (aM 0)), (3, .int i)] → W p l e room_1 s m #[Value.ref b] below meth c H locs nC nS Q (F0 m 1007 ls [])) : W p l e room_1 s m #[Value.ref b] below meth c H locs nC nS Q (F0 m 428 ls []) := by
  have hx := hC.1
  have hb := hC.2.1
  have hXs := hC.2.2.2.2.2.2.1
  have hbl := hC.2.2.2.2.2.2.2
  have hA : ∀ q : Nat, s.heap.size ≤ q → (fun q : Nat => s.heap.size ≤ q) q := fun _ h => h
  have hbA : ¬ (fun q : Nat => s.heap.size ≤ q) b := Nat.not_le.mpr hbl
  generalize (fun q : Nat => s.heap.size ≤ q) = Af at *
  refine lv_aload_n hx hb dL_law_428 rfl (lv_at hl 1 rfl) ?_
  refine lx_i (As := []) (rest := []) (wb := wM cM aM G LG C BG) (hC.mk hKX) (c_X11_rounds_0 l D cA H.size ad F L A B  hV.1) (cwV 0 hC.2.2.2.2.1 (g_V mw_768 mw_765 mw_766 mw_767 mw_1) rfl rfl rfl (by decide +kernel) ⟨(Nat.le_of_ble_eq_true rfl), (Nat.le_of_ble_eq_true rfl)⟩) hP hD hS hA atX_0 rfl rfl hl.1 rfl (Nat.le_of_ble_eq_true rfl) dL_law_429 hf (fun r1 u H locs hw hP hD hS => ?_)
  obtain ⟨F2, L2, A2, B2⟩ := u
  try dsimp only at hw
  obtain ⟨w3, w4⟩ := hw
  have hV : LV F2 A2 G C := ⟨w3.1, (xX.fr hV.2.1 (w3.2.1 25 (by decide)) (w3.2.1 26 (by decide))), hV.2.2.1, hV.2.2.2.1, hV.2.2.2.2.1, (w3.2.1 1 (by decide)).trans hV.2.2.2.2.2⟩
  have hP : va_P D classes (wX cA ad F2 L2 A2 B2 ++ wM cM aM G LG C BG) H := hP
  have hD : va_D Af (wX cA ad F2 L2 A2 B2 ++ wM cM aM G LG C BG) := hD
  refine lv_pop hx hb dL_law_432 rfl ?_
  refine lv_aload_n hx hb dL_law_433 rfl (lv_at hl 2 rfl) ?_
  refine ly_i (As := []) (rest := []) (wb := wX cA ad F2 L2 A2 B2) (hC.mk hKM) (c_X12_rounds_0 l D cM H.size aM G LG C BG  hV.2.2.1 hV.2.2.2.2.1) (cwV 0 hC.2.2.2.2.1 (g_V mw_1439 mw_1436 mw_1437 mw_1438 mw_20) rfl rfl rfl (by decide +kernel) ⟨(Nat.le_of_ble_eq_true rfl), (Nat.le_of_ble_eq_true rfl)⟩) hP hD hS hA atM_0 rfl rfl hl.1 rfl (Nat.le_of_ble_eq_true rfl) dL_law_434 hf (fun r5 u H locs hw hP hD hS => ?_)
  obtain ⟨G6, LG6, C6, BG6⟩ := u
  try dsimp only at hw
  obtain ⟨w7, w8⟩ := hw
  have hV : LV F2 A2 G6 C6 := ⟨hV.1, hV.2.1, w7.1, (xM.fr hV.2.2.2.1 (w7.2.1 14 (by decide)) (w7.2.1 15 (by decide))), (LM.fr hV.2.2.2.2.1 (w7.2.1 8 (by decide)) (w7.2.1 14 (by decide)) (w7.2.1 15 (by decide)) (w7.2.2 3 (by decide)) (w7.2.2 4 (by decide)) (w7.2.2 10 (by decide)) (w7.2.2 17 (by decide)) (w7.2.2 27 (by decide)) (w7.2.2 36 (by decide)) (w7.2.2 37 (by decide))), hV.2.2.2.2.2.trans (w7.2.1 18 (by decide)).symm⟩
  have hP : va_P D classes (wX cA ad F2 L2 A2 B2 ++ wM cM aM G6 LG6 C6 BG6) H := hP
  have hD : va_D Af (wX cA ad F2 L2 A2 B2 ++ wM cM aM G6 LG6 C6 BG6) := hD
  refine lv_pop hx hb dL_law_437 rfl ?_
  refine lv_goto (tgt := 1007) hx hb dL_law_438 (by decide) ?_
  exact K cA ad F2 L2 A2 B2 cM aM G6 LG6 C6 BG6 H locs ls hV hKX hKM hP hD hS hl
set_option maxHeartbeats 4000000 in
set_option maxRecDepth 100000 in
theorem law_c9 {p : Program} {e : Env} {s : State} {m : MethodId} {below : List Frame} {meth : Method} {c : Code} {l : Launch} {D : va_G} {b Ls : Nat} {xs : Nat → Int32} {nC nS : Nat} {Q : State → Prop} (hC : LC p s m c b Ls xs) (hL : Ls ≤ 3072) (hf : nC ≤ room_1.cells ∧ nS ≤ room_1.slots) {i : Int32} (hi0 : 0 ≤ i.toInt) (hi6 : i.toInt + 6 ≤ (Ls : Int)) {cA : Nat → ClassId} {ad : Nat → Nat} {F : Nat → Int32} {L : Nat → Int64} {A : Nat → Nat → Int32} {B : Nat → Nat → Int64} {cM : Nat → ClassId} {aM : Nat → Nat} {G : Nat → Int32} {LG : Nat → Int64} {C : Nat → Nat → Int32} {BG : Nat → Nat → Int64} {H : Heap} {locs : List Loc} {ls : Array Slot} (hV : LV F A G C) (hKX : va_K D classes (tysX cA) s) (hKM : va_K D classes (tysM cM) s) (hP : va_P D classes (wX cA ad F L A B ++ wM cM aM G LG C BG) H) (hD : va_D (fun q : Nat => s.heap.size ≤ q) (wX cA ad F L A B ++ wM cM aM G LG C BG)) (hS : va_S (fun q : Nat => s.heap.size ≤ q) s.heap H locs) (hl : lv_has ls 4 [(0, .ref b), (1, .ref (ad 0)), (2, .ref (aM 0)), (3, .int i)]) (K : ∀ (cA : Nat → ClassId) (ad : Nat → Nat) (F : Nat → Int32) (L : Nat → Int64) (A : Nat → Nat → Int32) (B : Nat → Nat → Int64) (cM : Nat → ClassId) (aM : Nat → Nat) (G : Nat → Int32) (LG : Nat → Int64) (C : Nat → Nat → Int32) (BG : Nat → Nat → Int64) (H : Heap) (locs : List Loc) (ls : Array Slot), LV F A G C → va_K D classes (tysX cA) s → va_K D classes (tysM cM) s → va_P D classes (wX cA ad F L A B ++ wM cM aM G LG C BG) H → va_D (fun q : Nat => s.heap.size ≤ q) (wX cA ad F L A B ++ wM cM aM G LG C BG) → va_S (fun q : Nat => s.heap.size ≤ q) s.heap H locs → lv_has ls 4 [(0, .ref b), (1, .ref (ad 0)), (2, .ref (aM 0)), (3, .int i)] → W p l e room_1 s m #[Value.ref b] below meth c H locs nC nS Q (F0 m 1007 ls [])) : W p l e room_1 s m #[Value.ref b] below meth c H locs nC nS Q (F0 m 441 ls []) := by
  have hx := hC.1
  have hb := hC.2.1
  have hXs := hC.2.2.2.2.2.2.1
  have hbl := hC.2.2.2.2.2.2.2
  have hA : ∀ q : Nat, s.heap.size ≤ q → (fun q : Nat => s.heap.size ≤ q) q := fun _ h => h
  have hbA : ¬ (fun q : Nat => s.heap.size ≤ q) b := Nat.not_le.mpr hbl
  generalize (fun q : Nat => s.heap.size ≤ q) = Af at *
  refine lv_aload_n hx hb dL_law_441 rfl (lv_at hl 1 rfl) ?_
  refine lv_aload_n hx hb dL_law_442 rfl (lv_at hl 0 rfl) ?_
  refine lv_iload_n hx hb dL_law_443 rfl (lv_at hl 3 rfl) ?_
  refine lv_iconst (v := 1) hx hb dL_law_444 (by decide) ?_
  refine lv_iadd hx hb dL_law_445 ?_
  refine lv_topi (fun x1 e2 => ?_)
  refine va_sld hx hb hXs hbl hbA hS (law_in hi0 hi6 hL e2 (by decide)) dL_law_446 ?_
  refine lv_topi (fun v3 e4 => ?_)
  refine lx_i (As := [.int v3]) (rest := []) (wb := wM cM aM G LG C BG) (hC.mk hKX) (c_X11_lasts_0 l D cA H.size ad F L A B (v3) hV.1) (cwV 1 hC.2.2.2.2.1 (g_V mw_836 mw_833 mw_834 mw_835 mw_1) rfl rfl rfl (by decide +kernel) ⟨(Nat.le_of_ble_eq_true rfl), (Nat.le_of_ble_eq_true rfl)⟩) hP hD hS hA atX_0 rfl rfl hl.1 rfl (Nat.le_of_ble_eq_true rfl) dL_law_447 hf (fun r5 u H locs hw hP hD hS => ?_)
  obtain ⟨F6, L6, A6, B6⟩ := u
  try dsimp only at hw
  have w7 := hw
  have hV : LV F6 A6 G C := ⟨w7.1, (xX.fr hV.2.1 (w7.2.1 25 (by decide)) (w7.2.1 26 (by decide))), hV.2.2.1, hV.2.2.2.1, hV.2.2.2.2.1, (w7.2.1 1 (by decide)).trans hV.2.2.2.2.2⟩
  have hP : va_P D classes (wX cA ad F6 L6 A6 B6 ++ wM cM aM G LG C BG) H := hP
  have hD : va_D Af (wX cA ad F6 L6 A6 B6 ++ wM cM aM G LG C BG) := hD
  refine lv_pop hx hb dL_law_450 rfl ?_
  refine lv_aload_n hx hb dL_law_451 rfl (lv_at hl 2 rfl) ?_
  refine lv_aload_n hx hb dL_law_452 rfl (lv_at hl 0 rfl) ?_
  refine lv_iload_n hx hb dL_law_453 rfl (lv_at hl 3 rfl) ?_
  refine lv_iconst (v := 1) hx hb dL_law_454 (by decide) ?_
  refine lv_iadd hx hb dL_law_455 ?_
  refine lv_topi (fun x8 e9 => ?_)
  refine va_sld hx hb hXs hbl hbA hS (law_in hi0 hi6 hL e9 (by decide)) dL_law_456 ?_
  refine lv_topi (fun v10 e11 => ?_)
  refine ly_i (As := [.int v10]) (rest := []) (wb := wX cA ad F6 L6 A6 B6) (hC.mk hKM) (c_X12_lasts_0 l D cM H.size aM G LG C BG (v10) hV.2.2.1 hV.2.2.2.2.1) (cwV 1 hC.2.2.2.2.1 (g_V mw_1470 mw_1467 mw_1468 mw_1469 mw_20) rfl rfl rfl (by decide +kernel) ⟨(Nat.le_of_ble_eq_true rfl), (Nat.le_of_ble_eq_true rfl)⟩) hP hD hS hA atM_0 rfl rfl hl.1 rfl (Nat.le_of_ble_eq_true rfl) dL_law_457 hf (fun r12 u H locs hw hP hD hS => ?_)
  obtain ⟨G13, LG13, C13, BG13⟩ := u
  try dsimp only at hw
  have w14 := hw
  have hV : LV F6 A6 G13 C13 := ⟨hV.1, hV.2.1, w14.1, (xM.fr hV.2.2.2.1 (w14.2.1 14 (by decide)) (w14.2.1 15 (by decide))), (LM.fr hV.2.2.2.2.1 (w14.2.1 8 (by decide)) (w14.2.1 14 (by decide)) (w14.2.1 15 (by decide)) (w14.2.2 3 (by decide)) (w14.2.2 4 (by decide)) (w14.2.2 10 (by decide)) (w14.2.2 17 (by decide)) (w14.2.2 27 (by decide)) (w14.2.2 36 (by decide)) (w14.2.2 37 (by decide))), hV.2.2.2.2.2.trans (w14.2.1 18 (by decide)).symm⟩
  have hP : va_P D classes (wX cA ad F6 L6 A6 B6 ++ wM cM aM G13 LG13 C13 BG13) H := hP
  have hD : va_D Af (wX cA ad F6 L6 A6 B6 ++ wM cM aM G13 LG13 C13 BG13) := hD
  refine lv_pop hx hb dL_law_460 rfl ?_
  refine lv_goto (tgt := 1007) hx hb dL_law_461 (by decide) ?_
  exact K cA ad F6 L6 A6 B6 cM aM G13 LG13 C13 BG13 H locs ls hV hKX hKM hP hD hS hl
set_option maxHeartbeats 4000000 in
set_option maxRecDepth 100000 in
theorem law_c10 {p : Program} {e : Env} {s : State} {m : MethodId} {below : List Frame} {meth : Method} {c : Code} {l : Launch} {D : va_G} {b Ls : Nat} {xs : Nat → Int32} {nC nS : Nat} {Q : State → Prop} (hC : LC p s m c b Ls xs) (hL : Ls ≤ 3072) (hf : nC ≤ room_1.cells ∧ nS ≤ room_1.slots) {i : Int32} (hi0 : 0 ≤ i.toInt) (hi6 : i.toInt + 6 ≤ (Ls : Int)) {cA : Nat → ClassId} {ad : Nat → Nat} {F : Nat → Int32} {L : Nat → Int64} {A : Nat → Nat → Int32} {B : Nat → Nat → Int64} {cM : Nat → ClassId} {aM : Nat → Nat} {G : Nat → Int32} {LG : Nat → Int64} {C : Nat → Nat → Int32} {BG : Nat → Nat → Int64} {H : Heap} {locs : List Loc} {ls : Array Slot} (hV : LV F A G C) (hKX : va_K D classes (tysX cA) s) (hKM : va_K D classes (tysM cM) s) (hP : va_P D classes (wX cA ad F L A B ++ wM cM aM G LG C BG) H) (hD : va_D (fun q : Nat => s.heap.size ≤ q) (wX cA ad F L A B ++ wM cM aM G LG C BG)) (hS : va_S (fun q : Nat => s.heap.size ≤ q) s.heap H locs) (hl : lv_has ls 4 [(0, .ref b), (1, .ref (ad 0)), (2, .ref (aM 0)), (3, .int i)]) (K : ∀ (cA : Nat → ClassId) (ad : Nat → Nat) (F : Nat → Int32) (L : Nat → Int64) (A : Nat → Nat → Int32) (B : Nat → Nat → Int64) (cM : Nat → ClassId) (aM : Nat → Nat) (G : Nat → Int32) (LG : Nat → Int64) (C : Nat → Nat → Int32) (BG : Nat → Nat → Int64) (H : Heap) (locs : List Loc) (ls : Array Slot), LV F A G C → va_K D classes (tysX cA) s → va_K D classes (tysM cM) s → va_P D classes (wX cA ad F L A B ++ wM cM aM G LG C BG) H → va_D (fun q : Nat => s.heap.size ≤ q) (wX cA ad F L A B ++ wM cM aM G LG C BG) → va_S (fun q : Nat => s.heap.size ≤ q) s.heap H locs → lv_has ls 4 [(0, .ref b), (1, .ref (ad 0)), (2, .ref (aM 0)), (3, .int i)] → W p l e room_1 s m #[Value.ref b] below meth c H locs nC nS Q (F0 m 1007 ls [])) : W p l e room_1 s m #[Value.ref b] below meth c H locs nC nS Q (F0 m 464 ls []) := by
  have hx := hC.1
  have hb := hC.2.1
  have hXs := hC.2.2.2.2.2.2.1
  have hbl := hC.2.2.2.2.2.2.2
  have hA : ∀ q : Nat, s.heap.size ≤ q → (fun q : Nat => s.heap.size ≤ q) q := fun _ h => h
  have hbA : ¬ (fun q : Nat => s.heap.size ≤ q) b := Nat.not_le.mpr hbl
  generalize (fun q : Nat => s.heap.size ≤ q) = Af at *
  refine lv_aload_n hx hb dL_law_464 rfl (lv_at hl 1 rfl) ?_
  refine lv_aload_n hx hb dL_law_465 rfl (lv_at hl 0 rfl) ?_
  refine lv_iload_n hx hb dL_law_466 rfl (lv_at hl 3 rfl) ?_
  refine lv_iconst (v := 1) hx hb dL_law_467 (by decide) ?_
  refine lv_iadd hx hb dL_law_468 ?_
  refine lv_topi (fun x1 e2 => ?_)
  refine va_sld hx hb hXs hbl hbA hS (law_in hi0 hi6 hL e2 (by decide)) dL_law_469 ?_
  refine lv_topi (fun v3 e4 => ?_)
  refine lv_aload_n hx hb dL_law_470 rfl (lv_at hl 0 rfl) ?_
  refine lv_iload_n hx hb dL_law_471 rfl (lv_at hl 3 rfl) ?_
  refine lv_iconst (v := 2) hx hb dL_law_472 (by decide) ?_
  refine lv_iadd hx hb dL_law_473 ?_
  refine lv_topi (fun x5 e6 => ?_)
  refine va_sld hx hb hXs hbl hbA hS (law_in hi0 hi6 hL e6 (by decide)) dL_law_474 ?_
  refine lv_topi (fun v7 e8 => ?_)
  refine lx_i (As := [.int v3, .int v7]) (rest := []) (wb := wM cM aM G LG C BG) (hC.mk hKX) (c_X11_with_0 l D cA H.size ad F L A B (v3) (v7) hV.1) (cwV 2 hC.2.2.2.2.1 (g_V mw_840 mw_837 mw_838 mw_839 mw_1) rfl rfl rfl (by decide +kernel) ⟨(Nat.le_of_ble_eq_true rfl), (Nat.le_of_ble_eq_true rfl)⟩) hP hD hS hA atX_0 rfl rfl hl.1 rfl (Nat.le_of_ble_eq_true rfl) dL_law_475 hf (fun r9 u H locs hw hP hD hS => ?_)
  obtain ⟨F10, L10, A10, B10⟩ := u
  try dsimp only at hw
  have w11 := hw
  have hV : LV F10 A10 G C := ⟨w11.1, (xX.fr hV.2.1 (w11.2.1 25 (by decide)) (w11.2.1 26 (by decide))), hV.2.2.1, hV.2.2.2.1, hV.2.2.2.2.1, (w11.2.1 1 (by decide)).trans hV.2.2.2.2.2⟩
  have hP : va_P D classes (wX cA ad F10 L10 A10 B10 ++ wM cM aM G LG C BG) H := hP
  have hD : va_D Af (wX cA ad F10 L10 A10 B10 ++ wM cM aM G LG C BG) := hD
  refine lv_pop hx hb dL_law_478 rfl ?_
  refine lv_aload_n hx hb dL_law_479 rfl (lv_at hl 2 rfl) ?_
  refine lv_aload_n hx hb dL_law_480 rfl (lv_at hl 0 rfl) ?_
  refine lv_iload_n hx hb dL_law_481 rfl (lv_at hl 3 rfl) ?_
  refine lv_iconst (v := 1) hx hb dL_law_482 (by decide) ?_
  refine lv_iadd hx hb dL_law_483 ?_
  refine lv_topi (fun x12 e13 => ?_)
  refine va_sld hx hb hXs hbl hbA hS (law_in hi0 hi6 hL e13 (by decide)) dL_law_484 ?_
  refine lv_topi (fun v14 e15 => ?_)
  refine lv_aload_n hx hb dL_law_485 rfl (lv_at hl 0 rfl) ?_
  refine lv_iload_n hx hb dL_law_486 rfl (lv_at hl 3 rfl) ?_
  refine lv_iconst (v := 2) hx hb dL_law_487 (by decide) ?_
  refine lv_iadd hx hb dL_law_488 ?_
  refine lv_topi (fun x16 e17 => ?_)
  refine va_sld hx hb hXs hbl hbA hS (law_in hi0 hi6 hL e17 (by decide)) dL_law_489 ?_
  refine lv_topi (fun v18 e19 => ?_)
  refine ly_i (As := [.int v14, .int v18]) (rest := []) (wb := wX cA ad F10 L10 A10 B10) (hC.mk hKM) (c_X12_with_0 l D cM H.size aM G LG C BG (v14) (v18) hV.2.2.1 hV.2.2.2.2.1) (cwV 2 hC.2.2.2.2.1 (g_V mw_1474 mw_1471 mw_1472 mw_1473 mw_20) rfl rfl rfl (by decide +kernel) ⟨(Nat.le_of_ble_eq_true rfl), (Nat.le_of_ble_eq_true rfl)⟩) hP hD hS hA atM_0 rfl rfl hl.1 rfl (Nat.le_of_ble_eq_true rfl) dL_law_490 hf (fun r20 u H locs hw hP hD hS => ?_)
  obtain ⟨G21, LG21, C21, BG21⟩ := u
  try dsimp only at hw
  obtain ⟨w22, w23⟩ := hw
  have hV : LV F10 A10 G21 C21 := ⟨hV.1, hV.2.1, w22.1, (xM.fr hV.2.2.2.1 (w22.2.1 14 (by decide)) (w22.2.1 15 (by decide))), (LM.fr hV.2.2.2.2.1 (w22.2.1 8 (by decide)) (w22.2.1 14 (by decide)) (w22.2.1 15 (by decide)) (w22.2.2 3 (by decide)) (w22.2.2 4 (by decide)) (w22.2.2 10 (by decide)) (w22.2.2 17 (by decide)) (w22.2.2 27 (by decide)) (w22.2.2 36 (by decide)) (w22.2.2 37 (by decide))), hV.2.2.2.2.2.trans (w22.2.1 18 (by decide)).symm⟩
  have hP : va_P D classes (wX cA ad F10 L10 A10 B10 ++ wM cM aM G21 LG21 C21 BG21) H := hP
  have hD : va_D Af (wX cA ad F10 L10 A10 B10 ++ wM cM aM G21 LG21 C21 BG21) := hD
  refine lv_pop hx hb dL_law_493 rfl ?_
  refine lv_goto (tgt := 1007) hx hb dL_law_494 (by decide) ?_
  exact K cA ad F10 L10 A10 B10 cM aM G21 LG21 C21 BG21 H locs ls hV hKX hKM hP hD hS hl
set_option maxHeartbeats 4000000 in
set_option maxRecDepth 100000 in
theorem law_c11 {p : Program} {e : Env} {s : State} {m : MethodId} {below : List Frame} {meth : Method} {c : Code} {l : Launch} {D : va_G} {b Ls : Nat} {xs : Nat → Int32} {nC nS : Nat} {Q : State → Prop} (hC : LC p s m c b Ls xs) (hL : Ls ≤ 3072) (hf : nC ≤ room_1.cells ∧ nS ≤ room_1.slots) {i : Int32} (hi0 : 0 ≤ i.toInt) (hi6 : i.toInt + 6 ≤ (Ls : Int)) {cA : Nat → ClassId} {ad : Nat → Nat} {F : Nat → Int32} {L : Nat → Int64} {A : Nat → Nat → Int32} {B : Nat → Nat → Int64} {cM : Nat → ClassId} {aM : Nat → Nat} {G : Nat → Int32} {LG : Nat → Int64} {C : Nat → Nat → Int32} {BG : Nat → Nat → Int64} {H : Heap} {locs : List Loc} {ls : Array Slot} (hV : LV F A G C) (hKX : va_K D classes (tysX cA) s) (hKM : va_K D classes (tysM cM) s) (hP : va_P D classes (wX cA ad F L A B ++ wM cM aM G LG C BG) H) (hD : va_D (fun q : Nat => s.heap.size ≤ q) (wX cA ad F L A B ++ wM cM aM G LG C BG)) (hS : va_S (fun q : Nat => s.heap.size ≤ q) s.heap H locs) (hl : lv_has ls 4 [(0, .ref b), (1, .ref (ad 0)), (2, .ref (aM 0)), (3, .int i)]) (K : ∀ (cA : Nat → ClassId) (ad : Nat → Nat) (F : Nat → Int32) (L : Nat → Int64) (A : Nat → Nat → Int32) (B : Nat → Nat → Int64) (cM : Nat → ClassId) (aM : Nat → Nat) (G : Nat → Int32) (LG : Nat → Int64) (C : Nat → Nat → Int32) (BG : Nat → Nat → Int64) (H : Heap) (locs : List Loc) (ls : Array Slot), LV F A G C → va_K D classes (tysX cA) s → va_K D classes (tysM cM) s → va_P D classes (wX cA ad F L A B ++ wM cM aM G LG C BG) H → va_D (fun q : Nat => s.heap.size ≤ q) (wX cA ad F L A B ++ wM cM aM G LG C BG) → va_S (fun q : Nat => s.heap.size ≤ q) s.heap H locs → lv_has ls 4 [(0, .ref b), (1, .ref (ad 0)), (2, .ref (aM 0)), (3, .int i)] → W p l e room_1 s m #[Value.ref b] below meth c H locs nC nS Q (F0 m 1007 ls [])) : W p l e room_1 s m #[Value.ref b] below meth c H locs nC nS Q (F0 m 497 ls []) := by
  have hx := hC.1
  have hb := hC.2.1
  have hXs := hC.2.2.2.2.2.2.1
  have hbl := hC.2.2.2.2.2.2.2
  have hA : ∀ q : Nat, s.heap.size ≤ q → (fun q : Nat => s.heap.size ≤ q) q := fun _ h => h
  have hbA : ¬ (fun q : Nat => s.heap.size ≤ q) b := Nat.not_le.mpr hbl
  generalize (fun q : Nat => s.heap.size ≤ q) = Af at *
  refine lv_aload_n hx hb dL_law_497 rfl (lv_at hl 1 rfl) ?_
  refine lx_i (As := []) (rest := []) (wb := wM cM aM G LG C BG) (hC.mk hKX) (c_X11_wages_0 l D cA H.size ad F L A B  hV.1) (cwV 0 hC.2.2.2.2.1 (g_V mw_844 mw_841 mw_842 mw_843 mw_1) rfl rfl rfl (by decide +kernel) ⟨(Nat.le_of_ble_eq_true rfl), (Nat.le_of_ble_eq_true rfl)⟩) hP hD hS hA atX_0 rfl rfl hl.1 rfl (Nat.le_of_ble_eq_true rfl) dL_law_498 hf (fun r1 u H locs hw hP hD hS => ?_)
  obtain ⟨F2, L2, A2, B2⟩ := u
  try dsimp only at hw
  have w3 := hw
  have hV : LV F2 A2 G C := ⟨w3.1, (xX.fr hV.2.1 (w3.2.1 25 (by decide)) (w3.2.1 26 (by decide))), hV.2.2.1, hV.2.2.2.1, hV.2.2.2.2.1, (w3.2.1 1 (by decide)).trans hV.2.2.2.2.2⟩
  have hP : va_P D classes (wX cA ad F2 L2 A2 B2 ++ wM cM aM G LG C BG) H := hP
  have hD : va_D Af (wX cA ad F2 L2 A2 B2 ++ wM cM aM G LG C BG) := hD
  refine lv_pop hx hb dL_law_501 rfl ?_
  refine lv_aload_n hx hb dL_law_502 rfl (lv_at hl 2 rfl) ?_
  refine ly_i (As := []) (rest := []) (wb := wX cA ad F2 L2 A2 B2) (hC.mk hKM) (c_X12_wages_0 l D cM H.size aM G LG C BG  hV.2.2.1 hV.2.2.2.2.1) (cwV 0 hC.2.2.2.2.1 (g_V mw_1478 mw_1475 mw_1476 mw_1477 mw_20) rfl rfl rfl (by decide +kernel) ⟨(Nat.le_of_ble_eq_true rfl), (Nat.le_of_ble_eq_true rfl)⟩) hP hD hS hA atM_0 rfl rfl hl.1 rfl (Nat.le_of_ble_eq_true rfl) dL_law_503 hf (fun r4 u H locs hw hP hD hS => ?_)
  obtain ⟨G5, LG5, C5, BG5⟩ := u
  try dsimp only at hw
  have w6 := hw
  have hV : LV F2 A2 G5 C5 := ⟨hV.1, hV.2.1, w6.1, (xM.fr hV.2.2.2.1 (w6.2.1 14 (by decide)) (w6.2.1 15 (by decide))), (LM.fr hV.2.2.2.2.1 (w6.2.1 8 (by decide)) (w6.2.1 14 (by decide)) (w6.2.1 15 (by decide)) (w6.2.2 3 (by decide)) (w6.2.2 4 (by decide)) (w6.2.2 10 (by decide)) (w6.2.2 17 (by decide)) (w6.2.2 27 (by decide)) (w6.2.2 36 (by decide)) (w6.2.2 37 (by decide))), hV.2.2.2.2.2.trans (w6.2.1 18 (by decide)).symm⟩
  have hP : va_P D classes (wX cA ad F2 L2 A2 B2 ++ wM cM aM G5 LG5 C5 BG5) H := hP
  have hD : va_D Af (wX cA ad F2 L2 A2 B2 ++ wM cM aM G5 LG5 C5 BG5) := hD
  refine lv_pop hx hb dL_law_506 rfl ?_
  refine lv_goto (tgt := 1007) hx hb dL_law_507 (by decide) ?_
  exact K cA ad F2 L2 A2 B2 cM aM G5 LG5 C5 BG5 H locs ls hV hKX hKM hP hD hS hl
set_option maxHeartbeats 4000000 in
set_option maxRecDepth 100000 in
theorem law_c12 {p : Program} {e : Env} {s : State} {m : MethodId} {below : List Frame} {meth : Method} {c : Code} {l : Launch} {D : va_G} {b Ls : Nat} {xs : Nat → Int32} {nC nS : Nat} {Q : State → Prop} (hC : LC p s m c b Ls xs) (hL : Ls ≤ 3072) (hf : nC ≤ room_1.cells ∧ nS ≤ room_1.slots) {i : Int32} (hi0 : 0 ≤ i.toInt) (hi6 : i.toInt + 6 ≤ (Ls : Int)) {cA : Nat → ClassId} {ad : Nat → Nat} {F : Nat → Int32} {L : Nat → Int64} {A : Nat → Nat → Int32} {B : Nat → Nat → Int64} {cM : Nat → ClassId} {aM : Nat → Nat} {G : Nat → Int32} {LG : Nat → Int64} {C : Nat → Nat → Int32} {BG : Nat → Nat → Int64} {H : Heap} {locs : List Loc} {ls : Array Slot} (hV : LV F A G C) (hKX : va_K D classes (tysX cA) s) (hKM : va_K D classes (tysM cM) s) (hP : va_P D classes (wX cA ad F L A B ++ wM cM aM G LG C BG) H) (hD : va_D (fun q : Nat => s.heap.size ≤ q) (wX cA ad F L A B ++ wM cM aM G LG C BG)) (hS : va_S (fun q : Nat => s.heap.size ≤ q) s.heap H locs) (hl : lv_has ls 4 [(0, .ref b), (1, .ref (ad 0)), (2, .ref (aM 0)), (3, .int i)]) (K : ∀ (cA : Nat → ClassId) (ad : Nat → Nat) (F : Nat → Int32) (L : Nat → Int64) (A : Nat → Nat → Int32) (B : Nat → Nat → Int64) (cM : Nat → ClassId) (aM : Nat → Nat) (G : Nat → Int32) (LG : Nat → Int64) (C : Nat → Nat → Int32) (BG : Nat → Nat → Int64) (H : Heap) (locs : List Loc) (ls : Array Slot), LV F A G C → va_K D classes (tysX cA) s → va_K D classes (tysM cM) s → va_P D classes (wX cA ad F L A B ++ wM cM aM G LG C BG) H → va_D (fun q : Nat => s.heap.size ≤ q) (wX cA ad F L A B ++ wM cM aM G LG C BG) → va_S (fun q : Nat => s.heap.size ≤ q) s.heap H locs → lv_has ls 4 [(0, .ref b), (1, .ref (ad 0)), (2, .ref (aM 0)), (3, .int i)] → W p l e room_1 s m #[Value.ref b] below meth c H locs nC nS Q (F0 m 1007 ls [])) : W p l e room_1 s m #[Value.ref b] below meth c H locs nC nS Q (F0 m 510 ls []) := by
  have hx := hC.1
  have hb := hC.2.1
  have hXs := hC.2.2.2.2.2.2.1
  have hbl := hC.2.2.2.2.2.2.2
  have hA : ∀ q : Nat, s.heap.size ≤ q → (fun q : Nat => s.heap.size ≤ q) q := fun _ h => h
  have hbA : ¬ (fun q : Nat => s.heap.size ≤ q) b := Nat.not_le.mpr hbl
  generalize (fun q : Nat => s.heap.size ≤ q) = Af at *
  refine lv_aload_n hx hb dL_law_510 rfl (lv_at hl 1 rfl) ?_
  refine lv_aload_n hx hb dL_law_511 rfl (lv_at hl 0 rfl) ?_
  refine lv_iload_n hx hb dL_law_512 rfl (lv_at hl 3 rfl) ?_
  refine lv_iconst (v := 1) hx hb dL_law_513 (by decide) ?_
  refine lv_iadd hx hb dL_law_514 ?_
  refine lv_topi (fun x1 e2 => ?_)
  refine va_sld hx hb hXs hbl hbA hS (law_in hi0 hi6 hL e2 (by decide)) dL_law_515 ?_
  refine lv_topi (fun v3 e4 => ?_)
  refine lv_aload_n hx hb dL_law_516 rfl (lv_at hl 0 rfl) ?_
  refine lv_iload_n hx hb dL_law_517 rfl (lv_at hl 3 rfl) ?_
  refine lv_iconst (v := 2) hx hb dL_law_518 (by decide) ?_
  refine lv_iadd hx hb dL_law_519 ?_
  refine lv_topi (fun x5 e6 => ?_)
  refine va_sld hx hb hXs hbl hbA hS (law_in hi0 hi6 hL e6 (by decide)) dL_law_520 ?_
  refine lv_topi (fun v7 e8 => ?_)
  refine lv_aload_n hx hb dL_law_521 rfl (lv_at hl 0 rfl) ?_
  refine lv_iload_n hx hb dL_law_522 rfl (lv_at hl 3 rfl) ?_
  refine lv_iconst (v := 3) hx hb dL_law_523 (by decide) ?_
  refine lv_iadd hx hb dL_law_524 ?_
  refine lv_topi (fun x9 e10 => ?_)
  refine va_sld hx hb hXs hbl hbA hS (law_in hi0 hi6 hL e10 (by decide)) dL_law_525 ?_
  refine lv_topi (fun v11 e12 => ?_)
  refine lv_aload_n hx hb dL_law_526 rfl (lv_at hl 0 rfl) ?_
  refine lv_iload_n hx hb dL_law_527 rfl (lv_at hl 3 rfl) ?_
  refine lv_iconst (v := 4) hx hb dL_law_528 (by decide) ?_
  refine lv_iadd hx hb dL_law_529 ?_
  refine lv_topi (fun x13 e14 => ?_)
  refine va_sld hx hb hXs hbl hbA hS (law_in hi0 hi6 hL e14 (by decide)) dL_law_530 ?_
  refine lv_topi (fun v15 e16 => ?_)
  refine lx_i (As := [.int v3, .int v7, .int v11, .int v15]) (rest := []) (wb := wM cM aM G LG C BG) (hC.mk hKX) (c_X11_parted_0 l D cA H.size ad F L A B (v3) (v7) (v11) (v15) hV.1) (cwV 4 hC.2.2.2.2.1 (g_V mw_852 mw_849 mw_850 mw_851 mw_1) rfl rfl rfl (by decide +kernel) ⟨(Nat.le_of_ble_eq_true rfl), (Nat.le_of_ble_eq_true rfl)⟩) hP hD hS hA atX_0 rfl rfl hl.1 rfl (Nat.le_of_ble_eq_true rfl) dL_law_531 hf (fun r17 u H locs hw hP hD hS => ?_)
  obtain ⟨F18, L18, A18, B18⟩ := u
  try dsimp only at hw
  have w19 := hw
  have hV : LV F18 A18 G C := ⟨w19.1, (xX.fr hV.2.1 (w19.2.1 25 (by decide)) (w19.2.1 26 (by decide))), hV.2.2.1, hV.2.2.2.1, hV.2.2.2.2.1, (w19.2.1 1 (by decide)).trans hV.2.2.2.2.2⟩
  have hP : va_P D classes (wX cA ad F18 L18 A18 B18 ++ wM cM aM G LG C BG) H := hP
  have hD : va_D Af (wX cA ad F18 L18 A18 B18 ++ wM cM aM G LG C BG) := hD
  refine lv_pop hx hb dL_law_534 rfl ?_
  refine lv_aload_n hx hb dL_law_535 rfl (lv_at hl 2 rfl) ?_
  refine lv_aload_n hx hb dL_law_536 rfl (lv_at hl 0 rfl) ?_
  refine lv_iload_n hx hb dL_law_537 rfl (lv_at hl 3 rfl) ?_
  refine lv_iconst (v := 1) hx hb dL_law_538 (by decide) ?_
  refine lv_iadd hx hb dL_law_539 ?_
  refine lv_topi (fun x20 e21 => ?_)
  refine va_sld hx hb hXs hbl hbA hS (law_in hi0 hi6 hL e21 (by decide)) dL_law_540 ?_
  refine lv_topi (fun v22 e23 => ?_)
  refine lv_aload_n hx hb dL_law_541 rfl (lv_at hl 0 rfl) ?_
  refine lv_iload_n hx hb dL_law_542 rfl (lv_at hl 3 rfl) ?_
  refine lv_iconst (v := 2) hx hb dL_law_543 (by decide) ?_
  refine lv_iadd hx hb dL_law_544 ?_
  refine lv_topi (fun x24 e25 => ?_)
  refine va_sld hx hb hXs hbl hbA hS (law_in hi0 hi6 hL e25 (by decide)) dL_law_545 ?_
  refine lv_topi (fun v26 e27 => ?_)
  refine lv_aload_n hx hb dL_law_546 rfl (lv_at hl 0 rfl) ?_
  refine lv_iload_n hx hb dL_law_547 rfl (lv_at hl 3 rfl) ?_
  refine lv_iconst (v := 3) hx hb dL_law_548 (by decide) ?_
  refine lv_iadd hx hb dL_law_549 ?_
  refine lv_topi (fun x28 e29 => ?_)
  refine va_sld hx hb hXs hbl hbA hS (law_in hi0 hi6 hL e29 (by decide)) dL_law_550 ?_
  refine lv_topi (fun v30 e31 => ?_)
  refine lv_aload_n hx hb dL_law_551 rfl (lv_at hl 0 rfl) ?_
  refine lv_iload_n hx hb dL_law_552 rfl (lv_at hl 3 rfl) ?_
  refine lv_iconst (v := 4) hx hb dL_law_553 (by decide) ?_
  refine lv_iadd hx hb dL_law_554 ?_
  refine lv_topi (fun x32 e33 => ?_)
  refine va_sld hx hb hXs hbl hbA hS (law_in hi0 hi6 hL e33 (by decide)) dL_law_555 ?_
  refine lv_topi (fun v34 e35 => ?_)
  refine ly_i (As := [.int v22, .int v26, .int v30, .int v34]) (rest := []) (wb := wX cA ad F18 L18 A18 B18) (hC.mk hKM) (c_X12_parted_0 l D cM H.size aM G LG C BG (v22) (v26) (v30) (v34) hV.2.2.1) (cwV 4 hC.2.2.2.2.1 (g_V mw_1486 mw_1483 mw_1484 mw_1485 mw_20) rfl rfl rfl (by decide +kernel) ⟨(Nat.le_of_ble_eq_true rfl), (Nat.le_of_ble_eq_true rfl)⟩) hP hD hS hA atM_0 rfl rfl hl.1 rfl (Nat.le_of_ble_eq_true rfl) dL_law_556 hf (fun r36 u H locs hw hP hD hS => ?_)
  obtain ⟨G37, LG37, C37, BG37⟩ := u
  try dsimp only at hw
  have w38 := hw
  have hV : LV F18 A18 G37 C37 := ⟨hV.1, hV.2.1, w38.1, (xM.fr hV.2.2.2.1 (w38.2.1 14 (by decide)) (w38.2.1 15 (by decide))), (LM.fr hV.2.2.2.2.1 (w38.2.1 8 (by decide)) (w38.2.1 14 (by decide)) (w38.2.1 15 (by decide)) (w38.2.2 3 (by decide)) (w38.2.2 4 (by decide)) (w38.2.2 10 (by decide)) (w38.2.2 17 (by decide)) (w38.2.2 27 (by decide)) (w38.2.2 36 (by decide)) (w38.2.2 37 (by decide))), hV.2.2.2.2.2.trans (w38.2.1 18 (by decide)).symm⟩
  have hP : va_P D classes (wX cA ad F18 L18 A18 B18 ++ wM cM aM G37 LG37 C37 BG37) H := hP
  have hD : va_D Af (wX cA ad F18 L18 A18 B18 ++ wM cM aM G37 LG37 C37 BG37) := hD
  refine lv_pop hx hb dL_law_559 rfl ?_
  refine lv_goto (tgt := 1007) hx hb dL_law_560 (by decide) ?_
  exact K cA ad F18 L18 A18 B18 cM aM G37 LG37 C37 BG37 H locs ls hV hKX hKM hP hD hS hl
set_option maxHeartbeats 4000000 in
set_option maxRecDepth 100000 in
theorem law_c13 {p : Program} {e : Env} {s : State} {m : MethodId} {below : List Frame} {meth : Method} {c : Code} {l : Launch} {D : va_G} {b Ls : Nat} {xs : Nat → Int32} {nC nS : Nat} {Q : State → Prop} (hC : LC p s m c b Ls xs) (hL : Ls ≤ 3072) (hf : nC ≤ room_1.cells ∧ nS ≤ room_1.slots) {i : Int32} (hi0 : 0 ≤ i.toInt) (hi6 : i.toInt + 6 ≤ (Ls : Int)) {cA : Nat → ClassId} {ad : Nat → Nat} {F : Nat → Int32} {L : Nat → Int64} {A : Nat → Nat → Int32} {B : Nat → Nat → Int64} {cM : Nat → ClassId} {aM : Nat → Nat} {G : Nat → Int32} {LG : Nat → Int64} {C : Nat → Nat → Int32} {BG : Nat → Nat → Int64} {H : Heap} {locs : List Loc} {ls : Array Slot} (hV : LV F A G C) (hKX : va_K D classes (tysX cA) s) (hKM : va_K D classes (tysM cM) s) (hP : va_P D classes (wX cA ad F L A B ++ wM cM aM G LG C BG) H) (hD : va_D (fun q : Nat => s.heap.size ≤ q) (wX cA ad F L A B ++ wM cM aM G LG C BG)) (hS : va_S (fun q : Nat => s.heap.size ≤ q) s.heap H locs) (hl : lv_has ls 4 [(0, .ref b), (1, .ref (ad 0)), (2, .ref (aM 0)), (3, .int i)]) (K : ∀ (cA : Nat → ClassId) (ad : Nat → Nat) (F : Nat → Int32) (L : Nat → Int64) (A : Nat → Nat → Int32) (B : Nat → Nat → Int64) (cM : Nat → ClassId) (aM : Nat → Nat) (G : Nat → Int32) (LG : Nat → Int64) (C : Nat → Nat → Int32) (BG : Nat → Nat → Int64) (H : Heap) (locs : List Loc) (ls : Array Slot), LV F A G C → va_K D classes (tysX cA) s → va_K D classes (tysM cM) s → va_P D classes (wX cA ad F L A B ++ wM cM aM G LG C BG) H → va_D (fun q : Nat => s.heap.size ≤ q) (wX cA ad F L A B ++ wM cM aM G LG C BG) → va_S (fun q : Nat => s.heap.size ≤ q) s.heap H locs → lv_has ls 4 [(0, .ref b), (1, .ref (ad 0)), (2, .ref (aM 0)), (3, .int i)] → W p l e room_1 s m #[Value.ref b] below meth c H locs nC nS Q (F0 m 1007 ls [])) : W p l e room_1 s m #[Value.ref b] below meth c H locs nC nS Q (F0 m 563 ls []) := by
  have hx := hC.1
  have hb := hC.2.1
  have hXs := hC.2.2.2.2.2.2.1
  have hbl := hC.2.2.2.2.2.2.2
  have hA : ∀ q : Nat, s.heap.size ≤ q → (fun q : Nat => s.heap.size ≤ q) q := fun _ h => h
  have hbA : ¬ (fun q : Nat => s.heap.size ≤ q) b := Nat.not_le.mpr hbl
  generalize (fun q : Nat => s.heap.size ≤ q) = Af at *
  refine lv_aload_n hx hb dL_law_563 rfl (lv_at hl 1 rfl) ?_
  refine lx_i (As := []) (rest := []) (wb := wM cM aM G LG C BG) (hC.mk hKX) (c_X11_even_0 l D cA H.size ad F L A B  hV.1) (cwV 0 hC.2.2.2.2.1 (g_V mw_921 mw_918 mw_919 mw_920 mw_1) rfl rfl rfl (by decide +kernel) ⟨(Nat.le_of_ble_eq_true rfl), (Nat.le_of_ble_eq_true rfl)⟩) hP hD hS hA atX_0 rfl rfl hl.1 rfl (Nat.le_of_ble_eq_true rfl) dL_law_564 hf (fun r1 u H locs hw hP hD hS => ?_)
  obtain ⟨F2, L2, A2, B2⟩ := u
  try dsimp only at hw
  have w3 := hw
  have hV : LV F2 A2 G C := ⟨w3.1, (xX.fr hV.2.1 (w3.2.1 25 (by decide)) (w3.2.1 26 (by decide))), hV.2.2.1, hV.2.2.2.1, hV.2.2.2.2.1, (w3.2.1 1 (by decide)).trans hV.2.2.2.2.2⟩
  have hP : va_P D classes (wX cA ad F2 L2 A2 B2 ++ wM cM aM G LG C BG) H := hP
  have hD : va_D Af (wX cA ad F2 L2 A2 B2 ++ wM cM aM G LG C BG) := hD
  refine lv_pop hx hb dL_law_567 rfl ?_
  refine lv_aload_n hx hb dL_law_568 rfl (lv_at hl 2 rfl) ?_
  refine ly_i (As := []) (rest := []) (wb := wX cA ad F2 L2 A2 B2) (hC.mk hKM) (c_X12_even_0 l D cM H.size aM G LG C BG  hV.2.2.1) (cwV 0 hC.2.2.2.2.1 (g_V mw_1512 mw_1509 mw_1510 mw_1511 mw_20) rfl rfl rfl (by decide +kernel) ⟨(Nat.le_of_ble_eq_true rfl), (Nat.le_of_ble_eq_true rfl)⟩) hP hD hS hA atM_0 rfl rfl hl.1 rfl (Nat.le_of_ble_eq_true rfl) dL_law_569 hf (fun r4 u H locs hw hP hD hS => ?_)
  obtain ⟨G5, LG5, C5, BG5⟩ := u
  try dsimp only at hw
  obtain ⟨w6, w7⟩ := hw
  have hV : LV F2 A2 G5 C5 := ⟨hV.1, hV.2.1, w6.1, (xM.fr hV.2.2.2.1 (w6.2.1 14 (by decide)) (w6.2.1 15 (by decide))), (LM.fr hV.2.2.2.2.1 (w6.2.1 8 (by decide)) (w6.2.1 14 (by decide)) (w6.2.1 15 (by decide)) (w6.2.2 3 (by decide)) (w6.2.2 4 (by decide)) (w6.2.2 10 (by decide)) (w6.2.2 17 (by decide)) (w6.2.2 27 (by decide)) (w6.2.2 36 (by decide)) (w6.2.2 37 (by decide))), hV.2.2.2.2.2.trans (w6.2.1 18 (by decide)).symm⟩
  have hP : va_P D classes (wX cA ad F2 L2 A2 B2 ++ wM cM aM G5 LG5 C5 BG5) H := hP
  have hD : va_D Af (wX cA ad F2 L2 A2 B2 ++ wM cM aM G5 LG5 C5 BG5) := hD
  refine lv_pop hx hb dL_law_572 rfl ?_
  refine lv_goto (tgt := 1007) hx hb dL_law_573 (by decide) ?_
  exact K cA ad F2 L2 A2 B2 cM aM G5 LG5 C5 BG5 H locs ls hV hKX hKM hP hD hS hl
set_option maxHeartbeats 4000000 in
set_option maxRecDepth 100000 in
theorem law_c14 {p : Program} {e : Env} {s : State} {m : MethodId} {below : List Frame} {meth : Method} {c : Code} {l : Launch} {D : va_G} {b Ls : Nat} {xs : Nat → Int32} {nC nS : Nat} {Q : State → Prop} (hC : LC p s m c b Ls xs) (hL : Ls ≤ 3072) (hf : nC ≤ room_1.cells ∧ nS ≤ room_1.slots) {i : Int32} (hi0 : 0 ≤ i.toInt) (hi6 : i.toInt + 6 ≤ (Ls : Int)) {cA : Nat → ClassId} {ad : Nat → Nat} {F : Nat → Int32} {L : Nat → Int64} {A : Nat → Nat → Int32} {B : Nat → Nat → Int64} {cM : Nat → ClassId} {aM : Nat → Nat} {G : Nat → Int32} {LG : Nat → Int64} {C : Nat → Nat → Int32} {BG : Nat → Nat → Int64} {H : Heap} {locs : List Loc} {ls : Array Slot} (hV : LV F A G C) (hKX : va_K D classes (tysX cA) s) (hKM : va_K D classes (tysM cM) s) (hP : va_P D classes (wX cA ad F L A B ++ wM cM aM G LG C BG) H) (hD : va_D (fun q : Nat => s.heap.size ≤ q) (wX cA ad F L A B ++ wM cM aM G LG C BG)) (hS : va_S (fun q : Nat => s.heap.size ≤ q) s.heap H locs) (hl : lv_has ls 4 [(0, .ref b), (1, .ref (ad 0)), (2, .ref (aM 0)), (3, .int i)]) (K : ∀ (cA : Nat → ClassId) (ad : Nat → Nat) (F : Nat → Int32) (L : Nat → Int64) (A : Nat → Nat → Int32) (B : Nat → Nat → Int64) (cM : Nat → ClassId) (aM : Nat → Nat) (G : Nat → Int32) (LG : Nat → Int64) (C : Nat → Nat → Int32) (BG : Nat → Nat → Int64) (H : Heap) (locs : List Loc) (ls : Array Slot), LV F A G C → va_K D classes (tysX cA) s → va_K D classes (tysM cM) s → va_P D classes (wX cA ad F L A B ++ wM cM aM G LG C BG) H → va_D (fun q : Nat => s.heap.size ≤ q) (wX cA ad F L A B ++ wM cM aM G LG C BG) → va_S (fun q : Nat => s.heap.size ≤ q) s.heap H locs → lv_has ls 4 [(0, .ref b), (1, .ref (ad 0)), (2, .ref (aM 0)), (3, .int i)] → W p l e room_1 s m #[Value.ref b] below meth c H locs nC nS Q (F0 m 1007 ls [])) : W p l e room_1 s m #[Value.ref b] below meth c H locs nC nS Q (F0 m 576 ls []) := by
  have hx := hC.1
  have hb := hC.2.1
  have hXs := hC.2.2.2.2.2.2.1
  have hbl := hC.2.2.2.2.2.2.2
  have hA : ∀ q : Nat, s.heap.size ≤ q → (fun q : Nat => s.heap.size ≤ q) q := fun _ h => h
  have hbA : ¬ (fun q : Nat => s.heap.size ≤ q) b := Nat.not_le.mpr hbl
  generalize (fun q : Nat => s.heap.size ≤ q) = Af at *
  refine lv_aload_n hx hb dL_law_576 rfl (lv_at hl 1 rfl) ?_
  refine lx_i (As := []) (rest := []) (wb := wM cM aM G LG C BG) (hC.mk hKX) (c_X11_proof_0 l D cA H.size ad F L A B  hV.1) (cwV 0 hC.2.2.2.2.1 (g_V mw_937 mw_934 mw_935 mw_936 mw_1) rfl rfl rfl (by decide +kernel) ⟨(Nat.le_of_ble_eq_true rfl), (Nat.le_of_ble_eq_true rfl)⟩) hP hD hS hA atX_0 rfl rfl hl.1 rfl (Nat.le_of_ble_eq_true rfl) dL_law_577 hf (fun r1 u H locs hw hP hD hS => ?_)
  obtain ⟨F2, L2, A2, B2⟩ := u
  try dsimp only at hw
  obtain ⟨w3, w4⟩ := hw
  have hV : LV F2 A2 G C := ⟨w3.1, (xX.fr hV.2.1 (w3.2.1 25 (by decide)) (w3.2.1 26 (by decide))), hV.2.2.1, hV.2.2.2.1, hV.2.2.2.2.1, (w3.2.1 1 (by decide)).trans hV.2.2.2.2.2⟩
  have hP : va_P D classes (wX cA ad F2 L2 A2 B2 ++ wM cM aM G LG C BG) H := hP
  have hD : va_D Af (wX cA ad F2 L2 A2 B2 ++ wM cM aM G LG C BG) := hD
  refine lv_pop hx hb dL_law_580 rfl ?_
  refine lv_aload_n hx hb dL_law_581 rfl (lv_at hl 2 rfl) ?_
  refine ly_i (As := []) (rest := []) (wb := wX cA ad F2 L2 A2 B2) (hC.mk hKM) (c_X12_proof_0 l D cM H.size aM G LG C BG  hV.2.2.1) (cwV 0 hC.2.2.2.2.1 (g_V mw_1520 mw_1517 mw_1518 mw_1519 mw_20) rfl rfl rfl (by decide +kernel) ⟨(Nat.le_of_ble_eq_true rfl), (Nat.le_of_ble_eq_true rfl)⟩) hP hD hS hA atM_0 rfl rfl hl.1 rfl (Nat.le_of_ble_eq_true rfl) dL_law_582 hf (fun r5 u H locs hw hP hD hS => ?_)
  obtain ⟨G6, LG6, C6, BG6⟩ := u
  try dsimp only at hw
  have w7 := hw
  have hV : LV F2 A2 G6 C6 := ⟨hV.1, hV.2.1, w7.1, (xM.fr hV.2.2.2.1 (w7.2.1 14 (by decide)) (w7.2.1 15 (by decide))), (LM.fr hV.2.2.2.2.1 (w7.2.1 8 (by decide)) (w7.2.1 14 (by decide)) (w7.2.1 15 (by decide)) (w7.2.2 3 (by decide)) (w7.2.2 4 (by decide)) (w7.2.2 10 (by decide)) (w7.2.2 17 (by decide)) (w7.2.2 27 (by decide)) (w7.2.2 36 (by decide)) (w7.2.2 37 (by decide))), hV.2.2.2.2.2.trans (w7.2.1 18 (by decide)).symm⟩
  have hP : va_P D classes (wX cA ad F2 L2 A2 B2 ++ wM cM aM G6 LG6 C6 BG6) H := hP
  have hD : va_D Af (wX cA ad F2 L2 A2 B2 ++ wM cM aM G6 LG6 C6 BG6) := hD
  refine lv_pop hx hb dL_law_585 rfl ?_
  refine lv_goto (tgt := 1007) hx hb dL_law_586 (by decide) ?_
  exact K cA ad F2 L2 A2 B2 cM aM G6 LG6 C6 BG6 H locs ls hV hKX hKM hP hD hS hl
set_option maxHeartbeats 4000000 in
set_option maxRecDepth 100000 in
theorem law_c15 {p : Program} {e : Env} {s : State} {m : MethodId} {below : List Frame} {meth : Method} {c : Code} {l : Launch} {D : va_G} {b Ls : Nat} {xs : Nat → Int32} {nC nS : Nat} {Q : State → Prop} (hC : LC p s m c b Ls xs) (hL : Ls ≤ 3072) (hf : nC ≤ room_1.cells ∧ nS ≤ room_1.slots) {i : Int32} (hi0 : 0 ≤ i.toInt) (hi6 : i.toInt + 6 ≤ (Ls : Int)) {cA : Nat → ClassId} {ad : Nat → Nat} {F : Nat → Int32} {L : Nat → Int64} {A : Nat → Nat → Int32} {B : Nat → Nat → Int64} {cM : Nat → ClassId} {aM : Nat → Nat} {G : Nat → Int32} {LG : Nat → Int64} {C : Nat → Nat → Int32} {BG : Nat → Nat → Int64} {H : Heap} {locs : List Loc} {ls : Array Slot} (hV : LV F A G C) (hKX : va_K D classes (tysX cA) s) (hKM : va_K D classes (tysM cM) s) (hP : va_P D classes (wX cA ad F L A B ++ wM cM aM G LG C BG) H) (hD : va_D (fun q : Nat => s.heap.size ≤ q) (wX cA ad F L A B ++ wM cM aM G LG C BG)) (hS : va_S (fun q : Nat => s.heap.size ≤ q) s.heap H locs) (hl : lv_has ls 4 [(0, .ref b), (1, .ref (ad 0)), (2, .ref (aM 0)), (3, .int i)]) (K : ∀ (cA : Nat → ClassId) (ad : Nat → Nat) (F : Nat → Int32) (L : Nat → Int64) (A : Nat → Nat → Int32) (B : Nat → Nat → Int64) (cM : Nat → ClassId) (aM : Nat → Nat) (G : Nat → Int32) (LG : Nat → Int64) (C : Nat → Nat → Int32) (BG : Nat → Nat → Int64) (H : Heap) (locs : List Loc) (ls : Array Slot), LV F A G C → va_K D classes (tysX cA) s → va_K D classes (tysM cM) s → va_P D classes (wX cA ad F L A B ++ wM cM aM G LG C BG) H → va_D (fun q : Nat => s.heap.size ≤ q) (wX cA ad F L A B ++ wM cM aM G LG C BG) → va_S (fun q : Nat => s.heap.size ≤ q) s.heap H locs → lv_has ls 4 [(0, .ref b), (1, .ref (ad 0)), (2, .ref (aM 0)), (3, .int i)] → W p l e room_1 s m #[Value.ref b] below meth c H locs nC nS Q (F0 m 1007 ls [])) : W p l e room_1 s m #[Value.ref b] below meth c H locs nC nS Q (F0 m 589 ls []) := by
  have hx := hC.1
  have hb := hC.2.1
  have hXs := hC.2.2.2.2.2.2.1
  have hbl := hC.2.2.2.2.2.2.2
  have hA : ∀ q : Nat, s.heap.size ≤ q → (fun q : Nat => s.heap.size ≤ q) q := fun _ h => h
  have hbA : ¬ (fun q : Nat => s.heap.size ≤ q) b := Nat.not_le.mpr hbl
  generalize (fun q : Nat => s.heap.size ≤ q) = Af at *
  refine lv_aload_n hx hb dL_law_589 rfl (lv_at hl 1 rfl) ?_
  refine lv_aload_n hx hb dL_law_590 rfl (lv_at hl 0 rfl) ?_
  refine lv_iload_n hx hb dL_law_591 rfl (lv_at hl 3 rfl) ?_
  refine lv_iconst (v := 1) hx hb dL_law_592 (by decide) ?_
  refine lv_iadd hx hb dL_law_593 ?_
  refine lv_topi (fun x1 e2 => ?_)
  refine va_sld hx hb hXs hbl hbA hS (law_in hi0 hi6 hL e2 (by decide)) dL_law_594 ?_
  refine lv_topi (fun v3 e4 => ?_)
  refine lx_i (As := [.int v3]) (rest := []) (wb := wM cM aM G LG C BG) (hC.mk hKX) (c_X11_run_0 l D cA H.size ad F L A B (v3) hV.1 hV.2.1) (cwV 1 hC.2.2.2.2.1 (g_V mw_941 mw_938 mw_939 mw_940 mw_1) rfl rfl rfl (by decide +kernel) ⟨(Nat.le_of_ble_eq_true rfl), (Nat.le_of_ble_eq_true rfl)⟩) hP hD hS hA atX_0 rfl rfl hl.1 rfl (Nat.le_of_ble_eq_true rfl) dL_law_595 hf (fun r5 u H locs hw hP hD hS => ?_)
  obtain ⟨F6, L6, A6, B6⟩ := u
  try dsimp only at hw
  obtain ⟨w7, w8⟩ := hw
  have hV : LV F6 A6 G C := ⟨w7.1, w8, hV.2.2.1, hV.2.2.2.1, hV.2.2.2.2.1, (w7.2.1 1 (by decide)).trans hV.2.2.2.2.2⟩
  have hP : va_P D classes (wX cA ad F6 L6 A6 B6 ++ wM cM aM G LG C BG) H := hP
  have hD : va_D Af (wX cA ad F6 L6 A6 B6 ++ wM cM aM G LG C BG) := hD
  refine lv_pop hx hb dL_law_598 rfl ?_
  refine lv_aload_n hx hb dL_law_599 rfl (lv_at hl 2 rfl) ?_
  refine lv_aload_n hx hb dL_law_600 rfl (lv_at hl 0 rfl) ?_
  refine lv_iload_n hx hb dL_law_601 rfl (lv_at hl 3 rfl) ?_
  refine lv_iconst (v := 1) hx hb dL_law_602 (by decide) ?_
  refine lv_iadd hx hb dL_law_603 ?_
  refine lv_topi (fun x9 e10 => ?_)
  refine va_sld hx hb hXs hbl hbA hS (law_in hi0 hi6 hL e10 (by decide)) dL_law_604 ?_
  refine lv_topi (fun v11 e12 => ?_)
  refine ly_i (As := [.int v11]) (rest := []) (wb := wX cA ad F6 L6 A6 B6) (hC.mk hKM) (c_X12_run_0 l D cM H.size aM G LG C BG (v11) hV.2.2.1 hV.2.2.2.1 hV.2.2.2.2.1) (cwV 1 hC.2.2.2.2.1 (g_V mw_1536 mw_1533 mw_1534 mw_1535 mw_20) rfl rfl rfl (by decide +kernel) ⟨(Nat.le_of_ble_eq_true rfl), (Nat.le_of_ble_eq_true rfl)⟩) hP hD hS hA atM_0 rfl rfl hl.1 rfl (Nat.le_of_ble_eq_true rfl) dL_law_605 hf (fun r13 u H locs hw hP hD hS => ?_)
  obtain ⟨G14, LG14, C14, BG14⟩ := u
  try dsimp only at hw
  obtain ⟨w15, w16, w17, w18⟩ := hw
  have hV : LV F6 A6 G14 C14 := ⟨hV.1, hV.2.1, w15.1, w16, w18, hV.2.2.2.2.2.trans (w15.2.1 18 (by decide)).symm⟩
  have hP : va_P D classes (wX cA ad F6 L6 A6 B6 ++ wM cM aM G14 LG14 C14 BG14) H := hP
  have hD : va_D Af (wX cA ad F6 L6 A6 B6 ++ wM cM aM G14 LG14 C14 BG14) := hD
  refine lv_pop hx hb dL_law_608 rfl ?_
  refine lv_goto (tgt := 1007) hx hb dL_law_609 (by decide) ?_
  exact K cA ad F6 L6 A6 B6 cM aM G14 LG14 C14 BG14 H locs ls hV hKX hKM hP hD hS hl
