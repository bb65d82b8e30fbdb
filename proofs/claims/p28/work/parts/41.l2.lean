set_option maxHeartbeats 4000000 in
set_option maxRecDepth 100000 in
theorem law_c16 {p : Program} {e : Env} {s : State} {m : MethodId} {below : List Frame} {meth : Method} {c : Code} {l : Launch} {D : va_G} {b Ls : Nat} {xs : Nat → Int32} {nC nS : Nat} {Q : State → Prop} (hC : LC p s m c b Ls xs) (hL : Ls ≤ 3072) (hf : nC ≤ room_1.cells ∧ nS ≤ room_1.slots) {i : Int32} (hi0 : 0 ≤ i.toInt) (hi6 : i.toInt + 6 ≤ (Ls : Int)) {cA : Nat → ClassId} {ad : Nat → Nat} {F : Nat → Int32} {L : Nat → Int64} {A : Nat → Nat → Int32} {B : Nat → Nat → Int64} {cM : Nat → ClassId} {aM : Nat → Nat} {G : Nat → Int32} {LG : Nat → Int64} {C : Nat → Nat → Int32} {BG : Nat → Nat → Int64} {H : Heap} {locs : List Loc} {ls : Array Slot} (hV : LV F A G C) (hKX : va_K D classes (tysX cA) s) (hKM : va_K D classes (tysM cM) s) (hP : va_P D classes (wX cA ad F L A B ++ wM cM aM G LG C BG) H) (hD : va_D (fun q : Nat => s.heap.size ≤ q) (wX cA ad F L A B ++ wM cM aM G LG C BG)) (hS : va_S (fun q : Nat => s.heap.size ≤ q) s.heap H locs) (hl : lv_has ls 4 [(0, .ref b), (1, .ref (ad 0)), (2, .ref (aM 0)), (3, .int i)]) (K : ∀ (cA : Nat → ClassId) (ad : Nat → Nat) (F : Nat → Int32) (L : Nat → Int64) (A : Nat → Nat → Int32) (B : Nat → Nat → Int64) (cM : Nat → ClassId) (aM : Nat → Nat) (G : Nat → Int32) (LG : Nat → Int64) (C : Nat → Nat → Int32) (BG : Nat → Nat → Int64) (H : Heap) (locs : List Loc) (ls : Array Slot), LV F A G C → va_K D classes (tysX cA) s → va_K D classes (tysM cM) s → va_P D classes (wX cA ad F L A B ++ wM cM aM G LG C BG) H → va_D (fun q : Nat => s.heap.size ≤ q) (wX cA ad F L A B ++ wM cM aM G LG C BG) → va_S (fun q : Nat => s.heap.size ≤ q) s.heap H locs → lv_has ls 4 [(0, .ref b), (1, .ref (ad 0)), (2, .ref (aM 0)), (3, .int i)] → W p l e room_1 s m #[Value.ref b] below meth c H locs nC nS Q (F0 m 1007 ls [])) : W p l e room_1 s m #[Value.ref b] below meth c H locs nC nS Q (F0 m 612 ls []) := by
  have hx := hC.1
  have hb := hC.2.1
  have hXs := hC.2.2.2.2.2.2.1
  have hbl := hC.2.2.2.2.2.2.2
  have hA : ∀ q : Nat, s.heap.size ≤ q → (fun q : Nat => s.heap.size ≤ q) q := fun _ h => h
  have hbA : ¬ (fun q : Nat => s.heap.size ≤ q) b := Nat.not_le.mpr hbl
  generalize (fun q : Nat => s.heap.size ≤ q) = Af at *
  refine lv_aload_n hx hb dL_law_612 rfl (lv_at hl 1 rfl) ?_
  refine lv_aload_n hx hb dL_law_613 rfl (lv_at hl 0 rfl) ?_
  refine lv_iload_n hx hb dL_law_614 rfl (lv_at hl 3 rfl) ?_
  refine lv_iconst (v := 1) hx hb dL_law_615 (by decide) ?_
  refine lv_iadd hx hb dL_law_616 ?_
  refine lv_topi (fun x1 e2 => ?_)
  refine va_sld hx hb hXs hbl hbA hS (law_in hi0 hi6 hL e2 (by decide)) dL_law_617 ?_
  refine lv_topi (fun v3 e4 => ?_)
  refine lv_aload_n hx hb dL_law_618 rfl (lv_at hl 0 rfl) ?_
  refine lv_iload_n hx hb dL_law_619 rfl (lv_at hl 3 rfl) ?_
  refine lv_iconst (v := 2) hx hb dL_law_620 (by decide) ?_
  refine lv_iadd hx hb dL_law_621 ?_
  refine lv_topi (fun x5 e6 => ?_)
  refine va_sld hx hb hXs hbl hbA hS (law_in hi0 hi6 hL e6 (by decide)) dL_law_622 ?_
  refine lv_topi (fun v7 e8 => ?_)
  refine lv_aload_n hx hb dL_law_623 rfl (lv_at hl 0 rfl) ?_
  refine lv_iload_n hx hb dL_law_624 rfl (lv_at hl 3 rfl) ?_
  refine lv_iconst (v := 3) hx hb dL_law_625 (by decide) ?_
  refine lv_iadd hx hb dL_law_626 ?_
  refine lv_topi (fun x9 e10 => ?_)
  refine va_sld hx hb hXs hbl hbA hS (law_in hi0 hi6 hL e10 (by decide)) dL_law_627 ?_
  refine lv_topi (fun v11 e12 => ?_)
  refine lx_i (As := [.int v3, .int v7, .int v11]) (rest := []) (wb := wM cM aM G LG C BG) (hC.mk hKX) (c_X11_more_0 l D cA H.size ad F L A B (v3) (v7) (v11) hV.1 hV.2.1) (cwV 3 hC.2.2.2.2.1 (g_V mw_959 mw_956 mw_957 mw_958 mw_1) rfl rfl rfl (by decide +kernel) ⟨(Nat.le_of_ble_eq_true rfl), (Nat.le_of_ble_eq_true rfl)⟩) hP hD hS hA atX_0 rfl rfl hl.1 rfl (Nat.le_of_ble_eq_true rfl) dL_law_628 hf (fun r13 u H locs hw hP hD hS => ?_)
  obtain ⟨F14, L14, A14, B14⟩ := u
  try dsimp only at hw
  obtain ⟨w15, w16, w17⟩ := hw
  have hV : LV F14 A14 G C := ⟨w15.1, w16, hV.2.2.1, hV.2.2.2.1, hV.2.2.2.2.1, (w15.2.1 1 (by decide)).trans hV.2.2.2.2.2⟩
  have hP : va_P D classes (wX cA ad F14 L14 A14 B14 ++ wM cM aM G LG C BG) H := hP
  have hD : va_D Af (wX cA ad F14 L14 A14 B14 ++ wM cM aM G LG C BG) := hD
  refine lv_pop hx hb dL_law_631 rfl ?_
  refine lv_aload_n hx hb dL_law_632 rfl (lv_at hl 2 rfl) ?_
  refine lv_aload_n hx hb dL_law_633 rfl (lv_at hl 0 rfl) ?_
  refine lv_iload_n hx hb dL_law_634 rfl (lv_at hl 3 rfl) ?_
  refine lv_iconst (v := 1) hx hb dL_law_635 (by decide) ?_
  refine lv_iadd hx hb dL_law_636 ?_
  refine lv_topi (fun x18 e19 => ?_)
  refine va_sld hx hb hXs hbl hbA hS (law_in hi0 hi6 hL e19 (by decide)) dL_law_637 ?_
  refine lv_topi (fun v20 e21 => ?_)
  refine lv_aload_n hx hb dL_law_638 rfl (lv_at hl 0 rfl) ?_
  refine lv_iload_n hx hb dL_law_639 rfl (lv_at hl 3 rfl) ?_
  refine lv_iconst (v := 2) hx hb dL_law_640 (by decide) ?_
  refine lv_iadd hx hb dL_law_641 ?_
  refine lv_topi (fun x22 e23 => ?_)
  refine va_sld hx hb hXs hbl hbA hS (law_in hi0 hi6 hL e23 (by decide)) dL_law_642 ?_
  refine lv_topi (fun v24 e25 => ?_)
  refine lv_aload_n hx hb dL_law_643 rfl (lv_at hl 0 rfl) ?_
  refine lv_iload_n hx hb dL_law_644 rfl (lv_at hl 3 rfl) ?_
  refine lv_iconst (v := 3) hx hb dL_law_645 (by decide) ?_
  refine lv_iadd hx hb dL_law_646 ?_
  refine lv_topi (fun x26 e27 => ?_)
  refine va_sld hx hb hXs hbl hbA hS (law_in hi0 hi6 hL e27 (by decide)) dL_law_647 ?_
  refine lv_topi (fun v28 e29 => ?_)
  refine ly_i (As := [.int v20, .int v24, .int v28]) (rest := []) (wb := wX cA ad F14 L14 A14 B14) (hC.mk hKM) (c_X12_more_0 l D cM H.size aM G LG C BG (v20) (v24) (v28) hV.2.2.1 hV.2.2.2.1 hV.2.2.2.2.1) (cwV 3 hC.2.2.2.2.1 (g_V mw_1548 mw_1545 mw_1546 mw_1547 mw_20) rfl rfl rfl (by decide +kernel) ⟨(Nat.le_of_ble_eq_true rfl), (Nat.le_of_ble_eq_true rfl)⟩) hP hD hS hA atM_0 rfl rfl hl.1 rfl (Nat.le_of_ble_eq_true rfl) dL_law_648 hf (fun r30 u H locs hw hP hD hS => ?_)
  obtain ⟨G31, LG31, C31, BG31⟩ := u
  try dsimp only at hw
  obtain ⟨w32, w33, w34, w35⟩ := hw
  have hV : LV F14 A14 G31 C31 := ⟨hV.1, hV.2.1, w32.1, w33, w35, hV.2.2.2.2.2.trans (w32.2.1 18 (by decide)).symm⟩
  have hP : va_P D classes (wX cA ad F14 L14 A14 B14 ++ wM cM aM G31 LG31 C31 BG31) H := hP
  have hD : va_D Af (wX cA ad F14 L14 A14 B14 ++ wM cM aM G31 LG31 C31 BG31) := hD
  refine lv_pop hx hb dL_law_651 rfl ?_
  refine lv_goto (tgt := 1007) hx hb dL_law_652 (by decide) ?_
  exact K cA ad F14 L14 A14 B14 cM aM G31 LG31 C31 BG31 H locs ls hV hKX hKM hP hD hS hl
set_option maxHeartbeats 4000000 in
set_option maxRecDepth 100000 in
theorem law_c17 {p : Program} {e : Env} {s : State} {m : MethodId} {below : List Frame} {meth : Method} {c : Code} {l : Launch} {D : va_G} {b Ls : Nat} {xs : Nat → Int32} {nC nS : Nat} {Q : State → Prop} (hC : LC p s m c b Ls xs) (hL : Ls ≤ 3072) (hf : nC ≤ room_1.cells ∧ nS ≤ room_1.slots) {i : Int32} (hi0 : 0 ≤ i.toInt) (hi6 : i.toInt + 6 ≤ (Ls : Int)) {cA : Nat → ClassId} {ad : Nat → Nat} {F : Nat → Int32} {L : Nat → Int64} {A : Nat → Nat → Int32} {B : Nat → Nat → Int64} {cM : Nat → ClassId} {aM : Nat → Nat} {G : Nat → Int32} {LG : Nat → Int64} {C : Nat → Nat → Int32} {BG : Nat → Nat → Int64} {H : Heap} {locs : List Loc} {ls : Array Slot} (hV : LV F A G C) (hKX : va_K D classes (tysX cA) s) (hKM : va_K D classes (tysM cM) s) (hP : va_P D classes (wX cA ad F L A B ++ wM cM aM G LG C BG) H) (hD : va_D (fun q : Nat => s.heap.size ≤ q) (wX cA ad F L A B ++ wM cM aM G LG C BG)) (hS : va_S (fun q : Nat => s.heap.size ≤ q) s.heap H locs) (hl : lv_has ls 4 [(0, .ref b), (1, .ref (ad 0)), (2, .ref (aM 0)), (3, .int i)]) (K : ∀ (cA : Nat → ClassId) (ad : Nat → Nat) (F : Nat → Int32) (L : Nat → Int64) (A : Nat → Nat → Int32) (B : Nat → Nat → Int64) (cM : Nat → ClassId) (aM : Nat → Nat) (G : Nat → Int32) (LG : Nat → Int64) (C : Nat → Nat → Int32) (BG : Nat → Nat → Int64) (H : Heap) (locs : List Loc) (ls : Array Slot), LV F A G C → va_K D classes (tysX cA) s → va_K D classes (tysM cM) s → va_P D classes (wX cA ad F L A B ++ wM cM aM G LG C BG) H → va_D (fun q : Nat => s.heap.size ≤ q) (wX cA ad F L A B ++ wM cM aM G LG C BG) → va_S (fun q : Nat => s.heap.size ≤ q) s.heap H locs → lv_has ls 4 [(0, .ref b), (1, .ref (ad 0)), (2, .ref (aM 0)), (3, .int i)] → W p l e room_1 s m #[Value.ref b] below meth c H locs nC nS Q (F0 m 1007 ls [])) : W p l e room_1 s m #[Value.ref b] below meth c H locs nC nS Q (F0 m 655 ls []) := by
  have hx := hC.1
  have hb := hC.2.1
  have hXs := hC.2.2.2.2.2.2.1
  have hbl := hC.2.2.2.2.2.2.2
  have hA : ∀ q : Nat, s.heap.size ≤ q → (fun q : Nat => s.heap.size ≤ q) q := fun _ h => h
  have hbA : ¬ (fun q : Nat => s.heap.size ≤ q) b := Nat.not_le.mpr hbl
  generalize (fun q : Nat => s.heap.size ≤ q) = Af at *
  refine lv_aload_n hx hb dL_law_655 rfl (lv_at hl 1 rfl) ?_
  refine lv_aload_n hx hb dL_law_656 rfl (lv_at hl 0 rfl) ?_
  refine lv_iload_n hx hb dL_law_657 rfl (lv_at hl 3 rfl) ?_
  refine lv_iconst (v := 1) hx hb dL_law_658 (by decide) ?_
  refine lv_iadd hx hb dL_law_659 ?_
  refine lv_topi (fun x1 e2 => ?_)
  refine va_sld hx hb hXs hbl hbA hS (law_in hi0 hi6 hL e2 (by decide)) dL_law_660 ?_
  refine lv_topi (fun v3 e4 => ?_)
  refine lv_aload_n hx hb dL_law_661 rfl (lv_at hl 0 rfl) ?_
  refine lv_iload_n hx hb dL_law_662 rfl (lv_at hl 3 rfl) ?_
  refine lv_iconst (v := 2) hx hb dL_law_663 (by decide) ?_
  refine lv_iadd hx hb dL_law_664 ?_
  refine lv_topi (fun x5 e6 => ?_)
  refine va_sld hx hb hXs hbl hbA hS (law_in hi0 hi6 hL e6 (by decide)) dL_law_665 ?_
  refine lv_topi (fun v7 e8 => ?_)
  refine lx_i (As := [.int v3, .int v7]) (rest := []) (wb := wM cM aM G LG C BG) (hC.mk hKX) (c_X11_breaks_0 l D cA H.size ad F L A B (v3) (v7) hV.1 hV.2.1) (cwV 2 hC.2.2.2.2.1 (g_V mw_963 mw_960 mw_961 mw_962 mw_1) rfl rfl rfl (by decide +kernel) ⟨(Nat.le_of_ble_eq_true rfl), (Nat.le_of_ble_eq_true rfl)⟩) hP hD hS hA atX_0 rfl rfl hl.1 rfl (Nat.le_of_ble_eq_true rfl) dL_law_666 hf (fun r9 u H locs hw hP hD hS => ?_)
  obtain ⟨F10, L10, A10, B10⟩ := u
  try dsimp only at hw
  obtain ⟨w11, w12⟩ := hw
  have hV : LV F10 A10 G C := ⟨w11.1, w12, hV.2.2.1, hV.2.2.2.1, hV.2.2.2.2.1, (w11.2.1 1 (by decide)).trans hV.2.2.2.2.2⟩
  have hP : va_P D classes (wX cA ad F10 L10 A10 B10 ++ wM cM aM G LG C BG) H := hP
  have hD : va_D Af (wX cA ad F10 L10 A10 B10 ++ wM cM aM G LG C BG) := hD
  refine lv_pop hx hb dL_law_669 rfl ?_
  refine lv_aload_n hx hb dL_law_670 rfl (lv_at hl 2 rfl) ?_
  refine lv_aload_n hx hb dL_law_671 rfl (lv_at hl 0 rfl) ?_
  refine lv_iload_n hx hb dL_law_672 rfl (lv_at hl 3 rfl) ?_
  refine lv_iconst (v := 1) hx hb dL_law_673 (by decide) ?_
  refine lv_iadd hx hb dL_law_674 ?_
  refine lv_topi (fun x13 e14 => ?_)
  refine va_sld hx hb hXs hbl hbA hS (law_in hi0 hi6 hL e14 (by decide)) dL_law_675 ?_
  refine lv_topi (fun v15 e16 => ?_)
  refine lv_aload_n hx hb dL_law_676 rfl (lv_at hl 0 rfl) ?_
  refine lv_iload_n hx hb dL_law_677 rfl (lv_at hl 3 rfl) ?_
  refine lv_iconst (v := 2) hx hb dL_law_678 (by decide) ?_
  refine lv_iadd hx hb dL_law_679 ?_
  refine lv_topi (fun x17 e18 => ?_)
  refine va_sld hx hb hXs hbl hbA hS (law_in hi0 hi6 hL e18 (by decide)) dL_law_680 ?_
  refine lv_topi (fun v19 e20 => ?_)
  refine ly_i (As := [.int v15, .int v19]) (rest := []) (wb := wX cA ad F10 L10 A10 B10) (hC.mk hKM) (c_X12_breaks_0 l D cM H.size aM G LG C BG (v15) (v19) hV.2.2.1 hV.2.2.2.1 hV.2.2.2.2.1) (cwV 2 hC.2.2.2.2.1 (g_V mw_1552 mw_1549 mw_1550 mw_1551 mw_20) rfl rfl rfl (by decide +kernel) ⟨(Nat.le_of_ble_eq_true rfl), (Nat.le_of_ble_eq_true rfl)⟩) hP hD hS hA atM_0 rfl rfl hl.1 rfl (Nat.le_of_ble_eq_true rfl) dL_law_681 hf (fun r21 u H locs hw hP hD hS => ?_)
  obtain ⟨G22, LG22, C22, BG22⟩ := u
  try dsimp only at hw
  obtain ⟨w23, w24, w25⟩ := hw
  have hV : LV F10 A10 G22 C22 := ⟨hV.1, hV.2.1, w23.1, w24, w25, hV.2.2.2.2.2.trans (w23.2.1 18 (by decide)).symm⟩
  have hP : va_P D classes (wX cA ad F10 L10 A10 B10 ++ wM cM aM G22 LG22 C22 BG22) H := hP
  have hD : va_D Af (wX cA ad F10 L10 A10 B10 ++ wM cM aM G22 LG22 C22 BG22) := hD
  refine lv_pop hx hb dL_law_684 rfl ?_
  refine lv_goto (tgt := 1007) hx hb dL_law_685 (by decide) ?_
  exact K cA ad F10 L10 A10 B10 cM aM G22 LG22 C22 BG22 H locs ls hV hKX hKM hP hD hS hl
set_option maxHeartbeats 4000000 in
set_option maxRecDepth 100000 in
theorem law_c18 {p : Program} {e : Env} {s : State} {m : MethodId} {below : List Frame} {meth : Method} {c : Code} {l : Launch} {D : va_G} {b Ls : Nat} {xs : Nat → Int32} {nC nS : Nat} {Q : State → Prop} (hC : LC p s m c b Ls xs) (hL : Ls ≤ 3072) (hf : nC ≤ room_1.cells ∧ nS ≤ room_1.slots) {i : Int32} (hi0 : 0 ≤ i.toInt) (hi6 : i.toInt + 6 ≤ (Ls : Int)) {cA : Nat → ClassId} {ad : Nat → Nat} {F : Nat → Int32} {L : Nat → Int64} {A : Nat → Nat → Int32} {B : Nat → Nat → Int64} {cM : Nat → ClassId} {aM : Nat → Nat} {G : Nat → Int32} {LG : Nat → Int64} {C : Nat → Nat → Int32} {BG : Nat → Nat → Int64} {H : Heap} {locs : List Loc} {ls : Array Slot} (hV : LV F A G C) (hKX : va_K D classes (tysX cA) s) (hKM : va_K D classes (tysM cM) s) (hP : va_P D classes (wX cA ad F L A B ++ wM cM aM G LG C BG) H) (hD : va_D (fun q : Nat => s.heap.size ≤ q) (wX cA ad F L A B ++ wM cM aM G LG C BG)) (hS : va_S (fun q : Nat => s.heap.size ≤ q) s.heap H locs) (hl : lv_has ls 4 [(0, .ref b), (1, .ref (ad 0)), (2, .ref (aM 0)), (3, .int i)]) (K : ∀ (cA : Nat → ClassId) (ad : Nat → Nat) (F : Nat → Int32) (L : Nat → Int64) (A : Nat → Nat → Int32) (B : Nat → Nat → Int64) (cM : Nat → ClassId) (aM : Nat → Nat) (G : Nat → Int32) (LG : Nat → Int64) (C : Nat → Nat → Int32) (BG : Nat → Nat → Int64) (H : Heap) (locs : List Loc) (ls : Array Slot), LV F A G C → va_K D classes (tysX cA) s → va_K D classes (tysM cM) s → va_P D classes (wX cA ad F L A B ++ wM cM aM G LG C BG) H → va_D (fun q : Nat => s.heap.size ≤ q) (wX cA ad F L A B ++ wM cM aM G LG C BG) → va_S (fun q : Nat => s.heap.size ≤ q) s.heap H locs → lv_has ls 4 [(0, .ref b), (1, .ref (ad 0)), (2, .ref (aM 0)), (3, .int i)] → W p l e room_1 s m #[Value.ref b] below meth c H locs nC nS Q (F0 m 1007 ls [])) : W p l e room_1 s m #[Value.ref b] below meth c H locs nC nS Q (F0 m 688 ls []) := by
  have hx := hC.1
  have hb := hC.2.1
  have hXs := hC.2.2.2.2.2.2.1
  have hbl := hC.2.2.2.2.2.2.2
  have hA : ∀ q : Nat, s.heap.size ≤ q → (fun q : Nat => s.heap.size ≤ q) q := fun _ h => h
  have hbA : ¬ (fun q : Nat => s.heap.size ≤ q) b := Nat.not_le.mpr hbl
  generalize (fun q : Nat => s.heap.size ≤ q) = Af at *
  refine lv_aload_n hx hb dL_law_688 rfl (lv_at hl 1 rfl) ?_
  refine lx_i (As := []) (rest := []) (wb := wM cM aM G LG C BG) (hC.mk hKX) (c_X11_undo_0 l D cA H.size ad F L A B  hV.1 hV.2.1) (cwV 0 hC.2.2.2.2.1 (g_V mw_975 mw_972 mw_973 mw_974 mw_1) rfl rfl rfl (by decide +kernel) ⟨(Nat.le_of_ble_eq_true rfl), (Nat.le_of_ble_eq_true rfl)⟩) hP hD hS hA atX_0 rfl rfl hl.1 rfl (Nat.le_of_ble_eq_true rfl) dL_law_689 hf (fun r1 u H locs hw hP hD hS => ?_)
  obtain ⟨F2, L2, A2, B2⟩ := u
  try dsimp only at hw
  obtain ⟨w3, w4, w5⟩ := hw
  have hV : LV F2 A2 G C := ⟨w3.1, w4, hV.2.2.1, hV.2.2.2.1, hV.2.2.2.2.1, (w3.2.1 1 (by decide)).trans hV.2.2.2.2.2⟩
  have hP : va_P D classes (wX cA ad F2 L2 A2 B2 ++ wM cM aM G LG C BG) H := hP
  have hD : va_D Af (wX cA ad F2 L2 A2 B2 ++ wM cM aM G LG C BG) := hD
  refine lv_pop hx hb dL_law_692 rfl ?_
  refine lv_aload_n hx hb dL_law_693 rfl (lv_at hl 2 rfl) ?_
  refine ly_i (As := []) (rest := []) (wb := wX cA ad F2 L2 A2 B2) (hC.mk hKM) (c_X12_undo_0 l D cM H.size aM G LG C BG  hV.2.2.1 hV.2.2.2.1 hV.2.2.2.2.1) (cwV 0 hC.2.2.2.2.1 (g_V mw_1524 mw_1521 mw_1522 mw_1523 mw_20) rfl rfl rfl (by decide +kernel) ⟨(Nat.le_of_ble_eq_true rfl), (Nat.le_of_ble_eq_true rfl)⟩) hP hD hS hA atM_0 rfl rfl hl.1 rfl (Nat.le_of_ble_eq_true rfl) dL_law_694 hf (fun r6 u H locs hw hP hD hS => ?_)
  obtain ⟨G7, LG7, C7, BG7⟩ := u
  try dsimp only at hw
  obtain ⟨w8, w9, w10, w11⟩ := hw
  have hV : LV F2 A2 G7 C7 := ⟨hV.1, hV.2.1, w8.1, w9, w11, hV.2.2.2.2.2.trans (w8.2.1 18 (by decide)).symm⟩
  have hP : va_P D classes (wX cA ad F2 L2 A2 B2 ++ wM cM aM G7 LG7 C7 BG7) H := hP
  have hD : va_D Af (wX cA ad F2 L2 A2 B2 ++ wM cM aM G7 LG7 C7 BG7) := hD
  refine lv_pop hx hb dL_law_697 rfl ?_
  refine lv_goto (tgt := 1007) hx hb dL_law_698 (by decide) ?_
  exact K cA ad F2 L2 A2 B2 cM aM G7 LG7 C7 BG7 H locs ls hV hKX hKM hP hD hS hl
set_option maxHeartbeats 4000000 in
set_option maxRecDepth 100000 in
theorem law_c19 {p : Program} {e : Env} {s : State} {m : MethodId} {below : List Frame} {meth : Method} {c : Code} {l : Launch} {D : va_G} {b Ls : Nat} {xs : Nat → Int32} {nC nS : Nat} {Q : State → Prop} (hC : LC p s m c b Ls xs) (hL : Ls ≤ 3072) (hf : nC ≤ room_1.cells ∧ nS ≤ room_1.slots) {i : Int32} (hi0 : 0 ≤ i.toInt) (hi6 : i.toInt + 6 ≤ (Ls : Int)) {cA : Nat → ClassId} {ad : Nat → Nat} {F : Nat → Int32} {L : Nat → Int64} {A : Nat → Nat → Int32} {B : Nat → Nat → Int64} {cM : Nat → ClassId} {aM : Nat → Nat} {G : Nat → Int32} {LG : Nat → Int64} {C : Nat → Nat → Int32} {BG : Nat → Nat → Int64} {H : Heap} {locs : List Loc} {ls : Array Slot} (hV : LV F A G C) (hKX : va_K D classes (tysX cA) s) (hKM : va_K D classes (tysM cM) s) (hP : va_P D classes (wX cA ad F L A B ++ wM cM aM G LG C BG) H) (hD : va_D (fun q : Nat => s.heap.size ≤ q) (wX cA ad F L A B ++ wM cM aM G LG C BG)) (hS : va_S (fun q : Nat => s.heap.size ≤ q) s.heap H locs) (hl : lv_has ls 4 [(0, .ref b), (1, .ref (ad 0)), (2, .ref (aM 0)), (3, .int i)]) (K : ∀ (cA : Nat → ClassId) (ad : Nat → Nat) (F : Nat → Int32) (L : Nat → Int64) (A : Nat → Nat → Int32) (B : Nat → Nat → Int64) (cM : Nat → ClassId) (aM : Nat → Nat) (G : Nat → Int32) (LG : Nat → Int64) (C : Nat → Nat → Int32) (BG : Nat → Nat → Int64) (H : Heap) (locs : List Loc) (ls : Array Slot), LV F A G C → va_K D classes (tysX cA) s → va_K D classes (tysM cM) s → va_P D classes (wX cA ad F L A B ++ wM cM aM G LG C BG) H → va_D (fun q : Nat => s.heap.size ≤ q) (wX cA ad F L A B ++ wM cM aM G LG C BG) → va_S (fun q : Nat => s.heap.size ≤ q) s.heap H locs → lv_has ls 4 [(0, .ref b), (1, .ref (ad 0)), (2, .ref (aM 0)), (3, .int i)] → W p l e room_1 s m #[Value.ref b] below meth c H locs nC nS Q (F0 m 1007 ls [])) : W p l e room_1 s m #[Value.ref b] below meth c H locs nC nS Q (F0 m 701 ls []) := by
  have hx := hC.1
  have hb := hC.2.1
  have hXs := hC.2.2.2.2.2.2.1
  have hbl := hC.2.2.2.2.2.2.2
  have hA : ∀ q : Nat, s.heap.size ≤ q → (fun q : Nat => s.heap.size ≤ q) q := fun _ h => h
  have hbA : ¬ (fun q : Nat => s.heap.size ≤ q) b := Nat.not_le.mpr hbl
  generalize (fun q : Nat => s.heap.size ≤ q) = Af at *
  refine lv_aload_n hx hb dL_law_701 rfl (lv_at hl 1 rfl) ?_
  refine lx_i (As := []) (rest := []) (wb := wM cM aM G LG C BG) (hC.mk hKX) (c_X11_redo_0 l D cA H.size ad F L A B  hV.1 hV.2.1) (cwV 0 hC.2.2.2.2.1 (g_V mw_987 mw_984 mw_985 mw_986 mw_1) rfl rfl rfl (by decide +kernel) ⟨(Nat.le_of_ble_eq_true rfl), (Nat.le_of_ble_eq_true rfl)⟩) hP hD hS hA atX_0 rfl rfl hl.1 rfl (Nat.le_of_ble_eq_true rfl) dL_law_702 hf (fun r1 u H locs hw hP hD hS => ?_)
  obtain ⟨F2, L2, A2, B2⟩ := u
  try dsimp only at hw
  obtain ⟨w3, w4, w5⟩ := hw
  have hV : LV F2 A2 G C := ⟨w3.1, w4, hV.2.2.1, hV.2.2.2.1, hV.2.2.2.2.1, (w3.2.1 1 (by decide)).trans hV.2.2.2.2.2⟩
  have hP : va_P D classes (wX cA ad F2 L2 A2 B2 ++ wM cM aM G LG C BG) H := hP
  have hD : va_D Af (wX cA ad F2 L2 A2 B2 ++ wM cM aM G LG C BG) := hD
  refine lv_pop hx hb dL_law_705 rfl ?_
  refine lv_aload_n hx hb dL_law_706 rfl (lv_at hl 2 rfl) ?_
  refine ly_i (As := []) (rest := []) (wb := wX cA ad F2 L2 A2 B2) (hC.mk hKM) (c_X12_redo_0 l D cM H.size aM G LG C BG  hV.2.2.1 hV.2.2.2.1 hV.2.2.2.2.1) (cwV 0 hC.2.2.2.2.1 (g_V mw_1532 mw_1529 mw_1530 mw_1531 mw_20) rfl rfl rfl (by decide +kernel) ⟨(Nat.le_of_ble_eq_true rfl), (Nat.le_of_ble_eq_true rfl)⟩) hP hD hS hA atM_0 rfl rfl hl.1 rfl (Nat.le_of_ble_eq_true rfl) dL_law_707 hf (fun r6 u H locs hw hP hD hS => ?_)
  obtain ⟨G7, LG7, C7, BG7⟩ := u
  try dsimp only at hw
  obtain ⟨w8, w9, w10, w11⟩ := hw
  have hV : LV F2 A2 G7 C7 := ⟨hV.1, hV.2.1, w8.1, w9, w11, hV.2.2.2.2.2.trans (w8.2.1 18 (by decide)).symm⟩
  have hP : va_P D classes (wX cA ad F2 L2 A2 B2 ++ wM cM aM G7 LG7 C7 BG7) H := hP
  have hD : va_D Af (wX cA ad F2 L2 A2 B2 ++ wM cM aM G7 LG7 C7 BG7) := hD
  refine lv_pop hx hb dL_law_710 rfl ?_
  refine lv_goto (tgt := 1007) hx hb dL_law_711 (by decide) ?_
  exact K cA ad F2 L2 A2 B2 cM aM G7 LG7 C7 BG7 H locs ls hV hKX hKM hP hD hS hl
set_option maxHeartbeats 4000000 in
set_option maxRecDepth 100000 in
theorem law_c20 {p : Program} {e : Env} {s : State} {m : MethodId} {below : List Frame} {meth : Method} {c : Code} {l : Launch} {D : va_G} {b Ls : Nat} {xs : Nat → Int32} {nC nS : Nat} {Q : State → Prop} (hC : LC p s m c b Ls xs) (hL : Ls ≤ 3072) (hf : nC ≤ room_1.cells ∧ nS ≤ room_1.slots) {i : Int32} (hi0 : 0 ≤ i.toInt) (hi6 : i.toInt + 6 ≤ (Ls : Int)) {cA : Nat → ClassId} {ad : Nat → Nat} {F : Nat → Int32} {L : Nat → Int64} {A : Nat → Nat → Int32} {B : Nat → Nat → Int64} {cM : Nat → ClassId} {aM : Nat → Nat} {G : Nat → Int32} {LG : Nat → Int64} {C : Nat → Nat → Int32} {BG : Nat → Nat → Int64} {H : Heap} {locs : List Loc} {ls : Array Slot} (hV : LV F A G C) (hKX : va_K D classes (tysX cA) s) (hKM : va_K D classes (tysM cM) s) (hP : va_P D classes (wX cA ad F L A B ++ wM cM aM G LG C BG) H) (hD : va_D (fun q : Nat => s.heap.size ≤ q) (wX cA ad F L A B ++ wM cM aM G LG C BG)) (hS : va_S (fun q : Nat => s.heap.size ≤ q) s.heap H locs) (hl : lv_has ls 4 [(0, .ref b), (1, .ref (ad 0)), (2, .ref (aM 0)), (3, .int i)]) (K : ∀ (cA : Nat → ClassId) (ad : Nat → Nat) (F : Nat → Int32) (L : Nat → Int64) (A : Nat → Nat → Int32) (B : Nat → Nat → Int64) (cM : Nat → ClassId) (aM : Nat → Nat) (G : Nat → Int32) (LG : Nat → Int64) (C : Nat → Nat → Int32) (BG : Nat → Nat → Int64) (H : Heap) (locs : List Loc) (ls : Array Slot), LV F A G C → va_K D classes (tysX cA) s → va_K D classes (tysM cM) s → va_P D classes (wX cA ad F L A B ++ wM cM aM G LG C BG) H → va_D (fun q : Nat => s.heap.size ≤ q) (wX cA ad F L A B ++ wM cM aM G LG C BG) → va_S (fun q : Nat => s.heap.size ≤ q) s.heap H locs → lv_has ls 4 [(0, .ref b), (1, .ref (ad 0)), (2, .ref (aM 0)), (3, .int i)] → W p l e room_1 s m #[Value.ref b] below meth c H locs nC nS Q (F0 m 1007 ls [])) : W p l e room_1 s m #[Value.ref b] below meth c H locs nC nS Q (F0 m 714 ls []) := by
  have hx := hC.1
  have hb := hC.2.1
  have hXs := hC.2.2.2.2.2.2.1
  have hbl := hC.2.2.2.2.2.2.2
  have hA : ∀ q : Nat, s.heap.size ≤ q → (fun q : Nat => s.heap.size ≤ q) q := fun _ h => h
  have hbA : ¬ (fun q : Nat => s.heap.size ≤ q) b := Nat.not_le.mpr hbl
  generalize (fun q : Nat => s.heap.size ≤ q) = Af at *
  refine lv_aload_n hx hb dL_law_714 rfl (lv_at hl 1 rfl) ?_
  refine lv_aload_n hx hb dL_law_715 rfl (lv_at hl 0 rfl) ?_
  refine lv_iload_n hx hb dL_law_716 rfl (lv_at hl 3 rfl) ?_
  refine lv_iconst (v := 1) hx hb dL_law_717 (by decide) ?_
  refine lv_iadd hx hb dL_law_718 ?_
  refine lv_topi (fun x1 e2 => ?_)
  refine va_sld hx hb hXs hbl hbA hS (law_in hi0 hi6 hL e2 (by decide)) dL_law_719 ?_
  refine lv_topi (fun v3 e4 => ?_)
  refine lx_i (As := [.int v3]) (rest := []) (wb := wM cM aM G LG C BG) (hC.mk hKX) (c_X11_round_0 l D cA H.size ad F L A B (v3) hV.1) (cwV 1 hC.2.2.2.2.1 (g_V mw_995 mw_992 mw_993 mw_994 mw_1) rfl rfl rfl (by decide +kernel) ⟨(Nat.le_of_ble_eq_true rfl), (Nat.le_of_ble_eq_true rfl)⟩) hP hD hS hA atX_0 rfl rfl hl.1 rfl (Nat.le_of_ble_eq_true rfl) dL_law_720 hf (fun r5 u H locs hw hP hD hS => ?_)
  obtain ⟨F6, L6, A6, B6⟩ := u
  try dsimp only at hw
  obtain ⟨w7, w8⟩ := hw
  have hV : LV F6 A6 G C := ⟨w7.1, (xX.fr hV.2.1 (w7.2.1 25 (by decide)) (w7.2.1 26 (by decide))), hV.2.2.1, hV.2.2.2.1, hV.2.2.2.2.1, (w7.2.1 1 (by decide)).trans hV.2.2.2.2.2⟩
  have hP : va_P D classes (wX cA ad F6 L6 A6 B6 ++ wM cM aM G LG C BG) H := hP
  have hD : va_D Af (wX cA ad F6 L6 A6 B6 ++ wM cM aM G LG C BG) := hD
  refine lv_pop hx hb dL_law_723 rfl ?_
  refine lv_aload_n hx hb dL_law_724 rfl (lv_at hl 2 rfl) ?_
  refine lv_aload_n hx hb dL_law_725 rfl (lv_at hl 0 rfl) ?_
  refine lv_iload_n hx hb dL_law_726 rfl (lv_at hl 3 rfl) ?_
  refine lv_iconst (v := 1) hx hb dL_law_727 (by decide) ?_
  refine lv_iadd hx hb dL_law_728 ?_
  refine lv_topi (fun x9 e10 => ?_)
  refine va_sld hx hb hXs hbl hbA hS (law_in hi0 hi6 hL e10 (by decide)) dL_law_729 ?_
  refine lv_topi (fun v11 e12 => ?_)
  refine ly_i (As := [.int v11]) (rest := []) (wb := wX cA ad F6 L6 A6 B6) (hC.mk hKM) (c_X12_round_0 l D cM H.size aM G LG C BG (v11) hV.2.2.1) (cwV 1 hC.2.2.2.2.1 (g_V mw_1556 mw_1553 mw_1554 mw_1555 mw_20) rfl rfl rfl (by decide +kernel) ⟨(Nat.le_of_ble_eq_true rfl), (Nat.le_of_ble_eq_true rfl)⟩) hP hD hS hA atM_0 rfl rfl hl.1 rfl (Nat.le_of_ble_eq_true rfl) dL_law_730 hf (fun r13 u H locs hw hP hD hS => ?_)
  obtain ⟨G14, LG14, C14, BG14⟩ := u
  try dsimp only at hw
  obtain ⟨w15, w16⟩ := hw
  have hV : LV F6 A6 G14 C14 := ⟨hV.1, hV.2.1, w15.1, (xM.fr hV.2.2.2.1 (w15.2.1 14 (by decide)) (w15.2.1 15 (by decide))), (LM.fr hV.2.2.2.2.1 (w15.2.1 8 (by decide)) (w15.2.1 14 (by decide)) (w15.2.1 15 (by decide)) (w15.2.2 3 (by decide)) (w15.2.2 4 (by decide)) (w15.2.2 10 (by decide)) (w15.2.2 17 (by decide)) (w15.2.2 27 (by decide)) (w15.2.2 36 (by decide)) (w15.2.2 37 (by decide))), hV.2.2.2.2.2.trans (w15.2.1 18 (by decide)).symm⟩
  have hP : va_P D classes (wX cA ad F6 L6 A6 B6 ++ wM cM aM G14 LG14 C14 BG14) H := hP
  have hD : va_D Af (wX cA ad F6 L6 A6 B6 ++ wM cM aM G14 LG14 C14 BG14) := hD
  refine lv_pop hx hb dL_law_733 rfl ?_
  refine lv_goto (tgt := 1007) hx hb dL_law_734 (by decide) ?_
  exact K cA ad F6 L6 A6 B6 cM aM G14 LG14 C14 BG14 H locs ls hV hKX hKM hP hD hS hl
set_option maxHeartbeats 4000000 in
set_option maxRecDepth 100000 in
theorem law_c21 {p : Program} {e : Env} {s : State} {m : MethodId} {below : List Frame} {meth : Method} {c : Code} {l : Launch} {D : va_G} {b Ls : Nat} {xs : Nat → Int32} {nC nS : Nat} {Q : State → Prop} (hC : LC p s m c b Ls xs) (hL : Ls ≤ 3072) (hf : nC ≤ room_1.cells ∧ nS ≤ room_1.slots) {i : Int32} (hi0 : 0 ≤ i.toInt) (hi6 : i.toInt + 6 ≤ (Ls : Int)) {cA : Nat → ClassId} {ad : Nat → Nat} {F : Nat → Int32} {L : Nat → Int64} {A : Nat → Nat → Int32} {B : Nat → Nat → Int64} {cM : Nat → ClassId} {aM : Nat → Nat} {G : Nat → Int32} {LG : Nat → Int64} {C : Nat → Nat → Int32} {BG : Nat → Nat → Int64} {H : Heap} {locs : List Loc} {ls : Array Slot} (hV : LV F A G C) (hKX : va_K D classes (tysX cA) s) (hKM : va_K D classes (tysM cM) s) (hP : va_P D classes (wX cA ad F L A B ++ wM cM aM G LG C BG) H) (hD : va_D (fun q : Nat => s.heap.size ≤ q) (wX cA ad F L A B ++ wM cM aM G LG C BG)) (hS : va_S (fun q : Nat => s.heap.size ≤ q) s.heap H locs) (hl : lv_has ls 4 [(0, .ref b), (1, .ref (ad 0)), (2, .ref (aM 0)), (3, .int i)]) (K : ∀ (cA : Nat → ClassId) (ad : Nat → Nat) (F : Nat → Int32) (L : Nat → Int64) (A : Nat → Nat → Int32) (B : Nat → Nat → Int64) (cM : Nat → ClassId) (aM : Nat → Nat) (G : Nat → Int32) (LG : Nat → Int64) (C : Nat → Nat → Int32) (BG : Nat → Nat → Int64) (H : Heap) (locs : List Loc) (ls : Array Slot), LV F A G C → va_K D classes (tysX cA) s → va_K D classes (tysM cM) s → va_P D classes (wX cA ad F L A B ++ wM cM aM G LG C BG) H → va_D (fun q : Nat => s.heap.size ≤ q) (wX cA ad F L A B ++ wM cM aM G LG C BG) → va_S (fun q : Nat => s.heap.size ≤ q) s.heap H locs → lv_has ls 4 [(0, .ref b), (1, .ref (ad 0)), (2, .ref (aM 0)), (3, .int i)] → W p l e room_1 s m #[Value.ref b] below meth c H locs nC nS Q (F0 m 1007 ls [])) : W p l e room_1 s m #[Value.ref b] below meth c H locs nC nS Q (F0 m 737 ls []) := by
  have hx := hC.1
  have hb := hC.2.1
  have hXs := hC.2.2.2.2.2.2.1
  have hbl := hC.2.2.2.2.2.2.2
  have hA : ∀ q : Nat, s.heap.size ≤ q → (fun q : Nat => s.heap.size ≤ q) q := fun _ h => h
  have hbA : ¬ (fun q : Nat => s.heap.size ≤ q) b := Nat.not_le.mpr hbl
  generalize (fun q : Nat => s.heap.size ≤ q) = Af at *
  refine lv_aload_n hx hb dL_law_737 rfl (lv_at hl 1 rfl) ?_
  refine lv_aload_n hx hb dL_law_738 rfl (lv_at hl 0 rfl) ?_
  refine lv_iload_n hx hb dL_law_739 rfl (lv_at hl 3 rfl) ?_
  refine lv_iconst (v := 1) hx hb dL_law_740 (by decide) ?_
  refine lv_iadd hx hb dL_law_741 ?_
  refine lv_topi (fun x1 e2 => ?_)
  refine va_sld hx hb hXs hbl hbA hS (law_in hi0 hi6 hL e2 (by decide)) dL_law_742 ?_
  refine lv_topi (fun v3 e4 => ?_)
  refine lv_aload_n hx hb dL_law_743 rfl (lv_at hl 0 rfl) ?_
  refine lv_iload_n hx hb dL_law_744 rfl (lv_at hl 3 rfl) ?_
  refine lv_iconst (v := 2) hx hb dL_law_745 (by decide) ?_
  refine lv_iadd hx hb dL_law_746 ?_
  refine lv_topi (fun x5 e6 => ?_)
  refine va_sld hx hb hXs hbl hbA hS (law_in hi0 hi6 hL e6 (by decide)) dL_law_747 ?_
  refine lv_topi (fun v7 e8 => ?_)
  refine lx_i (As := [.int v3, .int v7]) (rest := []) (wb := wM cM aM G LG C BG) (hC.mk hKX) (c_X11_pair_0 l D cA H.size ad F L A B (v3) (v7) hV.1) (cwV 2 hC.2.2.2.2.1 (g_V mw_1003 mw_1000 mw_1001 mw_1002 mw_1) rfl rfl rfl (by decide +kernel) ⟨(Nat.le_of_ble_eq_true rfl), (Nat.le_of_ble_eq_true rfl)⟩) hP hD hS hA atX_0 rfl rfl hl.1 rfl (Nat.le_of_ble_eq_true rfl) dL_law_748 hf (fun r9 u H locs hw hP hD hS => ?_)
  obtain ⟨F10, L10, A10, B10⟩ := u
  try dsimp only at hw
  obtain ⟨w11, w12⟩ := hw
  have hV : LV F10 A10 G C := ⟨w11.1, (xX.fr hV.2.1 (w11.2.1 25 (by decide)) (w11.2.1 26 (by decide))), hV.2.2.1, hV.2.2.2.1, hV.2.2.2.2.1, (w11.2.1 1 (by decide)).trans hV.2.2.2.2.2⟩
  have hP : va_P D classes (wX cA ad F10 L10 A10 B10 ++ wM cM aM G LG C BG) H := hP
  have hD : va_D Af (wX cA ad F10 L10 A10 B10 ++ wM cM aM G LG C BG) := hD
  refine lv_pop hx hb dL_law_751 rfl ?_
  refine lv_aload_n hx hb dL_law_752 rfl (lv_at hl 2 rfl) ?_
  refine lv_aload_n hx hb dL_law_753 rfl (lv_at hl 0 rfl) ?_
  refine lv_iload_n hx hb dL_law_754 rfl (lv_at hl 3 rfl) ?_
  refine lv_iconst (v := 1) hx hb dL_law_755 (by decide) ?_
  refine lv_iadd hx hb dL_law_756 ?_
  refine lv_topi (fun x13 e14 => ?_)
  refine va_sld hx hb hXs hbl hbA hS (law_in hi0 hi6 hL e14 (by decide)) dL_law_757 ?_
  refine lv_topi (fun v15 e16 => ?_)
  refine lv_aload_n hx hb dL_law_758 rfl (lv_at hl 0 rfl) ?_
  refine lv_iload_n hx hb dL_law_759 rfl (lv_at hl 3 rfl) ?_
  refine lv_iconst (v := 2) hx hb dL_law_760 (by decide) ?_
  refine lv_iadd hx hb dL_law_761 ?_
  refine lv_topi (fun x17 e18 => ?_)
  refine va_sld hx hb hXs hbl hbA hS (law_in hi0 hi6 hL e18 (by decide)) dL_law_762 ?_
  refine lv_topi (fun v19 e20 => ?_)
  refine ly_i (As := [.int v15, .int v19]) (rest := []) (wb := wX cA ad F10 L10 A10 B10) (hC.mk hKM) (c_X12_pair_0 l D cM H.size aM G LG C BG (v15) (v19) hV.2.2.1) (cwV 2 hC.2.2.2.2.1 (g_V mw_1560 mw_1557 mw_1558 mw_1559 mw_20) rfl rfl rfl (by decide +kernel) ⟨(Nat.le_of_ble_eq_true rfl), (Nat.le_of_ble_eq_true rfl)⟩) hP hD hS hA atM_0 rfl rfl hl.1 rfl (Nat.le_of_ble_eq_true rfl) dL_law_763 hf (fun r21 u H locs hw hP hD hS => ?_)
  obtain ⟨G22, LG22, C22, BG22⟩ := u
  try dsimp only at hw
  obtain ⟨w23, w24⟩ := hw
  have hV : LV F10 A10 G22 C22 := ⟨hV.1, hV.2.1, w23.1, (xM.fr hV.2.2.2.1 (w23.2.1 14 (by decide)) (w23.2.1 15 (by decide))), (LM.fr hV.2.2.2.2.1 (w23.2.1 8 (by decide)) (w23.2.1 14 (by decide)) (w23.2.1 15 (by decide)) (w23.2.2 3 (by decide)) (w23.2.2 4 (by decide)) (w23.2.2 10 (by decide)) (w23.2.2 17 (by decide)) (w23.2.2 27 (by decide)) (w23.2.2 36 (by decide)) (w23.2.2 37 (by decide))), hV.2.2.2.2.2.trans (w23.2.1 18 (by decide)).symm⟩
  have hP : va_P D classes (wX cA ad F10 L10 A10 B10 ++ wM cM aM G22 LG22 C22 BG22) H := hP
  have hD : va_D Af (wX cA ad F10 L10 A10 B10 ++ wM cM aM G22 LG22 C22 BG22) := hD
  refine lv_pop hx hb dL_law_766 rfl ?_
  refine lv_goto (tgt := 1007) hx hb dL_law_767 (by decide) ?_
  exact K cA ad F10 L10 A10 B10 cM aM G22 LG22 C22 BG22 H locs ls hV hKX hKM hP hD hS hl
set_option maxHeartbeats 4000000 in
set_option maxRecDepth 100000 in
theorem law_c22 {p : Program} {e : Env} {s : State} {m : MethodId} {below : List Frame} {meth : Method} {c : Code} {l : Launch} {D : va_G} {b Ls : Nat} {xs : Nat → Int32} {nC nS : Nat} {Q : State → Prop} (hC : LC p s m c b Ls xs) (hL : Ls ≤ 3072) (hf : nC ≤ room_1.cells ∧ nS ≤ room_1.slots) {i : Int32} (hi0 : 0 ≤ i.toInt) (hi6 : i.toInt + 6 ≤ (Ls : Int)) {cA : Nat → ClassId} {ad : Nat → Nat} {F : Nat → Int32} {L : Nat → Int64} {A : Nat → Nat → Int32} {B : Nat → Nat → Int64} {cM : Nat → ClassId} {aM : Nat → Nat} {G : Nat → Int32} {LG : Nat → Int64} {C : Nat → Nat → Int32} {BG : Nat → Nat → Int64} {H : Heap} {locs : List Loc} {ls : Array Slot} (hV : LV F A G C) (hKX : va_K D classes (tysX cA) s) (hKM : va_K D classes (tysM cM) s) (hP : va_P D classes (wX cA ad F L A B ++ wM cM aM G LG C BG) H) (hD : va_D (fun q : Nat => s.heap.size ≤ q) (wX cA ad F L A B ++ wM cM aM G LG C BG)) (hS : va_S (fun q : Nat => s.heap.size ≤ q) s.heap H locs) (hl : lv_has ls 4 [(0, .ref b), (1, .ref (ad 0)), (2, .ref (aM 0)), (3, .int i)]) (K : ∀ (cA : Nat → ClassId) (ad : Nat → Nat) (F : Nat → Int32) (L : Nat → Int64) (A : Nat → Nat → Int32) (B : Nat → Nat → Int64) (cM : Nat → ClassId) (aM : Nat → Nat) (G : Nat → Int32) (LG : Nat → Int64) (C : Nat → Nat → Int32) (BG : Nat → Nat → Int64) (H : Heap) (locs : List Loc) (ls : Array Slot), LV F A G C → va_K D classes (tysX cA) s → va_K D classes (tysM cM) s → va_P D classes (wX cA ad F L A B ++ wM cM aM G LG C BG) H → va_D (fun q : Nat => s.heap.size ≤ q) (wX cA ad F L A B ++ wM cM aM G LG C BG) → va_S (fun q : Nat => s.heap.size ≤ q) s.heap H locs → lv_has ls 4 [(0, .ref b), (1, .ref (ad 0)), (2, .ref (aM 0)), (3, .int i)] → W p l e room_1 s m #[Value.ref b] below meth c H locs nC nS Q (F0 m 1007 ls [])) : W p l e room_1 s m #[Value.ref b] below meth c H locs nC nS Q (F0 m 770 ls []) := by
  have hx := hC.1
  have hb := hC.2.1
  have hXs := hC.2.2.2.2.2.2.1
  have hbl := hC.2.2.2.2.2.2.2
  have hA : ∀ q : Nat, s.heap.size ≤ q → (fun q : Nat => s.heap.size ≤ q) q := fun _ h => h
  have hbA : ¬ (fun q : Nat => s.heap.size ≤ q) b := Nat.not_le.mpr hbl
  generalize (fun q : Nat => s.heap.size ≤ q) = Af at *
  refine lv_aload_n hx hb dL_law_770 rfl (lv_at hl 1 rfl) ?_
  refine lx_i (As := []) (rest := []) (wb := wM cM aM G LG C BG) (hC.mk hKX) (c_X11_hush_0 l D cA H.size ad F L A B  hV.1) (cwV 0 hC.2.2.2.2.1 (g_V mw_1011 mw_1008 mw_1009 mw_1010 mw_1) rfl rfl rfl (by decide +kernel) ⟨(Nat.le_of_ble_eq_true rfl), (Nat.le_of_ble_eq_true rfl)⟩) hP hD hS hA atX_0 rfl rfl hl.1 rfl (Nat.le_of_ble_eq_true rfl) dL_law_771 hf (fun r1 u H locs hw hP hD hS => ?_)
  obtain ⟨F2, L2, A2, B2⟩ := u
  try dsimp only at hw
  obtain ⟨w3, w4⟩ := hw
  have hV : LV F2 A2 G C := ⟨w3.1, (xX.fr hV.2.1 (w3.2.1 25 (by decide)) (w3.2.1 26 (by decide))), hV.2.2.1, hV.2.2.2.1, hV.2.2.2.2.1, (w3.2.1 1 (by decide)).trans hV.2.2.2.2.2⟩
  have hP : va_P D classes (wX cA ad F2 L2 A2 B2 ++ wM cM aM G LG C BG) H := hP
  have hD : va_D Af (wX cA ad F2 L2 A2 B2 ++ wM cM aM G LG C BG) := hD
  refine lv_pop hx hb dL_law_774 rfl ?_
  refine lv_aload_n hx hb dL_law_775 rfl (lv_at hl 2 rfl) ?_
  refine ly_i (As := []) (rest := []) (wb := wX cA ad F2 L2 A2 B2) (hC.mk hKM) (c_X12_hush_0 l D cM H.size aM G LG C BG  hV.2.2.1) (cwV 0 hC.2.2.2.2.1 (g_V mw_1564 mw_1561 mw_1562 mw_1563 mw_20) rfl rfl rfl (by decide +kernel) ⟨(Nat.le_of_ble_eq_true rfl), (Nat.le_of_ble_eq_true rfl)⟩) hP hD hS hA atM_0 rfl rfl hl.1 rfl (Nat.le_of_ble_eq_true rfl) dL_law_776 hf (fun r5 u H locs hw hP hD hS => ?_)
  obtain ⟨G6, LG6, C6, BG6⟩ := u
  try dsimp only at hw
  obtain ⟨w7, w8⟩ := hw
  have hV : LV F2 A2 G6 C6 := ⟨hV.1, hV.2.1, w7.1, (xM.fr hV.2.2.2.1 (w7.2.1 14 (by decide)) (w7.2.1 15 (by decide))), (LM.fr hV.2.2.2.2.1 (w7.2.1 8 (by decide)) (w7.2.1 14 (by decide)) (w7.2.1 15 (by decide)) (w7.2.2 3 (by decide)) (w7.2.2 4 (by decide)) (w7.2.2 10 (by decide)) (w7.2.2 17 (by decide)) (w7.2.2 27 (by decide)) (w7.2.2 36 (by decide)) (w7.2.2 37 (by decide))), hV.2.2.2.2.2.trans (w7.2.1 18 (by decide)).symm⟩
  have hP : va_P D classes (wX cA ad F2 L2 A2 B2 ++ wM cM aM G6 LG6 C6 BG6) H := hP
  have hD : va_D Af (wX cA ad F2 L2 A2 B2 ++ wM cM aM G6 LG6 C6 BG6) := hD
  refine lv_pop hx hb dL_law_779 rfl ?_
  refine lv_goto (tgt := 1007) hx hb dL_law_780 (by decide) ?_
  exact K cA ad F2 L2 A2 B2 cM aM G6 LG6 C6 BG6 H locs ls hV hKX hKM hP hD hS hl
set_option maxHeartbeats 4000000 in
set_option maxRecDepth 100000 in
theorem law_c23 {p : Program} {e : Env} {s : State} {m : MethodId} {below : List Frame} {meth : Method} {c : Code} {l : Launch} {D : va_G} {b Ls : Nat} {xs : Nat → Int32} {nC nS : Nat} {Q : State → Prop} (hC : LC p s m c b Ls xs) (hL : Ls ≤ 3072) (hf : nC ≤ room_1.cells ∧ nS ≤ room_1.slots) {i : Int32} (hi0 : 0 ≤ i.toInt) (hi6 : i.toInt + 6 ≤ (Ls : Int)) {cA : Nat → ClassId} {ad : Nat → Nat} {F : Nat → Int32} {L : Nat → Int64} {A : Nat → Nat → Int32} {B : Nat → Nat → Int64} {cM : Nat → ClassId} {aM : Nat → Nat} {G : Nat → Int32} {LG : Nat → Int64} {C : Nat → Nat → Int32} {BG : Nat → Nat → Int64} {H : Heap} {locs : List Loc} {ls : Array Slot} (hV : LV F A G C) (hKX : va_K D classes (tysX cA) s) (hKM : va_K D classes (tysM cM) s) (hP : va_P D classes (wX cA ad F L A B ++ wM cM aM G LG C BG) H) (hD : va_D (fun q : Nat => s.heap.size ≤ q) (wX cA ad F L A B ++ wM cM aM G LG C BG)) (hS : va_S (fun q : Nat => s.heap.size ≤ q) s.heap H locs) (hl : lv_has ls 4 [(0, .ref b), (1, .ref (ad 0)), (2, .ref (aM 0)), (3, .int i)]) (K : ∀ (cA : Nat → ClassId) (ad : Nat → Nat) (F : Nat → Int32) (L : Nat → Int64) (A : Nat → Nat → Int32) (B : Nat → Nat → Int64) (cM : Nat → ClassId) (aM : Nat → Nat) (G : Nat → Int32) (LG : Nat → Int64) (C : Nat → Nat → Int32) (BG : Nat → Nat → Int64) (H : Heap) (locs : List Loc) (ls : Array Slot), LV F A G C → va_K D classes (tysX cA) s → va_K D classes (tysM cM) s → va_P D classes (wX cA ad F L A B ++ wM cM aM G LG C BG) H → va_D (fun q : Nat => s.heap.size ≤ q) (wX cA ad F L A B ++ wM cM aM G LG C BG) → va_S (fun q : Nat => s.heap.size ≤ q) s.heap H locs → lv_has ls 4 [(0, .ref b), (1, .ref (ad 0)), (2, .ref (aM 0)), (3, .int i)] → W p l e room_1 s m #[Value.ref b] below meth c H locs nC nS Q (F0 m 1007 ls [])) : W p l e room_1 s m #[Value.ref b] below meth c H locs nC nS Q (F0 m 783 ls []) := by
  have hx := hC.1
  have hb := hC.2.1
  have hXs := hC.2.2.2.2.2.2.1
  have hbl := hC.2.2.2.2.2.2.2
  have hA : ∀ q : Nat, s.heap.size ≤ q → (fun q : Nat => s.heap.size ≤ q) q := fun _ h => h
  have hbA : ¬ (fun q : Nat => s.heap.size ≤ q) b := Nat.not_le.mpr hbl
  generalize (fun q : Nat => s.heap.size ≤ q) = Af at *
  refine lv_aload_n hx hb dL_law_783 rfl (lv_at hl 1 rfl) ?_
  refine lv_aload_n hx hb dL_law_784 rfl (lv_at hl 0 rfl) ?_
  refine lv_iload_n hx hb dL_law_785 rfl (lv_at hl 3 rfl) ?_
  refine lv_iconst (v := 1) hx hb dL_law_786 (by decide) ?_
  refine lv_iadd hx hb dL_law_787 ?_
  refine lv_topi (fun x1 e2 => ?_)
  refine va_sld hx hb hXs hbl hbA hS (law_in hi0 hi6 hL e2 (by decide)) dL_law_788 ?_
  refine lv_topi (fun v3 e4 => ?_)
  refine lx_i (As := [.int v3]) (rest := []) (wb := wM cM aM G LG C BG) (hC.mk hKX) (c_X11_judge_0 l D cA H.size ad F L A B (v3) hV.1) (cwV 1 hC.2.2.2.2.1 (g_V mw_1015 mw_1012 mw_1013 mw_1014 mw_1) rfl rfl rfl (by decide +kernel) ⟨(Nat.le_of_ble_eq_true rfl), (Nat.le_of_ble_eq_true rfl)⟩) hP hD hS hA atX_0 rfl rfl hl.1 rfl (Nat.le_of_ble_eq_true rfl) dL_law_789 hf (fun r5 u H locs hw hP hD hS => ?_)
  obtain ⟨F6, L6, A6, B6⟩ := u
  try dsimp only at hw
  have w7 := hw
  have hV : LV F6 A6 G C := ⟨w7.1, (xX.fr hV.2.1 (w7.2.1 25 (by decide)) (w7.2.1 26 (by decide))), hV.2.2.1, hV.2.2.2.1, hV.2.2.2.2.1, (w7.2.1 1 (by decide)).trans hV.2.2.2.2.2⟩
  have hP : va_P D classes (wX cA ad F6 L6 A6 B6 ++ wM cM aM G LG C BG) H := hP
  have hD : va_D Af (wX cA ad F6 L6 A6 B6 ++ wM cM aM G LG C BG) := hD
  refine lv_pop hx hb dL_law_792 rfl ?_
  refine lv_aload_n hx hb dL_law_793 rfl (lv_at hl 2 rfl) ?_
  refine lv_aload_n hx hb dL_law_794 rfl (lv_at hl 0 rfl) ?_
  refine lv_iload_n hx hb dL_law_795 rfl (lv_at hl 3 rfl) ?_
  refine lv_iconst (v := 1) hx hb dL_law_796 (by decide) ?_
  refine lv_iadd hx hb dL_law_797 ?_
  refine lv_topi (fun x8 e9 => ?_)
  refine va_sld hx hb hXs hbl hbA hS (law_in hi0 hi6 hL e9 (by decide)) dL_law_798 ?_
  refine lv_topi (fun v10 e11 => ?_)
  refine ly_i (As := [.int v10]) (rest := []) (wb := wX cA ad F6 L6 A6 B6) (hC.mk hKM) (c_X12_judge_0 l D cM H.size aM G LG C BG (v10) hV.2.2.1) (cwV 1 hC.2.2.2.2.1 (g_V mw_1568 mw_1565 mw_1566 mw_1567 mw_20) rfl rfl rfl (by decide +kernel) ⟨(Nat.le_of_ble_eq_true rfl), (Nat.le_of_ble_eq_true rfl)⟩) hP hD hS hA atM_0 rfl rfl hl.1 rfl (Nat.le_of_ble_eq_true rfl) dL_law_799 hf (fun r12 u H locs hw hP hD hS => ?_)
  obtain ⟨G13, LG13, C13, BG13⟩ := u
  try dsimp only at hw
  have w14 := hw
  have hV : LV F6 A6 G13 C13 := ⟨hV.1, hV.2.1, w14.1, (xM.fr hV.2.2.2.1 (w14.2.1 14 (by decide)) (w14.2.1 15 (by decide))), (LM.fr hV.2.2.2.2.1 (w14.2.1 8 (by decide)) (w14.2.1 14 (by decide)) (w14.2.1 15 (by decide)) (w14.2.2 3 (by decide)) (w14.2.2 4 (by decide)) (w14.2.2 10 (by decide)) (w14.2.2 17 (by decide)) (w14.2.2 27 (by decide)) (w14.2.2 36 (by decide)) (w14.2.2 37 (by decide))), hV.2.2.2.2.2.trans (w14.2.1 18 (by decide)).symm⟩
  have hP : va_P D classes (wX cA ad F6 L6 A6 B6 ++ wM cM aM G13 LG13 C13 BG13) H := hP
  have hD : va_D Af (wX cA ad F6 L6 A6 B6 ++ wM cM aM G13 LG13 C13 BG13) := hD
  refine lv_pop hx hb dL_law_802 rfl ?_
  refine lv_goto (tgt := 1007) hx hb dL_law_803 (by decide) ?_
  exact K cA ad F6 L6 A6 B6 cM aM G13 LG13 C13 BG13 H locs ls hV hKX hKM hP hD hS hl
