set_option maxHeartbeats 4000000 in
set_option maxRecDepth 100000 in
theorem law_c24 {p : Program} {e : Env} {s : State} {m : MethodId} {below : List Frame} {meth : Method} {c : Code} {l : Launch} {D : va_G} {b Ls : Nat} {xs : Nat → Int32} {nC nS : Nat} {Q : State → Prop} (hC : LC p s m c b Ls xs) (hL : Ls ≤ 3072) (hf : nC ≤ room_1.cells ∧ nS ≤ room_1.slots) {i : Int32} (hi0 : 0 ≤ i.toInt) (hi6 : i.toInt + 6 ≤ (Ls : Int)) {cA : Nat → ClassId} {ad : Nat → Nat} {F : Nat → Int32} {L : Nat → Int64} {A : Nat → Nat → Int32} {B : Nat → Nat → Int64} {cM : Nat → ClassId} {aM : Nat → Nat} {G : Nat → Int32} {LG : Nat → Int64} {C : Nat → Nat → Int32} {BG : Nat → Nat → Int64} {H : Heap} {locs : List Loc} {ls : Array Slot} (hV : LV F A G C) (hKX : va_K D classes (tysX cA) s) (hKM : va_K D classes (tysM cM) s) (hP : va_P D classes (wX cA ad F L A B ++ wM cM aM G LG C BG) H) (hD : va_D (fun q : Nat => s.heap.size ≤ q) (wX cA ad F L A B ++ wM cM aM G LG C BG)) (hS : va_S (fun q : Nat => s.heap.size ≤ q) s.heap H locs) (hl : lv_has ls 4 [(0, .ref b), (1, .ref (ad 0)), (2, .ref (aM 0)), (3, .int i)]) (K : ∀ (cA : Nat → ClassId) (ad : Nat → Nat) (F : Nat → Int32) (L : Nat → Int64) (A : Nat → Nat → Int32) (B : Nat → Nat → Int64) (cM : Nat → ClassId) (aM : Nat → Nat) (G : Nat → Int32) (LG : Nat → Int64) (C : Nat → Nat → Int32) (BG : Nat → Nat → Int64) (H : Heap) (locs : List Loc) (ls : Array Slot), LV F A G C → va_K D classes (tysX cA) s → va_K D classes (tysM cM) s → va_P D classes (wX cA ad F L A B ++ wM cM aM G LG C BG) H → va_D (fun q : Nat => s.heap.size ≤ q) (wX cA ad F L A B ++ wM cM aM G LG C BG) → va_S (fun q : Nat => s.heap.size ≤ q) s.heap H locs → lv_has ls 4 [(0, .ref b), (1, .ref (ad 0)), (2, .ref (aM 0)), (3, .int i)] → W p l e room_1 s m #[Value.ref b] below meth c H locs nC nS Q (F0 m 1007 ls [])) : W p l e room_1 s m #[Value.ref b] below meth c H locs nC nS Q (F0 m 806 ls []) := by
  have hx := hC.1
  have hb := hC.2.1
  have hXs := hC.2.2.2.2.2.2.1
  have hbl := hC.2.2.2.2.2.2.2
  have hA : ∀ q : Nat, s.heap.size ≤ q → (fun q : Nat => s.heap.size ≤ q) q := fun _ h => h
  have hbA : ¬ (fun q : Nat => s.heap.size ≤ q) b := Nat.not_le.mpr hbl
  generalize (fun q : Nat => s.heap.size ≤ q) = Af at *
  refine lv_aload_n hx hb dL_law_806 rfl (lv_at hl 1 rfl) ?_
  refine lv_aload_n hx hb dL_law_807 rfl (lv_at hl 0 rfl) ?_
  refine lv_iload_n hx hb dL_law_808 rfl (lv_at hl 3 rfl) ?_
  refine lv_iconst (v := 1) hx hb dL_law_809 (by decide) ?_
  refine lv_iadd hx hb dL_law_810 ?_
  refine lv_topi (fun x1 e2 => ?_)
  refine va_sld hx hb hXs hbl hbA hS (law_in hi0 hi6 hL e2 (by decide)) dL_law_811 ?_
  refine lv_topi (fun v3 e4 => ?_)
  refine lv_aload_n hx hb dL_law_812 rfl (lv_at hl 0 rfl) ?_
  refine lv_iload_n hx hb dL_law_813 rfl (lv_at hl 3 rfl) ?_
  refine lv_iconst (v := 2) hx hb dL_law_814 (by decide) ?_
  refine lv_iadd hx hb dL_law_815 ?_
  refine lv_topi (fun x5 e6 => ?_)
  refine va_sld hx hb hXs hbl hbA hS (law_in hi0 hi6 hL e6 (by decide)) dL_law_816 ?_
  refine lv_topi (fun v7 e8 => ?_)
  refine lv_aload_n hx hb dL_law_817 rfl (lv_at hl 0 rfl) ?_
  refine lv_iload_n hx hb dL_law_818 rfl (lv_at hl 3 rfl) ?_
  refine lv_iconst (v := 3) hx hb dL_law_819 (by decide) ?_
  refine lv_iadd hx hb dL_law_820 ?_
  refine lv_topi (fun x9 e10 => ?_)
  refine va_sld hx hb hXs hbl hbA hS (law_in hi0 hi6 hL e10 (by decide)) dL_law_821 ?_
  refine lv_topi (fun v11 e12 => ?_)
  refine lx_i (As := [.int v3, .int v7, .int v11]) (rest := []) (wb := wM cM aM G LG C BG) (hC.mk hKX) (c_X11_sight_0 l D cA H.size ad F L A B (v3) (v7) (v11) hV.1) (cwV 3 hC.2.2.2.2.1 (g_V mw_1036 mw_1033 mw_1034 mw_1035 mw_1) rfl rfl rfl (by decide +kernel) ⟨(Nat.le_of_ble_eq_true rfl), (Nat.le_of_ble_eq_true rfl)⟩) hP hD hS hA atX_0 rfl rfl hl.1 rfl (Nat.le_of_ble_eq_true rfl) dL_law_822 hf (fun r13 u H locs hw hP hD hS => ?_)
  obtain ⟨F14, L14, A14, B14⟩ := u
  try dsimp only at hw
  obtain ⟨w15, w16⟩ := hw
  have hV : LV F14 A14 G C := ⟨w15.1, (xX.fr hV.2.1 (w15.2.1 25 (by decide)) (w15.2.1 26 (by decide))), hV.2.2.1, hV.2.2.2.1, hV.2.2.2.2.1, (w15.2.1 1 (by decide)).trans hV.2.2.2.2.2⟩
  have hP : va_P D classes (wX cA ad F14 L14 A14 B14 ++ wM cM aM G LG C BG) H := hP
  have hD : va_D Af (wX cA ad F14 L14 A14 B14 ++ wM cM aM G LG C BG) := hD
  refine lv_pop hx hb dL_law_825 rfl ?_
  refine lv_aload_n hx hb dL_law_826 rfl (lv_at hl 2 rfl) ?_
  refine lv_aload_n hx hb dL_law_827 rfl (lv_at hl 0 rfl) ?_
  refine lv_iload_n hx hb dL_law_828 rfl (lv_at hl 3 rfl) ?_
  refine lv_iconst (v := 1) hx hb dL_law_829 (by decide) ?_
  refine lv_iadd hx hb dL_law_830 ?_
  refine lv_topi (fun x17 e18 => ?_)
  refine va_sld hx hb hXs hbl hbA hS (law_in hi0 hi6 hL e18 (by decide)) dL_law_831 ?_
  refine lv_topi (fun v19 e20 => ?_)
  refine lv_aload_n hx hb dL_law_832 rfl (lv_at hl 0 rfl) ?_
  refine lv_iload_n hx hb dL_law_833 rfl (lv_at hl 3 rfl) ?_
  refine lv_iconst (v := 2) hx hb dL_law_834 (by decide) ?_
  refine lv_iadd hx hb dL_law_835 ?_
  refine lv_topi (fun x21 e22 => ?_)
  refine va_sld hx hb hXs hbl hbA hS (law_in hi0 hi6 hL e22 (by decide)) dL_law_836 ?_
  refine lv_topi (fun v23 e24 => ?_)
  refine lv_aload_n hx hb dL_law_837 rfl (lv_at hl 0 rfl) ?_
  refine lv_iload_n hx hb dL_law_838 rfl (lv_at hl 3 rfl) ?_
  refine lv_iconst (v := 3) hx hb dL_law_839 (by decide) ?_
  refine lv_iadd hx hb dL_law_840 ?_
  refine lv_topi (fun x25 e26 => ?_)
  refine va_sld hx hb hXs hbl hbA hS (law_in hi0 hi6 hL e26 (by decide)) dL_law_841 ?_
  refine lv_topi (fun v27 e28 => ?_)
  refine ly_i (As := [.int v19, .int v23, .int v27]) (rest := []) (wb := wX cA ad F14 L14 A14 B14) (hC.mk hKM) (c_X12_sight_0 l D cM H.size aM G LG C BG (v19) (v23) (v27) hV.2.2.1) (cwV 3 hC.2.2.2.2.1 (g_V mw_1580 mw_1577 mw_1578 mw_1579 mw_20) rfl rfl rfl (by decide +kernel) ⟨(Nat.le_of_ble_eq_true rfl), (Nat.le_of_ble_eq_true rfl)⟩) hP hD hS hA atM_0 rfl rfl hl.1 rfl (Nat.le_of_ble_eq_true rfl) dL_law_842 hf (fun r29 u H locs hw hP hD hS => ?_)
  obtain ⟨G30, LG30, C30, BG30⟩ := u
  try dsimp only at hw
  obtain ⟨w31, w32⟩ := hw
  have hV : LV F14 A14 G30 C30 := ⟨hV.1, hV.2.1, w31.1, (xM.fr hV.2.2.2.1 (w31.2.1 14 (by decide)) (w31.2.1 15 (by decide))), (LM.fr hV.2.2.2.2.1 (w31.2.1 8 (by decide)) (w31.2.1 14 (by decide)) (w31.2.1 15 (by decide)) (w31.2.2 3 (by decide)) (w31.2.2 4 (by decide)) (w31.2.2 10 (by decide)) (w31.2.2 17 (by decide)) (w31.2.2 27 (by decide)) (w31.2.2 36 (by decide)) (w31.2.2 37 (by decide))), hV.2.2.2.2.2.trans (w31.2.1 18 (by decide)).symm⟩
  have hP : va_P D classes (wX cA ad F14 L14 A14 B14 ++ wM cM aM G30 LG30 C30 BG30) H := hP
  have hD : va_D Af (wX cA ad F14 L14 A14 B14 ++ wM cM aM G30 LG30 C30 BG30) := hD
  refine lv_pop hx hb dL_law_845 rfl ?_
  refine lv_goto (tgt := 1007) hx hb dL_law_846 (by decide) ?_
  exact K cA ad F14 L14 A14 B14 cM aM G30 LG30 C30 BG30 H locs ls hV hKX hKM hP hD hS hl
set_option maxHeartbeats 4000000 in
set_option maxRecDepth 100000 in
theorem law_c25 {p : Program} {e : Env} {s : State} {m : MethodId} {below : List Frame} {meth : Method} {c : Code} {l : Launch} {D : va_G} {b Ls : Nat} {xs : Nat → Int32} {nC nS : Nat} {Q : State → Prop} (hC : LC p s m c b Ls xs) (hL : Ls ≤ 3072) (hf : nC ≤ room_1.cells ∧ nS ≤ room_1.slots) {i : Int32} (hi0 : 0 ≤ i.toInt) (hi6 : i.toInt + 6 ≤ (Ls : Int)) {cA : Nat → ClassId} {ad : Nat → Nat} {F : Nat → Int32} {L : Nat → Int64} {A : Nat → Nat → Int32} {B : Nat → Nat → Int64} {cM : Nat → ClassId} {aM : Nat → Nat} {G : Nat → Int32} {LG : Nat → Int64} {C : Nat → Nat → Int32} {BG : Nat → Nat → Int64} {H : Heap} {locs : List Loc} {ls : Array Slot} (hV : LV F A G C) (hKX : va_K D classes (tysX cA) s) (hKM : va_K D classes (tysM cM) s) (hP : va_P D classes (wX cA ad F L A B ++ wM cM aM G LG C BG) H) (hD : va_D (fun q : Nat => s.heap.size ≤ q) (wX cA ad F L A B ++ wM cM aM G LG C BG)) (hS : va_S (fun q : Nat => s.heap.size ≤ q) s.heap H locs) (hl : lv_has ls 4 [(0, .ref b), (1, .ref (ad 0)), (2, .ref (aM 0)), (3, .int i)]) (K : ∀ (cA : Nat → ClassId) (ad : Nat → Nat) (F : Nat → Int32) (L : Nat → Int64) (A : Nat → Nat → Int32) (B : Nat → Nat → Int64) (cM : Nat → ClassId) (aM : Nat → Nat) (G : Nat → Int32) (LG : Nat → Int64) (C : Nat → Nat → Int32) (BG : Nat → Nat → Int64) (H : Heap) (locs : List Loc) (ls : Array Slot), LV F A G C → va_K D classes (tysX cA) s → va_K D classes (tysM cM) s → va_P D classes (wX cA ad F L A B ++ wM cM aM G LG C BG) H → va_D (fun q : Nat => s.heap.size ≤ q) (wX cA ad F L A B ++ wM cM aM G LG C BG) → va_S (fun q : Nat => s.heap.size ≤ q) s.heap H locs → lv_has ls 4 [(0, .ref b), (1, .ref (ad 0)), (2, .ref (aM 0)), (3, .int i)] → W p l e room_1 s m #[Value.ref b] below meth c H locs nC nS Q (F0 m 1007 ls [])) : W p l e room_1 s m #[Value.ref b] below meth c H locs nC nS Q (F0 m 849 ls []) := by
  have hx := hC.1
  have hb := hC.2.1
  have hXs := hC.2.2.2.2.2.2.1
  have hbl := hC.2.2.2.2.2.2.2
  have hA : ∀ q : Nat, s.heap.size ≤ q → (fun q : Nat => s.heap.size ≤ q) q := fun _ h => h
  have hbA : ¬ (fun q : Nat => s.heap.size ≤ q) b := Nat.not_le.mpr hbl
  generalize (fun q : Nat => s.heap.size ≤ q) = Af at *
  refine lv_aload_n hx hb dL_law_849 rfl (lv_at hl 1 rfl) ?_
  refine lv_aload_n hx hb dL_law_850 rfl (lv_at hl 0 rfl) ?_
  refine lv_iload_n hx hb dL_law_851 rfl (lv_at hl 3 rfl) ?_
  refine lv_iconst (v := 1) hx hb dL_law_852 (by decide) ?_
  refine lv_iadd hx hb dL_law_853 ?_
  refine lv_topi (fun x1 e2 => ?_)
  refine va_sld hx hb hXs hbl hbA hS (law_in hi0 hi6 hL e2 (by decide)) dL_law_854 ?_
  refine lv_topi (fun v3 e4 => ?_)
  refine lx_i (As := [.int v3]) (rest := []) (wb := wM cM aM G LG C BG) (hC.mk hKX) (c_X11_untell_0 l D cA H.size ad F L A B (v3) hV.1) (cwV 1 hC.2.2.2.2.1 (g_V mw_1044 mw_1041 mw_1042 mw_1043 mw_1) rfl rfl rfl (by decide +kernel) ⟨(Nat.le_of_ble_eq_true rfl), (Nat.le_of_ble_eq_true rfl)⟩) hP hD hS hA atX_0 rfl rfl hl.1 rfl (Nat.le_of_ble_eq_true rfl) dL_law_855 hf (fun r5 u H locs hw hP hD hS => ?_)
  obtain ⟨F6, L6, A6, B6⟩ := u
  try dsimp only at hw
  obtain ⟨w7, w8, w9⟩ := hw
  have hV : LV F6 A6 G C := ⟨w7.1, (xX.fr hV.2.1 (w7.2.1 25 (by decide)) (w7.2.1 26 (by decide))), hV.2.2.1, hV.2.2.2.1, hV.2.2.2.2.1, (w7.2.1 1 (by decide)).trans hV.2.2.2.2.2⟩
  have hP : va_P D classes (wX cA ad F6 L6 A6 B6 ++ wM cM aM G LG C BG) H := hP
  have hD : va_D Af (wX cA ad F6 L6 A6 B6 ++ wM cM aM G LG C BG) := hD
  refine lv_pop hx hb dL_law_858 rfl ?_
  refine lv_aload_n hx hb dL_law_859 rfl (lv_at hl 2 rfl) ?_
  refine lv_aload_n hx hb dL_law_860 rfl (lv_at hl 0 rfl) ?_
  refine lv_iload_n hx hb dL_law_861 rfl (lv_at hl 3 rfl) ?_
  refine lv_iconst (v := 1) hx hb dL_law_862 (by decide) ?_
  refine lv_iadd hx hb dL_law_863 ?_
  refine lv_topi (fun x10 e11 => ?_)
  refine va_sld hx hb hXs hbl hbA hS (law_in hi0 hi6 hL e11 (by decide)) dL_law_864 ?_
  refine lv_topi (fun v12 e13 => ?_)
  refine ly_i (As := [.int v12]) (rest := []) (wb := wX cA ad F6 L6 A6 B6) (hC.mk hKM) (c_X12_untell_0 l D cM H.size aM G LG C BG (v12) hV.2.2.1) (cwV 1 hC.2.2.2.2.1 (g_V mw_1584 mw_1581 mw_1582 mw_1583 mw_20) rfl rfl rfl (by decide +kernel) ⟨(Nat.le_of_ble_eq_true rfl), (Nat.le_of_ble_eq_true rfl)⟩) hP hD hS hA atM_0 rfl rfl hl.1 rfl (Nat.le_of_ble_eq_true rfl) dL_law_865 hf (fun r14 u H locs hw hP hD hS => ?_)
  obtain ⟨G15, LG15, C15, BG15⟩ := u
  try dsimp only at hw
  obtain ⟨w16, w17, w18⟩ := hw
  have hV : LV F6 A6 G15 C15 := ⟨hV.1, hV.2.1, w16.1, (xM.fr hV.2.2.2.1 (w16.2.1 14 (by decide)) (w16.2.1 15 (by decide))), (LM.fr hV.2.2.2.2.1 (w16.2.1 8 (by decide)) (w16.2.1 14 (by decide)) (w16.2.1 15 (by decide)) (w16.2.2 3 (by decide)) (w16.2.2 4 (by decide)) (w16.2.2 10 (by decide)) (w16.2.2 17 (by decide)) (w16.2.2 27 (by decide)) (w16.2.2 36 (by decide)) (w16.2.2 37 (by decide))), hV.2.2.2.2.2.trans (w16.2.1 18 (by decide)).symm⟩
  have hP : va_P D classes (wX cA ad F6 L6 A6 B6 ++ wM cM aM G15 LG15 C15 BG15) H := hP
  have hD : va_D Af (wX cA ad F6 L6 A6 B6 ++ wM cM aM G15 LG15 C15 BG15) := hD
  refine lv_pop hx hb dL_law_868 rfl ?_
  refine lv_goto (tgt := 1007) hx hb dL_law_869 (by decide) ?_
  exact K cA ad F6 L6 A6 B6 cM aM G15 LG15 C15 BG15 H locs ls hV hKX hKM hP hD hS hl
set_option maxHeartbeats 4000000 in
set_option maxRecDepth 100000 in
theorem law_c26 {p : Program} {e : Env} {s : State} {m : MethodId} {below : List Frame} {meth : Method} {c : Code} {l : Launch} {D : va_G} {b Ls : Nat} {xs : Nat → Int32} {nC nS : Nat} {Q : State → Prop} (hC : LC p s m c b Ls xs) (hL : Ls ≤ 3072) (hf : nC ≤ room_1.cells ∧ nS ≤ room_1.slots) {i : Int32} (hi0 : 0 ≤ i.toInt) (hi6 : i.toInt + 6 ≤ (Ls : Int)) {cA : Nat → ClassId} {ad : Nat → Nat} {F : Nat → Int32} {L : Nat → Int64} {A : Nat → Nat → Int32} {B : Nat → Nat → Int64} {cM : Nat → ClassId} {aM : Nat → Nat} {G : Nat → Int32} {LG : Nat → Int64} {C : Nat → Nat → Int32} {BG : Nat → Nat → Int64} {H : Heap} {locs : List Loc} {ls : Array Slot} (hV : LV F A G C) (hKX : va_K D classes (tysX cA) s) (hKM : va_K D classes (tysM cM) s) (hP : va_P D classes (wX cA ad F L A B ++ wM cM aM G LG C BG) H) (hD : va_D (fun q : Nat => s.heap.size ≤ q) (wX cA ad F L A B ++ wM cM aM G LG C BG)) (hS : va_S (fun q : Nat => s.heap.size ≤ q) s.heap H locs) (hl : lv_has ls 4 [(0, .ref b), (1, .ref (ad 0)), (2, .ref (aM 0)), (3, .int i)]) (K : ∀ (cA : Nat → ClassId) (ad : Nat → Nat) (F : Nat → Int32) (L : Nat → Int64) (A : Nat → Nat → Int32) (B : Nat → Nat → Int64) (cM : Nat → ClassId) (aM : Nat → Nat) (G : Nat → Int32) (LG : Nat → Int64) (C : Nat → Nat → Int32) (BG : Nat → Nat → Int64) (H : Heap) (locs : List Loc) (ls : Array Slot), LV F A G C → va_K D classes (tysX cA) s → va_K D classes (tysM cM) s → va_P D classes (wX cA ad F L A B ++ wM cM aM G LG C BG) H → va_D (fun q : Nat => s.heap.size ≤ q) (wX cA ad F L A B ++ wM cM aM G LG C BG) → va_S (fun q : Nat => s.heap.size ≤ q) s.heap H locs → lv_has ls 4 [(0, .ref b), (1, .ref (ad 0)), (2, .ref (aM 0)), (3, .int i)] → W p l e room_1 s m #[Value.ref b] below meth c H locs nC nS Q (F0 m 1007 ls [])) : W p l e room_1 s m #[Value.ref b] below meth c H locs nC nS Q (F0 m 872 ls []) := by
  have hx := hC.1
  have hb := hC.2.1
  have hXs := hC.2.2.2.2.2.2.1
  have hbl := hC.2.2.2.2.2.2.2
  have hA : ∀ q : Nat, s.heap.size ≤ q → (fun q : Nat => s.heap.size ≤ q) q := fun _ h => h
  have hbA : ¬ (fun q : Nat => s.heap.size ≤ q) b := Nat.not_le.mpr hbl
  generalize (fun q : Nat => s.heap.size ≤ q) = Af at *
  refine lv_aload_n hx hb dL_law_872 rfl (lv_at hl 1 rfl) ?_
  refine lv_aload_n hx hb dL_law_873 rfl (lv_at hl 0 rfl) ?_
  refine lv_iload_n hx hb dL_law_874 rfl (lv_at hl 3 rfl) ?_
  refine lv_iconst (v := 1) hx hb dL_law_875 (by decide) ?_
  refine lv_iadd hx hb dL_law_876 ?_
  refine lv_topi (fun x1 e2 => ?_)
  refine va_sld hx hb hXs hbl hbA hS (law_in hi0 hi6 hL e2 (by decide)) dL_law_877 ?_
  refine lv_topi (fun v3 e4 => ?_)
  refine lx_i (As := [.int v3]) (rest := []) (wb := wM cM aM G LG C BG) (hC.mk hKX) (c_X11_later_0 l D cA H.size ad F L A B (v3) hV.1) (cwV 1 hC.2.2.2.2.1 (g_V mw_1052 mw_1049 mw_1050 mw_1051 mw_1) rfl rfl rfl (by decide +kernel) ⟨(Nat.le_of_ble_eq_true rfl), (Nat.le_of_ble_eq_true rfl)⟩) hP hD hS hA atX_0 rfl rfl hl.1 rfl (Nat.le_of_ble_eq_true rfl) dL_law_878 hf (fun r5 u H locs hw hP hD hS => ?_)
  obtain ⟨F6, L6, A6, B6⟩ := u
  try dsimp only at hw
  obtain ⟨w7, w8, w9⟩ := hw
  have hlat := w9
  have hVx : typX F6 A6 ∧ xX F6 := ⟨w7.1, (xX.fr hV.2.1 (w7.2.1 25 (by decide)) (w7.2.1 26 (by decide)))⟩
  have hP : va_P D classes (wX cA ad F6 L6 A6 B6 ++ wM cM aM G LG C BG) H := hP
  have hD : va_D Af (wX cA ad F6 L6 A6 B6 ++ wM cM aM G LG C BG) := hD
  refine lv_aload_n hx hb dL_law_881 rfl (lv_at hl 2 rfl) ?_
  refine lv_aload_n hx hb dL_law_882 rfl (lv_at hl 0 rfl) ?_
  refine lv_iload_n hx hb dL_law_883 rfl (lv_at hl 3 rfl) ?_
  refine lv_iconst (v := 1) hx hb dL_law_884 (by decide) ?_
  refine lv_iadd hx hb dL_law_885 ?_
  refine lv_topi (fun x10 e11 => ?_)
  refine va_sld hx hb hXs hbl hbA hS (law_in hi0 hi6 hL e11 (by decide)) dL_law_886 ?_
  refine lv_topi (fun v12 e13 => ?_)
  refine ly_i (As := [.int v12]) (rest := [.int r5]) (wb := wX cA ad F6 L6 A6 B6) (hC.mk hKM) (c_X12_later_0 l D cM H.size aM G LG C BG (v12) hV.2.2.1) (cwV 1 hC.2.2.2.2.1 (g_V mw_1588 mw_1585 mw_1586 mw_1587 mw_20) rfl rfl rfl (by decide +kernel) ⟨(Nat.le_of_ble_eq_true rfl), (Nat.le_of_ble_eq_true rfl)⟩) hP hD hS hA atM_0 rfl rfl hl.1 rfl (Nat.le_of_ble_eq_true rfl) dL_law_887 hf (fun r14 u H locs hw hP hD hS => ?_)
  obtain ⟨G15, LG15, C15, BG15⟩ := u
  try dsimp only at hw
  obtain ⟨w16, w17, w18⟩ := hw
  have hl2 := w18
  rw [← hV.2.2.2.2.2] at hl2
  rw [show v12 = v3 by rw [e13, e4, e11, e2]] at hl2
  obtain ⟨e1, e2⟩ := lat_one hlat hl2
  have hV : LV F6 A6 G15 C15 := ⟨hVx.1, hVx.2, w16.1, (xM.fr hV.2.2.2.1 (w16.2.1 14 (by decide)) (w16.2.1 15 (by decide))), (LM.fr hV.2.2.2.2.1 (w16.2.1 8 (by decide)) (w16.2.1 14 (by decide)) (w16.2.1 15 (by decide)) (w16.2.2 3 (by decide)) (w16.2.2 4 (by decide)) (w16.2.2 10 (by decide)) (w16.2.2 17 (by decide)) (w16.2.2 27 (by decide)) (w16.2.2 36 (by decide)) (w16.2.2 37 (by decide))), e2⟩
  have hP : va_P D classes (wX cA ad F6 L6 A6 B6 ++ wM cM aM G15 LG15 C15 BG15) H := hP
  have hD : va_D Af (wX cA ad F6 L6 A6 B6 ++ wM cM aM G15 LG15 C15 BG15) := hD
  refine lv_icmp_eq (tgt := 1007) hx hb dL_law_890 (by decide) (fun c19 => ?_) (fun c19 => ?_)
  · skip
    exact K cA ad F6 L6 A6 B6 cM aM G15 LG15 C15 BG15 H locs ls hV hKX hKM hP hD hS hl
  · exact absurd e1 c19
set_option maxHeartbeats 4000000 in
set_option maxRecDepth 100000 in
theorem law_c27 {p : Program} {e : Env} {s : State} {m : MethodId} {below : List Frame} {meth : Method} {c : Code} {l : Launch} {D : va_G} {b Ls : Nat} {xs : Nat → Int32} {nC nS : Nat} {Q : State → Prop} (hC : LC p s m c b Ls xs) (hL : Ls ≤ 3072) (hf : nC ≤ room_1.cells ∧ nS ≤ room_1.slots) {i : Int32} (hi0 : 0 ≤ i.toInt) (hi6 : i.toInt + 6 ≤ (Ls : Int)) {cA : Nat → ClassId} {ad : Nat → Nat} {F : Nat → Int32} {L : Nat → Int64} {A : Nat → Nat → Int32} {B : Nat → Nat → Int64} {cM : Nat → ClassId} {aM : Nat → Nat} {G : Nat → Int32} {LG : Nat → Int64} {C : Nat → Nat → Int32} {BG : Nat → Nat → Int64} {H : Heap} {locs : List Loc} {ls : Array Slot} (hV : LV F A G C) (hKX : va_K D classes (tysX cA) s) (hKM : va_K D classes (tysM cM) s) (hP : va_P D classes (wX cA ad F L A B ++ wM cM aM G LG C BG) H) (hD : va_D (fun q : Nat => s.heap.size ≤ q) (wX cA ad F L A B ++ wM cM aM G LG C BG)) (hS : va_S (fun q : Nat => s.heap.size ≤ q) s.heap H locs) (hl : lv_has ls 4 [(0, .ref b), (1, .ref (ad 0)), (2, .ref (aM 0)), (3, .int i)]) (K : ∀ (cA : Nat → ClassId) (ad : Nat → Nat) (F : Nat → Int32) (L : Nat → Int64) (A : Nat → Nat → Int32) (B : Nat → Nat → Int64) (cM : Nat → ClassId) (aM : Nat → Nat) (G : Nat → Int32) (LG : Nat → Int64) (C : Nat → Nat → Int32) (BG : Nat → Nat → Int64) (H : Heap) (locs : List Loc) (ls : Array Slot), LV F A G C → va_K D classes (tysX cA) s → va_K D classes (tysM cM) s → va_P D classes (wX cA ad F L A B ++ wM cM aM G LG C BG) H → va_D (fun q : Nat => s.heap.size ≤ q) (wX cA ad F L A B ++ wM cM aM G LG C BG) → va_S (fun q : Nat => s.heap.size ≤ q) s.heap H locs → lv_has ls 4 [(0, .ref b), (1, .ref (ad 0)), (2, .ref (aM 0)), (3, .int i)] → W p l e room_1 s m #[Value.ref b] below meth c H locs nC nS Q (F0 m 1007 ls [])) : W p l e room_1 s m #[Value.ref b] below meth c H locs nC nS Q (F0 m 895 ls []) := by
  have hx := hC.1
  have hb := hC.2.1
  have hXs := hC.2.2.2.2.2.2.1
  have hbl := hC.2.2.2.2.2.2.2
  have hA : ∀ q : Nat, s.heap.size ≤ q → (fun q : Nat => s.heap.size ≤ q) q := fun _ h => h
  have hbA : ¬ (fun q : Nat => s.heap.size ≤ q) b := Nat.not_le.mpr hbl
  generalize (fun q : Nat => s.heap.size ≤ q) = Af at *
  refine lv_aload_n hx hb dL_law_895 rfl (lv_at hl 1 rfl) ?_
  refine lv_aload_n hx hb dL_law_896 rfl (lv_at hl 0 rfl) ?_
  refine lv_iload_n hx hb dL_law_897 rfl (lv_at hl 3 rfl) ?_
  refine lv_iconst (v := 1) hx hb dL_law_898 (by decide) ?_
  refine lv_iadd hx hb dL_law_899 ?_
  refine lv_topi (fun x1 e2 => ?_)
  refine va_sld hx hb hXs hbl hbA hS (law_in hi0 hi6 hL e2 (by decide)) dL_law_900 ?_
  refine lv_topi (fun v3 e4 => ?_)
  refine lv_aload_n hx hb dL_law_901 rfl (lv_at hl 0 rfl) ?_
  refine lv_iload_n hx hb dL_law_902 rfl (lv_at hl 3 rfl) ?_
  refine lv_iconst (v := 2) hx hb dL_law_903 (by decide) ?_
  refine lv_iadd hx hb dL_law_904 ?_
  refine lv_topi (fun x5 e6 => ?_)
  refine va_sld hx hb hXs hbl hbA hS (law_in hi0 hi6 hL e6 (by decide)) dL_law_905 ?_
  refine lv_topi (fun v7 e8 => ?_)
  refine lv_aload_n hx hb dL_law_906 rfl (lv_at hl 0 rfl) ?_
  refine lv_iload_n hx hb dL_law_907 rfl (lv_at hl 3 rfl) ?_
  refine lv_iconst (v := 3) hx hb dL_law_908 (by decide) ?_
  refine lv_iadd hx hb dL_law_909 ?_
  refine lv_topi (fun x9 e10 => ?_)
  refine va_sld hx hb hXs hbl hbA hS (law_in hi0 hi6 hL e10 (by decide)) dL_law_910 ?_
  refine lv_topi (fun v11 e12 => ?_)
  refine lx_l (As := [.int v3, .int v7, .int v11]) (rest := []) (wb := wM cM aM G LG C BG) (hC.mk hKX) (c_X11_fits_0 l D cA H.size ad F L A B (v3) (v7) (v11) hV.1) (cwV 3 hC.2.2.2.2.1 (g_V mw_1057 mw_1054 mw_1055 mw_1056 mw_1) rfl rfl rfl (by decide +kernel) ⟨(Nat.le_of_ble_eq_true rfl), (Nat.le_of_ble_eq_true rfl)⟩) hP hD hS hA atX_0 rfl rfl hl.1 rfl (Nat.le_of_ble_eq_true rfl) dL_law_911 hf (fun r13 u H locs hw hP hD hS => ?_)
  obtain ⟨F14, L14, A14, B14⟩ := u
  try dsimp only at hw
  have w15 := hw
  have hV : LV F14 A14 G C := ⟨w15.1, (xX.fr hV.2.1 (w15.2.1 25 (by decide)) (w15.2.1 26 (by decide))), hV.2.2.1, hV.2.2.2.1, hV.2.2.2.2.1, (w15.2.1 1 (by decide)).trans hV.2.2.2.2.2⟩
  have hP : va_P D classes (wX cA ad F14 L14 A14 B14 ++ wM cM aM G LG C BG) H := hP
  have hD : va_D Af (wX cA ad F14 L14 A14 B14 ++ wM cM aM G LG C BG) := hD
  refine lv_pop2_2 hx hb dL_law_914 rfl ?_
  refine lv_aload_n hx hb dL_law_915 rfl (lv_at hl 2 rfl) ?_
  refine lv_aload_n hx hb dL_law_916 rfl (lv_at hl 0 rfl) ?_
  refine lv_iload_n hx hb dL_law_917 rfl (lv_at hl 3 rfl) ?_
  refine lv_iconst (v := 1) hx hb dL_law_918 (by decide) ?_
  refine lv_iadd hx hb dL_law_919 ?_
  refine lv_topi (fun x16 e17 => ?_)
  refine va_sld hx hb hXs hbl hbA hS (law_in hi0 hi6 hL e17 (by decide)) dL_law_920 ?_
  refine lv_topi (fun v18 e19 => ?_)
  refine lv_aload_n hx hb dL_law_921 rfl (lv_at hl 0 rfl) ?_
  refine lv_iload_n hx hb dL_law_922 rfl (lv_at hl 3 rfl) ?_
  refine lv_iconst (v := 2) hx hb dL_law_923 (by decide) ?_
  refine lv_iadd hx hb dL_law_924 ?_
  refine lv_topi (fun x20 e21 => ?_)
  refine va_sld hx hb hXs hbl hbA hS (law_in hi0 hi6 hL e21 (by decide)) dL_law_925 ?_
  refine lv_topi (fun v22 e23 => ?_)
  refine lv_aload_n hx hb dL_law_926 rfl (lv_at hl 0 rfl) ?_
  refine lv_iload_n hx hb dL_law_927 rfl (lv_at hl 3 rfl) ?_
  refine lv_iconst (v := 3) hx hb dL_law_928 (by decide) ?_
  refine lv_iadd hx hb dL_law_929 ?_
  refine lv_topi (fun x24 e25 => ?_)
  refine va_sld hx hb hXs hbl hbA hS (law_in hi0 hi6 hL e25 (by decide)) dL_law_930 ?_
  refine lv_topi (fun v26 e27 => ?_)
  refine ly_l (As := [.int v18, .int v22, .int v26]) (rest := []) (wb := wX cA ad F14 L14 A14 B14) (hC.mk hKM) (c_X12_fits_0 l D cM H.size aM G LG C BG (v18) (v22) (v26) hV.2.2.1 hV.2.2.2.2.1) (cwV 3 hC.2.2.2.2.1 (g_V mw_1593 mw_1590 mw_1591 mw_1592 mw_20) rfl rfl rfl (by decide +kernel) ⟨(Nat.le_of_ble_eq_true rfl), (Nat.le_of_ble_eq_true rfl)⟩) hP hD hS hA atM_0 rfl rfl hl.1 rfl (Nat.le_of_ble_eq_true rfl) dL_law_931 hf (fun r28 u H locs hw hP hD hS => ?_)
  obtain ⟨G29, LG29, C29, BG29⟩ := u
  try dsimp only at hw
  have w30 := hw
  have hV : LV F14 A14 G29 C29 := ⟨hV.1, hV.2.1, w30.1, (xM.fr hV.2.2.2.1 (w30.2.1 14 (by decide)) (w30.2.1 15 (by decide))), (LM.fr hV.2.2.2.2.1 (w30.2.1 8 (by decide)) (w30.2.1 14 (by decide)) (w30.2.1 15 (by decide)) (w30.2.2 3 (by decide)) (w30.2.2 4 (by decide)) (w30.2.2 10 (by decide)) (w30.2.2 17 (by decide)) (w30.2.2 27 (by decide)) (w30.2.2 36 (by decide)) (w30.2.2 37 (by decide))), hV.2.2.2.2.2.trans (w30.2.1 18 (by decide)).symm⟩
  have hP : va_P D classes (wX cA ad F14 L14 A14 B14 ++ wM cM aM G29 LG29 C29 BG29) H := hP
  have hD : va_D Af (wX cA ad F14 L14 A14 B14 ++ wM cM aM G29 LG29 C29 BG29) := hD
  refine lv_pop2_2 hx hb dL_law_934 rfl ?_
  refine lv_goto (tgt := 1007) hx hb dL_law_935 (by decide) ?_
  exact K cA ad F14 L14 A14 B14 cM aM G29 LG29 C29 BG29 H locs ls hV hKX hKM hP hD hS hl
set_option maxHeartbeats 4000000 in
set_option maxRecDepth 100000 in
theorem law_c28 {p : Program} {e : Env} {s : State} {m : MethodId} {below : List Frame} {meth : Method} {c : Code} {l : Launch} {D : va_G} {b Ls : Nat} {xs : Nat → Int32} {nC nS : Nat} {Q : State → Prop} (hC : LC p s m c b Ls xs) (hL : Ls ≤ 3072) (hf : nC ≤ room_1.cells ∧ nS ≤ room_1.slots) {i : Int32} (hi0 : 0 ≤ i.toInt) (hi6 : i.toInt + 6 ≤ (Ls : Int)) {cA : Nat → ClassId} {ad : Nat → Nat} {F : Nat → Int32} {L : Nat → Int64} {A : Nat → Nat → Int32} {B : Nat → Nat → Int64} {cM : Nat → ClassId} {aM : Nat → Nat} {G : Nat → Int32} {LG : Nat → Int64} {C : Nat → Nat → Int32} {BG : Nat → Nat → Int64} {H : Heap} {locs : List Loc} {ls : Array Slot} (hV : LV F A G C) (hKX : va_K D classes (tysX cA) s) (hKM : va_K D classes (tysM cM) s) (hP : va_P D classes (wX cA ad F L A B ++ wM cM aM G LG C BG) H) (hD : va_D (fun q : Nat => s.heap.size ≤ q) (wX cA ad F L A B ++ wM cM aM G LG C BG)) (hS : va_S (fun q : Nat => s.heap.size ≤ q) s.heap H locs) (hl : lv_has ls 4 [(0, .ref b), (1, .ref (ad 0)), (2, .ref (aM 0)), (3, .int i)]) (K : ∀ (cA : Nat → ClassId) (ad : Nat → Nat) (F : Nat → Int32) (L : Nat → Int64) (A : Nat → Nat → Int32) (B : Nat → Nat → Int64) (cM : Nat → ClassId) (aM : Nat → Nat) (G : Nat → Int32) (LG : Nat → Int64) (C : Nat → Nat → Int32) (BG : Nat → Nat → Int64) (H : Heap) (locs : List Loc) (ls : Array Slot), LV F A G C → va_K D classes (tysX cA) s → va_K D classes (tysM cM) s → va_P D classes (wX cA ad F L A B ++ wM cM aM G LG C BG) H → va_D (fun q : Nat => s.heap.size ≤ q) (wX cA ad F L A B ++ wM cM aM G LG C BG) → va_S (fun q : Nat => s.heap.size ≤ q) s.heap H locs → lv_has ls 4 [(0, .ref b), (1, .ref (ad 0)), (2, .ref (aM 0)), (3, .int i)] → W p l e room_1 s m #[Value.ref b] below meth c H locs nC nS Q (F0 m 1007 ls [])) : W p l e room_1 s m #[Value.ref b] below meth c H locs nC nS Q (F0 m 938 ls []) := by
  have hx := hC.1
  have hb := hC.2.1
  have hXs := hC.2.2.2.2.2.2.1
  have hbl := hC.2.2.2.2.2.2.2
  have hA : ∀ q : Nat, s.heap.size ≤ q → (fun q : Nat => s.heap.size ≤ q) q := fun _ h => h
  have hbA : ¬ (fun q : Nat => s.heap.size ≤ q) b := Nat.not_le.mpr hbl
  generalize (fun q : Nat => s.heap.size ≤ q) = Af at *
  refine lv_aload_n hx hb dL_law_938 rfl (lv_at hl 1 rfl) ?_
  refine lv_aload_n hx hb dL_law_939 rfl (lv_at hl 0 rfl) ?_
  refine lv_iload_n hx hb dL_law_940 rfl (lv_at hl 3 rfl) ?_
  refine lv_iconst (v := 1) hx hb dL_law_941 (by decide) ?_
  refine lv_iadd hx hb dL_law_942 ?_
  refine lv_topi (fun x1 e2 => ?_)
  refine va_sld hx hb hXs hbl hbA hS (law_in hi0 hi6 hL e2 (by decide)) dL_law_943 ?_
  refine lv_topi (fun v3 e4 => ?_)
  refine lx_i (As := [.int v3]) (rest := []) (wb := wM cM aM G LG C BG) (hC.mk hKX) (c_X11_image_0 l D cA H.size ad F L A B (v3) hV.1) (cwV 1 hC.2.2.2.2.1 (g_V mw_1082 mw_1079 mw_1080 mw_1081 mw_1) rfl rfl rfl (by decide +kernel) ⟨(Nat.le_of_ble_eq_true rfl), (Nat.le_of_ble_eq_true rfl)⟩) hP hD hS hA atX_0 rfl rfl hl.1 rfl (Nat.le_of_ble_eq_true rfl) dL_law_944 hf (fun r5 u H locs hw hP hD hS => ?_)
  obtain ⟨F6, L6, A6, B6⟩ := u
  try dsimp only at hw
  have w7 := hw
  have hV : LV F6 A6 G C := ⟨w7.1, (xX.fr hV.2.1 (w7.2.1 25 (by decide)) (w7.2.1 26 (by decide))), hV.2.2.1, hV.2.2.2.1, hV.2.2.2.2.1, (w7.2.1 1 (by decide)).trans hV.2.2.2.2.2⟩
  have hP : va_P D classes (wX cA ad F6 L6 A6 B6 ++ wM cM aM G LG C BG) H := hP
  have hD : va_D Af (wX cA ad F6 L6 A6 B6 ++ wM cM aM G LG C BG) := hD
  refine lv_pop hx hb dL_law_947 rfl ?_
  refine lv_aload_n hx hb dL_law_948 rfl (lv_at hl 2 rfl) ?_
  refine lv_aload_n hx hb dL_law_949 rfl (lv_at hl 0 rfl) ?_
  refine lv_iload_n hx hb dL_law_950 rfl (lv_at hl 3 rfl) ?_
  refine lv_iconst (v := 1) hx hb dL_law_951 (by decide) ?_
  refine lv_iadd hx hb dL_law_952 ?_
  refine lv_topi (fun x8 e9 => ?_)
  refine va_sld hx hb hXs hbl hbA hS (law_in hi0 hi6 hL e9 (by decide)) dL_law_953 ?_
  refine lv_topi (fun v10 e11 => ?_)
  refine ly_i (As := [.int v10]) (rest := []) (wb := wX cA ad F6 L6 A6 B6) (hC.mk hKM) (c_X12_image_0 l D cM H.size aM G LG C BG (v10) hV.2.2.1 hV.2.2.2.2.1) (cwV 1 hC.2.2.2.2.1 (g_V mw_1606 mw_1603 mw_1604 mw_1605 mw_20) rfl rfl rfl (by decide +kernel) ⟨(Nat.le_of_ble_eq_true rfl), (Nat.le_of_ble_eq_true rfl)⟩) hP hD hS hA atM_0 rfl rfl hl.1 rfl (Nat.le_of_ble_eq_true rfl) dL_law_954 hf (fun r12 u H locs hw hP hD hS => ?_)
  obtain ⟨G13, LG13, C13, BG13⟩ := u
  try dsimp only at hw
  obtain ⟨w14, w15⟩ := hw
  have hV : LV F6 A6 G13 C13 := ⟨hV.1, hV.2.1, w14.1, (xM.fr hV.2.2.2.1 (w14.2.1 14 (by decide)) (w14.2.1 15 (by decide))), w15, hV.2.2.2.2.2.trans (w14.2.1 18 (by decide)).symm⟩
  have hP : va_P D classes (wX cA ad F6 L6 A6 B6 ++ wM cM aM G13 LG13 C13 BG13) H := hP
  have hD : va_D Af (wX cA ad F6 L6 A6 B6 ++ wM cM aM G13 LG13 C13 BG13) := hD
  refine lv_pop hx hb dL_law_957 rfl ?_
  refine lv_goto (tgt := 1007) hx hb dL_law_958 (by decide) ?_
  exact K cA ad F6 L6 A6 B6 cM aM G13 LG13 C13 BG13 H locs ls hV hKX hKM hP hD hS hl
set_option maxHeartbeats 4000000 in
set_option maxRecDepth 100000 in
theorem law_c29 {p : Program} {e : Env} {s : State} {m : MethodId} {below : List Frame} {meth : Method} {c : Code} {l : Launch} {D : va_G} {b Ls : Nat} {xs : Nat → Int32} {nC nS : Nat} {Q : State → Prop} (hC : LC p s m c b Ls xs) (hL : Ls ≤ 3072) (hf : nC ≤ room_1.cells ∧ nS ≤ room_1.slots) {i : Int32} (hi0 : 0 ≤ i.toInt) (hi6 : i.toInt + 6 ≤ (Ls : Int)) {cA : Nat → ClassId} {ad : Nat → Nat} {F : Nat → Int32} {L : Nat → Int64} {A : Nat → Nat → Int32} {B : Nat → Nat → Int64} {cM : Nat → ClassId} {aM : Nat → Nat} {G : Nat → Int32} {LG : Nat → Int64} {C : Nat → Nat → Int32} {BG : Nat → Nat → Int64} {H : Heap} {locs : List Loc} {ls : Array Slot} (hV : LV F A G C) (hKX : va_K D classes (tysX cA) s) (hKM : va_K D classes (tysM cM) s) (hP : va_P D classes (wX cA ad F L A B ++ wM cM aM G LG C BG) H) (hD : va_D (fun q : Nat => s.heap.size ≤ q) (wX cA ad F L A B ++ wM cM aM G LG C BG)) (hS : va_S (fun q : Nat => s.heap.size ≤ q) s.heap H locs) (hl : lv_has ls 4 [(0, .ref b), (1, .ref (ad 0)), (2, .ref (aM 0)), (3, .int i)]) (K : ∀ (cA : Nat → ClassId) (ad : Nat → Nat) (F : Nat → Int32) (L : Nat → Int64) (A : Nat → Nat → Int32) (B : Nat → Nat → Int64) (cM : Nat → ClassId) (aM : Nat → Nat) (G : Nat → Int32) (LG : Nat → Int64) (C : Nat → Nat → Int32) (BG : Nat → Nat → Int64) (H : Heap) (locs : List Loc) (ls : Array Slot), LV F A G C → va_K D classes (tysX cA) s → va_K D classes (tysM cM) s → va_P D classes (wX cA ad F L A B ++ wM cM aM G LG C BG) H → va_D (fun q : Nat => s.heap.size ≤ q) (wX cA ad F L A B ++ wM cM aM G LG C BG) → va_S (fun q : Nat => s.heap.size ≤ q) s.heap H locs → lv_has ls 4 [(0, .ref b), (1, .ref (ad 0)), (2, .ref (aM 0)), (3, .int i)] → W p l e room_1 s m #[Value.ref b] below meth c H locs nC nS Q (F0 m 1007 ls [])) : W p l e room_1 s m #[Value.ref b] below meth c H locs nC nS Q (F0 m 961 ls []) := by
  have hx := hC.1
  have hb := hC.2.1
  have hXs := hC.2.2.2.2.2.2.1
  have hbl := hC.2.2.2.2.2.2.2
  have hA : ∀ q : Nat, s.heap.size ≤ q → (fun q : Nat => s.heap.size ≤ q) q := fun _ h => h
  have hbA : ¬ (fun q : Nat => s.heap.size ≤ q) b := Nat.not_le.mpr hbl
  generalize (fun q : Nat => s.heap.size ≤ q) = Af at *
  refine lv_aload_n hx hb dL_law_961 rfl (lv_at hl 1 rfl) ?_
  refine lv_aload_n hx hb dL_law_962 rfl (lv_at hl 0 rfl) ?_
  refine lv_iload_n hx hb dL_law_963 rfl (lv_at hl 3 rfl) ?_
  refine lv_iconst (v := 1) hx hb dL_law_964 (by decide) ?_
  refine lv_iadd hx hb dL_law_965 ?_
  refine lv_topi (fun x1 e2 => ?_)
  refine va_sld hx hb hXs hbl hbA hS (law_in hi0 hi6 hL e2 (by decide)) dL_law_966 ?_
  refine lv_topi (fun v3 e4 => ?_)
  refine lx_i (As := [.int v3]) (rest := []) (wb := wM cM aM G LG C BG) (hC.mk hKX) (c_X11_back_0 l D cA H.size ad F L A B (v3) hV.1 hV.2.1) (cwV 1 hC.2.2.2.2.1 (g_V mw_1087 mw_1084 mw_1085 mw_1086 mw_1) rfl rfl rfl (by decide +kernel) ⟨(Nat.le_of_ble_eq_true rfl), (Nat.le_of_ble_eq_true rfl)⟩) hP hD hS hA atX_0 rfl rfl hl.1 rfl (Nat.le_of_ble_eq_true rfl) dL_law_967 hf (fun r5 u H locs hw hP hD hS => ?_)
  obtain ⟨F6, L6, A6, B6⟩ := u
  try dsimp only at hw
  obtain ⟨w7, w8⟩ := hw
  have hV : LV F6 A6 G C := ⟨w7.1, w8, hV.2.2.1, hV.2.2.2.1, hV.2.2.2.2.1, (w7.2.1 1 (by decide)).trans hV.2.2.2.2.2⟩
  have hP : va_P D classes (wX cA ad F6 L6 A6 B6 ++ wM cM aM G LG C BG) H := hP
  have hD : va_D Af (wX cA ad F6 L6 A6 B6 ++ wM cM aM G LG C BG) := hD
  refine lv_pop hx hb dL_law_970 rfl ?_
  refine lv_aload_n hx hb dL_law_971 rfl (lv_at hl 2 rfl) ?_
  refine lv_aload_n hx hb dL_law_972 rfl (lv_at hl 0 rfl) ?_
  refine lv_iload_n hx hb dL_law_973 rfl (lv_at hl 3 rfl) ?_
  refine lv_iconst (v := 1) hx hb dL_law_974 (by decide) ?_
  refine lv_iadd hx hb dL_law_975 ?_
  refine lv_topi (fun x9 e10 => ?_)
  refine va_sld hx hb hXs hbl hbA hS (law_in hi0 hi6 hL e10 (by decide)) dL_law_976 ?_
  refine lv_topi (fun v11 e12 => ?_)
  refine ly_i (As := [.int v11]) (rest := []) (wb := wX cA ad F6 L6 A6 B6) (hC.mk hKM) (c_X12_back_0 l D cM H.size aM G LG C BG (v11) hV.2.2.1 hV.2.2.2.1 hV.2.2.2.2.1) (cwV 1 hC.2.2.2.2.1 (g_V mw_1610 mw_1607 mw_1608 mw_1609 mw_20) rfl rfl rfl (by decide +kernel) ⟨(Nat.le_of_ble_eq_true rfl), (Nat.le_of_ble_eq_true rfl)⟩) hP hD hS hA atM_0 rfl rfl hl.1 rfl (Nat.le_of_ble_eq_true rfl) dL_law_977 hf (fun r13 u H locs hw hP hD hS => ?_)
  obtain ⟨G14, LG14, C14, BG14⟩ := u
  try dsimp only at hw
  obtain ⟨w15, w16, w17⟩ := hw
  have hV : LV F6 A6 G14 C14 := ⟨hV.1, hV.2.1, w15.1, w16, w17, hV.2.2.2.2.2.trans (w15.2.1 18 (by decide)).symm⟩
  have hP : va_P D classes (wX cA ad F6 L6 A6 B6 ++ wM cM aM G14 LG14 C14 BG14) H := hP
  have hD : va_D Af (wX cA ad F6 L6 A6 B6 ++ wM cM aM G14 LG14 C14 BG14) := hD
  refine lv_pop hx hb dL_law_980 rfl ?_
  refine lv_goto (tgt := 1007) hx hb dL_law_981 (by decide) ?_
  exact K cA ad F6 L6 A6 B6 cM aM G14 LG14 C14 BG14 H locs ls hV hKX hKM hP hD hS hl
set_option maxHeartbeats 4000000 in
set_option maxRecDepth 100000 in
theorem law_c30 {p : Program} {e : Env} {s : State} {m : MethodId} {below : List Frame} {meth : Method} {c : Code} {l : Launch} {D : va_G} {b Ls : Nat} {xs : Nat → Int32} {nC nS : Nat} {Q : State → Prop} (hC : LC p s m c b Ls xs) (hL : Ls ≤ 3072) (hf : nC ≤ room_1.cells ∧ nS ≤ room_1.slots) {i : Int32} (hi0 : 0 ≤ i.toInt) (hi6 : i.toInt + 6 ≤ (Ls : Int)) {cA : Nat → ClassId} {ad : Nat → Nat} {F : Nat → Int32} {L : Nat → Int64} {A : Nat → Nat → Int32} {B : Nat → Nat → Int64} {cM : Nat → ClassId} {aM : Nat → Nat} {G : Nat → Int32} {LG : Nat → Int64} {C : Nat → Nat → Int32} {BG : Nat → Nat → Int64} {H : Heap} {locs : List Loc} {ls : Array Slot} (hV : LV F A G C) (hKX : va_K D classes (tysX cA) s) (hKM : va_K D classes (tysM cM) s) (hP : va_P D classes (wX cA ad F L A B ++ wM cM aM G LG C BG) H) (hD : va_D (fun q : Nat => s.heap.size ≤ q) (wX cA ad F L A B ++ wM cM aM G LG C BG)) (hS : va_S (fun q : Nat => s.heap.size ≤ q) s.heap H locs) (hl : lv_has ls 4 [(0, .ref b), (1, .ref (ad 0)), (2, .ref (aM 0)), (3, .int i)]) (K : ∀ (cA : Nat → ClassId) (ad : Nat → Nat) (F : Nat → Int32) (L : Nat → Int64) (A : Nat → Nat → Int32) (B : Nat → Nat → Int64) (cM : Nat → ClassId) (aM : Nat → Nat) (G : Nat → Int32) (LG : Nat → Int64) (C : Nat → Nat → Int32) (BG : Nat → Nat → Int64) (H : Heap) (locs : List Loc) (ls : Array Slot), LV F A G C → va_K D classes (tysX cA) s → va_K D classes (tysM cM) s → va_P D classes (wX cA ad F L A B ++ wM cM aM G LG C BG) H → va_D (fun q : Nat => s.heap.size ≤ q) (wX cA ad F L A B ++ wM cM aM G LG C BG) → va_S (fun q : Nat => s.heap.size ≤ q) s.heap H locs → lv_has ls 4 [(0, .ref b), (1, .ref (ad 0)), (2, .ref (aM 0)), (3, .int i)] → W p l e room_1 s m #[Value.ref b] below meth c H locs nC nS Q (F0 m 1007 ls [])) : W p l e room_1 s m #[Value.ref b] below meth c H locs nC nS Q (F0 m 984 ls []) := by
  have hx := hC.1
  have hb := hC.2.1
  have hXs := hC.2.2.2.2.2.2.1
  have hbl := hC.2.2.2.2.2.2.2
  have hA : ∀ q : Nat, s.heap.size ≤ q → (fun q : Nat => s.heap.size ≤ q) q := fun _ h => h
  have hbA : ¬ (fun q : Nat => s.heap.size ≤ q) b := Nat.not_le.mpr hbl
  generalize (fun q : Nat => s.heap.size ≤ q) = Af at *
  refine lv_aload_n hx hb dL_law_984 rfl (lv_at hl 1 rfl) ?_
  refine lv_aload_n hx hb dL_law_985 rfl (lv_at hl 0 rfl) ?_
  refine lv_iload_n hx hb dL_law_986 rfl (lv_at hl 3 rfl) ?_
  refine lv_iconst (v := 1) hx hb dL_law_987 (by decide) ?_
  refine lv_iadd hx hb dL_law_988 ?_
  refine lv_topi (fun x1 e2 => ?_)
  refine va_sld hx hb hXs hbl hbA hS (law_in hi0 hi6 hL e2 (by decide)) dL_law_989 ?_
  refine lv_topi (fun v3 e4 => ?_)
  refine lx_i (As := [.int v3]) (rest := []) (wb := wM cM aM G LG C BG) (hC.mk hKX) (c_X11_about_0 l D cA H.size ad F L A B (v3) hV.1) (cwV 1 hC.2.2.2.2.1 (g_V mw_1092 mw_1089 mw_1090 mw_1091 mw_1) rfl rfl rfl (by decide +kernel) ⟨(Nat.le_of_ble_eq_true rfl), (Nat.le_of_ble_eq_true rfl)⟩) hP hD hS hA atX_0 rfl rfl hl.1 rfl (Nat.le_of_ble_eq_true rfl) dL_law_990 hf (fun r5 u H locs hw hP hD hS => ?_)
  have hP : va_P D classes (wX cA ad F L A B ++ wM cM aM G LG C BG) H := hP
  have hD : va_D Af (wX cA ad F L A B ++ wM cM aM G LG C BG) := hD
  refine lv_pop hx hb dL_law_993 rfl ?_
  refine lv_aload_n hx hb dL_law_994 rfl (lv_at hl 2 rfl) ?_
  refine lv_aload_n hx hb dL_law_995 rfl (lv_at hl 0 rfl) ?_
  refine lv_iload_n hx hb dL_law_996 rfl (lv_at hl 3 rfl) ?_
  refine lv_iconst (v := 1) hx hb dL_law_997 (by decide) ?_
  refine lv_iadd hx hb dL_law_998 ?_
  refine lv_topi (fun x6 e7 => ?_)
  refine va_sld hx hb hXs hbl hbA hS (law_in hi0 hi6 hL e7 (by decide)) dL_law_999 ?_
  refine lv_topi (fun v8 e9 => ?_)
  refine ly_i (As := [.int v8]) (rest := []) (wb := wX cA ad F L A B) (hC.mk hKM) (c_X12_about_0 l D cM H.size aM G LG C BG (v8) hV.2.2.1) (cwV 1 hC.2.2.2.2.1 (g_V mw_1614 mw_1611 mw_1612 mw_1613 mw_20) rfl rfl rfl (by decide +kernel) ⟨(Nat.le_of_ble_eq_true rfl), (Nat.le_of_ble_eq_true rfl)⟩) hP hD hS hA atM_0 rfl rfl hl.1 rfl (Nat.le_of_ble_eq_true rfl) dL_law_1000 hf (fun r10 u H locs hw hP hD hS => ?_)
  obtain ⟨G11, LG11, C11, BG11⟩ := u
  try dsimp only at hw
  have w12 := hw
  have hV : LV F A G11 C11 := ⟨hV.1, hV.2.1, w12.1, (xM.fr hV.2.2.2.1 (w12.2.1 14 (by decide)) (w12.2.1 15 (by decide))), (LM.fr hV.2.2.2.2.1 (w12.2.1 8 (by decide)) (w12.2.1 14 (by decide)) (w12.2.1 15 (by decide)) (w12.2.2 3 (by decide)) (w12.2.2 4 (by decide)) (w12.2.2 10 (by decide)) (w12.2.2 17 (by decide)) (w12.2.2 27 (by decide)) (w12.2.2 36 (by decide)) (w12.2.2 37 (by decide))), hV.2.2.2.2.2.trans (w12.2.1 18 (by decide)).symm⟩
  have hP : va_P D classes (wX cA ad F L A B ++ wM cM aM G11 LG11 C11 BG11) H := hP
  have hD : va_D Af (wX cA ad F L A B ++ wM cM aM G11 LG11 C11 BG11) := hD
  refine lv_pop hx hb dL_law_1003 rfl ?_
  refine lv_goto (tgt := 1007) hx hb dL_law_1004 (by decide) ?_
  exact K cA ad F L A B cM aM G11 LG11 C11 BG11 H locs ls hV hKX hKM hP hD hS hl
