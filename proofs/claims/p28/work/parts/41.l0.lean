set_option maxHeartbeats 4000000 in
set_option maxRecDepth 100000 in
theorem law_c0 {p : Program} {e : Env} {s : State} {m : MethodId} {below : List Frame} {meth : Method} {c : Code} {l : Launch} {D : va_G} {b Ls : Nat} {xs : Nat → Int32} {nC nS : Nat} {Q : State → Prop} (hC : LC p s m c b Ls xs) (hL : Ls ≤ 3072) (hf : nC ≤ room_1.cells ∧ nS ≤ room_1.slots) {i : Int32} (hi0 : 0 ≤ i.toInt) (hi6 : i.toInt + 6 ≤ (Ls : Int)) {cA : Nat → ClassId} {ad : Nat → Nat} {F : Nat → Int32} {L : Nat → Int64} {A : Nat → Nat → Int32} {B : Nat → Nat → Int64} {cM : Nat → ClassId} {aM : Nat → Nat} {G : Nat → Int32} {LG : Nat → Int64} {C : Nat → Nat → Int32} {BG : Nat → Nat → Int64} {H : Heap} {locs : List Loc} {ls : Array Slot} (hV : LV F A G C) (hKX : va_K D classes (tysX cA) s) (hKM : va_K D classes (tysM cM) s) (hP : va_P D classes (wX cA ad F L A B ++ wM cM aM G LG C BG) H) (hD : va_D (fun q : Nat => s.heap.size ≤ q) (wX cA ad F L A B ++ wM cM aM G LG C BG)) (hS : va_S (fun q : Nat => s.heap.size ≤ q) s.heap H locs) (hl : lv_has ls 4 [(0, .ref b), (1, .ref (ad 0)), (2, .ref (aM 0)), (3, .int i)]) (K : ∀ (cA : Nat → ClassId) (ad : Nat → Nat) (F : Nat → Int32) (L : Nat → Int64) (A : Nat → Nat → Int32) (B : Nat → Nat → Int64) (cM : Nat → ClassId) (aM : Nat → Nat) (G : Nat → Int32) (LG : Nat → Int64) (C : Nat → Nat → Int32) (BG : Nat → Nat → Int64) (H : Heap) (locs : List Loc) (ls : Array Slot), LV F A G C → va_K D classes (tysX cA) s → va_K D classes (tysM cM) s → va_P D classes (wX cA ad F L A B ++ wM cM aM G LG C BG) H → va_D (fun q : Nat => s.heap.size ≤ q) (wX cA ad F L A B ++ wM cM aM G LG C BG) → va_S (fun q : Nat => s.heap.size ≤ q) s.heap H locs → lv_has ls 4 [(0, .ref b), (1, .ref (ad 0)), (2, .ref (aM 0)), (3, .int i)] → W p l e room_1 s m #[Value.ref b] below meth c H locs nC nS Q (F0 m 1007 ls [])) : W p l e room_1 s m #[Value.ref b] below meth c H locs nC nS Q (F0 m 172 ls []) := by
  have hx := hC.1
  have hb := hC.2.1
  have hXs := hC.2.2.2.2.2.2.1
  have hbl := hC.2.2.2.2.2.2.2
  have hA : ∀ q : Nat, s.heap.size ≤ q → (fun q : Nat => s.heap.size ≤ q) q := fun _ h => h
  have hbA : ¬ (fun q : Nat => s.heap.size ≤ q) b := Nat.not_le.mpr hbl
  generalize (fun q : Nat => s.heap.size ≤ q) = Af at *
  refine lv_aload_n hx hb dL_law_172 rfl (lv_at hl 1 rfl) ?_
  refine lv_aload_n hx hb dL_law_173 rfl (lv_at hl 0 rfl) ?_
  refine lv_iload_n hx hb dL_law_174 rfl (lv_at hl 3 rfl) ?_
  refine lv_iconst (v := 1) hx hb dL_law_175 (by decide) ?_
  refine lv_iadd hx hb dL_law_176 ?_
  refine lv_topi (fun x1 e2 => ?_)
  refine va_sld hx hb hXs hbl hbA hS (law_in hi0 hi6 hL e2 (by decide)) dL_law_177 ?_
  refine lv_topi (fun v3 e4 => ?_)
  refine lv_aload_n hx hb dL_law_178 rfl (lv_at hl 0 rfl) ?_
  refine lv_iload_n hx hb dL_law_179 rfl (lv_at hl 3 rfl) ?_
  refine lv_iconst (v := 2) hx hb dL_law_180 (by decide) ?_
  refine lv_iadd hx hb dL_law_181 ?_
  refine lv_topi (fun x5 e6 => ?_)
  refine va_sld hx hb hXs hbl hbA hS (law_in hi0 hi6 hL e6 (by decide)) dL_law_182 ?_
  refine lv_topi (fun v7 e8 => ?_)
  refine lv_aload_n hx hb dL_law_183 rfl (lv_at hl 0 rfl) ?_
  refine lv_iload_n hx hb dL_law_184 rfl (lv_at hl 3 rfl) ?_
  refine lv_iconst (v := 3) hx hb dL_law_185 (by decide) ?_
  refine lv_iadd hx hb dL_law_186 ?_
  refine lv_topi (fun x9 e10 => ?_)
  refine va_sld hx hb hXs hbl hbA hS (law_in hi0 hi6 hL e10 (by decide)) dL_law_187 ?_
  refine lv_topi (fun v11 e12 => ?_)
  refine lv_aload_n hx hb dL_law_188 rfl (lv_at hl 0 rfl) ?_
  refine lv_iload_n hx hb dL_law_189 rfl (lv_at hl 3 rfl) ?_
  refine lv_iconst (v := 4) hx hb dL_law_190 (by decide) ?_
  refine lv_iadd hx hb dL_law_191 ?_
  refine lv_topi (fun x13 e14 => ?_)
  refine va_sld hx hb hXs hbl hbA hS (law_in hi0 hi6 hL e14 (by decide)) dL_law_192 ?_
  refine lv_topi (fun v15 e16 => ?_)
  refine lv_aload_n hx hb dL_law_193 rfl (lv_at hl 0 rfl) ?_
  refine lv_iload_n hx hb dL_law_194 rfl (lv_at hl 3 rfl) ?_
  refine lv_iconst (v := 5) hx hb dL_law_195 (by decide) ?_
  refine lv_iadd hx hb dL_law_196 ?_
  refine lv_topi (fun x17 e18 => ?_)
  refine va_sld hx hb hXs hbl hbA hS (law_in hi0 hi6 hL e18 (by decide)) dL_law_197 ?_
  refine lv_topi (fun v19 e20 => ?_)
  refine lx_i (As := [.int v3, .int v7, .int v11, .int v15, .int v19]) (rest := []) (wb := wM cM aM G LG C BG) (hC.mk hKX) (c_X11_feed_0 l D cA H.size ad F L A B (v3) (v7) (v11) (v15) (v19) hV.1) (cwV 5 hC.2.2.2.2.1 (g_V mw_568 mw_565 mw_566 mw_567 mw_1) rfl rfl rfl (by decide +kernel) ⟨(Nat.le_of_ble_eq_true rfl), (Nat.le_of_ble_eq_true rfl)⟩) hP hD hS hA atX_0 rfl rfl hl.1 rfl (Nat.le_of_ble_eq_true rfl) dL_law_198 hf (fun r21 u H locs hw hP hD hS => ?_)
  obtain ⟨F22, L22, A22, B22⟩ := u
  try dsimp only at hw
  obtain ⟨w23, w24⟩ := hw
  have hV : LV F22 A22 G C := ⟨w23.1, (xX.fr hV.2.1 (w23.2.1 25 (by decide)) (w23.2.1 26 (by decide))), hV.2.2.1, hV.2.2.2.1, hV.2.2.2.2.1, (w23.2.1 1 (by decide)).trans hV.2.2.2.2.2⟩
  have hP : va_P D classes (wX cA ad F22 L22 A22 B22 ++ wM cM aM G LG C BG) H := hP
  have hD : va_D Af (wX cA ad F22 L22 A22 B22 ++ wM cM aM G LG C BG) := hD
  refine lv_pop hx hb dL_law_201 rfl ?_
  refine lv_aload_n hx hb dL_law_202 rfl (lv_at hl 2 rfl) ?_
  refine lv_aload_n hx hb dL_law_203 rfl (lv_at hl 0 rfl) ?_
  refine lv_iload_n hx hb dL_law_204 rfl (lv_at hl 3 rfl) ?_
  refine lv_iconst (v := 1) hx hb dL_law_205 (by decide) ?_
  refine lv_iadd hx hb dL_law_206 ?_
  refine lv_topi (fun x25 e26 => ?_)
  refine va_sld hx hb hXs hbl hbA hS (law_in hi0 hi6 hL e26 (by decide)) dL_law_207 ?_
  refine lv_topi (fun v27 e28 => ?_)
  refine lv_aload_n hx hb dL_law_208 rfl (lv_at hl 0 rfl) ?_
  refine lv_iload_n hx hb dL_law_209 rfl (lv_at hl 3 rfl) ?_
  refine lv_iconst (v := 2) hx hb dL_law_210 (by decide) ?_
  refine lv_iadd hx hb dL_law_211 ?_
  refine lv_topi (fun x29 e30 => ?_)
  refine va_sld hx hb hXs hbl hbA hS (law_in hi0 hi6 hL e30 (by decide)) dL_law_212 ?_
  refine lv_topi (fun v31 e32 => ?_)
  refine lv_aload_n hx hb dL_law_213 rfl (lv_at hl 0 rfl) ?_
  refine lv_iload_n hx hb dL_law_214 rfl (lv_at hl 3 rfl) ?_
  refine lv_iconst (v := 3) hx hb dL_law_215 (by decide) ?_
  refine lv_iadd hx hb dL_law_216 ?_
  refine lv_topi (fun x33 e34 => ?_)
  refine va_sld hx hb hXs hbl hbA hS (law_in hi0 hi6 hL e34 (by decide)) dL_law_217 ?_
  refine lv_topi (fun v35 e36 => ?_)
  refine lv_aload_n hx hb dL_law_218 rfl (lv_at hl 0 rfl) ?_
  refine lv_iload_n hx hb dL_law_219 rfl (lv_at hl 3 rfl) ?_
  refine lv_iconst (v := 4) hx hb dL_law_220 (by decide) ?_
  refine lv_iadd hx hb dL_law_221 ?_
  refine lv_topi (fun x37 e38 => ?_)
  refine va_sld hx hb hXs hbl hbA hS (law_in hi0 hi6 hL e38 (by decide)) dL_law_222 ?_
  refine lv_topi (fun v39 e40 => ?_)
  refine lv_aload_n hx hb dL_law_223 rfl (lv_at hl 0 rfl) ?_
  refine lv_iload_n hx hb dL_law_224 rfl (lv_at hl 3 rfl) ?_
  refine lv_iconst (v := 5) hx hb dL_law_225 (by decide) ?_
  refine lv_iadd hx hb dL_law_226 ?_
  refine lv_topi (fun x41 e42 => ?_)
  refine va_sld hx hb hXs hbl hbA hS (law_in hi0 hi6 hL e42 (by decide)) dL_law_227 ?_
  refine lv_topi (fun v43 e44 => ?_)
  refine ly_i (As := [.int v27, .int v31, .int v35, .int v39, .int v43]) (rest := []) (wb := wX cA ad F22 L22 A22 B22) (hC.mk hKM) (c_X12_feed_0 l D cM H.size aM G LG C BG (v27) (v31) (v35) (v39) (v43) hV.2.2.1) (cwV 5 hC.2.2.2.2.1 (g_V mw_1618 mw_1615 mw_1616 mw_1617 mw_20) rfl rfl rfl (by decide +kernel) ⟨(Nat.le_of_ble_eq_true rfl), (Nat.le_of_ble_eq_true rfl)⟩) hP hD hS hA atM_0 rfl rfl hl.1 rfl (Nat.le_of_ble_eq_true rfl) dL_law_228 hf (fun r45 u H locs hw hP hD hS => ?_)
  obtain ⟨G46, LG46, C46, BG46⟩ := u
  try dsimp only at hw
  obtain ⟨w47, w48⟩ := hw
  have hV : LV F22 A22 G46 C46 := ⟨hV.1, hV.2.1, w47.1, (xM.fr hV.2.2.2.1 (w47.2.1 14 (by decide)) (w47.2.1 15 (by decide))), (LM.fr hV.2.2.2.2.1 (w47.2.1 8 (by decide)) (w47.2.1 14 (by decide)) (w47.2.1 15 (by decide)) (w47.2.2 3 (by decide)) (w47.2.2 4 (by decide)) (w47.2.2 10 (by decide)) (w47.2.2 17 (by decide)) (w47.2.2 27 (by decide)) (w47.2.2 36 (by decide)) (w47.2.2 37 (by decide))), hV.2.2.2.2.2.trans (w47.2.1 18 (by decide)).symm⟩
  have hP : va_P D classes (wX cA ad F22 L22 A22 B22 ++ wM cM aM G46 LG46 C46 BG46) H := hP
  have hD : va_D Af (wX cA ad F22 L22 A22 B22 ++ wM cM aM G46 LG46 C46 BG46) := hD
  refine lv_pop hx hb dL_law_231 rfl ?_
  refine lv_goto (tgt := 1007) hx hb dL_law_232 (by decide) ?_
  exact K cA ad F22 L22 A22 B22 cM aM G46 LG46 C46 BG46 H locs ls hV hKX hKM hP hD hS hl
set_option maxHeartbeats 4000000 in
set_option maxRecDepth 100000 in
theorem law_c1 {p : Program} {e : Env} {s : State} {m : MethodId} {below : List Frame} {meth : Method} {c : Code} {l : Launch} {D : va_G} {b Ls : Nat} {xs : Nat → Int32} {nC nS : Nat} {Q : State → Prop} (hC : LC p s m c b Ls xs) (hL : Ls ≤ 3072) (hf : nC ≤ room_1.cells ∧ nS ≤ room_1.slots) {i : Int32} (hi0 : 0 ≤ i.toInt) (hi6 : i.toInt + 6 ≤ (Ls : Int)) {cA : Nat → ClassId} {ad : Nat → Nat} {F : Nat → Int32} {L : Nat → Int64} {A : Nat → Nat → Int32} {B : Nat → Nat → Int64} {cM : Nat → ClassId} {aM : Nat → Nat} {G : Nat → Int32} {LG : Nat → Int64} {C : Nat → Nat → Int32} {BG : Nat → Nat → Int64} {H : Heap} {locs : List Loc} {ls : Array Slot} (hV : LV F A G C) (hKX : va_K D classes (tysX cA) s) (hKM : va_K D classes (tysM cM) s) (hP : va_P D classes (wX cA ad F L A B ++ wM cM aM G LG C BG) H) (hD : va_D (fun q : Nat => s.heap.size ≤ q) (wX cA ad F L A B ++ wM cM aM G LG C BG)) (hS : va_S (fun q : Nat => s.heap.size ≤ q) s.heap H locs) (hl : lv_has ls 4 [(0, .ref b), (1, .ref (ad 0)), (2, .ref (aM 0)), (3, .int i)]) (K : ∀ (cA : Nat → ClassId) (ad : Nat → Nat) (F : Nat → Int32) (L : Nat → Int64) (A : Nat → Nat → Int32) (B : Nat → Nat → Int64) (cM : Nat → ClassId) (aM : Nat → Nat) (G : Nat → Int32) (LG : Nat → Int64) (C : Nat → Nat → Int32) (BG : Nat → Nat → Int64) (H : Heap) (locs : List Loc) (ls : Array Slot), LV F A G C → va_K D classes (tysX cA) s → va_K D classes (tysM cM) s → va_P D classes (wX cA ad F L A B ++ wM cM aM G LG C BG) H → va_D (fun q : Nat => s.heap.size ≤ q) (wX cA ad F L A B ++ wM cM aM G LG C BG) → va_S (fun q : Nat => s.heap.size ≤ q) s.heap H locs → lv_has ls 4 [(0, .ref b), (1, .ref (ad 0)), (2, .ref (aM 0)), (3, .int i)] → W p l e room_1 s m #[Value.ref b] below meth c H locs nC nS Q (F0 m 1007 ls [])) : W p l e room_1 s m #[Value.ref b] below meth c H locs nC nS Q (F0 m 235 ls []) := by
  have hx := hC.1
  have hb := hC.2.1
  have hXs := hC.2.2.2.2.2.2.1
  have hbl := hC.2.2.2.2.2.2.2
  have hA : ∀ q : Nat, s.heap.size ≤ q → (fun q : Nat => s.heap.size ≤ q) q := fun _ h => h
  have hbA : ¬ (fun q : Nat => s.heap.size ≤ q) b := Nat.not_le.mpr hbl
  generalize (fun q : Nat => s.heap.size ≤ q) = Af at *
  refine lv_aload_n hx hb dL_law_235 rfl (lv_at hl 1 rfl) ?_
  refine lv_aload_n hx hb dL_law_236 rfl (lv_at hl 0 rfl) ?_
  refine lv_iload_n hx hb dL_law_237 rfl (lv_at hl 3 rfl) ?_
  refine lv_iconst (v := 1) hx hb dL_law_238 (by decide) ?_
  refine lv_iadd hx hb dL_law_239 ?_
  refine lv_topi (fun x1 e2 => ?_)
  refine va_sld hx hb hXs hbl hbA hS (law_in hi0 hi6 hL e2 (by decide)) dL_law_240 ?_
  refine lv_topi (fun v3 e4 => ?_)
  refine lx_i (As := [.int v3]) (rest := []) (wb := wM cM aM G LG C BG) (hC.mk hKX) (c_X11_end_0 l D cA H.size ad F L A B (v3) hV.1) (cwV 1 hC.2.2.2.2.1 (g_V mw_576 mw_573 mw_574 mw_575 mw_1) rfl rfl rfl (by decide +kernel) ⟨(Nat.le_of_ble_eq_true rfl), (Nat.le_of_ble_eq_true rfl)⟩) hP hD hS hA atX_0 rfl rfl hl.1 rfl (Nat.le_of_ble_eq_true rfl) dL_law_241 hf (fun r5 u H locs hw hP hD hS => ?_)
  obtain ⟨F6, L6, A6, B6⟩ := u
  try dsimp only at hw
  obtain ⟨w7, w8⟩ := hw
  have hV : LV F6 A6 G C := ⟨w7.1, (xX.fr hV.2.1 (w7.2.1 25 (by decide)) (w7.2.1 26 (by decide))), hV.2.2.1, hV.2.2.2.1, hV.2.2.2.2.1, (w7.2.1 1 (by decide)).trans hV.2.2.2.2.2⟩
  have hP : va_P D classes (wX cA ad F6 L6 A6 B6 ++ wM cM aM G LG C BG) H := hP
  have hD : va_D Af (wX cA ad F6 L6 A6 B6 ++ wM cM aM G LG C BG) := hD
  refine lv_pop hx hb dL_law_244 rfl ?_
  refine lv_aload_n hx hb dL_law_245 rfl (lv_at hl 2 rfl) ?_
  refine lv_aload_n hx hb dL_law_246 rfl (lv_at hl 0 rfl) ?_
  refine lv_iload_n hx hb dL_law_247 rfl (lv_at hl 3 rfl) ?_
  refine lv_iconst (v := 1) hx hb dL_law_248 (by decide) ?_
  refine lv_iadd hx hb dL_law_249 ?_
  refine lv_topi (fun x9 e10 => ?_)
  refine va_sld hx hb hXs hbl hbA hS (law_in hi0 hi6 hL e10 (by decide)) dL_law_250 ?_
  refine lv_topi (fun v11 e12 => ?_)
  refine ly_i (As := [.int v11]) (rest := []) (wb := wX cA ad F6 L6 A6 B6) (hC.mk hKM) (c_X12_end_0 l D cM H.size aM G LG C BG (v11) hV.2.2.1) (cwV 1 hC.2.2.2.2.1 (g_V mw_1622 mw_1619 mw_1620 mw_1621 mw_20) rfl rfl rfl (by decide +kernel) ⟨(Nat.le_of_ble_eq_true rfl), (Nat.le_of_ble_eq_true rfl)⟩) hP hD hS hA atM_0 rfl rfl hl.1 rfl (Nat.le_of_ble_eq_true rfl) dL_law_251 hf (fun r13 u H locs hw hP hD hS => ?_)
  obtain ⟨G14, LG14, C14, BG14⟩ := u
  try dsimp only at hw
  obtain ⟨w15, w16⟩ := hw
  have hV : LV F6 A6 G14 C14 := ⟨hV.1, hV.2.1, w15.1, (xM.fr hV.2.2.2.1 (w15.2.1 14 (by decide)) (w15.2.1 15 (by decide))), (LM.fr hV.2.2.2.2.1 (w15.2.1 8 (by decide)) (w15.2.1 14 (by decide)) (w15.2.1 15 (by decide)) (w15.2.2 3 (by decide)) (w15.2.2 4 (by decide)) (w15.2.2 10 (by decide)) (w15.2.2 17 (by decide)) (w15.2.2 27 (by decide)) (w15.2.2 36 (by decide)) (w15.2.2 37 (by decide))), hV.2.2.2.2.2.trans (w15.2.1 18 (by decide)).symm⟩
  have hP : va_P D classes (wX cA ad F6 L6 A6 B6 ++ wM cM aM G14 LG14 C14 BG14) H := hP
  have hD : va_D Af (wX cA ad F6 L6 A6 B6 ++ wM cM aM G14 LG14 C14 BG14) := hD
  refine lv_pop hx hb dL_law_254 rfl ?_
  refine lv_goto (tgt := 1007) hx hb dL_law_255 (by decide) ?_
  exact K cA ad F6 L6 A6 B6 cM aM G14 LG14 C14 BG14 H locs ls hV hKX hKM hP hD hS hl
set_option maxHeartbeats 4000000 in
set_option maxRecDepth 100000 in
theorem law_c2 {p : Program} {e : Env} {s : State} {m : MethodId} {below : List Frame} {meth : Method} {c : Code} {l : Launch} {D : va_G} {b Ls : Nat} {xs : Nat → Int32} {nC nS : Nat} {Q : State → Prop} (hC : LC p s m c b Ls xs) (hL : Ls ≤ 3072) (hf : nC ≤ room_1.cells ∧ nS ≤ room_1.slots) {i : Int32} (hi0 : 0 ≤ i.toInt) (hi6 : i.toInt + 6 ≤ (Ls : Int)) {cA : Nat → ClassId} {ad : Nat → Nat} {F : Nat → Int32} {L : Nat → Int64} {A : Nat → Nat → Int32} {B : Nat → Nat → Int64} {cM : Nat → ClassId} {aM : Nat → Nat} {G : Nat → Int32} {LG : Nat → Int64} {C : Nat → Nat → Int32} {BG : Nat → Nat → Int64} {H : Heap} {locs : List Loc} {ls : Array Slot} (hV : LV F A G C) (hKX : va_K D classes (tysX cA) s) (hKM : va_K D classes (tysM cM) s) (hP : va_P D classes (wX cA ad F L A B ++ wM cM aM G LG C BG) H) (hD : va_D (fun q : Nat => s.heap.size ≤ q) (wX cA ad F L A B ++ wM cM aM G LG C BG)) (hS : va_S (fun q : Nat => s.heap.size ≤ q) s.heap H locs) (hl : lv_has ls 4 [(0, .ref b), (1, .ref (ad 0)), (2, .ref (aM 0)), (3, .int i)]) (K : ∀ (cA : Nat → ClassId) (ad : Nat → Nat) (F : Nat → Int32) (L : Nat → Int64) (A : Nat → Nat → Int32) (B : Nat → Nat → Int64) (cM : Nat → ClassId) (aM : Nat → Nat) (G : Nat → Int32) (LG : Nat → Int64) (C : Nat → Nat → Int32) (BG : Nat → Nat → Int64) (H : Heap) (locs : List Loc) (ls : Array Slot), LV F A G C → va_K D classes (tysX cA) s → va_K D classes (tysM cM) s → va_P D classes (wX cA ad F L A B ++ wM cM aM G LG C BG) H → va_D (fun q : Nat => s.heap.size ≤ q) (wX cA ad F L A B ++ wM cM aM G LG C BG) → va_S (fun q : Nat => s.heap.size ≤ q) s.heap H locs → lv_has ls 4 [(0, .ref b), (1, .ref (ad 0)), (2, .ref (aM 0)), (3, .int i)] → W p l e room_1 s m #[Value.ref b] below meth c H locs nC nS Q (F0 m 1007 ls [])) : W p l e room_1 s m #[Value.ref b] below meth c H locs nC nS Q (F0 m 258 ls []) := by
  have hx := hC.1
  have hb := hC.2.1
  have hXs := hC.2.2.2.2.2.2.1
  have hbl := hC.2.2.2.2.2.2.2
  have hA : ∀ q : Nat, s.heap.size ≤ q → (fun q : Nat => s.heap.size ≤ q) q := fun _ h => h
  have hbA : ¬ (fun q : Nat => s.heap.size ≤ q) b := Nat.not_le.mpr hbl
  generalize (fun q : Nat => s.heap.size ≤ q) = Af at *
  refine lv_aload_n hx hb dL_law_258 rfl (lv_at hl 1 rfl) ?_
  refine lx_i (As := []) (rest := []) (wb := wM cM aM G LG C BG) (hC.mk hKX) (c_X11_yard_0 l D cA H.size ad F L A B  hV.1 hV.2.1) (cwV 0 hC.2.2.2.2.1 (g_V mw_580 mw_577 mw_578 mw_579 mw_1) rfl rfl rfl (by decide +kernel) ⟨(Nat.le_of_ble_eq_true rfl), (Nat.le_of_ble_eq_true rfl)⟩) hP hD hS hA atX_0 rfl rfl hl.1 rfl (Nat.le_of_ble_eq_true rfl) dL_law_259 hf (fun r1 u H locs hw hP hD hS => ?_)
  obtain ⟨⟨F2, L2, A2, B2⟩, cA2, ad2⟩ := u
  obtain ⟨w1, w2, w3, w4, w5, -⟩ := hw
  dsimp only at w1 w2 w3 w4 w5
  have hKX : va_K D classes (tysX cA2) s := w4.elim (fun h => by rw [h]; exact hKX) (fun h => by rw [h]; exact permK hKX)
  rw [← w5] at hl
  have hV : LV F2 A2 G C := ⟨w1, w2, hV.2.2.1, hV.2.2.2.1, hV.2.2.2.2.1, w3.trans hV.2.2.2.2.2⟩
  have hP : va_P D classes (wX cA2 ad2 F2 L2 A2 B2 ++ wM cM aM G LG C BG) H := hP
  have hD : va_D Af (wX cA2 ad2 F2 L2 A2 B2 ++ wM cM aM G LG C BG) := hD
  have hl : lv_has ls 4 [(0, .ref b), (1, .ref (ad2 0)), (2, .ref (aM 0)), (3, .int i)] := hl
  refine lv_pop hx hb dL_law_262 rfl ?_
  refine lv_aload_n hx hb dL_law_263 rfl (lv_at hl 2 rfl) ?_
  refine ly_i (As := []) (rest := []) (wb := wX cA2 ad2 F2 L2 A2 B2) (hC.mk hKM) (c_X12_yard_0 l D cM H.size aM G LG C BG  hV.2.2.1 hV.2.2.2.1 hV.2.2.2.2.1) (cwV 0 hC.2.2.2.2.1 (g_V mw_1284 mw_1281 mw_1282 mw_1283 mw_20) rfl rfl rfl (by decide +kernel) ⟨(Nat.le_of_ble_eq_true rfl), (Nat.le_of_ble_eq_true rfl)⟩) hP hD hS hA atM_0 rfl rfl hl.1 rfl (Nat.le_of_ble_eq_true rfl) dL_law_264 hf (fun r3 u H locs hw hP hD hS => ?_)
  obtain ⟨G4, LG4, C4, BG4⟩ := u
  try dsimp only at hw
  obtain ⟨w5, w6, w7, w8⟩ := hw
  have hV : LV F2 A2 G4 C4 := ⟨hV.1, hV.2.1, w5.1, w6, w8, hV.2.2.2.2.2.trans (w5.2.1 18 (by decide)).symm⟩
  have hP : va_P D classes (wX cA2 ad2 F2 L2 A2 B2 ++ wM cM aM G4 LG4 C4 BG4) H := hP
  have hD : va_D Af (wX cA2 ad2 F2 L2 A2 B2 ++ wM cM aM G4 LG4 C4 BG4) := hD
  refine lv_pop hx hb dL_law_267 rfl ?_
  refine lv_goto (tgt := 1007) hx hb dL_law_268 (by decide) ?_
  exact K cA2 ad2 F2 L2 A2 B2 cM aM G4 LG4 C4 BG4 H locs ls hV hKX hKM hP hD hS hl
set_option maxHeartbeats 4000000 in
set_option maxRecDepth 100000 in
theorem law_c3 {p : Program} {e : Env} {s : State} {m : MethodId} {below : List Frame} {meth : Method} {c : Code} {l : Launch} {D : va_G} {b Ls : Nat} {xs : Nat → Int32} {nC nS : Nat} {Q : State → Prop} (hC : LC p s m c b Ls xs) (hL : Ls ≤ 3072) (hf : nC ≤ room_1.cells ∧ nS ≤ room_1.slots) {i : Int32} (hi0 : 0 ≤ i.toInt) (hi6 : i.toInt + 6 ≤ (Ls : Int)) {cA : Nat → ClassId} {ad : Nat → Nat} {F : Nat → Int32} {L : Nat → Int64} {A : Nat → Nat → Int32} {B : Nat → Nat → Int64} {cM : Nat → ClassId} {aM : Nat → Nat} {G : Nat → Int32} {LG : Nat → Int64} {C : Nat → Nat → Int32} {BG : Nat → Nat → Int64} {H : Heap} {locs : List Loc} {ls : Array Slot} (hV : LV F A G C) (hKX : va_K D classes (tysX cA) s) (hKM : va_K D classes (tysM cM) s) (hP : va_P D classes (wX cA ad F L A B ++ wM cM aM G LG C BG) H) (hD : va_D (fun q : Nat => s.heap.size ≤ q) (wX cA ad F L A B ++ wM cM aM G LG C BG)) (hS : va_S (fun q : Nat => s.heap.size ≤ q) s.heap H locs) (hl : lv_has ls 4 [(0, .ref b), (1, .ref (ad 0)), (2, .ref (aM 0)), (3, .int i)]) (K : ∀ (cA : Nat → ClassId) (ad : Nat → Nat) (F : Nat → Int32) (L : Nat → Int64) (A : Nat → Nat → Int32) (B : Nat → Nat → Int64) (cM : Nat → ClassId) (aM : Nat → Nat) (G : Nat → Int32) (LG : Nat → Int64) (C : Nat → Nat → Int32) (BG : Nat → Nat → Int64) (H : Heap) (locs : List Loc) (ls : Array Slot), LV F A G C → va_K D classes (tysX cA) s → va_K D classes (tysM cM) s → va_P D classes (wX cA ad F L A B ++ wM cM aM G LG C BG) H → va_D (fun q : Nat => s.heap.size ≤ q) (wX cA ad F L A B ++ wM cM aM G LG C BG) → va_S (fun q : Nat => s.heap.size ≤ q) s.heap H locs → lv_has ls 4 [(0, .ref b), (1, .ref (ad 0)), (2, .ref (aM 0)), (3, .int i)] → W p l e room_1 s m #[Value.ref b] below meth c H locs nC nS Q (F0 m 1007 ls [])) : W p l e room_1 s m #[Value.ref b] below meth c H locs nC nS Q (F0 m 271 ls []) := by
  have hx := hC.1
  have hb := hC.2.1
  have hXs := hC.2.2.2.2.2.2.1
  have hbl := hC.2.2.2.2.2.2.2
  have hA : ∀ q : Nat, s.heap.size ≤ q → (fun q : Nat => s.heap.size ≤ q) q := fun _ h => h
  have hbA : ¬ (fun q : Nat => s.heap.size ≤ q) b := Nat.not_le.mpr hbl
  generalize (fun q : Nat => s.heap.size ≤ q) = Af at *
  refine lv_aload_n hx hb dL_law_271 rfl (lv_at hl 1 rfl) ?_
  refine lv_aload_n hx hb dL_law_272 rfl (lv_at hl 0 rfl) ?_
  refine lv_iload_n hx hb dL_law_273 rfl (lv_at hl 3 rfl) ?_
  refine lv_iconst (v := 1) hx hb dL_law_274 (by decide) ?_
  refine lv_iadd hx hb dL_law_275 ?_
  refine lv_topi (fun x1 e2 => ?_)
  refine va_sld hx hb hXs hbl hbA hS (law_in hi0 hi6 hL e2 (by decide)) dL_law_276 ?_
  refine lv_topi (fun v3 e4 => ?_)
  refine lx_i (As := [.int v3]) (rest := []) (wb := wM cM aM G LG C BG) (hC.mk hKX) (c_X11_fault_0 l D cA H.size ad F L A B (v3) hV.1) (cwV 1 hC.2.2.2.2.1 (g_V mw_719 mw_716 mw_717 mw_718 mw_1) rfl rfl rfl (by decide +kernel) ⟨(Nat.le_of_ble_eq_true rfl), (Nat.le_of_ble_eq_true rfl)⟩) hP hD hS hA atX_0 rfl rfl hl.1 rfl (Nat.le_of_ble_eq_true rfl) dL_law_277 hf (fun r5 u H locs hw hP hD hS => ?_)
  have hP : va_P D classes (wX cA ad F L A B ++ wM cM aM G LG C BG) H := hP
  have hD : va_D Af (wX cA ad F L A B ++ wM cM aM G LG C BG) := hD
  refine lv_pop hx hb dL_law_280 rfl ?_
  refine lv_aload_n hx hb dL_law_281 rfl (lv_at hl 2 rfl) ?_
  refine lv_aload_n hx hb dL_law_282 rfl (lv_at hl 0 rfl) ?_
  refine lv_iload_n hx hb dL_law_283 rfl (lv_at hl 3 rfl) ?_
  refine lv_iconst (v := 1) hx hb dL_law_284 (by decide) ?_
  refine lv_iadd hx hb dL_law_285 ?_
  refine lv_topi (fun x6 e7 => ?_)
  refine va_sld hx hb hXs hbl hbA hS (law_in hi0 hi6 hL e7 (by decide)) dL_law_286 ?_
  refine lv_topi (fun v8 e9 => ?_)
  refine ly_i (As := [.int v8]) (rest := []) (wb := wX cA ad F L A B) (hC.mk hKM) (c_X12_fault_0 l D cM H.size aM G LG C BG (v8) hV.2.2.1) (cwV 1 hC.2.2.2.2.1 (g_V mw_1376 mw_1373 mw_1374 mw_1375 mw_20) rfl rfl rfl (by decide +kernel) ⟨(Nat.le_of_ble_eq_true rfl), (Nat.le_of_ble_eq_true rfl)⟩) hP hD hS hA atM_0 rfl rfl hl.1 rfl (Nat.le_of_ble_eq_true rfl) dL_law_287 hf (fun r10 u H locs hw hP hD hS => ?_)
  have hP : va_P D classes (wX cA ad F L A B ++ wM cM aM G LG C BG) H := hP
  have hD : va_D Af (wX cA ad F L A B ++ wM cM aM G LG C BG) := hD
  refine lv_pop hx hb dL_law_290 rfl ?_
  refine lv_goto (tgt := 1007) hx hb dL_law_291 (by decide) ?_
  exact K cA ad F L A B cM aM G LG C BG H locs ls hV hKX hKM hP hD hS hl
set_option maxHeartbeats 4000000 in
set_option maxRecDepth 100000 in
theorem law_c4 {p : Program} {e : Env} {s : State} {m : MethodId} {below : List Frame} {meth : Method} {c : Code} {l : Launch} {D : va_G} {b Ls : Nat} {xs : Nat → Int32} {nC nS : Nat} {Q : State → Prop} (hC : LC p s m c b Ls xs) (hL : Ls ≤ 3072) (hf : nC ≤ room_1.cells ∧ nS ≤ room_1.slots) {i : Int32} (hi0 : 0 ≤ i.toInt) (hi6 : i.toInt + 6 ≤ (Ls : Int)) {cA : Nat → ClassId} {ad : Nat → Nat} {F : Nat → Int32} {L : Nat → Int64} {A : Nat → Nat → Int32} {B : Nat → Nat → Int64} {cM : Nat → ClassId} {aM : Nat → Nat} {G : Nat → Int32} {LG : Nat → Int64} {C : Nat → Nat → Int32} {BG : Nat → Nat → Int64} {H : Heap} {locs : List Loc} {ls : Array Slot} (hV : LV F A G C) (hKX : va_K D classes (tysX cA) s) (hKM : va_K D classes (tysM cM) s) (hP : va_P D classes (wX cA ad F L A B ++ wM cM aM G LG C BG) H) (hD : va_D (fun q : Nat => s.heap.size ≤ q) (wX cA ad F L A B ++ wM cM aM G LG C BG)) (hS : va_S (fun q : Nat => s.heap.size ≤ q) s.heap H locs) (hl : lv_has ls 4 [(0, .ref b), (1, .ref (ad 0)), (2, .ref (aM 0)), (3, .int i)]) (K : ∀ (cA : Nat → ClassId) (ad : Nat → Nat) (F : Nat → Int32) (L : Nat → Int64) (A : Nat → Nat → Int32) (B : Nat → Nat → Int64) (cM : Nat → ClassId) (aM : Nat → Nat) (G : Nat → Int32) (LG : Nat → Int64) (C : Nat → Nat → Int32) (BG : Nat → Nat → Int64) (H : Heap) (locs : List Loc) (ls : Array Slot), LV F A G C → va_K D classes (tysX cA) s → va_K D classes (tysM cM) s → va_P D classes (wX cA ad F L A B ++ wM cM aM G LG C BG) H → va_D (fun q : Nat => s.heap.size ≤ q) (wX cA ad F L A B ++ wM cM aM G LG C BG) → va_S (fun q : Nat => s.heap.size ≤ q) s.heap H locs → lv_has ls 4 [(0, .ref b), (1, .ref (ad 0)), (2, .ref (aM 0)), (3, .int i)] → W p l e room_1 s m #[Value.ref b] below meth c H locs nC nS Q (F0 m 1007 ls [])) : W p l e room_1 s m #[Value.ref b] below meth c H locs nC nS Q (F0 m 294 ls []) := by
  have hx := hC.1
  have hb := hC.2.1
  have hXs := hC.2.2.2.2.2.2.1
  have hbl := hC.2.2.2.2.2.2.2
  have hA : ∀ q : Nat, s.heap.size ≤ q → (fun q : Nat => s.heap.size ≤ q) q := fun _ h => h
  have hbA : ¬ (fun q : Nat => s.heap.size ≤ q) b := Nat.not_le.mpr hbl
  generalize (fun q : Nat => s.heap.size ≤ q) = Af at *
  refine lv_aload_n hx hb dL_law_294 rfl (lv_at hl 1 rfl) ?_
  refine lv_aload_n hx hb dL_law_295 rfl (lv_at hl 0 rfl) ?_
  refine lv_iload_n hx hb dL_law_296 rfl (lv_at hl 3 rfl) ?_
  refine lv_iconst (v := 1) hx hb dL_law_297 (by decide) ?_
  refine lv_iadd hx hb dL_law_298 ?_
  refine lv_topi (fun x1 e2 => ?_)
  refine va_sld hx hb hXs hbl hbA hS (law_in hi0 hi6 hL e2 (by decide)) dL_law_299 ?_
  refine lv_topi (fun v3 e4 => ?_)
  refine lv_aload_n hx hb dL_law_300 rfl (lv_at hl 0 rfl) ?_
  refine lv_iload_n hx hb dL_law_301 rfl (lv_at hl 3 rfl) ?_
  refine lv_iconst (v := 2) hx hb dL_law_302 (by decide) ?_
  refine lv_iadd hx hb dL_law_303 ?_
  refine lv_topi (fun x5 e6 => ?_)
  refine va_sld hx hb hXs hbl hbA hS (law_in hi0 hi6 hL e6 (by decide)) dL_law_304 ?_
  refine lv_topi (fun v7 e8 => ?_)
  refine lx_i (As := [.int v3, .int v7]) (rest := []) (wb := wM cM aM G LG C BG) (hC.mk hKX) (c_X11_lacks_0 l D cA H.size ad F L A B (v3) (v7) hV.1) (cwV 2 hC.2.2.2.2.1 (g_V mw_723 mw_720 mw_721 mw_722 mw_1) rfl rfl rfl (by decide +kernel) ⟨(Nat.le_of_ble_eq_true rfl), (Nat.le_of_ble_eq_true rfl)⟩) hP hD hS hA atX_0 rfl rfl hl.1 rfl (Nat.le_of_ble_eq_true rfl) dL_law_305 hf (fun r9 u H locs hw hP hD hS => ?_)
  have hP : va_P D classes (wX cA ad F L A B ++ wM cM aM G LG C BG) H := hP
  have hD : va_D Af (wX cA ad F L A B ++ wM cM aM G LG C BG) := hD
  refine lv_pop hx hb dL_law_308 rfl ?_
  refine lv_aload_n hx hb dL_law_309 rfl (lv_at hl 2 rfl) ?_
  refine lv_aload_n hx hb dL_law_310 rfl (lv_at hl 0 rfl) ?_
  refine lv_iload_n hx hb dL_law_311 rfl (lv_at hl 3 rfl) ?_
  refine lv_iconst (v := 1) hx hb dL_law_312 (by decide) ?_
  refine lv_iadd hx hb dL_law_313 ?_
  refine lv_topi (fun x10 e11 => ?_)
  refine va_sld hx hb hXs hbl hbA hS (law_in hi0 hi6 hL e11 (by decide)) dL_law_314 ?_
  refine lv_topi (fun v12 e13 => ?_)
  refine lv_aload_n hx hb dL_law_315 rfl (lv_at hl 0 rfl) ?_
  refine lv_iload_n hx hb dL_law_316 rfl (lv_at hl 3 rfl) ?_
  refine lv_iconst (v := 2) hx hb dL_law_317 (by decide) ?_
  refine lv_iadd hx hb dL_law_318 ?_
  refine lv_topi (fun x14 e15 => ?_)
  refine va_sld hx hb hXs hbl hbA hS (law_in hi0 hi6 hL e15 (by decide)) dL_law_319 ?_
  refine lv_topi (fun v16 e17 => ?_)
  refine ly_i (As := [.int v12, .int v16]) (rest := []) (wb := wX cA ad F L A B) (hC.mk hKM) (c_X12_lacks_0 l D cM H.size aM G LG C BG (v12) (v16) hV.2.2.1) (cwV 2 hC.2.2.2.2.1 (g_V mw_1380 mw_1377 mw_1378 mw_1379 mw_20) rfl rfl rfl (by decide +kernel) ⟨(Nat.le_of_ble_eq_true rfl), (Nat.le_of_ble_eq_true rfl)⟩) hP hD hS hA atM_0 rfl rfl hl.1 rfl (Nat.le_of_ble_eq_true rfl) dL_law_320 hf (fun r18 u H locs hw hP hD hS => ?_)
  have hP : va_P D classes (wX cA ad F L A B ++ wM cM aM G LG C BG) H := hP
  have hD : va_D Af (wX cA ad F L A B ++ wM cM aM G LG C BG) := hD
  refine lv_pop hx hb dL_law_323 rfl ?_
  refine lv_goto (tgt := 1007) hx hb dL_law_324 (by decide) ?_
  exact K cA ad F L A B cM aM G LG C BG H locs ls hV hKX hKM hP hD hS hl
set_option maxHeartbeats 4000000 in
set_option maxRecDepth 100000 in
theorem law_c5 {p : Program} {e : Env} {s : State} {m : MethodId} {below : List Frame} {meth : Method} {c : Code} {l : Launch} {D : va_G} {b Ls : Nat} {xs : Nat → Int32} {nC nS : Nat} {Q : State → Prop} (hC : LC p s m c b Ls xs) (hL : Ls ≤ 3072) (hf : nC ≤ room_1.cells ∧ nS ≤ room_1.slots) {i : Int32} (hi0 : 0 ≤ i.toInt) (hi6 : i.toInt + 6 ≤ (Ls : Int)) {cA : Nat → ClassId} {ad : Nat → Nat} {F : Nat → Int32} {L : Nat → Int64} {A : Nat → Nat → Int32} {B : Nat → Nat → Int64} {cM : Nat → ClassId} {aM : Nat → Nat} {G : Nat → Int32} {LG : Nat → Int64} {C : Nat → Nat → Int32} {BG : Nat → Nat → Int64} {H : Heap} {locs : List Loc} {ls : Array Slot} (hV : LV F A G C) (hKX : va_K D classes (tysX cA) s) (hKM : va_K D classes (tysM cM) s) (hP : va_P D classes (wX cA ad F L A B ++ wM cM aM G LG C BG) H) (hD : va_D (fun q : Nat => s.heap.size ≤ q) (wX cA ad F L A B ++ wM cM aM G LG C BG)) (hS : va_S (fun q : Nat => s.heap.size ≤ q) s.heap H locs) (hl : lv_has ls 4 [(0, .ref b), (1, .ref (ad 0)), (2, .ref (aM 0)), (3, .int i)]) (K : ∀ (cA : Nat → ClassId) (ad : Nat → Nat) (F : Nat → Int32) (L : Nat → Int64) (A : Nat → Nat → Int32) (B : Nat → Nat → Int64) (cM : Nat → ClassId) (aM : Nat → Nat) (G : Nat → Int32) (LG : Nat → Int64) (C : Nat → Nat → Int32) (BG : Nat → Nat → Int64) (H : Heap) (locs : List Loc) (ls : Array Slot), LV F A G C → va_K D classes (tysX cA) s → va_K D classes (tysM cM) s → va_P D classes (wX cA ad F L A B ++ wM cM aM G LG C BG) H → va_D (fun q : Nat => s.heap.size ≤ q) (wX cA ad F L A B ++ wM cM aM G LG C BG) → va_S (fun q : Nat => s.heap.size ≤ q) s.heap H locs → lv_has ls 4 [(0, .ref b), (1, .ref (ad 0)), (2, .ref (aM 0)), (3, .int i)] → W p l e room_1 s m #[Value.ref b] below meth c H locs nC nS Q (F0 m 1007 ls [])) : W p l e room_1 s m #[Value.ref b] below meth c H locs nC nS Q (F0 m 327 ls []) := by
  have hx := hC.1
  have hb := hC.2.1
  have hXs := hC.2.2.2.2.2.2.1
  have hbl := hC.2.2.2.2.2.2.2
  have hA : ∀ q : Nat, s.heap.size ≤ q → (fun q : Nat => s.heap.size ≤ q) q := fun _ h => h
  have hbA : ¬ (fun q : Nat => s.heap.size ≤ q) b := Nat.not_le.mpr hbl
  generalize (fun q : Nat => s.heap.size ≤ q) = Af at *
  refine lv_aload_n hx hb dL_law_327 rfl (lv_at hl 1 rfl) ?_
  refine lv_aload_n hx hb dL_law_328 rfl (lv_at hl 0 rfl) ?_
  refine lv_iload_n hx hb dL_law_329 rfl (lv_at hl 3 rfl) ?_
  refine lv_iconst (v := 1) hx hb dL_law_330 (by decide) ?_
  refine lv_iadd hx hb dL_law_331 ?_
  refine lv_topi (fun x1 e2 => ?_)
  refine va_sld hx hb hXs hbl hbA hS (law_in hi0 hi6 hL e2 (by decide)) dL_law_332 ?_
  refine lv_topi (fun v3 e4 => ?_)
  refine lv_aload_n hx hb dL_law_333 rfl (lv_at hl 0 rfl) ?_
  refine lv_iload_n hx hb dL_law_334 rfl (lv_at hl 3 rfl) ?_
  refine lv_iconst (v := 2) hx hb dL_law_335 (by decide) ?_
  refine lv_iadd hx hb dL_law_336 ?_
  refine lv_topi (fun x5 e6 => ?_)
  refine va_sld hx hb hXs hbl hbA hS (law_in hi0 hi6 hL e6 (by decide)) dL_law_337 ?_
  refine lv_topi (fun v7 e8 => ?_)
  refine lv_if_eq (tgt := 345) hx hb dL_law_338 (by decide) (fun c9 => ?_) (fun c9 => ?_)
  · skip
    refine lv_iconst (v := 0) hx hb dL_law_345 (by decide) ?_
    refine lx_i (As := [.int v3, .int 0]) (rest := []) (wb := wM cM aM G LG C BG) (hC.mk hKX) (c_X11_sum_0 l D cA H.size ad F L A B (v3) (0) hV.1 (rg_k (by decide))) (cwV 2 hC.2.2.2.2.1 (g_V mw_740 mw_737 mw_738 mw_739 mw_1) rfl rfl rfl (by decide +kernel) ⟨(Nat.le_of_ble_eq_true rfl), (Nat.le_of_ble_eq_true rfl)⟩) hP hD hS hA atX_0 rfl rfl hl.1 rfl (Nat.le_of_ble_eq_true rfl) dL_law_346 hf (fun r10 u H locs hw hP hD hS => ?_)
    have hP : va_P D classes (wX cA ad F L A B ++ wM cM aM G LG C BG) H := hP
    have hD : va_D Af (wX cA ad F L A B ++ wM cM aM G LG C BG) := hD
    refine lv_pop hx hb dL_law_349 rfl ?_
    refine lv_aload_n hx hb dL_law_350 rfl (lv_at hl 2 rfl) ?_
    refine lv_aload_n hx hb dL_law_351 rfl (lv_at hl 0 rfl) ?_
    refine lv_iload_n hx hb dL_law_352 rfl (lv_at hl 3 rfl) ?_
    refine lv_iconst (v := 1) hx hb dL_law_353 (by decide) ?_
    refine lv_iadd hx hb dL_law_354 ?_
    refine lv_topi (fun x11 e12 => ?_)
    refine va_sld hx hb hXs hbl hbA hS (law_in hi0 hi6 hL e12 (by decide)) dL_law_355 ?_
    refine lv_topi (fun v13 e14 => ?_)
    refine lv_aload_n hx hb dL_law_356 rfl (lv_at hl 0 rfl) ?_
    refine lv_iload_n hx hb dL_law_357 rfl (lv_at hl 3 rfl) ?_
    refine lv_iconst (v := 2) hx hb dL_law_358 (by decide) ?_
    refine lv_iadd hx hb dL_law_359 ?_
    refine lv_topi (fun x15 e16 => ?_)
    refine va_sld hx hb hXs hbl hbA hS (law_in hi0 hi6 hL e16 (by decide)) dL_law_360 ?_
    refine lv_topi (fun v17 e18 => ?_)
    refine lv_if_eq (tgt := 368) hx hb dL_law_361 (by decide) (fun c19 => ?_) (fun c19 => ?_)
    · skip
      refine lv_iconst (v := 0) hx hb dL_law_368 (by decide) ?_
      refine ly_i (As := [.int v13, .int 0]) (rest := []) (wb := wX cA ad F L A B) (hC.mk hKM) (c_X12_sum_0_v0 l D cM H.size aM G LG C BG (v13) (0) hV.2.2.1 (rg_k (by decide))) (cwV 2 hC.2.2.2.2.1 (g_V mw_1403 mw_1400 mw_1401 mw_1402 mw_20) rfl rfl rfl (by decide +kernel) ⟨(Nat.le_of_ble_eq_true rfl), (Nat.le_of_ble_eq_true rfl)⟩) hP hD hS hA atM_0 rfl rfl hl.1 rfl (Nat.le_of_ble_eq_true rfl) dL_law_369 hf (fun r20 u H locs hw hP hD hS => ?_)
      obtain ⟨G21, LG21, C21, BG21⟩ := u
      try dsimp only at hw
      have w22 := hw
      have hV : LV F A G21 C21 := ⟨hV.1, hV.2.1, w22.1, (xM.fr hV.2.2.2.1 (w22.2.1 14 (by decide)) (w22.2.1 15 (by decide))), (LM.fr hV.2.2.2.2.1 (w22.2.1 8 (by decide)) (w22.2.1 14 (by decide)) (w22.2.1 15 (by decide)) (w22.2.2 3 (by decide)) (w22.2.2 4 (by decide)) (w22.2.2 10 (by decide)) (w22.2.2 17 (by decide)) (w22.2.2 27 (by decide)) (w22.2.2 36 (by decide)) (w22.2.2 37 (by decide))), hV.2.2.2.2.2.trans (w22.2.1 18 (by decide)).symm⟩
      have hP : va_P D classes (wX cA ad F L A B ++ wM cM aM G21 LG21 C21 BG21) H := hP
      have hD : va_D Af (wX cA ad F L A B ++ wM cM aM G21 LG21 C21 BG21) := hD
      refine lv_pop hx hb dL_law_372 rfl ?_
      refine lv_goto (tgt := 1007) hx hb dL_law_373 (by decide) ?_
      exact K cA ad F L A B cM aM G21 LG21 C21 BG21 H locs ls hV hKX hKM hP hD hS hl
    · skip
      refine lv_iconst (v := 1) hx hb dL_law_364 (by decide) ?_
      refine lv_goto (tgt := 369) hx hb dL_law_365 (by decide) ?_
      refine ly_i (As := [.int v13, .int 1]) (rest := []) (wb := wX cA ad F L A B) (hC.mk hKM) (c_X12_sum_0_v1 l D cM H.size aM G LG C BG (v13) (1) hV.2.2.1 (rg_k (by decide))) (cwV 2 hC.2.2.2.2.1 (g_V mw_1403 mw_1400 mw_1401 mw_1402 mw_20) rfl rfl rfl (by decide +kernel) ⟨(Nat.le_of_ble_eq_true rfl), (Nat.le_of_ble_eq_true rfl)⟩) hP hD hS hA atM_0 rfl rfl hl.1 rfl (Nat.le_of_ble_eq_true rfl) dL_law_369 hf (fun r23 u H locs hw hP hD hS => ?_)
      obtain ⟨G24, LG24, C24, BG24⟩ := u
      try dsimp only at hw
      have w25 := hw
      have hV : LV F A G24 C24 := ⟨hV.1, hV.2.1, w25.1, (xM.fr hV.2.2.2.1 (w25.2.1 14 (by decide)) (w25.2.1 15 (by decide))), (LM.fr hV.2.2.2.2.1 (w25.2.1 8 (by decide)) (w25.2.1 14 (by decide)) (w25.2.1 15 (by decide)) (w25.2.2 3 (by decide)) (w25.2.2 4 (by decide)) (w25.2.2 10 (by decide)) (w25.2.2 17 (by decide)) (w25.2.2 27 (by decide)) (w25.2.2 36 (by decide)) (w25.2.2 37 (by decide))), hV.2.2.2.2.2.trans (w25.2.1 18 (by decide)).symm⟩
      have hP : va_P D classes (wX cA ad F L A B ++ wM cM aM G24 LG24 C24 BG24) H := hP
      have hD : va_D Af (wX cA ad F L A B ++ wM cM aM G24 LG24 C24 BG24) := hD
      refine lv_pop hx hb dL_law_372 rfl ?_
      refine lv_goto (tgt := 1007) hx hb dL_law_373 (by decide) ?_
      exact K cA ad F L A B cM aM G24 LG24 C24 BG24 H locs ls hV hKX hKM hP hD hS hl
  · skip
    refine lv_iconst (v := 1) hx hb dL_law_341 (by decide) ?_
    refine lv_goto (tgt := 346) hx hb dL_law_342 (by decide) ?_
    refine lx_i (As := [.int v3, .int 1]) (rest := []) (wb := wM cM aM G LG C BG) (hC.mk hKX) (c_X11_sum_0 l D cA H.size ad F L A B (v3) (1) hV.1 (rg_k (by decide))) (cwV 2 hC.2.2.2.2.1 (g_V mw_740 mw_737 mw_738 mw_739 mw_1) rfl rfl rfl (by decide +kernel) ⟨(Nat.le_of_ble_eq_true rfl), (Nat.le_of_ble_eq_true rfl)⟩) hP hD hS hA atX_0 rfl rfl hl.1 rfl (Nat.le_of_ble_eq_true rfl) dL_law_346 hf (fun r26 u H locs hw hP hD hS => ?_)
    have hP : va_P D classes (wX cA ad F L A B ++ wM cM aM G LG C BG) H := hP
    have hD : va_D Af (wX cA ad F L A B ++ wM cM aM G LG C BG) := hD
    refine lv_pop hx hb dL_law_349 rfl ?_
    refine lv_aload_n hx hb dL_law_350 rfl (lv_at hl 2 rfl) ?_
    refine lv_aload_n hx hb dL_law_351 rfl (lv_at hl 0 rfl) ?_
    refine lv_iload_n hx hb dL_law_352 rfl (lv_at hl 3 rfl) ?_
    refine lv_iconst (v := 1) hx hb dL_law_353 (by decide) ?_
    refine lv_iadd hx hb dL_law_354 ?_
    refine lv_topi (fun x27 e28 => ?_)
    refine va_sld hx hb hXs hbl hbA hS (law_in hi0 hi6 hL e28 (by decide)) dL_law_355 ?_
    refine lv_topi (fun v29 e30 => ?_)
    refine lv_aload_n hx hb dL_law_356 rfl (lv_at hl 0 rfl) ?_
    refine lv_iload_n hx hb dL_law_357 rfl (lv_at hl 3 rfl) ?_
    refine lv_iconst (v := 2) hx hb dL_law_358 (by decide) ?_
    refine lv_iadd hx hb dL_law_359 ?_
    refine lv_topi (fun x31 e32 => ?_)
    refine va_sld hx hb hXs hbl hbA hS (law_in hi0 hi6 hL e32 (by decide)) dL_law_360 ?_
    refine lv_topi (fun v33 e34 => ?_)
    refine lv_if_eq (tgt := 368) hx hb dL_law_361 (by decide) (fun c35 => ?_) (fun c35 => ?_)
    · skip
      refine lv_iconst (v := 0) hx hb dL_law_368 (by decide) ?_
      refine ly_i (As := [.int v29, .int 0]) (rest := []) (wb := wX cA ad F L A B) (hC.mk hKM) (c_X12_sum_0_v0 l D cM H.size aM G LG C BG (v29) (0) hV.2.2.1 (rg_k (by decide))) (cwV 2 hC.2.2.2.2.1 (g_V mw_1403 mw_1400 mw_1401 mw_1402 mw_20) rfl rfl rfl (by decide +kernel) ⟨(Nat.le_of_ble_eq_true rfl), (Nat.le_of_ble_eq_true rfl)⟩) hP hD hS hA atM_0 rfl rfl hl.1 rfl (Nat.le_of_ble_eq_true rfl) dL_law_369 hf (fun r36 u H locs hw hP hD hS => ?_)
      obtain ⟨G37, LG37, C37, BG37⟩ := u
      try dsimp only at hw
      have w38 := hw
      have hV : LV F A G37 C37 := ⟨hV.1, hV.2.1, w38.1, (xM.fr hV.2.2.2.1 (w38.2.1 14 (by decide)) (w38.2.1 15 (by decide))), (LM.fr hV.2.2.2.2.1 (w38.2.1 8 (by decide)) (w38.2.1 14 (by decide)) (w38.2.1 15 (by decide)) (w38.2.2 3 (by decide)) (w38.2.2 4 (by decide)) (w38.2.2 10 (by decide)) (w38.2.2 17 (by decide)) (w38.2.2 27 (by decide)) (w38.2.2 36 (by decide)) (w38.2.2 37 (by decide))), hV.2.2.2.2.2.trans (w38.2.1 18 (by decide)).symm⟩
      have hP : va_P D classes (wX cA ad F L A B ++ wM cM aM G37 LG37 C37 BG37) H := hP
      have hD : va_D Af (wX cA ad F L A B ++ wM cM aM G37 LG37 C37 BG37) := hD
      refine lv_pop hx hb dL_law_372 rfl ?_
      refine lv_goto (tgt := 1007) hx hb dL_law_373 (by decide) ?_
      exact K cA ad F L A B cM aM G37 LG37 C37 BG37 H locs ls hV hKX hKM hP hD hS hl
    · skip
      refine lv_iconst (v := 1) hx hb dL_law_364 (by decide) ?_
      refine lv_goto (tgt := 369) hx hb dL_law_365 (by decide) ?_
      refine ly_i (As := [.int v29, .int 1]) (rest := []) (wb := wX cA ad F L A B) (hC.mk hKM) (c_X12_sum_0_v1 l D cM H.size aM G LG C BG (v29) (1) hV.2.2.1 (rg_k (by decide))) (cwV 2 hC.2.2.2.2.1 (g_V mw_1403 mw_1400 mw_1401 mw_1402 mw_20) rfl rfl rfl (by decide +kernel) ⟨(Nat.le_of_ble_eq_true rfl), (Nat.le_of_ble_eq_true rfl)⟩) hP hD hS hA atM_0 rfl rfl hl.1 rfl (Nat.le_of_ble_eq_true rfl) dL_law_369 hf (fun r39 u H locs hw hP hD hS => ?_)
      obtain ⟨G40, LG40, C40, BG40⟩ := u
      try dsimp only at hw
      have w41 := hw
      have hV : LV F A G40 C40 := ⟨hV.1, hV.2.1, w41.1, (xM.fr hV.2.2.2.1 (w41.2.1 14 (by decide)) (w41.2.1 15 (by decide))), (LM.fr hV.2.2.2.2.1 (w41.2.1 8 (by decide)) (w41.2.1 14 (by decide)) (w41.2.1 15 (by decide)) (w41.2.2 3 (by decide)) (w41.2.2 4 (by decide)) (w41.2.2 10 (by decide)) (w41.2.2 17 (by decide)) (w41.2.2 27 (by decide)) (w41.2.2 36 (by decide)) (w41.2.2 37 (by decide))), hV.2.2.2.2.2.trans (w41.2.1 18 (by decide)).symm⟩
      have hP : va_P D classes (wX cA ad F L A B ++ wM cM aM G40 LG40 C40 BG40) H := hP
      have hD : va_D Af (wX cA ad F L A B ++ wM cM aM G40 LG40 C40 BG40) := hD
      refine lv_pop hx hb dL_law_372 rfl ?_
      refine lv_goto (tgt := 1007) hx hb dL_law_373 (by decide) ?_
      exact K cA ad F L A B cM aM G40 LG40 C40 BG40 H locs ls hV hKX hKM hP hD hS hl
set_option maxHeartbeats 4000000 in
set_option maxRecDepth 100000 in
theorem law_c6 {p : Program} {e : Env} {s : State} {m : MethodId} {below : List Frame} {meth : Method} {c : Code} {l : Launch} {D : va_G} {b Ls : Nat} {xs : Nat → Int32} {nC nS : Nat} {Q : State → Prop} (hC : LC p s m c b Ls xs) (hL : Ls ≤ 3072) (hf : nC ≤ room_1.cells ∧ nS ≤ room_1.slots) {i : Int32} (hi0 : 0 ≤ i.toInt) (hi6 : i.toInt + 6 ≤ (Ls : Int)) {cA : Nat → ClassId} {ad : Nat → Nat} {F : Nat → Int32} {L : Nat → Int64} {A : Nat → Nat → Int32} {B : Nat → Nat → Int64} {cM : Nat → ClassId} {aM : Nat → Nat} {G : Nat → Int32} {LG : Nat → Int64} {C : Nat → Nat → Int32} {BG : Nat → Nat → Int64} {H : Heap} {locs : List Loc} {ls : Array Slot} (hV : LV F A G C) (hKX : va_K D classes (tysX cA) s) (hKM : va_K D classes (tysM cM) s) (hP : va_P D classes (wX cA ad F L A B ++ wM cM aM G LG C BG) H) (hD : va_D (fun q : Nat => s.heap.size ≤ q) (wX cA ad F L A B ++ wM cM aM G LG C BG)) (hS : va_S (fun q : Nat => s.heap.size ≤ q) s.heap H locs) (hl : lv_has ls 4 [(0, .ref b), (1, .ref (ad 0)), (2, .ref (aM 0)), (3, .int i)]) (K : ∀ (cA : Nat → ClassId) (ad : Nat → Nat) (F : Nat → Int32) (L : Nat → Int64) (A : Nat → Nat → Int32) (B : Nat → Nat → Int64) (cM : Nat → ClassId) (aM : Nat → Nat) (G : Nat → Int32) (LG : Nat → Int64) (C : Nat → Nat → Int32) (BG : Nat → Nat → Int64) (H : Heap) (locs : List Loc) (ls : Array Slot), LV F A G C → va_K D classes (tysX cA) s → va_K D classes (tysM cM) s → va_P D classes (wX cA ad F L A B ++ wM cM aM G LG C BG) H → va_D (fun q : Nat => s.heap.size ≤ q) (wX cA ad F L A B ++ wM cM aM G LG C BG) → va_S (fun q : Nat => s.heap.size ≤ q) s.heap H locs → lv_has ls 4 [(0, .ref b), (1, .ref (ad 0)), (2, .ref (aM 0)), (3, .int i)] → W p l e room_1 s m #[Value.ref b] below meth c H locs nC nS Q (F0 m 1007 ls [])) : W p l e room_1 s m #[Value.ref b] below meth c H locs nC nS Q (F0 m 376 ls []) := by
  have hx := hC.1
  have hb := hC.2.1
  have hXs := hC.2.2.2.2.2.2.1
  have hbl := hC.2.2.2.2.2.2.2
  have hA : ∀ q : Nat, s.heap.size ≤ q → (fun q : Nat => s.heap.size ≤ q) q := fun _ h => h
  have hbA : ¬ (fun q : Nat => s.heap.size ≤ q) b := Nat.not_le.mpr hbl
  generalize (fun q : Nat => s.heap.size ≤ q) = Af at *
  refine lv_aload_n hx hb dL_law_376 rfl (lv_at hl 1 rfl) ?_
  refine lx_i (As := []) (rest := []) (wb := wM cM aM G LG C BG) (hC.mk hKX) (c_X11_least_0 l D cA H.size ad F L A B  hV.1) (cwV 0 hC.2.2.2.2.1 (g_V mw_753 mw_750 mw_751 mw_752 mw_1) rfl rfl rfl (by decide +kernel) ⟨(Nat.le_of_ble_eq_true rfl), (Nat.le_of_ble_eq_true rfl)⟩) hP hD hS hA atX_0 rfl rfl hl.1 rfl (Nat.le_of_ble_eq_true rfl) dL_law_377 hf (fun r1 u H locs hw hP hD hS => ?_)
  have w2 := hw
  have hP : va_P D classes (wX cA ad F L A B ++ wM cM aM G LG C BG) H := hP
  have hD : va_D Af (wX cA ad F L A B ++ wM cM aM G LG C BG) := hD
  refine lv_pop hx hb dL_law_380 rfl ?_
  refine lv_aload_n hx hb dL_law_381 rfl (lv_at hl 2 rfl) ?_
  refine ly_i (As := []) (rest := []) (wb := wX cA ad F L A B) (hC.mk hKM) (c_X12_least_0 l D cM H.size aM G LG C BG  hV.2.2.1) (cwV 0 hC.2.2.2.2.1 (g_V mw_1419 mw_1416 mw_1417 mw_1418 mw_20) rfl rfl rfl (by decide +kernel) ⟨(Nat.le_of_ble_eq_true rfl), (Nat.le_of_ble_eq_true rfl)⟩) hP hD hS hA atM_0 rfl rfl hl.1 rfl (Nat.le_of_ble_eq_true rfl) dL_law_382 hf (fun r3 u H locs hw hP hD hS => ?_)
  obtain ⟨G4, LG4, C4, BG4⟩ := u
  try dsimp only at hw
  have w5 := hw
  have hV : LV F A G4 C4 := ⟨hV.1, hV.2.1, w5.1, (xM.fr hV.2.2.2.1 (w5.2.1 14 (by decide)) (w5.2.1 15 (by decide))), (LM.fr hV.2.2.2.2.1 (w5.2.1 8 (by decide)) (w5.2.1 14 (by decide)) (w5.2.1 15 (by decide)) (w5.2.2 3 (by decide)) (w5.2.2 4 (by decide)) (w5.2.2 10 (by decide)) (w5.2.2 17 (by decide)) (w5.2.2 27 (by decide)) (w5.2.2 36 (by decide)) (w5.2.2 37 (by decide))), hV.2.2.2.2.2.trans (w5.2.1 18 (by decide)).symm⟩
  have hP : va_P D classes (wX cA ad F L A B ++ wM cM aM G4 LG4 C4 BG4) H := hP
  have hD : va_D Af (wX cA ad F L A B ++ wM cM aM G4 LG4 C4 BG4) := hD
  refine lv_pop hx hb dL_law_385 rfl ?_
  refine lv_goto (tgt := 1007) hx hb dL_law_386 (by decide) ?_
  exact K cA ad F L A B cM aM G4 LG4 C4 BG4 H locs ls hV hKX hKM hP hD hS hl
set_option maxHeartbeats 4000000 in
set_option maxRecDepth 100000 in
theorem law_c7 {p : Program} {e : Env} {s : State} {m : MethodId} {below : List Frame} {meth : Method} {c : Code} {l : Launch} {D : va_G} {b Ls : Nat} {xs : Nat → Int32} {nC nS : Nat} {Q : State → Prop} (hC : LC p s m c b Ls xs) (hL : Ls ≤ 3072) (hf : nC ≤ room_1.cells ∧ nS ≤ room_1.slots) {i : Int32} (hi0 : 0 ≤ i.toInt) (hi6 : i.toInt + 6 ≤ (Ls : Int)) {cA : Nat → ClassId} {ad : Nat → Nat} {F : Nat → Int32} {L : Nat → Int64} {A : Nat → Nat → Int32} {B : Nat → Nat → Int64} {cM : Nat → ClassId} {aM : Nat → Nat} {G : Nat → Int32} {LG : Nat → Int64} {C : Nat → Nat → Int32} {BG : Nat → Nat → Int64} {H : Heap} {locs : List Loc} {ls : Array Slot} (hV : LV F A G C) (hKX : va_K D classes (tysX cA) s) (hKM : va_K D classes (tysM cM) s) (hP : va_P D classes (wX cA ad F L A B ++ wM cM aM G LG C BG) H) (hD : va_D (fun q : Nat => s.heap.size ≤ q) (wX cA ad F L A B ++ wM cM aM G LG C BG)) (hS : va_S (fun q : Nat => s.heap.size ≤ q) s.heap H locs) (hl : lv_has ls 4 [(0, .ref b), (1, .ref (ad 0)), (2, .ref (aM 0)), (3, .int i)]) (K : ∀ (cA : Nat → ClassId) (ad : Nat → Nat) (F : Nat → Int32) (L : Nat → Int64) (A : Nat → Nat → Int32) (B : Nat → Nat → Int64) (cM : Nat → ClassId) (aM : Nat → Nat) (G : Nat → Int32) (LG : Nat → Int64) (C : Nat → Nat → Int32) (BG : Nat → Nat → Int64) (H : Heap) (locs : List Loc) (ls : Array Slot), LV F A G C → va_K D classes (tysX cA) s → va_K D classes (tysM cM) s → va_P D classes (wX cA ad F L A B ++ wM cM aM G LG C BG) H → va_D (fun q : Nat => s.heap.size ≤ q) (wX cA ad F L A B ++ wM cM aM G LG C BG) → va_S (fun q : Nat => s.heap.size ≤ q) s.heap H locs → lv_has ls 4 [(0, .ref b), (1, .ref (ad 0)), (2, .ref (aM 0)), (3, .int i)] → W p l e room_1 s m #[Value.ref b] below meth c H locs nC nS Q (F0 m 1007 ls [])) : W p l e room_1 s m #[Value.ref b] below meth c H locs nC nS Q (F0 m 389 ls []) := by
  have hx := hC.1
  have hb := hC.2.1
  have hXs := hC.2.2.2.2.2.2.1
  have hbl := hC.2.2.2.2.2.2.2
  have hA : ∀ q : Nat, s.heap.size ≤ q → (fun q : Nat => s.heap.size ≤ q) q := fun _ h => h
  have hbA : ¬ (fun q : Nat => s.heap.size ≤ q) b := Nat.not_le.mpr hbl
  generalize (fun q : Nat => s.heap.size ≤ q) = Af at *
  refine lv_aload_n hx hb dL_law_389 rfl (lv_at hl 1 rfl) ?_
  refine lv_aload_n hx hb dL_law_390 rfl (lv_at hl 0 rfl) ?_
  refine lv_iload_n hx hb dL_law_391 rfl (lv_at hl 3 rfl) ?_
  refine lv_iconst (v := 1) hx hb dL_law_392 (by decide) ?_
  refine lv_iadd hx hb dL_law_393 ?_
  refine lv_topi (fun x1 e2 => ?_)
  refine va_sld hx hb hXs hbl hbA hS (law_in hi0 hi6 hL e2 (by decide)) dL_law_394 ?_
  refine lv_topi (fun v3 e4 => ?_)
  refine lv_if_eq (tgt := 402) hx hb dL_law_395 (by decide) (fun c5 => ?_) (fun c5 => ?_)
  · skip
    refine lv_iconst (v := 0) hx hb dL_law_402 (by decide) ?_
    refine lx_i (As := [.int 0]) (rest := []) (wb := wM cM aM G LG C BG) (hC.mk hKX) (c_X11_busy_0_v0 l D cA H.size ad F L A B (0) hV.1 (rg_k (by decide))) (cwV 1 hC.2.2.2.2.1 (g_V mw_764 mw_761 mw_762 mw_763 mw_1) rfl rfl rfl (by decide +kernel) ⟨(Nat.le_of_ble_eq_true rfl), (Nat.le_of_ble_eq_true rfl)⟩) hP hD hS hA atX_0 rfl rfl hl.1 rfl (Nat.le_of_ble_eq_true rfl) dL_law_403 hf (fun r6 u H locs hw hP hD hS => ?_)
    have w7 := hw
    have hP : va_P D classes (wX cA ad F L A B ++ wM cM aM G LG C BG) H := hP
    have hD : va_D Af (wX cA ad F L A B ++ wM cM aM G LG C BG) := hD
    refine lv_pop hx hb dL_law_406 rfl ?_
    refine lv_aload_n hx hb dL_law_407 rfl (lv_at hl 2 rfl) ?_
    refine lv_aload_n hx hb dL_law_408 rfl (lv_at hl 0 rfl) ?_
    refine lv_iload_n hx hb dL_law_409 rfl (lv_at hl 3 rfl) ?_
    refine lv_iconst (v := 1) hx hb dL_law_410 (by decide) ?_
    refine lv_iadd hx hb dL_law_411 ?_
    refine lv_topi (fun x8 e9 => ?_)
    refine va_sld hx hb hXs hbl hbA hS (law_in hi0 hi6 hL e9 (by decide)) dL_law_412 ?_
    refine lv_topi (fun v10 e11 => ?_)
    refine lv_if_eq (tgt := 420) hx hb dL_law_413 (by decide) (fun c12 => ?_) (fun c12 => ?_)
    · skip
      refine lv_iconst (v := 0) hx hb dL_law_420 (by decide) ?_
      refine ly_i (As := [.int 0]) (rest := []) (wb := wX cA ad F L A B) (hC.mk hKM) (c_X12_busy_0_v0 l D cM H.size aM G LG C BG (0) hV.2.2.1 (rg_k (by decide))) (cwV 1 hC.2.2.2.2.1 (g_V mw_1427 mw_1424 mw_1425 mw_1426 mw_20) rfl rfl rfl (by decide +kernel) ⟨(Nat.le_of_ble_eq_true rfl), (Nat.le_of_ble_eq_true rfl)⟩) hP hD hS hA atM_0 rfl rfl hl.1 rfl (Nat.le_of_ble_eq_true rfl) dL_law_421 hf (fun r13 u H locs hw hP hD hS => ?_)
      obtain ⟨G14, LG14, C14, BG14⟩ := u
      try dsimp only at hw
      obtain ⟨w15, w16⟩ := hw
      have hV : LV F A G14 C14 := ⟨hV.1, hV.2.1, w15.1, (xM.fr hV.2.2.2.1 (w15.2.1 14 (by decide)) (w15.2.1 15 (by decide))), (LM.fr hV.2.2.2.2.1 (w15.2.1 8 (by decide)) (w15.2.1 14 (by decide)) (w15.2.1 15 (by decide)) (w15.2.2 3 (by decide)) (w15.2.2 4 (by decide)) (w15.2.2 10 (by decide)) (w15.2.2 17 (by decide)) (w15.2.2 27 (by decide)) (w15.2.2 36 (by decide)) (w15.2.2 37 (by decide))), hV.2.2.2.2.2.trans (w15.2.1 18 (by decide)).symm⟩
      have hP : va_P D classes (wX cA ad F L A B ++ wM cM aM G14 LG14 C14 BG14) H := hP
      have hD : va_D Af (wX cA ad F L A B ++ wM cM aM G14 LG14 C14 BG14) := hD
      refine lv_pop hx hb dL_law_424 rfl ?_
      refine lv_goto (tgt := 1007) hx hb dL_law_425 (by decide) ?_
      exact K cA ad F L A B cM aM G14 LG14 C14 BG14 H locs ls hV hKX hKM hP hD hS hl
    · skip
      refine lv_iconst (v := 1) hx hb dL_law_416 (by decide) ?_
      refine lv_goto (tgt := 421) hx hb dL_law_417 (by decide) ?_
      refine ly_i (As := [.int 1]) (rest := []) (wb := wX cA ad F L A B) (hC.mk hKM) (c_X12_busy_0_v1 l D cM H.size aM G LG C BG (1) hV.2.2.1 (rg_k (by decide))) (cwV 1 hC.2.2.2.2.1 (g_V mw_1427 mw_1424 mw_1425 mw_1426 mw_20) rfl rfl rfl (by decide +kernel) ⟨(Nat.le_of_ble_eq_true rfl), (Nat.le_of_ble_eq_true rfl)⟩) hP hD hS hA atM_0 rfl rfl hl.1 rfl (Nat.le_of_ble_eq_true rfl) dL_law_421 hf (fun r17 u H locs hw hP hD hS => ?_)
      obtain ⟨G18, LG18, C18, BG18⟩ := u
      try dsimp only at hw
      obtain ⟨w19, w20⟩ := hw
      have hV : LV F A G18 C18 := ⟨hV.1, hV.2.1, w19.1, (xM.fr hV.2.2.2.1 (w19.2.1 14 (by decide)) (w19.2.1 15 (by decide))), (LM.fr hV.2.2.2.2.1 (w19.2.1 8 (by decide)) (w19.2.1 14 (by decide)) (w19.2.1 15 (by decide)) (w19.2.2 3 (by decide)) (w19.2.2 4 (by decide)) (w19.2.2 10 (by decide)) (w19.2.2 17 (by decide)) (w19.2.2 27 (by decide)) (w19.2.2 36 (by decide)) (w19.2.2 37 (by decide))), hV.2.2.2.2.2.trans (w19.2.1 18 (by decide)).symm⟩
      have hP : va_P D classes (wX cA ad F L A B ++ wM cM aM G18 LG18 C18 BG18) H := hP
      have hD : va_D Af (wX cA ad F L A B ++ wM cM aM G18 LG18 C18 BG18) := hD
      refine lv_pop hx hb dL_law_424 rfl ?_
      refine lv_goto (tgt := 1007) hx hb dL_law_425 (by decide) ?_
      exact K cA ad F L A B cM aM G18 LG18 C18 BG18 H locs ls hV hKX hKM hP hD hS hl
  · skip
    refine lv_iconst (v := 1) hx hb dL_law_398 (by decide) ?_
    refine lv_goto (tgt := 403) hx hb dL_law_399 (by decide) ?_
    refine lx_i (As := [.int 1]) (rest := []) (wb := wM cM aM G LG C BG) (hC.mk hKX) (c_X11_busy_0_v1 l D cA H.size ad F L A B (1) hV.1 (rg_k (by decide))) (cwV 1 hC.2.2.2.2.1 (g_V mw_764 mw_761 mw_762 mw_763 mw_1) rfl rfl rfl (by decide +kernel) ⟨(Nat.le_of_ble_eq_true rfl), (Nat.le_of_ble_eq_true rfl)⟩) hP hD hS hA atX_0 rfl rfl hl.1 rfl (Nat.le_of_ble_eq_true rfl) dL_law_403 hf (fun r21 u H locs hw hP hD hS => ?_)
    have w22 := hw
    have hP : va_P D classes (wX cA ad F L A B ++ wM cM aM G LG C BG) H := hP
    have hD : va_D Af (wX cA ad F L A B ++ wM cM aM G LG C BG) := hD
    refine lv_pop hx hb dL_law_406 rfl ?_
    refine lv_aload_n hx hb dL_law_407 rfl (lv_at hl 2 rfl) ?_
    refine lv_aload_n hx hb dL_law_408 rfl (lv_at hl 0 rfl) ?_
    refine lv_iload_n hx hb dL_law_409 rfl (lv_at hl 3 rfl) ?_
    refine lv_iconst (v := 1) hx hb dL_law_410 (by decide) ?_
    refine lv_iadd hx hb dL_law_411 ?_
    refine lv_topi (fun x23 e24 => ?_)
    refine va_sld hx hb hXs hbl hbA hS (law_in hi0 hi6 hL e24 (by decide)) dL_law_412 ?_
    refine lv_topi (fun v25 e26 => ?_)
    refine lv_if_eq (tgt := 420) hx hb dL_law_413 (by decide) (fun c27 => ?_) (fun c27 => ?_)
    · skip
      refine lv_iconst (v := 0) hx hb dL_law_420 (by decide) ?_
      refine ly_i (As := [.int 0]) (rest := []) (wb := wX cA ad F L A B) (hC.mk hKM) (c_X12_busy_0_v0 l D cM H.size aM G LG C BG (0) hV.2.2.1 (rg_k (by decide))) (cwV 1 hC.2.2.2.2.1 (g_V mw_1427 mw_1424 mw_1425 mw_1426 mw_20) rfl rfl rfl (by decide +kernel) ⟨(Nat.le_of_ble_eq_true rfl), (Nat.le_of_ble_eq_true rfl)⟩) hP hD hS hA atM_0 rfl rfl hl.1 rfl (Nat.le_of_ble_eq_true rfl) dL_law_421 hf (fun r28 u H locs hw hP hD hS => ?_)
      obtain ⟨G29, LG29, C29, BG29⟩ := u
      try dsimp only at hw
      obtain ⟨w30, w31⟩ := hw
      have hV : LV F A G29 C29 := ⟨hV.1, hV.2.1, w30.1, (xM.fr hV.2.2.2.1 (w30.2.1 14 (by decide)) (w30.2.1 15 (by decide))), (LM.fr hV.2.2.2.2.1 (w30.2.1 8 (by decide)) (w30.2.1 14 (by decide)) (w30.2.1 15 (by decide)) (w30.2.2 3 (by decide)) (w30.2.2 4 (by decide)) (w30.2.2 10 (by decide)) (w30.2.2 17 (by decide)) (w30.2.2 27 (by decide)) (w30.2.2 36 (by decide)) (w30.2.2 37 (by decide))), hV.2.2.2.2.2.trans (w30.2.1 18 (by decide)).symm⟩
      have hP : va_P D classes (wX cA ad F L A B ++ wM cM aM G29 LG29 C29 BG29) H := hP
      have hD : va_D Af (wX cA ad F L A B ++ wM cM aM G29 LG29 C29 BG29) := hD
      refine lv_pop hx hb dL_law_424 rfl ?_
      refine lv_goto (tgt := 1007) hx hb dL_law_425 (by decide) ?_
      exact K cA ad F L A B cM aM G29 LG29 C29 BG29 H locs ls hV hKX hKM hP hD hS hl
    · skip
      refine lv_iconst (v := 1) hx hb dL_law_416 (by decide) ?_
      refine lv_goto (tgt := 421) hx hb dL_law_417 (by decide) ?_
      refine ly_i (As := [.int 1]) (rest := []) (wb := wX cA ad F L A B) (hC.mk hKM) (c_X12_busy_0_v1 l D cM H.size aM G LG C BG (1) hV.2.2.1 (rg_k (by decide))) (cwV 1 hC.2.2.2.2.1 (g_V mw_1427 mw_1424 mw_1425 mw_1426 mw_20) rfl rfl rfl (by decide +kernel) ⟨(Nat.le_of_ble_eq_true rfl), (Nat.le_of_ble_eq_true rfl)⟩) hP hD hS hA atM_0 rfl rfl hl.1 rfl (Nat.le_of_ble_eq_true rfl) dL_law_421 hf (fun r32 u H locs hw hP hD hS => ?_)
      obtain ⟨G33, LG33, C33, BG33⟩ := u
      try dsimp only at hw
      obtain ⟨w34, w35⟩ := hw
      have hV : LV F A G33 C33 := ⟨hV.1, hV.2.1, w34.1, (xM.fr hV.2.2.2.1 (w34.2.1 14 (by decide)) (w34.2.1 15 (by decide))), (LM.fr hV.2.2.2.2.1 (w34.2.1 8 (by decide)) (w34.2.1 14 (by decide)) (w34.2.1 15 (by decide)) (w34.2.2 3 (by decide)) (w34.2.2 4 (by decide)) (w34.2.2 10 (by decide)) (w34.2.2 17 (by decide)) (w34.2.2 27 (by decide)) (w34.2.2 36 (by decide)) (w34.2.2 37 (by decide))), hV.2.2.2.2.2.trans (w34.2.1 18 (by decide)).symm⟩
      have hP : va_P D classes (wX cA ad F L A B ++ wM cM aM G33 LG33 C33 BG33) H := hP
      have hD : va_D Af (wX cA ad F L A B ++ wM cM aM G33 LG33 C33 BG33) := hD
      refine lv_pop hx hb dL_law_424 rfl ?_
      refine lv_goto (tgt := 1007) hx hb dL_law_425 (by decide) ?_
      exact K cA ad F L A B cM aM G33 LG33 C33 BG33 H locs ls hV hKX hKM hP hD hS hl
