/-! two worlds side by side: a call reaches one of them, the other stays -/
theorem two_Pl {D : va_G} {cl : List vw_C} {u v : va_W} {H : Heap} (h : va_P D cl (u ++ v) H) : va_P D cl u H := fun k q hk => h k q (by
  rw [List.getElem?_append_left (List.getElem?_eq_some_iff.mp hk).1]
  exact hk)
theorem two_Pr {D : va_G} {cl : List vw_C} {u v : va_W} {H : Heap} (h : va_P D cl (u ++ v) H) : va_P D cl v H := fun k q hk => h (u.length + k) q (by
  rw [List.getElem?_append_right (Nat.le_add_right _ _), Nat.add_sub_cancel_left]
  exact hk)
theorem two_Dl {A : Nat → Prop} {u v : va_W} (h : va_D A (u ++ v)) : va_D A u := by
  have at' : ∀ (k : Nat) (q : Nat × va_E), u[k]? = some q → (u ++ v)[k]? = some q := fun k q hk => by
    rw [List.getElem?_append_left (List.getElem?_eq_some_iff.mp hk).1]
    exact hk
  exact ⟨fun i j p q hi hj e => h.1 i j p q (at' i p hi) (at' j q hj) e, fun k q hk => h.2 k q (at' k q hk)⟩
theorem two_Dr {A : Nat → Prop} {u v : va_W} (h : va_D A (u ++ v)) : va_D A v := by
  have at' : ∀ (k : Nat) (q : Nat × va_E), v[k]? = some q → (u ++ v)[u.length + k]? = some q := fun k q hk => by
    rw [List.getElem?_append_right (Nat.le_add_right _ _), Nat.add_sub_cancel_left]
    exact hk
  exact ⟨fun i j p q hi hj e => by have := h.1 _ _ p q (at' i p hi) (at' j q hj) e; omega, fun k q hk => h.2 _ q (at' k q hk)⟩
theorem two_Dx {A : Nat → Prop} {u v : va_W} (h : va_D A (u ++ v)) {i j : Nat} {p q : Nat × va_E} (hi : u[i]? = some p) (hj : v[j]? = some q) : p.1 ≠ q.1 := by
  intro e
  have hl := (List.getElem?_eq_some_iff.mp hi).1
  have := h.1 i (u.length + j) p q (by rw [List.getElem?_append_left hl]; exact hi) (by rw [List.getElem?_append_right (Nat.le_add_right _ _), Nat.add_sub_cancel_left]; exact hj) e
  omega
theorem two_Dapp {A : Nat → Prop} {u v : va_W} (hu : va_D A u) (hv : va_D A v) (hx : ∀ (i j : Nat) (p q : Nat × va_E), u[i]? = some p → v[j]? = some q → p.1 ≠ q.1) : va_D A (u ++ v) := by
  refine ⟨fun i j p q hi hj e => ?_, fun k q hk => ?_⟩
  · by_cases h1 : i < u.length <;> by_cases h2 : j < u.length
    · rw [List.getElem?_append_left h1] at hi
      rw [List.getElem?_append_left h2] at hj
      exact hu.1 i j p q hi hj e
    · rw [List.getElem?_append_left h1] at hi
      rw [List.getElem?_append_right (by omega)] at hj
      exact absurd e (hx i _ p q hi hj)
    · rw [List.getElem?_append_right (by omega)] at hi
      rw [List.getElem?_append_left h2] at hj
      exact absurd e.symm (hx j _ q p hj hi)
    · rw [List.getElem?_append_right (by omega)] at hi
      rw [List.getElem?_append_right (by omega)] at hj
      have := hv.1 _ _ p q hi hj e
      omega
  · by_cases h1 : k < u.length
    · rw [List.getElem?_append_left h1] at hk
      exact hu.2 k q hk
    · rw [List.getElem?_append_right (by omega)] at hk
      exact hv.2 _ q hk
theorem two_Pc {D : va_G} {cl : List vw_C} {u v : va_W} {H : Heap} (h : va_P D cl (u ++ v) H) : va_P D cl (v ++ u) H := (two_Pr h).app (two_Pl h)
theorem two_Dc {A : Nat → Prop} {u v : va_W} (h : va_D A (u ++ v)) : va_D A (v ++ u) := two_Dapp (two_Dr h) (two_Dl h) (fun _ _ _ _ hi hj e => two_Dx h hj hi e.symm)
/-- behind a call that reaches u alone -/
theorem join2 {D : va_G} {cl : List vw_C} {A0 : Nat → Prop} {u u' v : va_W} {H H1 : Heap} (hP : va_P D cl (u ++ v) H) (hD : va_D A0 (u ++ v)) (hk : ∀ q : Nat, q < H.size → ¬ va_A u H.size q → H1[q]? = H[q]?) (hF : ∀ q, va_A u H.size q → A0 q) (hP1 : va_P D cl u' H1) (hD1 : va_D (va_A u H.size) u') : va_P D cl (u' ++ v) H1 ∧ va_D A0 (u' ++ v) := by
  have hv := two_Pr hP
  have out : ∀ (k : Nat) (q : Nat × va_E), v[k]? = some q → ¬ va_A u H.size q.1 := fun k q hq z => by
    rcases z with ⟨i, e, hi⟩ | z
    · exact two_Dx hD hi hq rfl
    · have := (hv k q hq).lt
      omega
  refine ⟨hP1.app (hv.kept (fun k q hq => hk q.1 (hv k q hq).lt (out k q hq))), two_Dapp ⟨hD1.1, fun k q hq => hF _ (hD1.2 k q hq)⟩ (two_Dr hD) (fun i j p q hi hj e => out j q hj ?_)⟩
  rw [← e]
  exact hD1.2 i p hi
section LAWC
variable {p : Program} {l : Launch} {e : Env} {R : Room} {s : State} {m : MethodId} {args : Array Value} {below : List Frame} {meth : Method} {c : Code} {H : Heap} {locs : List Loc} {cells slots : Nat} {Q : State → Prop}
variable {y : MethodName} {bytes cc : ByteArray} {maxL nL n index pc : Nat} {rm : Room} {own C host : String} {b : Addr} {As rest st : List Value} {ls : Array Slot} {D : va_G} {cl : List vw_C} {tys : List (ClassId × FieldType)} {ws wb : va_W} {S : Type} {wf : S → va_W} {A0 : Nat → Prop} {H0 : Heap}
theorem lx_i {ret : Option FieldType} {post : Int32 → S → Prop} (hC : mC p s m args c cc nL own D cl tys) (hM : Met l y (Cond.code y bytes maxL ret :: GW) rm (mPc D cl tys ws H.size (.ref b :: As)) (mQi D cl tys ws H.size wf post) 0 0 (va_A ws H.size))
    (cw : CallW R s args own C index y bytes maxL ret (Cond.code y bytes maxL ret :: GW) rm 0 0 n) (hP : va_P D cl (ws ++ wb) H) (hD : va_D A0 (ws ++ wb)) (hS : va_S A0 H0 H locs) (hA : ∀ q, H0.size ≤ q → A0 q)
    {q0 ci N : Nat} {T : u_T} {fs : List Value} (he : ws[q0]? = some (b, .inr (ci, fs))) (hc : cl[ci]? = some (C, T, N)) (hn : As.length = n) (hsize : ls.size = nL) (hst : st = As.reverse ++ .ref b :: rest) (hW : (rest.map fun v => v.category).sum ≤ 8) (hdg : decode cc pc = .ok (.invokevirtual index, 3)) (hf : cells ≤ R.cells ∧ slots ≤ R.slots)
    (kk : ∀ (r : Int32) (u : S) (H1 : Heap) (locs1 : List Loc), post r u → va_P D cl (wf u ++ wb) H1 → va_D A0 (wf u ++ wb) → va_S A0 H0 H1 locs1 → W p l e R s m args below meth c H1 locs1 cells slots Q (F0 m (pc + 3) ls (.int r :: rest))) : W p l e R s m args below meth c H locs cells slots Q (F0 m pc ls st) := by
  have hF := fr_all (two_Dl hD) hS hA
  refine va_calli (va_runV (As := As) (rest := rest) hC.fix hM cw ⟨pc_blind, va_recv hC.K (two_Pl hP) hc he, pc_now hC (two_Pl hP) (two_Dl hD)⟩ rfl hn hsize hst (lv_room hW) hdg hf) hS (fun q _ h => hF q h) hF (fun r u t H1 locs1 ht hvm hw hB hz1 hk1 hS1 => ?_)
  obtain ⟨hP1, hK1, hD1⟩ := hB
  rw [ht] at hP1
  obtain ⟨hP2, hD2⟩ := join2 hP hD hk1 hF hP1 hD1
  exact kk r u H1 locs1 hw hP2 hD2 hS1
theorem lx_l {ret : Option FieldType} {post : Int64 → S → Prop} (hC : mC p s m args c cc nL own D cl tys) (hM : Met l y (Cond.code y bytes maxL ret :: GW) rm (mPc D cl tys ws H.size (.ref b :: As)) (mQl D cl tys ws H.size wf post) 0 0 (va_A ws H.size))
    (cw : CallW R s args own C index y bytes maxL ret (Cond.code y bytes maxL ret :: GW) rm 0 0 n) (hP : va_P D cl (ws ++ wb) H) (hD : va_D A0 (ws ++ wb)) (hS : va_S A0 H0 H locs) (hA : ∀ q, H0.size ≤ q → A0 q)
    {q0 ci N : Nat} {T : u_T} {fs : List Value} (he : ws[q0]? = some (b, .inr (ci, fs))) (hc : cl[ci]? = some (C, T, N)) (hn : As.length = n) (hsize : ls.size = nL) (hst : st = As.reverse ++ .ref b :: rest) (hW : (rest.map fun v => v.category).sum ≤ 8) (hdg : decode cc pc = .ok (.invokevirtual index, 3)) (hf : cells ≤ R.cells ∧ slots ≤ R.slots)
    (kk : ∀ (r : Int64) (u : S) (H1 : Heap) (locs1 : List Loc), post r u → va_P D cl (wf u ++ wb) H1 → va_D A0 (wf u ++ wb) → va_S A0 H0 H1 locs1 → W p l e R s m args below meth c H1 locs1 cells slots Q (F0 m (pc + 3) ls (.long r :: rest))) : W p l e R s m args below meth c H locs cells slots Q (F0 m pc ls st) := by
  have hF := fr_all (two_Dl hD) hS hA
  refine va_calll (va_runV (As := As) (rest := rest) hC.fix hM cw ⟨pc_blind, va_recv hC.K (two_Pl hP) hc he, pc_now hC (two_Pl hP) (two_Dl hD)⟩ rfl hn hsize hst (lv_room hW) hdg hf) hS (fun q _ h => hF q h) hF (fun r u t H1 locs1 ht hvm hw hB hz1 hk1 hS1 => ?_)
  obtain ⟨hP1, hK1, hD1⟩ := hB
  rw [ht] at hP1
  obtain ⟨hP2, hD2⟩ := join2 hP hD hk1 hF hP1 hD1
  exact kk r u H1 locs1 hw hP2 hD2 hS1
theorem ly_i {ret : Option FieldType} {post : Int32 → S → Prop} (hC : mC p s m args c cc nL own D cl tys) (hM : Met l y (Cond.code y bytes maxL ret :: GW) rm (mPc D cl tys ws H.size (.ref b :: As)) (mQi D cl tys ws H.size wf post) 0 0 (va_A ws H.size))
    (cw : CallW R s args own C index y bytes maxL ret (Cond.code y bytes maxL ret :: GW) rm 0 0 n) (hP : va_P D cl (wb ++ ws) H) (hD : va_D A0 (wb ++ ws)) (hS : va_S A0 H0 H locs) (hA : ∀ q, H0.size ≤ q → A0 q)
    {q0 ci N : Nat} {T : u_T} {fs : List Value} (he : ws[q0]? = some (b, .inr (ci, fs))) (hc : cl[ci]? = some (C, T, N)) (hn : As.length = n) (hsize : ls.size = nL) (hst : st = As.reverse ++ .ref b :: rest) (hW : (rest.map fun v => v.category).sum ≤ 8) (hdg : decode cc pc = .ok (.invokevirtual index, 3)) (hf : cells ≤ R.cells ∧ slots ≤ R.slots)
    (kk : ∀ (r : Int32) (u : S) (H1 : Heap) (locs1 : List Loc), post r u → va_P D cl (wb ++ wf u) H1 → va_D A0 (wb ++ wf u) → va_S A0 H0 H1 locs1 → W p l e R s m args below meth c H1 locs1 cells slots Q (F0 m (pc + 3) ls (.int r :: rest))) : W p l e R s m args below meth c H locs cells slots Q (F0 m pc ls st) :=
  lx_i hC hM cw (two_Pc hP) (two_Dc hD) hS hA he hc hn hsize hst hW hdg hf (fun r u H1 locs1 h1 h2 h3 h4 => kk r u H1 locs1 h1 (two_Pc h2) (two_Dc h3) h4)
theorem ly_l {ret : Option FieldType} {post : Int64 → S → Prop} (hC : mC p s m args c cc nL own D cl tys) (hM : Met l y (Cond.code y bytes maxL ret :: GW) rm (mPc D cl tys ws H.size (.ref b :: As)) (mQl D cl tys ws H.size wf post) 0 0 (va_A ws H.size))
    (cw : CallW R s args own C index y bytes maxL ret (Cond.code y bytes maxL ret :: GW) rm 0 0 n) (hP : va_P D cl (wb ++ ws) H) (hD : va_D A0 (wb ++ ws)) (hS : va_S A0 H0 H locs) (hA : ∀ q, H0.size ≤ q → A0 q)
    {q0 ci N : Nat} {T : u_T} {fs : List Value} (he : ws[q0]? = some (b, .inr (ci, fs))) (hc : cl[ci]? = some (C, T, N)) (hn : As.length = n) (hsize : ls.size = nL) (hst : st = As.reverse ++ .ref b :: rest) (hW : (rest.map fun v => v.category).sum ≤ 8) (hdg : decode cc pc = .ok (.invokevirtual index, 3)) (hf : cells ≤ R.cells ∧ slots ≤ R.slots)
    (kk : ∀ (r : Int64) (u : S) (H1 : Heap) (locs1 : List Loc), post r u → va_P D cl (wb ++ wf u) H1 → va_D A0 (wb ++ wf u) → va_S A0 H0 H1 locs1 → W p l e R s m args below meth c H1 locs1 cells slots Q (F0 m (pc + 3) ls (.long r :: rest))) : W p l e R s m args below meth c H locs cells slots Q (F0 m pc ls st) :=
  lx_l hC hM cw (two_Pc hP) (two_Dc hD) hS hA he hc hn hsize hst hW hdg hf (fun r u H1 locs1 h1 h2 h3 h4 => kk r u H1 locs1 h1 (two_Pc h2) (two_Dc h3) h4)
end LAWC
/-- what holds all through the law -/
def LC (p : Program) (s : State) (m : MethodId) (c : Code) (b Ls : Nat) (xs : Nat → Int32) : Prop := p.tables.exec = Jvm.exec ∧ c.code = code ∧ c.maxLocals = 4 ∧ s.vm.findClass "ShoeingDayLaw" = some m.cls ∧ (∀ w ∈ GW, w.before #[Value.ref b] s = true) ∧ mN s ∧ va_X b Ls xs s s.heap ∧ b < s.heap.size
theorem LC.mk {p : Program} {s : State} {m : MethodId} {c : Code} {b Ls : Nat} {xs : Nat → Int32} {D : va_G} {tys : List (ClassId × FieldType)} (h : LC p s m c b Ls xs) (hK : va_K D classes tys s) : mC p s m #[Value.ref b] c code 4 "ShoeingDayLaw" D classes tys := ⟨h.1, h.2.1, h.2.2.1, h.2.2.2.1, h.2.2.2.2.1, hK, h.2.2.2.2.2.1⟩
/-- what the two sides keep: both typed, and at one time -/
def LV (F : Nat → Int32) (A : Nat → Nat → Int32) (G : Nat → Int32) (C : Nat → Nat → Int32) : Prop := typX F A ∧ xX F ∧ typM G C ∧ xM G ∧ LM G C ∧ F 1 = G 18
theorem law_in {i x k : Int32} {n : Nat} (hi : 0 ≤ i.toInt) (h6 : i.toInt + 6 ≤ (n : Int)) (hn : n ≤ 3072) (e : x = i + k) (hk : (decide (0 ≤ k.toInt) && decide (k.toInt ≤ 5)) = true) : vp_in x n := by
  simp only [Bool.and_eq_true, decide_eq_true_eq] at hk
  have e1 : x.toInt = i.toInt + k.toInt := by rw [e, ti_add (by omega) (by omega)]
  exact vp_in_iff.mpr ⟨by omega, by omega⟩
