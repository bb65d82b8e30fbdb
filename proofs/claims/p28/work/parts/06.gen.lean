/-! contracts over one world: any cells ws before, wf u behind; nothing else changes -/
def mPc (D : va_G) (cl : List vw_C) (tys : List (ClassId × FieldType)) (ws : va_W) (sz : Nat) (av : List Value) : Array Value → State → Prop :=
  va_Pc av (fun U => U.heap.size = sz ∧ va_P D cl ws U.heap ∧ va_K D cl tys U ∧ va_D (fun _ => True) ws ∧ mN U)
def mB {S : Type} (D : va_G) (cl : List vw_C) (tys : List (ClassId × FieldType)) (ws : va_W) (sz : Nat) (wf : S → va_W) : S → State → Prop :=
  fun u t => va_P D cl (wf u) t.heap ∧ va_K D cl tys t ∧ va_D (va_A ws sz) (wf u)
def mQi {S : Type} (D : va_G) (cl : List vw_C) (tys : List (ClassId × FieldType)) (ws : va_W) (sz : Nat) (wf : S → va_W) (post : Int32 → S → Prop) : Array Value → State → Outcome → State → Prop :=
  va_Qi post (mB D cl tys ws sz wf) (va_A ws sz)
def mQl {S : Type} (D : va_G) (cl : List vw_C) (tys : List (ClassId × FieldType)) (ws : va_W) (sz : Nat) (wf : S → va_W) (post : Int64 → S → Prop) : Array Value → State → Outcome → State → Prop :=
  va_Ql post (mB D cl tys ws sz wf) (va_A ws sz)
def mQv {S : Type} (D : va_G) (cl : List vw_C) (tys : List (ClassId × FieldType)) (ws : va_W) (sz : Nat) (wf : S → va_W) (post : S → Prop) : Array Value → State → Outcome → State → Prop :=
  va_Qv post (mB D cl tys ws sz wf) (va_A ws sz)
/-- what holds all through a method's body -/
def mC (p : Program) (s : State) (m : MethodId) (args : Array Value) (c : Code) (cc : ByteArray) (maxL : Nat) (own : String) (D : va_G) (cl : List vw_C) (tys : List (ClassId × FieldType)) : Prop :=
  p.tables.exec = Jvm.exec ∧ c.code = cc ∧ c.maxLocals = maxL ∧ s.vm.findClass own = some m.cls ∧ (∀ w ∈ GW, w.before args s = true) ∧ va_K D cl tys s ∧ mN s
section METS
variable {l : Launch} {y : MethodName} {rm : Room} {cc : ByteArray} {maxL : Nat} {D : va_G} {cl : List vw_C} {tys : List (ClassId × FieldType)} {ws : va_W} {sz : Nat} {av : List Value} {S : Type} {wf : S → va_W}
theorem met_i {own : String} {ty : FieldType} {post : Int32 → S → Prop} (hy : plainName y.cls = true) (ho : y.cls = own) (hn : (lg_sl av).length ≤ maxL)
    (body : ∀ (p : Program) (e : Env) (s : State) (m : MethodId) (args : Array Value) (below : List Frame) (meth : Method) (c : Code) (Q : State → Prop) (Af : Nat → Prop) (ls : Array Slot), mC p s m args c cc maxL own D cl tys → va_P D cl ws s.heap → va_D Af ws → va_S Af s.heap s.heap [] → (∀ q : Nat, s.heap.size ≤ q → Af q) → lv_has ls maxL (lv_args 0 av) →
      (∀ (v : Int32) (u : S) (H : Heap) (locs : List Loc) (pc : Nat) (ls : Array Slot), narrow ty (.int v) = .int v → decode cc pc = .ok (.ireturn, 1) → va_P D cl (wf u) H → va_D Af (wf u) → va_S Af s.heap H locs → post v u → W p l e rm s m args below meth c H locs 0 0 Q (F0 m pc ls [.int v])) →
      W p l e rm s m args below meth c s.heap [] 0 0 Q (F0 m 0 ls [])) :
    Met l y (Cond.code y cc maxL (some ty) :: GW) rm (mPc D cl tys ws sz av) (mQi D cl tys ws sz wf post) 0 0 (va_A ws sz) := by
  refine Met.ofW (cc := cc) (maxL := maxL) (ret := some ty) hy rfl ?_
  intro p e s m args below meth c s₁ B hml hv
  obtain ⟨rfl, hsz, hP, hK, hD0, hN⟩ := hv
  subst hsz
  have hl := lv_entry av (n := maxL) hn
  rw [lg_entry_eq]
  refine body p e s m _ below meth c _ (va_A ws s.heap.size) _ ⟨B.exec, B.bytes, hml, by rw [← ho]; exact findClass_of_methodNamed B.named, fun w hw => atoms_spec (ws := (Cond.code y cc maxL (some ty) :: GW)) B.pre w (List.mem_cons_of_mem _ hw), hK, hN⟩ hP hD0.self va_S.rf (fun q h => Or.inr h) hl ?_
  intro v u H locs pc ls hn d hP hD hS hpost
  exact W.zret B.exec B.bytes B.returns hn (fun t ht hW => ⟨⟨v, u, rfl, hpost, by rw [ht]; exact hP, va_K.moved hW.alike hK, hD⟩, hS.F ht⟩) hS.2.2 d B.notSynchronized
theorem met_l {own : String} {post : Int64 → S → Prop} (hy : plainName y.cls = true) (ho : y.cls = own) (hn : (lg_sl av).length ≤ maxL)
    (body : ∀ (p : Program) (e : Env) (s : State) (m : MethodId) (args : Array Value) (below : List Frame) (meth : Method) (c : Code) (Q : State → Prop) (Af : Nat → Prop) (ls : Array Slot), mC p s m args c cc maxL own D cl tys → va_P D cl ws s.heap → va_D Af ws → va_S Af s.heap s.heap [] → (∀ q : Nat, s.heap.size ≤ q → Af q) → lv_has ls maxL (lv_args 0 av) →
      (∀ (v : Int64) (u : S) (H : Heap) (locs : List Loc) (pc : Nat) (ls : Array Slot), decode cc pc = .ok (.lreturn, 1) → va_P D cl (wf u) H → va_D Af (wf u) → va_S Af s.heap H locs → post v u → W p l e rm s m args below meth c H locs 0 0 Q (F0 m pc ls [.long v])) →
      W p l e rm s m args below meth c s.heap [] 0 0 Q (F0 m 0 ls [])) :
    Met l y (Cond.code y cc maxL (some .long) :: GW) rm (mPc D cl tys ws sz av) (mQl D cl tys ws sz wf post) 0 0 (va_A ws sz) := by
  refine Met.ofW (cc := cc) (maxL := maxL) (ret := some .long) hy rfl ?_
  intro p e s m args below meth c s₁ B hml hv
  obtain ⟨rfl, hsz, hP, hK, hD0, hN⟩ := hv
  subst hsz
  have hl := lv_entry av (n := maxL) hn
  rw [lg_entry_eq]
  refine body p e s m _ below meth c _ (va_A ws s.heap.size) _ ⟨B.exec, B.bytes, hml, by rw [← ho]; exact findClass_of_methodNamed B.named, fun w hw => atoms_spec (ws := (Cond.code y cc maxL (some .long) :: GW)) B.pre w (List.mem_cons_of_mem _ hw), hK, hN⟩ hP hD0.self va_S.rf (fun q h => Or.inr h) hl ?_
  intro v u H locs pc ls d hP hD hS hpost
  exact W.lret B.exec B.bytes B.returns (fun t ht hW => ⟨⟨v, u, rfl, hpost, by rw [ht]; exact hP, va_K.moved hW.alike hK, hD⟩, hS.F ht⟩) hS.2.2 d B.notSynchronized
theorem met_v {own : String} {post : S → Prop} (hy : plainName y.cls = true) (ho : y.cls = own) (hn : (lg_sl av).length ≤ maxL)
    (body : ∀ (p : Program) (e : Env) (s : State) (m : MethodId) (args : Array Value) (below : List Frame) (meth : Method) (c : Code) (Q : State → Prop) (Af : Nat → Prop) (ls : Array Slot), mC p s m args c cc maxL own D cl tys → va_P D cl ws s.heap → va_D Af ws → va_S Af s.heap s.heap [] → (∀ q : Nat, s.heap.size ≤ q → Af q) → lv_has ls maxL (lv_args 0 av) →
      (∀ (u : S) (H : Heap) (locs : List Loc) (pc : Nat) (ls : Array Slot), decode cc pc = .ok (.return_, 1) → va_P D cl (wf u) H → va_D Af (wf u) → va_S Af s.heap H locs → post u → W p l e rm s m args below meth c H locs 0 0 Q (F0 m pc ls [])) →
      W p l e rm s m args below meth c s.heap [] 0 0 Q (F0 m 0 ls [])) :
    Met l y (Cond.code y cc maxL none :: GW) rm (mPc D cl tys ws sz av) (mQv D cl tys ws sz wf post) 0 0 (va_A ws sz) := by
  refine Met.ofW (cc := cc) (maxL := maxL) (ret := none) hy rfl ?_
  intro p e s m args below meth c s₁ B hml hv
  obtain ⟨rfl, hsz, hP, hK, hD0, hN⟩ := hv
  subst hsz
  have hl := lv_entry av (n := maxL) hn
  rw [lg_entry_eq]
  refine body p e s m _ below meth c _ (va_A ws s.heap.size) _ ⟨B.exec, B.bytes, hml, by rw [← ho]; exact findClass_of_methodNamed B.named, fun w hw => atoms_spec (ws := (Cond.code y cc maxL none :: GW)) B.pre w (List.mem_cons_of_mem _ hw), hK, hN⟩ hP hD0.self va_S.rf (fun q h => Or.inr h) hl ?_
  intro u H locs pc ls d hP hD hS hpost
  exact W.vret B.exec B.bytes B.returns (fun t ht hW => ⟨⟨u, rfl, hpost, by rw [ht]; exact hP, va_K.moved hW.alike hK, hD⟩, hS.F ht⟩) hS.2.2 d B.notSynchronized
end METS
theorem g_V {own C : String} {idx n : Nat} {y : MethodName} {cc : ByteArray} {r : Option FieldType} (h1 : Cond.code y cc n r ∈ GW) (h2 : Cond.methodLink own idx y ∈ GW) (h3 : Cond.instanceMethod y ∈ GW) (h4 : Cond.selects C y y ∈ GW) (h5 : Cond.initialized C ∈ GW) : GoodIn GW (wsV own idx C y (Cond.code y cc n r :: GW)) := by
  intro w hw
  have h : w ∈ GW := by
    rcases List.mem_append.mp hw with h | h
    · simp only [List.mem_cons, List.not_mem_nil, or_false] at h
      rcases h with rfl | rfl | rfl | rfl
      · exact h2
      · exact h3
      · exact h4
      · exact h5
    · rcases List.mem_cons.mp h with rfl | h
      · exact h1
      · exact h
  exact ⟨h, good_of_word (gw_good h)⟩
theorem g_S {own : String} {idx n : Nat} {y : MethodName} {cc : ByteArray} {r : Option FieldType} (h1 : Cond.code y cc n r ∈ GW) (h2 : Cond.methodLink own idx y ∈ GW) (h3 : Cond.static y ∈ GW) (h5 : Cond.initialized own ∈ GW) : GoodIn GW (wsS own idx y (Cond.code y cc n r :: GW)) := by
  intro w hw
  have h : w ∈ GW := by
    rcases List.mem_append.mp hw with h | h
    · simp only [List.mem_cons, List.not_mem_nil, or_false] at h
      rcases h with rfl | rfl | rfl
      · exact h2
      · exact h3
      · exact h5
    · rcases List.mem_cons.mp h with rfl | h
      · exact h1
      · exact h
  exact ⟨h, good_of_word (gw_good h)⟩
theorem g_N {n : Nat} {y : MethodName} {cc : ByteArray} {r : Option FieldType} (h1 : Cond.code y cc n r ∈ GW) : GoodIn GW (Cond.code y cc n r :: GW) := by
  intro w hw
  have h : w ∈ GW := by
    rcases List.mem_cons.mp hw with rfl | h
    · exact h1
    · exact h
  exact ⟨h, good_of_word (gw_good h)⟩
section CALLS
variable {p : Program} {l : Launch} {e : Env} {R : Room} {s : State} {m : MethodId} {args : Array Value} {below : List Frame} {meth : Method} {c : Code} {H : Heap} {locs : List Loc} {cells slots : Nat} {Q : State → Prop}
variable {y : MethodName} {bytes cc : ByteArray} {maxL nL n index pc : Nat} {rm : Room} {own C host : String} {b : Addr} {As rest st : List Value} {ls : Array Slot} {D : va_G} {cl : List vw_C} {tys : List (ClassId × FieldType)} {ws : va_W} {S : Type} {wf : S → va_W} {A0 : Nat → Prop} {H0 : Heap}
theorem tope {x y : Int32} (e9 : y = x) (k : W p l e R s m args below meth c H locs cells slots Q (F0 m pc ls (.int y :: rest))) : W p l e R s m args below meth c H locs cells slots Q (F0 m pc ls (.int x :: rest)) := e9 ▸ k
theorem mC.fix (h : mC p s m args c cc nL own D cl tys) : CallFix p m c cc nL s args GW own := ⟨h.1, h.2.1, h.2.2.1, h.2.2.2.1, h.2.2.2.2.1⟩
theorem mC.K (h : mC p s m args c cc nL own D cl tys) : va_K D cl tys s := h.2.2.2.2.2.1
theorem mC.N (h : mC p s m args c cc nL own D cl tys) : mN s := h.2.2.2.2.2.2
theorem mC.g (h : mC p s m args c cc nL own D cl tys) : ∀ w ∈ GW, w.before args s = true := h.2.2.2.2.1
theorem pc_blind {sz : Nat} {av : List Value} : FrameBlind (mPc D cl tys ws sz av) := fun a U g mk q => by
  obtain ⟨q0, q1, qP, qK, qD, qN⟩ := q
  exact ⟨q0, q1, qP, va_K.moved (u := U) (U := U.calling g mk a) (Vm.Alike.refl U.vm) qK, qD, qN.same rfl⟩
theorem pc_now (hC : mC p s m args c cc nL own D cl tys) (hP : va_P D cl ws H) (hD : va_D A0 ws) {av : List Value} (U : State) (hU : U.heap = H) (hW : s.WarmedH U.vm) : mPc D cl tys ws H.size av av.toArray U :=
  ⟨rfl, by rw [hU], by rw [hU]; exact hP, va_K.moved hW.alike hC.K, hD.weaken (fun _ _ _ _ => trivial), hC.N.warm hW⟩
theorem fr_all (hD : va_D A0 ws) (hS : va_S A0 H0 H locs) (hA : ∀ q, H0.size ≤ q → A0 q) : ∀ q, va_A ws H.size q → A0 q := by
  intro q h
  rcases h with ⟨k, e, h⟩ | h
  · exact hD.2 k (q, e) h
  · exact hA q (Nat.le_trans hS.1 h)
theorem callv_i {ret : Option FieldType} {post : Int32 → S → Prop} (hC : mC p s m args c cc nL own D cl tys) (hM : Met l y (Cond.code y bytes maxL ret :: GW) rm (mPc D cl tys ws H.size (.ref b :: As)) (mQi D cl tys ws H.size wf post) 0 0 (va_A ws H.size))
    (cw : CallW R s args own C index y bytes maxL ret (Cond.code y bytes maxL ret :: GW) rm 0 0 n) (hP : va_P D cl ws H) (hD : va_D A0 ws) (hS : va_S A0 H0 H locs) (hA : ∀ q, H0.size ≤ q → A0 q)
    {q0 ci N : Nat} {T : u_T} {fs : List Value} (he : ws[q0]? = some (b, .inr (ci, fs))) (hc : cl[ci]? = some (C, T, N)) (hn : As.length = n) (hsize : ls.size = nL) (hst : st = As.reverse ++ .ref b :: rest) (hW : (rest.map fun v => v.category).sum ≤ 8) (hdg : decode cc pc = .ok (.invokevirtual index, 3)) (hf : cells ≤ R.cells ∧ slots ≤ R.slots)
    (kk : ∀ (r : Int32) (u : S) (H1 : Heap) (locs1 : List Loc), post r u → va_P D cl (wf u) H1 → va_D A0 (wf u) → va_S A0 H0 H1 locs1 → W p l e R s m args below meth c H1 locs1 cells slots Q (F0 m (pc + 3) ls (.int r :: rest))) : W p l e R s m args below meth c H locs cells slots Q (F0 m pc ls st) := by
  have hF := fr_all hD hS hA
  refine va_calli (va_runV (As := As) (rest := rest) hC.fix hM cw ⟨pc_blind, va_recv hC.K hP hc he, pc_now hC hP hD⟩ rfl hn hsize hst (lv_room hW) hdg hf) hS (fun q _ h => hF q h) hF (fun r u t H1 locs1 ht hvm hw hB hz1 hk1 hS1 => ?_)
  obtain ⟨hP1, hK1, hD1⟩ := hB
  rw [ht] at hP1
  exact kk r u H1 locs1 hw hP1 (hD1.weaken (fun k q _ h => hF q.1 h)) hS1
theorem callv_l {ret : Option FieldType} {post : Int64 → S → Prop} (hC : mC p s m args c cc nL own D cl tys) (hM : Met l y (Cond.code y bytes maxL ret :: GW) rm (mPc D cl tys ws H.size (.ref b :: As)) (mQl D cl tys ws H.size wf post) 0 0 (va_A ws H.size))
    (cw : CallW R s args own C index y bytes maxL ret (Cond.code y bytes maxL ret :: GW) rm 0 0 n) (hP : va_P D cl ws H) (hD : va_D A0 ws) (hS : va_S A0 H0 H locs) (hA : ∀ q, H0.size ≤ q → A0 q)
    {q0 ci N : Nat} {T : u_T} {fs : List Value} (he : ws[q0]? = some (b, .inr (ci, fs))) (hc : cl[ci]? = some (C, T, N)) (hn : As.length = n) (hsize : ls.size = nL) (hst : st = As.reverse ++ .ref b :: rest) (hW : (rest.map fun v => v.category).sum ≤ 8) (hdg : decode cc pc = .ok (.invokevirtual index, 3)) (hf : cells ≤ R.cells ∧ slots ≤ R.slots)
    (kk : ∀ (r : Int64) (u : S) (H1 : Heap) (locs1 : List Loc), post r u → va_P D cl (wf u) H1 → va_D A0 (wf u) → va_S A0 H0 H1 locs1 → W p l e R s m args below meth c H1 locs1 cells slots Q (F0 m (pc + 3) ls (.long r :: rest))) : W p l e R s m args below meth c H locs cells slots Q (F0 m pc ls st) := by
  have hF := fr_all hD hS hA
  refine va_calll (va_runV (As := As) (rest := rest) hC.fix hM cw ⟨pc_blind, va_recv hC.K hP hc he, pc_now hC hP hD⟩ rfl hn hsize hst (lv_room hW) hdg hf) hS (fun q _ h => hF q h) hF (fun r u t H1 locs1 ht hvm hw hB hz1 hk1 hS1 => ?_)
  obtain ⟨hP1, hK1, hD1⟩ := hB
  rw [ht] at hP1
  exact kk r u H1 locs1 hw hP1 (hD1.weaken (fun k q _ h => hF q.1 h)) hS1
theorem callv_v {ret : Option FieldType} {post : S → Prop} (hC : mC p s m args c cc nL own D cl tys) (hM : Met l y (Cond.code y bytes maxL ret :: GW) rm (mPc D cl tys ws H.size (.ref b :: As)) (mQv D cl tys ws H.size wf post) 0 0 (va_A ws H.size))
    (cw : CallW R s args own C index y bytes maxL ret (Cond.code y bytes maxL ret :: GW) rm 0 0 n) (hP : va_P D cl ws H) (hD : va_D A0 ws) (hS : va_S A0 H0 H locs) (hA : ∀ q, H0.size ≤ q → A0 q)
    {q0 ci N : Nat} {T : u_T} {fs : List Value} (he : ws[q0]? = some (b, .inr (ci, fs))) (hc : cl[ci]? = some (C, T, N)) (hn : As.length = n) (hsize : ls.size = nL) (hst : st = As.reverse ++ .ref b :: rest) (hW : (rest.map fun v => v.category).sum ≤ 8) (hdg : decode cc pc = .ok (.invokevirtual index, 3)) (hf : cells ≤ R.cells ∧ slots ≤ R.slots)
    (kk : ∀ (u : S) (H1 : Heap) (locs1 : List Loc), post u → va_P D cl (wf u) H1 → va_D A0 (wf u) → va_S A0 H0 H1 locs1 → W p l e R s m args below meth c H1 locs1 cells slots Q (F0 m (pc + 3) ls rest)) : W p l e R s m args below meth c H locs cells slots Q (F0 m pc ls st) := by
  have hF := fr_all hD hS hA
  refine va_callv (va_runV (As := As) (rest := rest) hC.fix hM cw ⟨pc_blind, va_recv hC.K hP hc he, pc_now hC hP hD⟩ rfl hn hsize hst (lv_room hW) hdg hf) hS (fun q _ h => hF q h) hF (fun u t H1 locs1 ht hvm hw hB hz1 hk1 hS1 => ?_)
  obtain ⟨hP1, hK1, hD1⟩ := hB
  rw [ht] at hP1
  exact kk u H1 locs1 hw hP1 (hD1.weaken (fun k q _ h => hF q.1 h)) hS1
theorem calls_i {ret : Option FieldType} {post : Int32 → S → Prop} (hC : mC p s m args c cc nL own D cl tys) (hM : Met l y (Cond.code y bytes maxL ret :: GW) rm (mPc D cl tys ws H.size As) (mQi D cl tys ws H.size wf post) 0 0 (va_A ws H.size))
    (cw : CallB R s args own index y bytes maxL ret (Cond.code y bytes maxL ret :: GW) rm 0 0 n ∧ (Cond.static y).before args s = true) (hP : va_P D cl ws H) (hD : va_D A0 ws) (hS : va_S A0 H0 H locs) (hA : ∀ q, H0.size ≤ q → A0 q)
    (hn : As.length = n) (hsize : ls.size = nL) (hst : st = As.reverse ++ rest) (hW : (rest.map fun v => v.category).sum ≤ 8) (hdg : decode cc pc = .ok (.invokestatic index, 3)) (hf : cells ≤ R.cells ∧ slots ≤ R.slots)
    (kk : ∀ (r : Int32) (u : S) (H1 : Heap) (locs1 : List Loc), post r u → va_P D cl (wf u) H1 → va_D A0 (wf u) → va_S A0 H0 H1 locs1 → W p l e R s m args below meth c H1 locs1 cells slots Q (F0 m (pc + 3) ls (.int r :: rest))) : W p l e R s m args below meth c H locs cells slots Q (F0 m pc ls st) := by
  have hF := fr_all hD hS hA
  refine va_calli (va_runS (As := As) (rest := rest) hC.fix hM cw ⟨pc_blind, pc_now hC hP hD⟩ rfl hn hsize hst (lv_room hW) hdg hf) hS (fun q _ h => hF q h) hF (fun r u t H1 locs1 ht hvm hw hB hz1 hk1 hS1 => ?_)
  obtain ⟨hP1, hK1, hD1⟩ := hB
  rw [ht] at hP1
  exact kk r u H1 locs1 hw hP1 (hD1.weaken (fun k q _ h => hF q.1 h)) hS1
theorem calls_v {ret : Option FieldType} {post : S → Prop} (hC : mC p s m args c cc nL own D cl tys) (hM : Met l y (Cond.code y bytes maxL ret :: GW) rm (mPc D cl tys ws H.size As) (mQv D cl tys ws H.size wf post) 0 0 (va_A ws H.size))
    (cw : CallB R s args own index y bytes maxL ret (Cond.code y bytes maxL ret :: GW) rm 0 0 n ∧ (Cond.static y).before args s = true) (hP : va_P D cl ws H) (hD : va_D A0 ws) (hS : va_S A0 H0 H locs) (hA : ∀ q, H0.size ≤ q → A0 q)
    (hn : As.length = n) (hsize : ls.size = nL) (hst : st = As.reverse ++ rest) (hW : (rest.map fun v => v.category).sum ≤ 8) (hdg : decode cc pc = .ok (.invokestatic index, 3)) (hf : cells ≤ R.cells ∧ slots ≤ R.slots)
    (kk : ∀ (u : S) (H1 : Heap) (locs1 : List Loc), post u → va_P D cl (wf u) H1 → va_D A0 (wf u) → va_S A0 H0 H1 locs1 → W p l e R s m args below meth c H1 locs1 cells slots Q (F0 m (pc + 3) ls rest)) : W p l e R s m args below meth c H locs cells slots Q (F0 m pc ls st) := by
  have hF := fr_all hD hS hA
  refine va_callv (va_runS (As := As) (rest := rest) hC.fix hM cw ⟨pc_blind, pc_now hC hP hD⟩ rfl hn hsize hst (lv_room hW) hdg hf) hS (fun q _ h => hF q h) hF (fun u t H1 locs1 ht hvm hw hB hz1 hk1 hS1 => ?_)
  obtain ⟨hP1, hK1, hD1⟩ := hB
  rw [ht] at hP1
  exact kk u H1 locs1 hw hP1 (hD1.weaken (fun k q _ h => hF q.1 h)) hS1
theorem calln_i {ret : Option FieldType} {post : Int32 → S → Prop} (hC : mC p s m args c cc nL own D cl tys) (hM : Met l y (Cond.code y bytes maxL ret :: GW) rm (mPc D cl tys ws H.size As) (mQi D cl tys ws H.size wf post) 0 0 (va_A ws H.size))
    (cw : va_CN R s args own index y host bytes maxL ret (Cond.code y bytes maxL ret :: GW) rm 0 0 n ∧ (Cond.static y).before args s = true ∧ True) (hP : va_P D cl ws H) (hD : va_D A0 ws) (hS : va_S A0 H0 H locs) (hA : ∀ q, H0.size ≤ q → A0 q)
    (hn : As.length = n) (hsize : ls.size = nL) (hst : st = As.reverse ++ rest) (hW : (rest.map fun v => v.category).sum ≤ 8) (hdg : decode cc pc = .ok (.invokestatic index, 3)) (hf : cells ≤ R.cells ∧ slots ≤ R.slots)
    (kk : ∀ (r : Int32) (u : S) (H1 : Heap) (locs1 : List Loc), post r u → va_P D cl (wf u) H1 → va_D A0 (wf u) → va_S A0 H0 H1 locs1 → W p l e R s m args below meth c H1 locs1 cells slots Q (F0 m (pc + 3) ls (.int r :: rest))) : W p l e R s m args below meth c H locs cells slots Q (F0 m pc ls st) := by
  have hF := fr_all hD hS hA
  refine va_calli (va_runSN (As := As) (rest := rest) hC.fix hM cw ⟨pc_blind, pc_now hC hP hD⟩ rfl hn hsize hst (lv_room hW) hdg hf) hS (fun q _ h => hF q h) hF (fun r u t H1 locs1 ht hvm hw hB hz1 hk1 hS1 => ?_)
  obtain ⟨hP1, hK1, hD1⟩ := hB
  rw [ht] at hP1
  exact kk r u H1 locs1 hw hP1 (hD1.weaken (fun k q _ h => hF q.1 h)) hS1
end CALLS
