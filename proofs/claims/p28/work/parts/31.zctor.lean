/-! constructors: from one fresh cell to the cells that they make -/
def nPc (D : va_G) (ws : va_W) (sz : Nat) (av : List Value) (Z : State → Prop) : Array Value → State → Prop := va_Pc av (fun U => U.heap.size = sz ∧ va_P D classes ws U.heap ∧ va_K D classes [] U ∧ va_D (fun _ => True) ws ∧ mN U ∧ Z U)
def litR : List (Nat × String × Nat) := [(7, "smith", 0), (19, "master", 1), (24, "wage", 2), (29, "horse", 3), (34, "hours", 4), (39, "lends", 5), (44, "late", 6)]
def ZR (adK : Nat → Nat) (U : State) : Prop := ∀ q ∈ litR, vk_R "ShoeingDay$Reader" q.1 q.2.1 (adK q.2.2) U
def ZS (adK adV : Nat → Nat) (fv : Value) (A : Nat → Prop) (U : State) : Prop := ES adK adV fv A U U.heap ∧ ZR adK U
theorem ZR.warm {adK : Nat → Nat} {s U : State} (hW : s.WarmedH U.vm) (h : ZR adK s) : ZR adK U := fun q hq => (h q hq).warm hW
theorem ZR.same {adK : Nat → Nat} {u U : State} (hv : U.vm = u.vm) (h : ZR adK u) : ZR adK U := fun q hq => (h q hq).same hv
theorem ZS.blind {adK adV : Nat → Nat} {fv : Value} {A : Nat → Prop} {U : State} {g : JFrame} {mk : MethodId} {a : Array Value} (h : ZS adK adV fv A U) : ZS adK adV fv A (U.calling g mk a) := ⟨ES.moved (u := U) (U := U.calling g mk a) (Vm.Alike.refl U.vm) h.1, h.2.same rfl⟩
/-- the words lie outside what a callee may change -/
theorem ZS.now {adK adV : Nat → Nat} {fv : Value} {Af : Nat → Prop} {s U : State} {H : Heap} {locs : List Loc} {ws : va_W} (h : ZS adK adV fv Af s) (hS : va_S Af s.heap H locs) (hF : ∀ q, va_A ws H.size q → Af q) (hU : U.heap = H) (hW : s.WarmedH U.vm) : ZS adK adV fv (va_A ws H.size) U := by
  refine ⟨?_, h.2.warm hW⟩
  rw [hU]
  exact ((h.1.kept hS.2.1).narrow hF).moved hW.alike
theorem met_c {l : Launch} {y : MethodName} {rm : Room} {cc : ByteArray} {maxL : Nat} {D : va_G} {ws : va_W} {sz : Nat} {av : List Value} {ZZ : (Nat → Prop) → State → Prop} {BB : (Nat → Prop) → State → Prop} {own : String} {mc ms : Nat} (hy : plainName y.cls = true) (ho : y.cls = own) (hyn : y.name = "<init>") (hn : (lg_sl av).length ≤ maxL)
    (body : ∀ (p : Program) (e : Env) (s : State) (m : MethodId) (args : Array Value) (below : List Frame) (meth : Method) (c : Code) (Q : State → Prop) (Af : Nat → Prop) (ls : Array Slot), mC p s m args c cc maxL own D classes [] → meth.name = "<init>" → va_P D classes ws s.heap → va_D Af ws → va_S Af s.heap s.heap [] → (∀ q : Nat, s.heap.size ≤ q → Af q) → ZZ Af s → lv_has ls maxL (lv_args 0 av) →
      (∀ (H : Heap) (locs : List Loc) (pc : Nat) (ls : Array Slot), decode cc pc = .ok (.return_, 1) → va_S Af s.heap H locs → (∀ t : State, t.heap = H → s.vm.Alike t.vm → BB Af t) → W p l e rm s m args below meth c H locs mc ms Q (F0 m pc ls [])) →
      W p l e rm s m args below meth c s.heap [] 0 0 Q (F0 m 0 ls [])) :
    Met l y (Cond.code y cc maxL none :: GW) rm (nPc D ws sz av (ZZ (va_A ws sz))) (va_Qv (S := Unit) (fun _ => True) (fun _ t => BB (va_A ws sz) t) (va_A ws sz)) mc ms (va_A ws sz) := by
  refine Met.ofW (cc := cc) (maxL := maxL) (ret := none) hy rfl ?_
  intro p e s m args below meth c s₁ B hml hv
  obtain ⟨rfl, hsz, hP, hK, hD0, hN, hZ⟩ := hv
  subst hsz
  have hl := lv_entry av (n := maxL) hn
  rw [lg_entry_eq]
  have hin : meth.name = "<init>" := by rw [← hyn]; exact (name_of_methodNamed B.named B.method).1
  refine body p e s m _ below meth c _ (va_A ws s.heap.size) _ ⟨B.exec, B.bytes, hml, by rw [← ho]; exact findClass_of_methodNamed B.named, fun w hw => atoms_spec (ws := (Cond.code y cc maxL none :: GW)) B.pre w (List.mem_cons_of_mem _ hw), hK, hN⟩ hin hP hD0.self va_S.rf (fun q h => Or.inr h) hZ hl ?_
  intro H locs pc ls d hS hB
  exact W.vret B.exec B.bytes B.returns (fun t ht hW => ⟨⟨(), rfl, trivial, hB t ht hW.alike⟩, hS.F ht⟩) hS.2.2 d B.notSynchronized
section CIV
variable {p : Program} {l : Launch} {e : Env} {R : Room} {s : State} {m : MethodId} {args : Array Value} {below : List Frame} {meth : Method} {c : Code} {H : Heap} {locs : List Loc} {cells slots mc ms : Nat} {Q : State → Prop}
variable {y : MethodName} {bytes cc : ByteArray} {maxL nL n index pc : Nat} {rm : Room} {own host : String} {b : Addr} {As rest st : List Value} {ls : Array Slot} {D : va_G} {tys : List (ClassId × FieldType)} {u v : va_W} {A0 : Nat → Prop} {H0 : Heap} {Z : State → Prop} {BB : (Nat → Prop) → State → Prop}
theorem ci_v (hC : mC p s m args c cc nL own D classes tys) (hM : Met l y (Cond.code y bytes maxL none :: GW) rm (nPc D u H.size (.ref b :: As) Z) (va_Qv (S := Unit) (fun _ => True) (fun _ t => BB (va_A u H.size) t) (va_A u H.size)) mc ms (va_A u H.size))
    (cw : CallB R s args own index y bytes maxL none (Cond.code y bytes maxL none :: GW) rm mc ms n ∧ y.name = "<init>" ∧ (Cond.instanceMethod y).before args s = true) (hzb : ∀ (U : State) (g : JFrame) (mk : MethodId) (a : Array Value), Z U → Z (U.calling g mk a)) (hzn : ∀ U : State, U.heap = H → s.WarmedH U.vm → Z U)
    (hP : va_P D classes (v ++ u) H) (hD : va_D A0 (v ++ u)) (hS : va_S A0 H0 H locs) (hA : ∀ q, H0.size ≤ q → A0 q) (hn : As.length = n) (hsize : ls.size = nL) (hst : st = As.reverse ++ .ref b :: rest) (hW : (rest.map fun v => v.category).sum ≤ 8) (hdg : decode cc pc = .ok (.invokespecial index, 3)) (hf : cells + mc ≤ R.cells ∧ slots + ms ≤ R.slots)
    (kk : ∀ (t : State) (H1 : Heap) (locs1 : List Loc), t.heap = H1 → s.vm.Alike t.vm → BB (va_A u H.size) t → (∀ u' : va_W, va_P D classes u' H1 → va_D (va_A u H.size) u' → va_P D classes (v ++ u') H1 ∧ va_D A0 (v ++ u')) → va_S A0 H0 H1 locs1 → W p l e R s m args below meth c H1 locs1 (cells + mc) (slots + ms) Q (F0 m (pc + 3) ls rest)) : W p l e R s m args below meth c H locs cells slots Q (F0 m pc ls st) := by
  have hF := fr_all (two_Dr hD) hS hA
  have hK0 : va_K D classes [] s := hC.K.sub [] rfl
  refine va_callv (va_runI (As := As) (rest := rest) hC.fix hM cw ⟨fun a U g mk q => by obtain ⟨q0, q1, qP, qK, qD, qN, qZ⟩ := q; exact ⟨q0, q1, qP, va_K.moved (u := U) (U := U.calling g mk a) (Vm.Alike.refl U.vm) qK, qD, qN.same rfl, hzb U g mk a qZ⟩, fun U hU hW => ⟨rfl, by rw [hU], by rw [hU]; exact two_Pr hP, va_K.moved hW.alike hK0, (two_Dr hD).weaken (fun _ _ _ _ => trivial), hC.N.warm hW, hzn U hU hW⟩⟩ rfl hn hsize hst (lv_room hW) hdg hf) hS (fun q _ h => hF q h) hF (fun _ t H1 locs1 ht hvm hw hB hz1 hk1 hS1 => ?_)
  refine kk t H1 locs1 ht hvm hB (fun u' h1 h2 => ?_) hS1
  obtain ⟨q1, q2⟩ := join2 (two_Pc hP) (two_Dc hD) hk1 hF h1 h2
  exact ⟨two_Pc q1, two_Dc q2⟩
theorem cn_v (hC : mC p s m args c cc nL own D classes tys) (hM : Met l y (Cond.code y bytes maxL none :: GW) rm (nPc D u H.size (.ref b :: As) Z) (va_Qv (S := Unit) (fun _ => True) (fun _ t => BB (va_A u H.size) t) (va_A u H.size)) mc ms (va_A u H.size))
    (cw : va_CN R s args own index y host bytes maxL none (Cond.code y bytes maxL none :: GW) rm mc ms n ∧ y.name = "<init>" ∧ (Cond.instanceMethod y).before args s = true) (hzb : ∀ (U : State) (g : JFrame) (mk : MethodId) (a : Array Value), Z U → Z (U.calling g mk a)) (hzn : ∀ U : State, U.heap = H → s.WarmedH U.vm → Z U)
    (hP : va_P D classes (v ++ u) H) (hD : va_D A0 (v ++ u)) (hS : va_S A0 H0 H locs) (hA : ∀ q, H0.size ≤ q → A0 q) (hn : As.length = n) (hsize : ls.size = nL) (hst : st = As.reverse ++ .ref b :: rest) (hW : (rest.map fun v => v.category).sum ≤ 8) (hdg : decode cc pc = .ok (.invokespecial index, 3)) (hf : cells + mc ≤ R.cells ∧ slots + ms ≤ R.slots)
    (kk : ∀ (t : State) (H1 : Heap) (locs1 : List Loc), t.heap = H1 → s.vm.Alike t.vm → BB (va_A u H.size) t → (∀ u' : va_W, va_P D classes u' H1 → va_D (va_A u H.size) u' → va_P D classes (v ++ u') H1 ∧ va_D A0 (v ++ u')) → va_S A0 H0 H1 locs1 → W p l e R s m args below meth c H1 locs1 (cells + mc) (slots + ms) Q (F0 m (pc + 3) ls rest)) : W p l e R s m args below meth c H locs cells slots Q (F0 m pc ls st) := by
  have hF := fr_all (two_Dr hD) hS hA
  have hK0 : va_K D classes [] s := hC.K.sub [] rfl
  refine va_callv (va_runIN (As := As) (rest := rest) hC.fix hM cw ⟨fun a U g mk q => by obtain ⟨q0, q1, qP, qK, qD, qN, qZ⟩ := q; exact ⟨q0, q1, qP, va_K.moved (u := U) (U := U.calling g mk a) (Vm.Alike.refl U.vm) qK, qD, qN.same rfl, hzb U g mk a qZ⟩, fun U hU hW => ⟨rfl, by rw [hU], by rw [hU]; exact two_Pr hP, va_K.moved hW.alike hK0, (two_Dr hD).weaken (fun _ _ _ _ => trivial), hC.N.warm hW, hzn U hU hW⟩⟩ rfl hn hsize hst (lv_room hW) hdg hf) hS (fun q _ h => hF q h) hF (fun _ t H1 locs1 ht hvm hw hB hz1 hk1 hS1 => ?_)
  refine kk t H1 locs1 ht hvm hB (fun u' h1 h2 => ?_) hS1
  obtain ⟨q1, q2⟩ := join2 (two_Pc hP) (two_Dc hD) hk1 hF h1 h2
  exact ⟨two_Pc q1, two_Dc q2⟩
/-- a word's code, while the world is being made -/
theorem code_l {i : Nat} {adK adV : Nat → Nat} {fv : Value} {ret : Option FieldType} (hC : mC p s m args c cc nL own D classes tys) (hE : ES adK adV fv A0 s s.heap) (hA : ∀ q, s.heap.size ≤ q → A0 q) (hS : va_S A0 s.heap H locs)
    (hM : Met l y (Cond.code y bytes maxL ret :: GW) rm (sPc adK adV fv H.size [.ref (adK i)]) (va_Ql (S := Unit) (fun _ _ => True) (fun _ _ => True) (va_A [] H.size)) 0 0 (va_A [] H.size)) (cw : CallB R s args own index y bytes maxL ret (Cond.code y bytes maxL ret :: GW) rm 0 0 1 ∧ (Cond.static y).before args s = true)
    (hP : va_P D classes u H) (hD : va_D A0 u) (hsize : ls.size = nL) (hW : (rest.map fun v => v.category).sum ≤ 8) (hdg : decode cc pc = .ok (.invokestatic index, 3)) (hf : cells ≤ R.cells ∧ slots ≤ R.slots)
    (kk : ∀ (r : Int64) (H1 : Heap) (locs1 : List Loc), va_P D classes u H1 → va_S A0 s.heap H1 locs1 → W p l e R s m args below meth c H1 locs1 cells slots Q (F0 m (pc + 3) ls (.long r :: rest))) : W p l e R s m args below meth c H locs cells slots Q (F0 m pc ls (.ref (adK i) :: rest)) := by
  have hF := nilA hA hS
  refine va_calll (va_runS (As := [.ref (adK i)]) (rest := rest) hC.fix hM cw ⟨sPc_blind, fun U hU hW => ⟨rfl, by rw [hU], hE.now hA hS hU hW⟩⟩ rfl rfl hsize rfl (lv_room hW) hdg hf) hS (fun q _ h => hF q h) hF (fun r _ t H1 locs1 ht hvm hw hB hz1 hk1 hS1 => kk r H1 locs1 (hP.kept (fun k q hk => hk1 q.1 (hP k q hk).lt (fun z => ?_))) hS1)
  rcases z with ⟨k, e, hk⟩ | z
  · simp at hk
  · have := (hP k q hk).lt
    omega
end CIV
/-- the constructor's context, with the array classes seen so far -/
theorem mC.ty {p : Program} {s : State} {m : MethodId} {args : Array Value} {c : Code} {cc : ByteArray} {nL : Nat} {own : String} {D : va_G} {cl : List vw_C} {t1 t2 : List (ClassId × FieldType)} (h : mC p s m args c cc nL own D cl t1) (hK : va_K D cl t2 s) : mC p s m args c cc nL own D cl t2 := ⟨h.1, h.2.1, h.2.2.1, h.2.2.2.1, h.2.2.2.2.1, hK, h.2.2.2.2.2.2⟩
