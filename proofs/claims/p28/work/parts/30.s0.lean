/-! String constants: the seven words, and what String's members answer of them -/
def lenS : List Nat := [5, 6, 4, 5, 5, 5, 4]
def bytS : List (List Int32) := [[115, 109, 105, 116, 104], [109, 97, 115, 116, 101, 114], [119, 97, 103, 101], [104, 111, 114, 115, 101], [104, 111, 117, 114, 115], [108, 101, 110, 100, 115], [108, 97, 116, 101]]
def ES (adK adV : Nat → Nat) (fv : Value) (A : Nat → Prop) (U : State) (H : Heap) : Prop := va_Z "java/lang/String" "COMPACT_STRINGS" "Z" (.int 1) A U H ∧ va_Z "jdk/internal/util/Preconditions" "SIOOBE_FORMATTER" "Ljava/util/function/BiFunction;" fv A U H ∧ (fv = .null ∨ ∃ t : Nat, fv = .ref t) ∧ vk_S 7 lenS bytS adK adV A U H
theorem ES.kept {adK adV : Nat → Nat} {fv : Value} {A : Nat → Prop} {U : State} {H H1 : Heap} (h : ES adK adV fv A U H) (hq : ∀ a : Nat, a < H.size → ¬ A a → H1[a]? = H[a]?) : ES adK adV fv A U H1 := ⟨h.1.kept hq, h.2.1.kept hq, h.2.2.1, h.2.2.2.kept hq⟩
theorem ES.narrow {adK adV : Nat → Nat} {fv : Value} {A B : Nat → Prop} {U : State} {H : Heap} (h : ES adK adV fv A U H) (hAB : ∀ q, B q → A q) : ES adK adV fv B U H := ⟨h.1.narrow hAB, h.2.1.narrow hAB, h.2.2.1, h.2.2.2.narrow hAB⟩
theorem ES.moved {adK adV : Nat → Nat} {fv : Value} {A : Nat → Prop} {u U : State} {H : Heap} (hvm : u.vm.Alike U.vm) (h : ES adK adV fv A u H) : ES adK adV fv A U H := ⟨h.1.moved hvm, h.2.1.moved hvm, h.2.2.1, h.2.2.2.moved hvm⟩
theorem ES.now {adK adV : Nat → Nat} {fv : Value} {Af : Nat → Prop} {s U : State} {H : Heap} {locs : List Loc} (h : ES adK adV fv Af s s.heap) (hA : ∀ q, s.heap.size ≤ q → Af q) (hS : va_S Af s.heap H locs) (hU : U.heap = H) (hW : s.WarmedH U.vm) : ES adK adV fv (va_A [] H.size) U U.heap := by
  rw [hU]
  refine ((h.kept hS.2.1).narrow (fun q hq => ?_)).moved hW.alike
  rcases hq with ⟨k, e, hk⟩ | hq
  · simp at hk
  · exact hA q (Nat.le_trans hS.1 hq)
def sPc (adK adV : Nat → Nat) (fv : Value) (sz : Nat) (av : List Value) : Array Value → State → Prop := va_Pc av (fun U => U.heap.size = sz ∧ ES adK adV fv (va_A [] sz) U U.heap)
theorem sPc_blind {adK adV : Nat → Nat} {fv : Value} {sz : Nat} {av : List Value} : FrameBlind (sPc adK adV fv sz av) := fun a U g mk q => by
  obtain ⟨q0, q1, q2⟩ := q
  exact ⟨q0, q1, ES.moved (u := U) (U := U.calling g mk a) (Vm.Alike.refl U.vm) q2⟩
def sC (p : Program) (s : State) (m : MethodId) (args : Array Value) (c : Code) (cc : ByteArray) (maxL : Nat) (own : String) : Prop := p.tables.exec = Jvm.exec ∧ c.code = cc ∧ c.maxLocals = maxL ∧ s.vm.findClass own = some m.cls ∧ (∀ w ∈ GW, w.before args s = true)
theorem sC.fix {p : Program} {s : State} {m : MethodId} {args : Array Value} {c : Code} {cc : ByteArray} {nL : Nat} {own : String} (h : sC p s m args c cc nL own) : CallFix p m c cc nL s args GW own := ⟨h.1, h.2.1, h.2.2.1, h.2.2.2.1, h.2.2.2.2⟩
section SMET
variable {l : Launch} {y : MethodName} {rm : Room} {cc : ByteArray} {maxL : Nat} {adK adV : Nat → Nat} {fv : Value} {sz : Nat} {av : List Value}
theorem mes_i {own : String} {ty : FieldType} {post : Int32 → Prop} (hy : plainName y.cls = true) (ho : y.cls = own) (hn : (lg_sl av).length ≤ maxL)
    (body : ∀ (p : Program) (e : Env) (s : State) (m : MethodId) (args : Array Value) (below : List Frame) (meth : Method) (c : Code) (Q : State → Prop) (Af : Nat → Prop) (ls : Array Slot), sC p s m args c cc maxL own → ES adK adV fv Af s s.heap → (∀ q : Nat, s.heap.size ≤ q → Af q) → lv_has ls maxL (lv_args 0 av) →
      (∀ (v : Int32) (H : Heap) (locs : List Loc) (pc : Nat) (ls : Array Slot), narrow ty (.int v) = .int v → decode cc pc = .ok (.ireturn, 1) → va_S Af s.heap H locs → post v → W p l e rm s m args below meth c H locs 0 0 Q (F0 m pc ls [.int v])) →
      W p l e rm s m args below meth c s.heap [] 0 0 Q (F0 m 0 ls [])) :
    Met l y (Cond.code y cc maxL (some ty) :: GW) rm (sPc adK adV fv sz av) (va_Qi (S := Unit) (fun r _ => post r) (fun _ _ => True) (va_A [] sz)) 0 0 (va_A [] sz) := by
  refine Met.ofW (cc := cc) (maxL := maxL) (ret := some ty) hy rfl ?_
  intro p e s m args below meth c s₁ B hml hv
  obtain ⟨rfl, hsz, hE⟩ := hv
  subst hsz
  have hl := lv_entry av (n := maxL) hn
  rw [lg_entry_eq]
  refine body p e s m _ below meth c _ (va_A [] s.heap.size) _ ⟨B.exec, B.bytes, hml, by rw [← ho]; exact findClass_of_methodNamed B.named, fun w hw => atoms_spec (ws := (Cond.code y cc maxL (some ty) :: GW)) B.pre w (List.mem_cons_of_mem _ hw)⟩ hE (fun q h => Or.inr h) hl ?_
  intro v H locs pc ls hn d hS hpost
  exact W.zret B.exec B.bytes B.returns hn (fun t ht hW => ⟨⟨v, (), rfl, hpost, trivial⟩, hS.F ht⟩) hS.2.2 d B.notSynchronized
theorem mes_v {own : String} (hy : plainName y.cls = true) (ho : y.cls = own) (hn : (lg_sl av).length ≤ maxL)
    (body : ∀ (p : Program) (e : Env) (s : State) (m : MethodId) (args : Array Value) (below : List Frame) (meth : Method) (c : Code) (Q : State → Prop) (Af : Nat → Prop) (ls : Array Slot), sC p s m args c cc maxL own → ES adK adV fv Af s s.heap → (∀ q : Nat, s.heap.size ≤ q → Af q) → lv_has ls maxL (lv_args 0 av) →
      (∀ (H : Heap) (locs : List Loc) (pc : Nat) (ls : Array Slot), decode cc pc = .ok (.return_, 1) → va_S Af s.heap H locs → W p l e rm s m args below meth c H locs 0 0 Q (F0 m pc ls [])) →
      W p l e rm s m args below meth c s.heap [] 0 0 Q (F0 m 0 ls [])) :
    Met l y (Cond.code y cc maxL none :: GW) rm (sPc adK adV fv sz av) (va_Qv (S := Unit) (fun _ => True) (fun _ _ => True) (va_A [] sz)) 0 0 (va_A [] sz) := by
  refine Met.ofW (cc := cc) (maxL := maxL) (ret := none) hy rfl ?_
  intro p e s m args below meth c s₁ B hml hv
  obtain ⟨rfl, hsz, hE⟩ := hv
  subst hsz
  have hl := lv_entry av (n := maxL) hn
  rw [lg_entry_eq]
  refine body p e s m _ below meth c _ (va_A [] s.heap.size) _ ⟨B.exec, B.bytes, hml, by rw [← ho]; exact findClass_of_methodNamed B.named, fun w hw => atoms_spec (ws := (Cond.code y cc maxL none :: GW)) B.pre w (List.mem_cons_of_mem _ hw)⟩ hE (fun q h => Or.inr h) hl ?_
  intro H locs pc ls d hS
  exact W.vret B.exec B.bytes B.returns (fun t ht hW => ⟨⟨(), rfl, trivial, trivial⟩, hS.F ht⟩) hS.2.2 d B.notSynchronized
theorem mes_l {own : String} (hy : plainName y.cls = true) (ho : y.cls = own) (hn : (lg_sl av).length ≤ maxL)
    (body : ∀ (p : Program) (e : Env) (s : State) (m : MethodId) (args : Array Value) (below : List Frame) (meth : Method) (c : Code) (Q : State → Prop) (Af : Nat → Prop) (ls : Array Slot), sC p s m args c cc maxL own → ES adK adV fv Af s s.heap → (∀ q : Nat, s.heap.size ≤ q → Af q) → lv_has ls maxL (lv_args 0 av) →
      (∀ (v : Int64) (H : Heap) (locs : List Loc) (pc : Nat) (ls : Array Slot), decode cc pc = .ok (.lreturn, 1) → va_S Af s.heap H locs → W p l e rm s m args below meth c H locs 0 0 Q (F0 m pc ls [.long v])) →
      W p l e rm s m args below meth c s.heap [] 0 0 Q (F0 m 0 ls [])) :
    Met l y (Cond.code y cc maxL (some .long) :: GW) rm (sPc adK adV fv sz av) (va_Ql (S := Unit) (fun _ _ => True) (fun _ _ => True) (va_A [] sz)) 0 0 (va_A [] sz) := by
  refine Met.ofW (cc := cc) (maxL := maxL) (ret := some .long) hy rfl ?_
  intro p e s m args below meth c s₁ B hml hv
  obtain ⟨rfl, hsz, hE⟩ := hv
  subst hsz
  have hl := lv_entry av (n := maxL) hn
  rw [lg_entry_eq]
  refine body p e s m _ below meth c _ (va_A [] s.heap.size) _ ⟨B.exec, B.bytes, hml, by rw [← ho]; exact findClass_of_methodNamed B.named, fun w hw => atoms_spec (ws := (Cond.code y cc maxL (some .long) :: GW)) B.pre w (List.mem_cons_of_mem _ hw)⟩ hE (fun q h => Or.inr h) hl ?_
  intro v H locs pc ls d hS
  exact W.lret B.exec B.bytes B.returns (fun t ht hW => ⟨⟨v, (), rfl, trivial, trivial⟩, hS.F ht⟩) hS.2.2 d B.notSynchronized
end SMET
section SCALL
variable {p : Program} {l : Launch} {e : Env} {R : Room} {s : State} {m : MethodId} {args : Array Value} {below : List Frame} {meth : Method} {c : Code} {H : Heap} {locs : List Loc} {cells slots : Nat} {Q : State → Prop}
variable {y : MethodName} {bytes cc : ByteArray} {maxL nL n index pc : Nat} {rm : Room} {own : String} {As rest st : List Value} {ls : Array Slot} {Af : Nat → Prop} {adK adV : Nat → Nat} {fv : Value}
theorem nilA (hA : ∀ q, s.heap.size ≤ q → Af q) (hS : va_S Af s.heap H locs) : ∀ q, va_A [] H.size q → Af q := fun q hq => by
  rcases hq with ⟨k, e, hk⟩ | hq
  · simp at hk
  · exact hA q (Nat.le_trans hS.1 hq)
theorem es_v {ret : Option FieldType} {post : Int32 → Prop} {i : Nat} (hC : sC p s m args c cc nL own) (hE : ES adK adV fv Af s s.heap) (hA : ∀ q, s.heap.size ≤ q → Af q) (hS : va_S Af s.heap H locs) (hi : i < 7)
    (hM : Met l y (Cond.code y bytes maxL ret :: GW) rm (sPc adK adV fv H.size (.ref (adK i) :: As)) (va_Qi (S := Unit) (fun r _ => post r) (fun _ _ => True) (va_A [] H.size)) 0 0 (va_A [] H.size)) (cw : CallW R s args own "java/lang/String" index y bytes maxL ret (Cond.code y bytes maxL ret :: GW) rm 0 0 n)
    (hn : As.length = n) (hsize : ls.size = nL) (hst : st = As.reverse ++ .ref (adK i) :: rest) (hW : (rest.map fun v => v.category).sum ≤ 8) (hdg : decode cc pc = .ok (.invokevirtual index, 3)) (hf : cells ≤ R.cells ∧ slots ≤ R.slots)
    (kk : ∀ (r : Int32) (H1 : Heap) (locs1 : List Loc), post r → va_S Af s.heap H1 locs1 → W p l e R s m args below meth c H1 locs1 cells slots Q (F0 m (pc + 3) ls (.int r :: rest))) : W p l e R s m args below meth c H locs cells slots Q (F0 m pc ls st) := by
  have hF := nilA hA hS
  exact va_calli (va_runV (As := As) (rest := rest) hC.fix hM cw ⟨sPc_blind, vk_recv hE.2.2.2 hi hS, fun U hU hW => ⟨rfl, by rw [hU], hE.now hA hS hU hW⟩⟩ rfl hn hsize hst (lv_room hW) hdg hf) hS (fun q _ h => hF q h) hF (fun r u t H1 locs1 ht hvm hw hB hz1 hk1 hS1 => kk r H1 locs1 hw hS1)
theorem es_s {ret : Option FieldType} {post : Int32 → Prop} (hC : sC p s m args c cc nL own) (hE : ES adK adV fv Af s s.heap) (hA : ∀ q, s.heap.size ≤ q → Af q) (hS : va_S Af s.heap H locs)
    (hM : Met l y (Cond.code y bytes maxL ret :: GW) rm (sPc adK adV fv H.size As) (va_Qi (S := Unit) (fun r _ => post r) (fun _ _ => True) (va_A [] H.size)) 0 0 (va_A [] H.size)) (cw : CallB R s args own index y bytes maxL ret (Cond.code y bytes maxL ret :: GW) rm 0 0 n ∧ (Cond.static y).before args s = true)
    (hn : As.length = n) (hsize : ls.size = nL) (hst : st = As.reverse ++ rest) (hW : (rest.map fun v => v.category).sum ≤ 8) (hdg : decode cc pc = .ok (.invokestatic index, 3)) (hf : cells ≤ R.cells ∧ slots ≤ R.slots)
    (kk : ∀ (r : Int32) (H1 : Heap) (locs1 : List Loc), post r → va_S Af s.heap H1 locs1 → W p l e R s m args below meth c H1 locs1 cells slots Q (F0 m (pc + 3) ls (.int r :: rest))) : W p l e R s m args below meth c H locs cells slots Q (F0 m pc ls st) := by
  have hF := nilA hA hS
  exact va_calli (va_runS (As := As) (rest := rest) hC.fix hM cw ⟨sPc_blind, fun U hU hW => ⟨rfl, by rw [hU], hE.now hA hS hU hW⟩⟩ rfl hn hsize hst (lv_room hW) hdg hf) hS (fun q _ h => hF q h) hF (fun r u t H1 locs1 ht hvm hw hB hz1 hk1 hS1 => kk r H1 locs1 hw hS1)
theorem es_sv {ret : Option FieldType} (hC : sC p s m args c cc nL own) (hE : ES adK adV fv Af s s.heap) (hA : ∀ q, s.heap.size ≤ q → Af q) (hS : va_S Af s.heap H locs)
    (hM : Met l y (Cond.code y bytes maxL ret :: GW) rm (sPc adK adV fv H.size As) (va_Qv (S := Unit) (fun _ => True) (fun _ _ => True) (va_A [] H.size)) 0 0 (va_A [] H.size)) (cw : CallB R s args own index y bytes maxL ret (Cond.code y bytes maxL ret :: GW) rm 0 0 n ∧ (Cond.static y).before args s = true)
    (hn : As.length = n) (hsize : ls.size = nL) (hst : st = As.reverse ++ rest) (hW : (rest.map fun v => v.category).sum ≤ 8) (hdg : decode cc pc = .ok (.invokestatic index, 3)) (hf : cells ≤ R.cells ∧ slots ≤ R.slots)
    (kk : ∀ (H1 : Heap) (locs1 : List Loc), va_S Af s.heap H1 locs1 → W p l e R s m args below meth c H1 locs1 cells slots Q (F0 m (pc + 3) ls rest)) : W p l e R s m args below meth c H locs cells slots Q (F0 m pc ls st) := by
  have hF := nilA hA hS
  exact va_callv (va_runS (As := As) (rest := rest) hC.fix hM cw ⟨sPc_blind, fun U hU hW => ⟨rfl, by rw [hU], hE.now hA hS hU hW⟩⟩ rfl hn hsize hst (lv_room hW) hdg hf) hS (fun q _ h => hF q h) hF (fun u t H1 locs1 ht hvm hw hB hz1 hk1 hS1 => kk H1 locs1 hS1)
end SCALL
abbrev rm_pre : Room := { frames := 0, cells := 0, slots := 0, locals := 0 }
set_option maxHeartbeats 4000000 in
set_option maxRecDepth 100000 in
theorem c_pre (l : Launch) (adK adV : Nat → Nat) (fv : Value) (sz : Nat) (k n : Int32) (h0 : 0 ≤ k.toInt) (hk : k.toInt < n.toInt) (hfv : fv = .null ∨ ∃ t : Nat, fv = .ref t) : Met l yJ3_checkIndex_8e157 (Cond.code yJ3_checkIndex_8e157 cJ3_checkIndex_8e157 3 (some .int) :: GW) rm_pre (sPc adK adV fv sz [.int k, .int n, fv]) (va_Qi (S := Unit) (fun r _ => True) (fun _ _ => True) (va_A [] sz)) 0 0 (va_A [] sz) := by
  rcases hfv with rfl | ⟨t, rfl⟩
  · refine mes_i (own := "jdk/internal/util/Preconditions") (by decide +kernel) rfl (Nat.le_of_ble_eq_true rfl) ?_
    intro p e s m args below meth c Q Af ls hC hE hA hl hret
    have hx := hC.1
    have hb := hC.2.1
    have hown := hC.2.2.2.1
    have hg := hC.2.2.2.2
    have hS : va_S Af s.heap s.heap [] := va_S.rf
    have hl : lv_has ls 3 [(0, .int k), (1, .int n), (2, .null)] := hl
    refine lv_iload_n hx hb dJ3_checkIndex_8e157_0 rfl (lv_at hl 0 rfl) ?_
    refine lv_if_lt (tgt := 9) hx hb dJ3_checkIndex_8e157_1 (by decide) (fun c1 => ?_) (fun c1 => ?_)
    · exact absurd (iL c1) (by have : (0 : Int32).toInt = 0 := rfl; omega)
    refine lv_iload_n hx hb dJ3_checkIndex_8e157_4 rfl (lv_at hl 0 rfl) ?_
    refine lv_iload_n hx hb dJ3_checkIndex_8e157_5 rfl (lv_at hl 1 rfl) ?_
    refine lv_icmp_lt (tgt := 16) hx hb dJ3_checkIndex_8e157_6 (by decide) (fun c2 => ?_) (fun c2 => ?_)
    · refine lv_iload_n hx hb dJ3_checkIndex_8e157_16 rfl (lv_at hl 0 rfl) ?_
      exact hret k s.heap [] 17 ls rfl dJ3_checkIndex_8e157_17 hS trivial
    · exact absurd (iNL c2) (by omega)
  · refine mes_i (own := "jdk/internal/util/Preconditions") (by decide +kernel) rfl (Nat.le_of_ble_eq_true rfl) ?_
    intro p e s m args below meth c Q Af ls hC hE hA hl hret
    have hx := hC.1
    have hb := hC.2.1
    have hown := hC.2.2.2.1
    have hg := hC.2.2.2.2
    have hS : va_S Af s.heap s.heap [] := va_S.rf
    have hl : lv_has ls 3 [(0, .int k), (1, .int n), (2, .ref t)] := hl
    refine lv_iload_n hx hb dJ3_checkIndex_8e157_0 rfl (lv_at hl 0 rfl) ?_
    refine lv_if_lt (tgt := 9) hx hb dJ3_checkIndex_8e157_1 (by decide) (fun c1 => ?_) (fun c1 => ?_)
    · exact absurd (iL c1) (by have : (0 : Int32).toInt = 0 := rfl; omega)
    refine lv_iload_n hx hb dJ3_checkIndex_8e157_4 rfl (lv_at hl 0 rfl) ?_
    refine lv_iload_n hx hb dJ3_checkIndex_8e157_5 rfl (lv_at hl 1 rfl) ?_
    refine lv_icmp_lt (tgt := 16) hx hb dJ3_checkIndex_8e157_6 (by decide) (fun c2 => ?_) (fun c2 => ?_)
    · refine lv_iload_n hx hb dJ3_checkIndex_8e157_16 rfl (lv_at hl 0 rfl) ?_
      exact hret k s.heap [] 17 ls rfl dJ3_checkIndex_8e157_17 hS trivial
    · exact absurd (iNL c2) (by omega)
abbrev rm_chk : Room := { frames := 1, cells := 0, slots := 0, locals := 22 }
set_option maxHeartbeats 4000000 in
set_option maxRecDepth 100000 in
theorem c_chk (l : Launch) (adK adV : Nat → Nat) (fv : Value) (sz : Nat) (k n : Int32) (h0 : 0 ≤ k.toInt) (hk : k.toInt < n.toInt) : Met l yJ0_checkIndex_df160 (Cond.code yJ0_checkIndex_df160 cJ0_checkIndex_df160 2 none :: GW) rm_chk (sPc adK adV fv sz [.int k, .int n]) (va_Qv (S := Unit) (fun _ => True) (fun _ _ => True) (va_A [] sz)) 0 0 (va_A [] sz) := by
  refine mes_v (own := "java/lang/String") (by decide +kernel) rfl (Nat.le_of_ble_eq_true rfl) ?_
  intro p e s m args below meth c Q Af ls hC hE hA hl hret
  have hx := hC.1
  have hb := hC.2.1
  have hown := hC.2.2.2.1
  have hg := hC.2.2.2.2
  have hS : va_S Af s.heap s.heap [] := va_S.rf
  have hl : lv_has ls 2 [(0, .int k), (1, .int n)] := hl
  refine lv_iload_n hx hb dJ0_checkIndex_df160_0 rfl (lv_at hl 0 rfl) ?_
  refine lv_iload_n hx hb dJ0_checkIndex_df160_1 rfl (lv_at hl 1 rfl) ?_
  refine va_gets hx hb hE.2.1 hS hown (hg _ mw_70) (fun _ h9 => h9) dJ0_checkIndex_df160_2 ?_
  refine es_s (As := [.int k, .int n, fv]) (rest := []) hC hE hA hS (c_pre l adK adV fv s.heap.size k n h0 hk hE.2.2.1) (cwF 3 hg mw_72 mw_73 mw_6 mw_74 ⟨rfl, rfl⟩ (by decide +kernel) ⟨(Nat.le_of_ble_eq_true rfl), (Nat.le_of_ble_eq_true rfl)⟩) rfl hl.1 rfl (Nat.le_of_ble_eq_true rfl) dJ0_checkIndex_df160_5 ⟨Nat.zero_le _, Nat.zero_le _⟩ (fun r H locs _ hS => ?_)
  refine lv_pop hx hb dJ0_checkIndex_df160_8 rfl ?_
  exact hret H locs 9 ls dJ0_checkIndex_df160_9 hS
abbrev rm_lat1 : Room := { frames := 2, cells := 0, slots := 0, locals := 43 }
set_option maxHeartbeats 4000000 in
set_option maxRecDepth 100000 in
theorem c_lat1 (l : Launch) (adK adV : Nat → Nat) (fv : Value) (sz : Nat) (i : Nat) (hi : i < 7) (k : Int32) (hk : vp_in k (lenS.getD i 0)) (hn : lenS.getD i 0 < 2147483648) : Met l yJ1_charAt_3b067 (Cond.code yJ1_charAt_3b067 cJ1_charAt_3b067 2 (some .char) :: GW) rm_lat1 (sPc adK adV fv sz [.ref (adV i), .int k]) (va_Qi (S := Unit) (fun r _ => narrow .char (.int r) = .int r) (fun _ _ => True) (va_A [] sz)) 0 0 (va_A [] sz) := by
  refine mes_i (own := "java/lang/StringLatin1") (by decide +kernel) rfl (Nat.le_of_ble_eq_true rfl) ?_
  intro p e s m args below meth c Q Af ls hC hE hA hl hret
  have hx := hC.1
  have hb := hC.2.1
  have hown := hC.2.2.2.1
  have hg := hC.2.2.2.2
  have hS : va_S Af s.heap s.heap [] := va_S.rf
  have hl : lv_has ls 2 [(0, .ref (adV i)), (1, .int k)] := hl
  have hT := (hE.2.2.2.1 i hi).2.2.2
  have hk2 := vp_in_iff.mp hk
  have hne : (Int32.ofNat (lenS.getD i 0)).toInt = ((lenS.getD i 0 : Nat) : Int) := nI_toInt hn
  refine lv_iload_n hx hb dJ1_charAt_3b067_0 rfl (lv_at hl 1 rfl) ?_
  refine lv_aload_n hx hb dJ1_charAt_3b067_1 rfl (lv_at hl 0 rfl) ?_
  refine va_tlen hx hb hT hS rfl dJ1_charAt_3b067_2 ?_
  refine es_sv (As := [.int k, .int (Int32.ofNat (lenS.getD i 0))]) (rest := []) hC hE hA hS (c_chk l adK adV fv s.heap.size k (Int32.ofNat (lenS.getD i 0)) hk2.1 (by omega)) (cwF 2 hg mw_67 mw_68 mw_4 mw_69 ⟨rfl, rfl⟩ (by decide +kernel) ⟨(Nat.le_of_ble_eq_true rfl), (Nat.le_of_ble_eq_true rfl)⟩) rfl hl.1 rfl (Nat.le_of_ble_eq_true rfl) dJ1_charAt_3b067_3 ⟨Nat.zero_le _, Nat.zero_le _⟩ (fun H locs hS => ?_)
  refine lv_aload_n hx hb dJ1_charAt_3b067_6 rfl (lv_at hl 0 rfl) ?_
  refine lv_iload_n hx hb dJ1_charAt_3b067_7 rfl (lv_at hl 1 rfl) ?_
  refine va_tb hx hb hT hS hk rfl dJ1_charAt_3b067_8 ?_
  refine lv_sipush (v := 255) hx hb dJ1_charAt_3b067_9 (by decide) ?_
  refine lv_iand hx hb dJ1_charAt_3b067_12 ?_
  refine lv_i2c hx hb dJ1_charAt_3b067_13 (sc_c2 _) ?_
  exact hret _ H locs 14 ls (sc_nar _) dJ1_charAt_3b067_14 hS (sc_nar _)
abbrev rm_coder : Room := { frames := 0, cells := 0, slots := 0, locals := 0 }
set_option maxHeartbeats 4000000 in
set_option maxRecDepth 100000 in
theorem c_coder (l : Launch) (adK adV : Nat → Nat) (fv : Value) (sz : Nat) (i : Nat) (hi : i < 7) : Met l yJ0_coder_7d493 (Cond.code yJ0_coder_7d493 cJ0_coder_7d493 1 (some .byte) :: GW) rm_coder (sPc adK adV fv sz [.ref (adK i)]) (va_Qi (S := Unit) (fun r _ => r = 0) (fun _ _ => True) (va_A [] sz)) 0 0 (va_A [] sz) := by
  refine mes_i (own := "java/lang/String") (by decide +kernel) rfl (Nat.le_of_ble_eq_true rfl) ?_
  intro p e s m args below meth c Q Af ls hC hE hA hl hret
  have hx := hC.1
  have hb := hC.2.1
  have hown := hC.2.2.2.1
  have hg := hC.2.2.2.2
  have hS : va_S Af s.heap s.heap [] := va_S.rf
  have hl : lv_has ls 1 [(0, .ref (adK i))] := hl
  refine va_gets hx hb hE.1 hS hown (hg _ mw_54) (fun _ h9 => h9) dJ0_coder_7d493_0 ?_
  refine lv_if_eq (tgt := 13) hx hb dJ0_coder_7d493_3 (by decide) (fun c1 => ?_) (fun c1 => ?_)
  · exact absurd c1 (by decide)
  refine lv_aload_n hx hb dJ0_coder_7d493_6 rfl (lv_at hl 0 rfl) ?_
  refine vk_getf hx hb (hE.2.2.2.1 i hi).2.1 hS hown (hg _ mw_1624) (fun _ h9 => h9) dJ0_coder_7d493_7 ?_
  refine lv_goto (tgt := 14) hx hb dJ0_coder_7d493_10 (by decide) ?_
  exact hret 0 s.heap [] 14 ls rfl dJ0_coder_7d493_14 hS rfl
abbrev rm_isl : Room := { frames := 0, cells := 0, slots := 0, locals := 0 }
set_option maxHeartbeats 4000000 in
set_option maxRecDepth 100000 in
theorem c_isl (l : Launch) (adK adV : Nat → Nat) (fv : Value) (sz : Nat) (i : Nat) (hi : i < 7) : Met l yJ0_isLatin1_aae02 (Cond.code yJ0_isLatin1_aae02 cJ0_isLatin1_aae02 1 (some .boolean) :: GW) rm_isl (sPc adK adV fv sz [.ref (adK i)]) (va_Qi (S := Unit) (fun r _ => r = 1) (fun _ _ => True) (va_A [] sz)) 0 0 (va_A [] sz) := by
  refine mes_i (own := "java/lang/String") (by decide +kernel) rfl (Nat.le_of_ble_eq_true rfl) ?_
  intro p e s m args below meth c Q Af ls hC hE hA hl hret
  have hx := hC.1
  have hb := hC.2.1
  have hown := hC.2.2.2.1
  have hg := hC.2.2.2.2
  have hS : va_S Af s.heap s.heap [] := va_S.rf
  have hl : lv_has ls 1 [(0, .ref (adK i))] := hl
  refine va_gets hx hb hE.1 hS hown (hg _ mw_54) (fun _ h9 => h9) dJ0_isLatin1_aae02_0 ?_
  refine lv_if_eq (tgt := 17) hx hb dJ0_isLatin1_aae02_3 (by decide) (fun c1 => ?_) (fun c1 => ?_)
  · exact absurd c1 (by decide)
  refine lv_aload_n hx hb dJ0_isLatin1_aae02_6 rfl (lv_at hl 0 rfl) ?_
  refine vk_getf hx hb (hE.2.2.2.1 i hi).2.1 hS hown (hg _ mw_1624) (fun _ h9 => h9) dJ0_isLatin1_aae02_7 ?_
  refine lv_if_ne (tgt := 17) hx hb dJ0_isLatin1_aae02_10 (by decide) (fun c2 => ?_) (fun c2 => ?_)
  · exact absurd rfl c2
  refine lv_iconst (v := 1) hx hb dJ0_isLatin1_aae02_13 (by decide) ?_
  refine lv_goto (tgt := 18) hx hb dJ0_isLatin1_aae02_14 (by decide) ?_
  exact hret 1 s.heap [] 18 ls rfl dJ0_isLatin1_aae02_18 hS rfl
abbrev rm_slen : Room := { frames := 1, cells := 0, slots := 0, locals := 20 }
set_option maxHeartbeats 4000000 in
set_option maxRecDepth 100000 in
theorem c_slen (l : Launch) (adK adV : Nat → Nat) (fv : Value) (sz : Nat) (i : Nat) (hi : i < 7) (hn : lenS.getD i 0 < 2147483648) : Met l yJ0_length_8abf5 (Cond.code yJ0_length_8abf5 cJ0_length_8abf5 1 (some .int) :: GW) rm_slen (sPc adK adV fv sz [.ref (adK i)]) (va_Qi (S := Unit) (fun r _ => r = nI (lenS.getD i 0)) (fun _ _ => True) (va_A [] sz)) 0 0 (va_A [] sz) := by
  refine mes_i (own := "java/lang/String") (by decide +kernel) rfl (Nat.le_of_ble_eq_true rfl) ?_
  intro p e s m args below meth c Q Af ls hC hE hA hl hret
  have hx := hC.1
  have hb := hC.2.1
  have hown := hC.2.2.2.1
  have hg := hC.2.2.2.2
  have hS : va_S Af s.heap s.heap [] := va_S.rf
  have hl : lv_has ls 1 [(0, .ref (adK i))] := hl
  refine lv_aload_n hx hb dJ0_length_8abf5_0 rfl (lv_at hl 0 rfl) ?_
  refine vk_getf hx hb (hE.2.2.2.1 i hi).2.2.1 hS hown (hg _ mw_1623) (fun _ h9 => h9) dJ0_length_8abf5_1 ?_
  refine va_tlen hx hb (hE.2.2.2.1 i hi).2.2.2 hS rfl dJ0_length_8abf5_4 ?_
  refine lv_aload_n hx hb dJ0_length_8abf5_5 rfl (lv_at hl 0 rfl) ?_
  refine es_v (As := []) (rest := [.int (Int32.ofNat (lenS.getD i 0))]) hC hE hA hS hi (c_coder l adK adV fv s.heap.size i hi) (cwV 0 hg (g_V mw_53 mw_50 mw_51 mw_52 mw_4) rfl rfl rfl (by decide +kernel) ⟨(Nat.le_of_ble_eq_true rfl), (Nat.le_of_ble_eq_true rfl)⟩) rfl hl.1 rfl (Nat.le_of_ble_eq_true rfl) dJ0_length_8abf5_6 ⟨Nat.zero_le _, Nat.zero_le _⟩ (fun r H locs hr hS => ?_)
  refine lv_ishr hx hb dJ0_length_8abf5_9 ?_
  exact hret _ H locs 10 ls rfl dJ0_length_8abf5_10 hS (by rw [hr]; exact sc_shr0 hn)
abbrev rm_schar : Room := { frames := 3, cells := 0, slots := 0, locals := 64 }
set_option maxHeartbeats 4000000 in
set_option maxRecDepth 100000 in
theorem c_schar (l : Launch) (adK adV : Nat → Nat) (fv : Value) (sz : Nat) (i : Nat) (hi : i < 7) (k : Int32) (hk : vp_in k (lenS.getD i 0)) (hn : lenS.getD i 0 < 2147483648) : Met l yJ0_charAt_5068e (Cond.code yJ0_charAt_5068e cJ0_charAt_5068e 2 (some .char) :: GW) rm_schar (sPc adK adV fv sz [.ref (adK i), .int k]) (va_Qi (S := Unit) (fun r _ => True) (fun _ _ => True) (va_A [] sz)) 0 0 (va_A [] sz) := by
  refine mes_i (own := "java/lang/String") (by decide +kernel) rfl (Nat.le_of_ble_eq_true rfl) ?_
  intro p e s m args below meth c Q Af ls hC hE hA hl hret
  have hx := hC.1
  have hb := hC.2.1
  have hown := hC.2.2.2.1
  have hg := hC.2.2.2.2
  have hS : va_S Af s.heap s.heap [] := va_S.rf
  have hl : lv_has ls 2 [(0, .ref (adK i)), (1, .int k)] := hl
  refine lv_aload_n hx hb dJ0_charAt_5068e_0 rfl (lv_at hl 0 rfl) ?_
  refine es_v (As := []) (rest := []) hC hE hA hS hi (c_isl l adK adV fv s.heap.size i hi) (cwV 0 hg (g_V mw_63 mw_60 mw_61 mw_62 mw_4) rfl rfl rfl (by decide +kernel) ⟨(Nat.le_of_ble_eq_true rfl), (Nat.le_of_ble_eq_true rfl)⟩) rfl hl.1 rfl (Nat.le_of_ble_eq_true rfl) dJ0_charAt_5068e_1 ⟨Nat.zero_le _, Nat.zero_le _⟩ (fun r H locs hr hS => ?_)
  refine lv_if_eq (tgt := 16) hx hb dJ0_charAt_5068e_4 (by decide) (fun c1 => ?_) (fun c1 => ?_)
  · exact absurd (hr.symm.trans c1) (by decide)
  refine lv_aload_n hx hb dJ0_charAt_5068e_7 rfl (lv_at hl 0 rfl) ?_
  refine vk_getf hx hb (hE.2.2.2.1 i hi).2.2.1 hS hown (hg _ mw_1623) (fun _ h9 => h9) dJ0_charAt_5068e_8 ?_
  refine lv_iload_n hx hb dJ0_charAt_5068e_11 rfl (lv_at hl 1 rfl) ?_
  refine es_s (As := [.ref (adV i), .int k]) (rest := []) hC hE hA hS (c_lat1 l adK adV fv H.size i hi k hk hn) (cwF 2 hg mw_64 mw_65 mw_5 mw_66 ⟨rfl, rfl⟩ (by decide +kernel) ⟨(Nat.le_of_ble_eq_true rfl), (Nat.le_of_ble_eq_true rfl)⟩) rfl hl.1 rfl (Nat.le_of_ble_eq_true rfl) dJ0_charAt_5068e_12 ⟨Nat.zero_le _, Nat.zero_le _⟩ (fun r2 H locs hr2 hS => ?_)
  exact hret r2 H locs 15 ls hr2 dJ0_charAt_5068e_15 hS trivial
abbrev rm_codeOf : Room := { frames := 4, cells := 0, slots := 0, locals := 85 }
theorem len_s : ∀ i : Fin 7, lenS.getD i.val 0 ≤ 6 := by decide +kernel
set_option maxHeartbeats 4000000 in
set_option maxRecDepth 100000 in
theorem c_codeOf (l : Launch) (adK adV : Nat → Nat) (fv : Value) (sz : Nat) (i : Nat) (hi : i < 7) : Met l yX5_codeOf (Cond.code yX5_codeOf cX5_codeOf 4 (some .long) :: GW) rm_codeOf (sPc adK adV fv sz [.ref (adK i)]) (va_Ql (S := Unit) (fun _ _ => True) (fun _ _ => True) (va_A [] sz)) 0 0 (va_A [] sz) := by
  refine mes_l (own := "ShoeingDay$Reader") (by decide +kernel) rfl (Nat.le_of_ble_eq_true rfl) ?_
  intro p e s m args below meth c Q Af ls hC hE hA hl hret
  have hx := hC.1
  have hb := hC.2.1
  have hown := hC.2.2.2.1
  have hg := hC.2.2.2.2
  have hS : va_S Af s.heap s.heap [] := va_S.rf
  have hl : lv_has ls 4 [(0, .ref (adK i))] := hl
  have h6 := len_s ⟨i, hi⟩
  dsimp only at h6
  refine lv_lconst (v := 0) hx hb dX5_codeOf_0 rfl ?_
  refine lv_lstore_n (lv' := [(1, .long 0), (0, .ref (adK i))]) hx hb dX5_codeOf_1 rfl hl (by decide) rfl (fun ls hl => ?_)
  refine lv_iconst (v := 0) hx hb dX5_codeOf_2 (by decide) ?_
  refine lv_istore_n (lv' := [(3, .int 0), (1, .long 0), (0, .ref (adK i))]) hx hb dX5_codeOf_3 rfl hl (by decide) rfl (fun ls hl => ?_)
  have J4 : ∀ (n : Nat) (k : Int32) (z : Int64) (H : Heap) (locs : List Loc) (ls : Array Slot), (7 - k.toInt).toNat < n → 0 ≤ k.toInt → k.toInt ≤ 6 → va_S Af s.heap H locs → lv_has ls 4 [(3, .int k), (1, .long z), (0, .ref (adK i))] → W p l e rm_codeOf s m args below meth c H locs 0 0 Q (F0 m 4 ls []) := by
    intro n
    induction n with
    | zero =>
      intro k z H locs ls hn
      exact absurd hn (Nat.not_lt_zero _)
    | succ n ih =>
      intro k z H locs ls hn h0 hk6 hS hl
      refine lv_iload_n hx hb dX5_codeOf_4 rfl (lv_at hl 0 rfl) ?_
      refine lv_aload_n hx hb dX5_codeOf_5 rfl (lv_at hl 2 rfl) ?_
      refine es_v (As := []) (rest := [.int k]) hC hE hA hS hi (c_slen l adK adV fv H.size i hi (by omega)) (cwV 0 hg (g_V mw_49 mw_46 mw_47 mw_48 mw_4) rfl rfl rfl (by decide +kernel) ⟨(Nat.le_of_ble_eq_true rfl), (Nat.le_of_ble_eq_true rfl)⟩) rfl hl.1 rfl (Nat.le_of_ble_eq_true rfl) dX5_codeOf_6 ⟨Nat.zero_le _, Nat.zero_le _⟩ (fun r H locs hr hS => ?_)
      have hrt : r.toInt = ((lenS.getD i 0 : Nat) : Int) := by rw [hr]; exact nI_toInt (by omega)
      refine lv_icmp_ge (tgt := 34) hx hb dX5_codeOf_9 (by decide) (fun c1 => ?_) (fun c1 => ?_)
      · refine lv_lload_n hx hb dX5_codeOf_34 rfl (lv_at hl 1 rfl) ?_
        exact hret z H locs 35 ls dX5_codeOf_35 hS
      have hlt := iNE c1
      refine lv_lload_n hx hb dX5_codeOf_12 rfl (lv_at hl 1 rfl) ?_
      refine lv_iconst (v := 5) hx hb dX5_codeOf_13 (by decide) ?_
      refine lv_lshl hx hb dX5_codeOf_14 rfl ?_
      refine lv_topl (fun z1 _ => ?_)
      refine lv_aload_n hx hb dX5_codeOf_15 rfl (lv_at hl 2 rfl) ?_
      refine lv_iload_n hx hb dX5_codeOf_16 rfl (lv_at hl 0 rfl) ?_
      refine es_v (As := [.int k]) (rest := [.long z1]) hC hE hA hS hi (c_schar l adK adV fv H.size i hi k (vp_in_iff.mpr ⟨h0, by omega⟩) (by omega)) (cwV 1 hg (g_V mw_59 mw_56 mw_57 mw_58 mw_4) rfl rfl rfl (by decide +kernel) ⟨(Nat.le_of_ble_eq_true rfl), (Nat.le_of_ble_eq_true rfl)⟩) rfl hl.1 rfl (Nat.le_of_ble_eq_true rfl) dX5_codeOf_17 ⟨Nat.zero_le _, Nat.zero_le _⟩ (fun r2 H locs _ hS => ?_)
      refine lv_bipush (v := 97) hx hb dX5_codeOf_20 (by decide) ?_
      refine lv_isub hx hb dX5_codeOf_22 ?_
      refine lv_iconst (v := 1) hx hb dX5_codeOf_23 (by decide) ?_
      refine lv_iadd hx hb dX5_codeOf_24 ?_
      refine lv_i2l hx hb dX5_codeOf_25 rfl ?_
      refine lv_lor hx hb dX5_codeOf_26 ?_
      refine lv_topl (fun z2 _ => ?_)
      refine lv_lstore_n (lv' := [(1, .long z2), (3, .int k), (0, .ref (adK i))]) hx hb dX5_codeOf_27 rfl hl (by decide) rfl (fun ls hl => ?_)
      obtain ⟨k2, ek2⟩ : ∃ y : Int32, y = k + 1 := ⟨_, rfl⟩
      have h1 : (1 : Int32).toInt = 1 := rfl
      have hk2 : k2.toInt = k.toInt + 1 := by rw [ek2, ti_add (by omega) (by omega), h1]
      refine lv_iinc (v := k2) (lv' := [(3, .int k2), (1, .long z2), (0, .ref (adK i))]) hx hb dX5_codeOf_28 hl (k := 1) rfl (by rw [ek2]; rfl) (by decide) rfl (fun ls hl => ?_)
      refine lv_goto (tgt := 4) hx hb dX5_codeOf_31 (by decide) ?_
      exact ih k2 z2 H locs ls (by omega) (by omega) (by omega) hS (lv_sub hl [0, 1, 2] rfl)
  exact J4 _ 0 0 s.heap [] ls (Nat.lt_succ_self _) (by decide) (by decide) hS (lv_sub hl [0, 1, 2] rfl)
