/-! the two yards change places -/
def mQr {S : Type} (D : va_G) (cl : List vw_C) (tys : List (ClassId × FieldType)) (ws : va_W) (sz : Nat) (a0 : Nat) (wf : S → va_W) (post : S → Prop) : Array Value → State → Outcome → State → Prop :=
  va_Qr post (fun u a t => a = a0 ∧ mB D cl tys ws sz wf u t) (va_A ws sz)
theorem met_r {l : Launch} {y : MethodName} {rm : Room} {cc : ByteArray} {maxL : Nat} {D : va_G} {cl : List vw_C} {tys : List (ClassId × FieldType)} {ws : va_W} {sz a0 : Nat} {av : List Value} {S : Type} {wf : S → va_W} {own C : String} {post : S → Prop} (hy : plainName y.cls = true) (ho : y.cls = own) (hn : (lg_sl av).length ≤ maxL)
    (body : ∀ (p : Program) (e : Env) (s : State) (m : MethodId) (args : Array Value) (below : List Frame) (meth : Method) (c : Code) (Q : State → Prop) (Af : Nat → Prop) (ls : Array Slot), mC p s m args c cc maxL own D cl tys → va_P D cl ws s.heap → va_D Af ws → va_S Af s.heap s.heap [] → (∀ q : Nat, s.heap.size ≤ q → Af q) → lv_has ls maxL (lv_args 0 av) →
      (∀ (u : S) (H : Heap) (locs : List Loc) (pc : Nat) (ls : Array Slot), decode cc pc = .ok (.areturn, 1) → va_P D cl (wf u) H → va_D Af (wf u) → va_S Af s.heap H locs → post u → W p l e rm s m args below meth c H locs 0 0 Q (F0 m pc ls [.ref a0])) →
      W p l e rm s m args below meth c s.heap [] 0 0 Q (F0 m 0 ls [])) :
    Met l y (Cond.code y cc maxL (some (.object C)) :: GW) rm (mPc D cl tys ws sz av) (mQr D cl tys ws sz a0 wf post) 0 0 (va_A ws sz) := by
  refine Met.ofW (cc := cc) (maxL := maxL) (ret := some (.object C)) hy rfl ?_
  intro p e s m args below meth c s₁ B hml hv
  obtain ⟨rfl, hsz, hP, hK, hD0, hN⟩ := hv
  subst hsz
  have hl := lv_entry av (n := maxL) hn
  rw [lg_entry_eq]
  refine body p e s m _ below meth c _ (va_A ws s.heap.size) _ ⟨B.exec, B.bytes, hml, by rw [← ho]; exact findClass_of_methodNamed B.named, fun w hw => atoms_spec (ws := (Cond.code y cc maxL (some (.object C)) :: GW)) B.pre w (List.mem_cons_of_mem _ hw), hK, hN⟩ hP hD0.self va_S.rf (fun q h => Or.inr h) hl ?_
  intro u H locs pc ls d hP hD hS hpost
  exact W.aret B.exec B.bytes B.returns (Or.inl ⟨C, rfl⟩) (Or.inr ⟨a0, rfl⟩) (fun t ht hW => ⟨⟨u, a0, rfl, hpost, rfl, by rw [ht]; exact hP, va_K.moved hW.alike hK, hD⟩, hS.F ht⟩) hS.2.2 d B.notSynchronized
theorem callv_r {p : Program} {l : Launch} {e : Env} {R : Room} {s : State} {m : MethodId} {args : Array Value} {below : List Frame} {meth : Method} {c : Code} {H : Heap} {locs : List Loc} {cells slots : Nat} {Q : State → Prop}
    {y : MethodName} {bytes cc : ByteArray} {maxL nL n index pc : Nat} {rm : Room} {own C : String} {b : Addr} {As rest st : List Value} {ls : Array Slot} {D : va_G} {cl : List vw_C} {tys : List (ClassId × FieldType)} {ws : va_W} {S : Type} {wf : S → va_W} {A0 : Nat → Prop} {H0 : Heap} {a0 : Nat}
    {ret : Option FieldType} {post : S → Prop} (hC : mC p s m args c cc nL own D cl tys) (hM : Met l y (Cond.code y bytes maxL ret :: GW) rm (mPc D cl tys ws H.size (.ref b :: As)) (mQr D cl tys ws H.size a0 wf post) 0 0 (va_A ws H.size))
    (cw : CallW R s args own C index y bytes maxL ret (Cond.code y bytes maxL ret :: GW) rm 0 0 n) (hP : va_P D cl ws H) (hD : va_D A0 ws) (hS : va_S A0 H0 H locs) (hA : ∀ q, H0.size ≤ q → A0 q)
    {q0 ci N : Nat} {T : u_T} {fs : List Value} (he : ws[q0]? = some (b, .inr (ci, fs))) (hc : cl[ci]? = some (C, T, N)) (hn : As.length = n) (hsize : ls.size = nL) (hst : st = As.reverse ++ .ref b :: rest) (hW : (rest.map fun v => v.category).sum ≤ 8) (hdg : decode cc pc = .ok (.invokevirtual index, 3)) (hf : cells ≤ R.cells ∧ slots ≤ R.slots)
    (kk : ∀ (u : S) (H1 : Heap) (locs1 : List Loc), post u → va_P D cl (wf u) H1 → va_D A0 (wf u) → va_S A0 H0 H1 locs1 → W p l e R s m args below meth c H1 locs1 cells slots Q (F0 m (pc + 3) ls (.ref a0 :: rest))) : W p l e R s m args below meth c H locs cells slots Q (F0 m pc ls st) := by
  have hF := fr_all hD hS hA
  refine va_callr (va_runV (As := As) (rest := rest) hC.fix hM cw ⟨pc_blind, va_recv hC.K hP hc he, pc_now hC hP hD⟩ rfl hn hsize hst (lv_room hW) hdg hf) hS (fun q _ h => hF q h) hF (fun u a t H1 locs1 ht hvm hw hB hz1 hk1 hS1 => ?_)
  obtain ⟨rfl, hP1, hK1, hD1⟩ := hB
  rw [ht] at hP1
  exact kk u H1 locs1 hw hP1 (hD1.weaken (fun k q _ h => hF q.1 h)) hS1
def wXp (cA : Nat → ClassId) (ad : Nat → Nat) (tp sp : Nat) (F : Nat → Int32) (L : Nat → Int64) (A : Nat → Nat → Int32) (B : Nat → Nat → Int64) : va_W := [(ad 0, .inr (11, [.ref (ad 1), .ref (ad 2), .ref (ad 18), .ref (ad 20), .ref (ad 24), .ref (ad 27), .ref (ad 46), .ref (ad 56), .ref (ad 61), .ref (ad 70), .ref tp, .int (F 0), .int (F 1)])),
  (ad 1, .inl (cA 1, 1700, .inl (A 1))),
  (ad 2, .inr (6, [.ref (ad 3), .ref sp, .int (F 2), .int (F 3)])),
  (ad 3, .inr (5, [.long (L 0), .long (L 1), .long (L 2), .long (L 3), .long (L 4), .long (L 5), .long (L 6), .ref (ad 71), .int (F 4), .int (F 5), .int (F 6), .int (F 7), .long (L 7), .int (F 8)])),
  (ad 4, .inr (10, [.ref (ad 5), .ref (ad 6), .ref (ad 7), .ref (ad 8), .ref (ad 9), .ref (ad 10), .int (F 9), .int (F 10), .int (F 11), .int (F 12), .int (F 13), .int (F 14)])),
  (ad 5, .inl (cA 5, 8, .inr (.inl (B 5)))),
  (ad 6, .inl (cA 6, 10, .inr (.inl (B 6)))),
  (ad 7, .inl (cA 7, 8, .inl (A 7))),
  (ad 8, .inl (cA 8, 8, .inl (A 8))),
  (ad 9, .inl (cA 9, 8, .inl (A 9))),
  (ad 10, .inl (cA 10, 80, .inl (A 10))),
  (ad 11, .inr (10, [.ref (ad 12), .ref (ad 13), .ref (ad 14), .ref (ad 15), .ref (ad 16), .ref (ad 17), .int (F 15), .int (F 16), .int (F 17), .int (F 18), .int (F 19), .int (F 20)])),
  (ad 12, .inl (cA 12, 8, .inr (.inl (B 12)))),
  (ad 13, .inl (cA 13, 10, .inr (.inl (B 13)))),
  (ad 14, .inl (cA 14, 8, .inl (A 14))),
  (ad 15, .inl (cA 15, 8, .inl (A 15))),
  (ad 16, .inl (cA 16, 8, .inl (A 16))),
  (ad 17, .inl (cA 17, 80, .inl (A 17))),
  (ad 18, .inr (3, [.ref (ad 19), .int (F 21), .int (F 22), .int (F 23)])),
  (ad 19, .inl (cA 19, 80, .inl (A 19))),
  (ad 20, .inr (0, [.ref (ad 21), .int (F 24), .int (F 25), .int (F 26)])),
  (ad 21, .inr (7, [.int (F 27), .ref (ad 22), .ref (ad 23)])),
  (ad 22, .inl (cA 22, 3280, .inl (A 22))),
  (ad 23, .inl (cA 23, 41, .inl (A 23))),
  (ad 24, .inr (7, [.int (F 28), .ref (ad 25), .ref (ad 26)])),
  (ad 25, .inl (cA 25, 240, .inl (A 25))),
  (ad 26, .inl (cA 26, 3, .inl (A 26))),
  (ad 27, .inr (2, [.ref (ad 28), .ref (ad 29), .int (F 29), .int (F 30), .ref (ad 30), .ref (ad 31), .int (F 31), .int (F 32), .ref (ad 32), .ref (ad 33), .ref (ad 34), .ref (ad 40), .int (F 33), .int (F 34), .int (F 35)])),
  (ad 28, .inl (cA 28, 80, .inl (A 28))),
  (ad 29, .inl (cA 29, 8, .inl (A 29))),
  (ad 30, .inl (cA 30, 100, .inl (A 30))),
  (ad 31, .inl (cA 31, 800, .inl (A 31))),
  (ad 32, .inl (cA 32, 8, .inl (A 32))),
  (ad 33, .inl (cA 33, 10, .inl (A 33))),
  (ad 34, .inr (1, [.ref (ad 35), .ref (ad 36), .ref (ad 37), .ref (ad 38), .ref (ad 39)])),
  (ad 35, .inl (cA 35, 10, .inl (A 35))),
  (ad 36, .inl (cA 36, 10, .inl (A 36))),
  (ad 37, .inl (cA 37, 10, .inl (A 37))),
  (ad 38, .inl (cA 38, 10, .inl (A 38))),
  (ad 39, .inl (cA 39, 11, .inl (A 39))),
  (ad 40, .inr (1, [.ref (ad 41), .ref (ad 42), .ref (ad 43), .ref (ad 44), .ref (ad 45)])),
  (ad 41, .inl (cA 41, 10, .inl (A 41))),
  (ad 42, .inl (cA 42, 10, .inl (A 42))),
  (ad 43, .inl (cA 43, 10, .inl (A 43))),
  (ad 44, .inl (cA 44, 10, .inl (A 44))),
  (ad 45, .inl (cA 45, 11, .inl (A 45))),
  (ad 46, .inr (4, [.ref (ad 47), .int (F 36), .ref (ad 48), .ref (ad 49), .ref (ad 50), .ref (ad 51), .ref (ad 52), .ref (ad 53), .ref (ad 54), .ref (ad 55), .int (F 37), .int (F 38)])),
  (ad 47, .inl (cA 47, 720, .inl (A 47))),
  (ad 48, .inl (cA 48, 80, .inl (A 48))),
  (ad 49, .inl (cA 49, 8, .inl (A 49))),
  (ad 50, .inl (cA 50, 8, .inl (A 50))),
  (ad 51, .inl (cA 51, 20, .inl (A 51))),
  (ad 52, .inl (cA 52, 20, .inl (A 52))),
  (ad 53, .inl (cA 53, 20, .inl (A 53))),
  (ad 54, .inl (cA 54, 20, .inl (A 54))),
  (ad 55, .inl (cA 55, 20, .inl (A 55))),
  (ad 56, .inr (9, [.ref (ad 57), .ref (ad 58), .ref (ad 59), .ref (ad 60), .int (F 39), .int (F 40), .int (F 41), .int (F 42)])),
  (ad 57, .inl (cA 57, 12, .inl (A 57))),
  (ad 58, .inl (cA 58, 12, .inl (A 58))),
  (ad 59, .inl (cA 59, 120, .inl (A 59))),
  (ad 60, .inl (cA 60, 80, .inl (A 60))),
  (ad 61, .inr (8, [.ref (ad 62), .ref (ad 63), .ref (ad 64), .ref (ad 65), .ref (ad 66), .ref (ad 67), .ref (ad 68), .ref (ad 69), .int (F 43)])),
  (ad 62, .inl (cA 62, 20, .inl (A 62))),
  (ad 63, .inl (cA 63, 20, .inl (A 63))),
  (ad 64, .inl (cA 64, 20, .inl (A 64))),
  (ad 65, .inl (cA 65, 20, .inl (A 65))),
  (ad 66, .inl (cA 66, 20, .inl (A 66))),
  (ad 67, .inl (cA 67, 80, .inl (A 67))),
  (ad 68, .inl (cA 68, 80, .inl (A 68))),
  (ad 69, .inl (cA 69, 80, .inr (.inl (B 69)))),
  (ad 70, .inl (cA 70, 8, .inl (A 70)))]
theorem setSp {cA : Nat → ClassId} {ad : Nat → Nat} {F : Nat → Int32} {L : Nat → Int64} {A : Nat → Nat → Int32} {B : Nat → Nat → Int64} : (wX cA ad F L A B).set 2 (ad 2, .inr (6, ([.ref (ad 3), .ref (ad 4), .int (F 2), .int (F 3)] : List Value).set 1 (.ref (ad 11)))) = wXp cA ad (ad 11) (ad 11) F L A B := rfl
theorem atXp_0 {cA : Nat → ClassId} {ad : Nat → Nat} {F : Nat → Int32} {L : Nat → Int64} {A : Nat → Nat → Int32} {B : Nat → Nat → Int64} {tp sp : Nat} : (wXp cA ad tp sp F L A B)[0]? = some (ad 0, .inr (11, [.ref (ad 1), .ref (ad 2), .ref (ad 18), .ref (ad 20), .ref (ad 24), .ref (ad 27), .ref (ad 46), .ref (ad 56), .ref (ad 61), .ref (ad 70), .ref tp, .int (F 0), .int (F 1)])) := rfl
theorem setTp {cA : Nat → ClassId} {ad : Nat → Nat} {F : Nat → Int32} {L : Nat → Int64} {A : Nat → Nat → Int32} {B : Nat → Nat → Int64} {tp sp x : Nat} : (wXp cA ad tp sp F L A B).set 0 (ad 0, .inr (11, ([.ref (ad 1), .ref (ad 2), .ref (ad 18), .ref (ad 20), .ref (ad 24), .ref (ad 27), .ref (ad 46), .ref (ad 56), .ref (ad 61), .ref (ad 70), .ref tp, .int (F 0), .int (F 1)] : List Value).set 10 (.ref x))) = wXp cA ad x sp F L A B := rfl
def sw (i : Nat) : Nat := if 4 ≤ i ∧ i ≤ 10 then i + 7 else if 11 ≤ i ∧ i ≤ 17 then i - 7 else i
def swF (k : Nat) : Nat := if 9 ≤ k ∧ k ≤ 14 then k + 6 else if 15 ≤ k ∧ k ≤ 20 then k - 6 else k
set_option maxRecDepth 100000 in
theorem permX {cA : Nat → ClassId} {ad : Nat → Nat} {F : Nat → Int32} {L : Nat → Int64} {A : Nat → Nat → Int32} {B : Nat → Nat → Int64} {D : va_G} {cl : List vw_C} {H : Heap} (h : va_P D cl (wXp cA ad (ad 4) (ad 11) F L A B) H) : va_P D cl (wX (fun i => cA (sw i)) (fun i => ad (sw i)) (fun k => F (swF k)) L (fun q => A (sw q)) (fun q => B (sw q))) H := h.sub [0, 1, 2, 3, 11, 12, 13, 14, 15, 16, 17, 4, 5, 6, 7, 8, 9, 10, 18, 19, 20, 21, 22, 23, 24, 25, 26, 27, 28, 29, 30, 31, 32, 33, 34, 35, 36, 37, 38, 39, 40, 41, 42, 43, 44, 45, 46, 47, 48, 49, 50, 51, 52, 53, 54, 55, 56, 57, 58, 59, 60, 61, 62, 63, 64, 65, 66, 67, 68, 69, 70] rfl
set_option maxRecDepth 100000 in
theorem permD {cA : Nat → ClassId} {ad : Nat → Nat} {F : Nat → Int32} {L : Nat → Int64} {A : Nat → Nat → Int32} {B : Nat → Nat → Int64} {Af : Nat → Prop} (h : va_D Af (wXp cA ad (ad 4) (ad 11) F L A B)) : va_D Af (wX (fun i => cA (sw i)) (fun i => ad (sw i)) (fun k => F (swF k)) L (fun q => A (sw q)) (fun q => B (sw q))) := h.sub [0, 1, 2, 3, 11, 12, 13, 14, 15, 16, 17, 4, 5, 6, 7, 8, 9, 10, 18, 19, 20, 21, 22, 23, 24, 25, 26, 27, 28, 29, 30, 31, 32, 33, 34, 35, 36, 37, 38, 39, 40, 41, 42, 43, 44, 45, 46, 47, 48, 49, 50, 51, 52, 53, 54, 55, 56, 57, 58, 59, 60, 61, 62, 63, 64, 65, 66, 67, 68, 69, 70] (by decide) rfl
set_option maxRecDepth 100000 in
theorem permK {cA : Nat → ClassId} {D : va_G} {cl : List vw_C} {U : State} (h : va_K D cl (tysX cA) U) : va_K D cl (tysX (fun i => cA (sw i))) U := h.sub [0, 7, 8, 9, 10, 11, 12, 1, 2, 3, 4, 5, 6, 13, 14, 15, 16, 17, 18, 19, 20, 21, 22, 23, 24, 25, 26, 27, 28, 29, 30, 31, 32, 33, 34, 35, 36, 37, 38, 39, 40, 41, 42, 43, 44, 45, 46, 47, 48, 49, 50, 51, 52, 53, 54, 55] rfl
theorem swF_t (k : Nat) : fTX (swF k) = fTX k := by
  by_cases hk : k < 44
  · have : ∀ j : Fin 44, fTX (swF j.val) = fTX j.val := by decide +kernel
    exact this ⟨k, hk⟩
  · have : swF k = k := by
      unfold swF
      rw [if_neg (by omega), if_neg (by omega)]
    rw [this]
theorem sw_t (k : Nat) : aTX (sw k) = aTX k := by
  by_cases hk : k < 71
  · have : ∀ j : Fin 71, aTX (sw j.val) = aTX j.val := by decide +kernel
    exact this ⟨k, hk⟩
  · have : sw k = k := by
      unfold sw
      rw [if_neg (by omega), if_neg (by omega)]
    rw [this]
theorem permT {F : Nat → Int32} {A : Nat → Nat → Int32} (h : typX F A) : typX (fun k => F (swF k)) (fun q => A (sw q)) := by
  refine ⟨fun k => ?_, fun q j => ?_⟩
  · have := h.1 (swF k)
    rw [swF_t] at this
    exact this
  · have := h.2 (sw q) j
    rw [sw_t] at this
    exact this
abbrev rm_X6_trade : Room := { frames := 0, cells := 0, slots := 0, locals := 0 }
set_option maxRecDepth 100000 in
theorem c_X6_trade (l : Launch) (D : va_G) (cA : Nat → ClassId) (sz : Nat) (ad : Nat → Nat) (F : Nat → Int32) (L : Nat → Int64) (A : Nat → Nat → Int32) (B : Nat → Nat → Int64) : Met l yX6_trade (Cond.code yX6_trade cX6_trade 3 (some (.object "ShoeingDay$Yard")) :: GW) rm_X6_trade (mPc D classes (tysX cA) (wX cA ad F L A B) sz [.ref (ad 2), .ref (ad 11)]) (mQr (S := Unit) D classes (tysX cA) (wX cA ad F L A B) sz (ad 4) (fun _ => wXp cA ad (ad 11) (ad 11) F L A B) (fun _ => True)) 0 0 (va_A (wX cA ad F L A B) sz) := by
  refine met_r (own := "ShoeingDay$Scribe") (by decide +kernel) rfl (Nat.le_of_ble_eq_true rfl) ?_
  intro p e s m args below meth c Q Af ls hC hP hD hS hA hl hret
  have hx := hC.1
  have hb := hC.2.1
  have hown := hC.2.2.2.1
  have hg := hC.g
  have hK := hC.K
  have hl : lv_has ls 3 [(0, .ref (ad 2)), (1, .ref (ad 11))] := hl
  refine lv_aload_n hx hb dX6_trade_0 rfl (lv_at hl 0 rfl) ?_
  refine va_get (ci := 6) (v := .ref (ad 4)) (C := RX6) (T := TX6) (N := 4) hx hb hg inX6 hown hK hP 2 atX_2 rfl 1 (by decide) (hg _ mw_213) (fun _ h9 => h9) rfl dX6_trade_1 ?_
  refine lv_astore_n (lv' := [(2, .ref (ad 4)), (0, .ref (ad 2)), (1, .ref (ad 11))]) hx hb dX6_trade_4 rfl hl (by decide) rfl (fun ls hl => ?_)
  refine lv_aload_n hx hb dX6_trade_5 rfl (lv_at hl 1 rfl) ?_
  refine lv_aload_n hx hb dX6_trade_6 rfl (lv_at hl 2 rfl) ?_
  refine va_put (ci := 6) (v := .ref (ad 11)) (ty := .object "ShoeingDay$Yard") (C := RX6) (T := TX6) (N := 4) hx hb hg inX6 tyX6 tyX6_ok nmX6 hown hK hP hD hS 2 atX_2 rfl 1 (by decide) (hg _ mw_213) (fun _ h9 => h9) rfl (by decide +kernel) rfl rfl (Nat.le_of_ble_eq_true rfl) dX6_trade_7 (fun H locs hP hD hS => ?_)
  rw [setSp] at hP hD
  refine lv_aload_n hx hb dX6_trade_10 rfl (lv_at hl 0 rfl) ?_
  exact hret () H locs 11 ls dX6_trade_11 hP hD hS trivial
