/-! leaves: Arrays.fill, Integer.bitCount, cellOf, lowest -/
section CWF
variable {R : Room} {s : State} {args : Array Value} {own : String} {index maxL : Nat} {y : MethodName} {bytes : ByteArray} {ret : Option FieldType} {rm : Room}
theorem cwF (n : Nat) (hg : ∀ w ∈ GW, w.before args s = true) (h2 : Cond.methodLink own index y ∈ GW) (h3 : Cond.static y ∈ GW) (h5 : Cond.initialized y.cls ∈ GW) (h1 : Cond.code y bytes maxL ret ∈ GW) (hrc : rm.cells = 0 ∧ rm.slots = 0)
    (hd : y.cls ≠ "java/lang/invoke/MethodHandle" ∧ y.cls ≠ "java/lang/invoke/VarHandle" ∧ (parseMethodDescriptor y.desc).map (fun d => d.parameters.length) = some n) (hR : rm.frames + 1 ≤ R.frames ∧ 8 + (maxL + 11) + rm.locals ≤ R.locals) :
    CallB R s args own index y bytes maxL ret (Cond.code y bytes maxL ret :: GW) rm 0 0 n ∧ (Cond.static y).before args s = true :=
  ⟨callB_of n hg (g_N h1) rfl hrc.1 hrc.2 (hg _ h5) (hg _ h2) hd hR, hg _ h3⟩
end CWF
theorem rg_cell {x a b : Int32} {l1 h1 l2 h2 l h : Int} (e : x = a * 10 + b) (ha : rg a l1 h1) (hb : rg b l2 h2) (ok : (decide (0 ≤ l1) && decide (h1 ≤ 100000) && decide (-100 ≤ l2) && decide (h2 ≤ 100000) && decide (l ≤ l1 * 10 + l2) && decide (h1 * 10 + h2 ≤ h)) = true) : rg x l h := by
  simp only [Bool.and_eq_true, decide_eq_true_eq] at ok
  have q : rg (a * 10) (l1 * 10) (h1 * 10) := rg_mul rfl ha (rg_k (a := 10) (b := 10) (by decide)) (by simp only [Bool.and_eq_true, decide_eq_true_eq]; omega)
  exact rg_add e q hb (by simp only [Bool.and_eq_true, decide_eq_true_eq]; omega)
theorem rg_min {x a b : Int32} {l1 h1 l2 h2 l h : Int} (e : x = if b < a then b else a) (ha : rg a l1 h1) (hb : rg b l2 h2) (ok : (decide (l ≤ l1) && decide (l ≤ l2) && (decide (h1 ≤ h) || decide (h2 ≤ h))) = true) : rg x l h := by
  simp only [Bool.and_eq_true, Bool.or_eq_true, decide_eq_true_eq] at ok
  obtain ⟨p1, p2⟩ := ha
  obtain ⟨q1, q2⟩ := hb
  unfold rg
  split at e <;> rename_i q <;> subst e
  · have := iL q
    omega
  · have := iNL q
    omega
abbrev rm_X11_cellOf : Room := { frames := 0, cells := 0, slots := 0, locals := 0 }
set_option maxRecDepth 100000 in
theorem c_X11_cellOf (l : Launch) (D : va_G) (tys : List (ClassId × FieldType)) (ws : va_W) (sz : Nat) (p0 p1 : Int32) : Met l yX11_cellOf (Cond.code yX11_cellOf cX11_cellOf 2 (some .int) :: GW) rm_X11_cellOf (mPc D classes tys ws sz [.int p0, .int p1]) (mQi (S := Unit) D classes tys ws sz (fun _ => ws) (fun r _ => r = p0 * 10 + p1)) 0 0 (va_A ws sz) := by
  refine met_i (own := "ShoeingDay") (by decide +kernel) rfl (Nat.le_of_ble_eq_true rfl) ?_
  intro p e s m args below meth c Q Af ls hC hP hD hS hA hl hret
  have hx := hC.1
  have hb := hC.2.1
  have hl : lv_has ls 2 [(0, .int p0), (1, .int p1)] := hl
  refine lv_iload_n hx hb dX11_cellOf_0 rfl (lv_at hl 0 rfl) ?_
  refine lv_bipush (v := 10) hx hb dX11_cellOf_1 (by decide) ?_
  refine lv_imul hx hb dX11_cellOf_3 ?_
  refine lv_iload_n hx hb dX11_cellOf_4 rfl (lv_at hl 1 rfl) ?_
  refine lv_iadd hx hb dX11_cellOf_5 ?_
  exact hret (p0 * 10 + p1) () s.heap [] 6 ls rfl dX11_cellOf_6 hP hD hS rfl
def ush (x k : Int32) : Int32 := (x.toUInt32 >>> (k.toUInt32 &&& Int32.toUInt32 31)).toInt32
def bc (i : Int32) : Int32 :=
  let a := i - (ush i 1 &&& 1431655765)
  let b := (a &&& 858993459) + (ush a 2 &&& 858993459)
  let c := (b + ush b 4) &&& 252645135
  let d := c + ush c 8
  let e := d + ush d 16
  e &&& 63
abbrev rm_bc : Room := { frames := 0, cells := 0, slots := 0, locals := 0 }
set_option maxRecDepth 100000 in
theorem c_J6_bitCount_0f7a4 (l : Launch) (D : va_G) (tys : List (ClassId × FieldType)) (ws : va_W) (sz : Nat) (p0 : Int32) : Met l yJ6_bitCount_0f7a4 (Cond.code yJ6_bitCount_0f7a4 cJ6_bitCount_0f7a4 1 (some .int) :: GW) rm_bc (mPc D classes tys ws sz [.int p0]) (mQi (S := Unit) D classes tys ws sz (fun _ => ws) (fun r _ => r = bc p0)) 0 0 (va_A ws sz) := by
  refine met_i (own := "java/lang/Integer") (by decide +kernel) rfl (Nat.le_of_ble_eq_true rfl) ?_
  intro p e s m args below meth c Q Af ls hC hP hD hS hA hl hret
  have hx := hC.1
  have hb := hC.2.1
  have hown := hC.2.2.2.1
  have hg := hC.g
  have hl : lv_has ls 1 [(0, .int p0)] := hl
  refine lv_iload_n hx hb dJ6_bitCount_0f7a4_0 rfl (lv_at hl 0 rfl) ?_
  refine lv_iload_n hx hb dJ6_bitCount_0f7a4_1 rfl (lv_at hl 0 rfl) ?_
  refine lv_iconst (v := 1) hx hb dJ6_bitCount_0f7a4_2 (by decide) ?_
  refine lv_iushr (v := ush p0 1) hx hb dJ6_bitCount_0f7a4_3 rfl ?_
  refine lv_ldcw (v := 1431655765) hx hb hown (hg _ mw_803) dJ6_bitCount_0f7a4_4 ?_
  refine lv_iand hx hb dJ6_bitCount_0f7a4_7 ?_
  refine lv_isub hx hb dJ6_bitCount_0f7a4_8 ?_
  refine lv_topi (fun a ea => ?_)
  refine lv_istore_n (lv' := [(0, .int a)]) hx hb dJ6_bitCount_0f7a4_9 rfl hl (by decide) rfl (fun ls hl => ?_)
  refine lv_iload_n hx hb dJ6_bitCount_0f7a4_10 rfl (lv_at hl 0 rfl) ?_
  refine lv_ldcw (v := 858993459) hx hb hown (hg _ mw_804) dJ6_bitCount_0f7a4_11 ?_
  refine lv_iand hx hb dJ6_bitCount_0f7a4_14 ?_
  refine lv_iload_n hx hb dJ6_bitCount_0f7a4_15 rfl (lv_at hl 0 rfl) ?_
  refine lv_iconst (v := 2) hx hb dJ6_bitCount_0f7a4_16 (by decide) ?_
  refine lv_iushr (v := ush a 2) hx hb dJ6_bitCount_0f7a4_17 rfl ?_
  refine lv_ldcw (v := 858993459) hx hb hown (hg _ mw_804) dJ6_bitCount_0f7a4_18 ?_
  refine lv_iand hx hb dJ6_bitCount_0f7a4_21 ?_
  refine lv_iadd hx hb dJ6_bitCount_0f7a4_22 ?_
  refine lv_topi (fun b eb => ?_)
  refine lv_istore_n (lv' := [(0, .int b)]) hx hb dJ6_bitCount_0f7a4_23 rfl hl (by decide) rfl (fun ls hl => ?_)
  refine lv_iload_n hx hb dJ6_bitCount_0f7a4_24 rfl (lv_at hl 0 rfl) ?_
  refine lv_iload_n hx hb dJ6_bitCount_0f7a4_25 rfl (lv_at hl 0 rfl) ?_
  refine lv_iconst (v := 4) hx hb dJ6_bitCount_0f7a4_26 (by decide) ?_
  refine lv_iushr (v := ush b 4) hx hb dJ6_bitCount_0f7a4_27 rfl ?_
  refine lv_iadd hx hb dJ6_bitCount_0f7a4_28 ?_
  refine lv_ldcw (v := 252645135) hx hb hown (hg _ mw_805) dJ6_bitCount_0f7a4_29 ?_
  refine lv_iand hx hb dJ6_bitCount_0f7a4_32 ?_
  refine lv_topi (fun c0 ec => ?_)
  refine lv_istore_n (lv' := [(0, .int c0)]) hx hb dJ6_bitCount_0f7a4_33 rfl hl (by decide) rfl (fun ls hl => ?_)
  refine lv_iload_n hx hb dJ6_bitCount_0f7a4_34 rfl (lv_at hl 0 rfl) ?_
  refine lv_iload_n hx hb dJ6_bitCount_0f7a4_35 rfl (lv_at hl 0 rfl) ?_
  refine lv_bipush (v := 8) hx hb dJ6_bitCount_0f7a4_36 (by decide) ?_
  refine lv_iushr (v := ush c0 8) hx hb dJ6_bitCount_0f7a4_38 rfl ?_
  refine lv_iadd hx hb dJ6_bitCount_0f7a4_39 ?_
  refine lv_topi (fun d0 ed => ?_)
  refine lv_istore_n (lv' := [(0, .int d0)]) hx hb dJ6_bitCount_0f7a4_40 rfl hl (by decide) rfl (fun ls hl => ?_)
  refine lv_iload_n hx hb dJ6_bitCount_0f7a4_41 rfl (lv_at hl 0 rfl) ?_
  refine lv_iload_n hx hb dJ6_bitCount_0f7a4_42 rfl (lv_at hl 0 rfl) ?_
  refine lv_bipush (v := 16) hx hb dJ6_bitCount_0f7a4_43 (by decide) ?_
  refine lv_iushr (v := ush d0 16) hx hb dJ6_bitCount_0f7a4_45 rfl ?_
  refine lv_iadd hx hb dJ6_bitCount_0f7a4_46 ?_
  refine lv_topi (fun e0 ee => ?_)
  refine lv_istore_n (lv' := [(0, .int e0)]) hx hb dJ6_bitCount_0f7a4_47 rfl hl (by decide) rfl (fun ls hl => ?_)
  refine lv_iload_n hx hb dJ6_bitCount_0f7a4_48 rfl (lv_at hl 0 rfl) ?_
  refine lv_bipush (v := 63) hx hb dJ6_bitCount_0f7a4_49 (by decide) ?_
  refine lv_iand hx hb dJ6_bitCount_0f7a4_51 ?_
  exact hret (e0 &&& 63) () s.heap [] 52 ls rfl dJ6_bitCount_0f7a4_52 hP hD hS (by rw [ee, ed, ec, eb, ea]; rfl)
/-- the lowest bit alone -/
theorem low_bit (x : BitVec 32) (h : x ≠ 0#32) : ∃ j : Nat, j < 32 ∧ x &&& -x = BitVec.twoPow 32 j ∧ x.getLsbD j = true := by
  have hex : ∃ k, x.getLsbD k = true := by
    apply Classical.byContradiction
    intro hn
    apply h
    apply BitVec.eq_of_getLsbD_eq
    intro i hi
    have := not_exists.mp hn i
    simp only [Bool.not_eq_true] at this
    rw [this]
    simp
  obtain ⟨j, hj, hmin⟩ := pk_least (fun k => x.getLsbD k = true) hex
  have hj32 : j < 32 := by
    apply Classical.byContradiction
    intro hn
    rw [BitVec.getLsbD_of_ge x j (by omega)] at hj
    cases hj
  refine ⟨j, hj32, ?_, hj⟩
  apply BitVec.eq_of_getLsbD_eq
  intro i hi
  rw [BitVec.getLsbD_and, BitVec.getLsbD_neg, BitVec.getLsbD_twoPow]
  rcases Nat.lt_trichotomy i j with h1 | h1 | h1
  · have q := hmin i h1
    simp only [Bool.not_eq_true] at q
    rw [q]
    have : ¬ j = i := by omega
    simp [this]
  · subst h1
    have q : ¬ ∃ k, k < i ∧ x.getLsbD k = true := fun ⟨k, h2, h3⟩ => hmin k h2 h3
    simp [hj, q, hi]
  · have q : ∃ k, k < i ∧ x.getLsbD k = true := ⟨j, h1, hj⟩
    have : ¬ j = i := by omega
    simp [q, hi, this]
theorem bc_pow : ∀ j : Fin 31, bc (Int32.ofBitVec (BitVec.twoPow 32 j.val) - 1) = nI j.val := by decide +kernel
/-- what lowest answers, of a mask of k bits -/
theorem rg_low {x p : Int32} {l1 h1 l h : Int} {k : Nat} (e : x = bc ((p &&& -p) - 1)) (hp : rg p l1 h1) (ok : (decide (1 ≤ l1) && decide (h1 < (2 ^ k : Nat)) && decide (l ≤ 0) && decide ((k : Int) - 1 ≤ h)) = true) : rg x l h := by
  simp only [Bool.and_eq_true, decide_eq_true_eq] at ok
  obtain ⟨p1, p2⟩ := hp
  have q := ti_nat (b := p) (by omega)
  have hne : p.toBitVec ≠ 0#32 := by
    intro h0
    have : p.toBitVec.toNat = 0 := by rw [h0]; rfl
    omega
  obtain ⟨j, hj, hj2, hj3⟩ := low_bit p.toBitVec hne
  have hle : 2 ^ j ≤ p.toBitVec.toNat := Nat.ge_two_pow_of_testBit (by exact hj3)
  have hj31 : j < 31 := by
    apply Classical.byContradiction
    intro hn
    have : j = 31 := by omega
    subst this
    omega
  have hjk : j < k := by
    apply Classical.byContradiction
    intro hn
    have : 2 ^ k ≤ 2 ^ j := Nat.pow_le_pow_right (by decide) (by omega)
    omega
  have hpp : p &&& -p = Int32.ofBitVec (BitVec.twoPow 32 j) := by
    apply Int32.toBitVec_inj.mp
    rw [Int32.toBitVec_and, Int32.toBitVec_neg]
    exact hj2
  rw [hpp, bc_pow ⟨j, hj31⟩] at e
  subst e
  unfold rg
  rw [nI_toInt (by show j < 2 ^ 31; omega)]
  show l ≤ (j : Int) ∧ (j : Int) ≤ h
  omega
abbrev rm_X11_lowest : Room := { frames := 1, cells := 0, slots := 0, locals := 20 }
set_option maxRecDepth 100000 in
theorem c_X11_lowest (l : Launch) (D : va_G) (tys : List (ClassId × FieldType)) (ws : va_W) (sz : Nat) (p0 : Int32) : Met l yX11_lowest (Cond.code yX11_lowest cX11_lowest 1 (some .int) :: GW) rm_X11_lowest (mPc D classes tys ws sz [.int p0]) (mQi (S := Unit) D classes tys ws sz (fun _ => ws) (fun r _ => r = bc ((p0 &&& -p0) - 1))) 0 0 (va_A ws sz) := by
  refine met_i (own := "ShoeingDay") (by decide +kernel) rfl (Nat.le_of_ble_eq_true rfl) ?_
  intro p e s m args below meth c Q Af ls hC hP hD hS hA hl hret
  have hx := hC.1
  have hb := hC.2.1
  have hg := hC.g
  have hl : lv_has ls 1 [(0, .int p0)] := hl
  refine lv_iload_n hx hb dX11_lowest_0 rfl (lv_at hl 0 rfl) ?_
  refine lv_iload_n hx hb dX11_lowest_1 rfl (lv_at hl 0 rfl) ?_
  refine lv_ineg hx hb dX11_lowest_2 ?_
  refine lv_iand hx hb dX11_lowest_3 ?_
  refine lv_iconst (v := 1) hx hb dX11_lowest_4 (by decide) ?_
  refine lv_isub hx hb dX11_lowest_5 ?_
  refine calls_i (As := [.int ((p0 &&& -p0) - 1)]) (rest := []) hC (c_J6_bitCount_0f7a4 l D tys ws s.heap.size ((p0 &&& -p0) - 1)) (cwF 1 hg mw_800 mw_801 mw_21 mw_802 ⟨rfl, rfl⟩ (by decide +kernel) ⟨Nat.le_of_ble_eq_true rfl, Nat.le_of_ble_eq_true rfl⟩) hP hD hS hA rfl hl.1 rfl (by decide) dX11_lowest_6 ⟨Nat.zero_le _, Nat.zero_le _⟩ (fun r u H locs hw hP hD hS => ?_)
  exact hret r () H locs 9 ls rfl dX11_lowest_9 hP hD hS hw
abbrev rm_fill : Room := { frames := 0, cells := 0, slots := 0, locals := 0 }
theorem fl_upd {f : Nat → Int32} {i : Nat} {x : Int32} : upd (fun j => if j < i then x else f j) i x = fun j => if j < i + 1 then x else f j := by
  funext j
  show (if j = i then x else if j < i then x else f j) = if j < i + 1 then x else f j
  by_cases h1 : j = i
  · rw [if_pos h1, if_pos (by omega)]
  · by_cases h2 : j < i
    · rw [if_neg h1, if_pos h2, if_pos (by omega)]
    · rw [if_neg h1, if_neg h2, if_neg (by omega)]
set_option maxRecDepth 100000 in
set_option maxHeartbeats 1000000 in
theorem c_fill (l : Launch) (D : va_G) (tys : List (ClassId × FieldType)) (ws : va_W) (q t sz a n : Nat) (x : Int32) {cq : ClassId} {f : Nat → Int32} (hat : ws[q]? = some (a, .inl (cq, n, .inl f))) (hty : tys[t]? = some (cq, .int)) (hn : n < 2147483648) :
    Met l yJ7_fill_53178 (Cond.code yJ7_fill_53178 cJ7_fill_53178 4 none :: GW) rm_fill (mPc D classes tys ws sz [.ref a, .int x]) (mQv (S := Unit) D classes tys ws sz (fun _ => ws.set q (a, .inl (cq, n, .inl (fun j => if j < n then x else f j)))) (fun _ => True)) 0 0 (va_A ws sz) := by
  refine met_v (own := "java/util/Arrays") (by decide +kernel) rfl (Nat.le_of_ble_eq_true rfl) ?_
  intro p e s m args below meth c Q Af ls hC hP hD hS hA hl hret
  have hx := hC.1
  have hb := hC.2.1
  have hK := hC.K
  have hl : lv_has ls 4 [(0, .ref a), (1, .int x)] := hl
  have hq : q < ws.length := (List.getElem?_eq_some_iff.mp hat).1
  refine lv_iconst (v := 0) hx hb dJ7_fill_53178_0 (by decide) ?_
  refine lv_istore_n (lv' := [(2, .int 0), (0, .ref a), (1, .int x)]) hx hb dJ7_fill_53178_1 rfl hl (by decide) rfl (fun ls hl => ?_)
  refine lv_aload_n hx hb dJ7_fill_53178_2 rfl (lv_at hl 1 rfl) ?_
  refine va_alen (v := nI n) hx hb hK hP q t hat hty rfl dJ7_fill_53178_3 ?_
  refine lv_istore_n (lv' := [(3, .int (nI n)), (2, .int 0), (0, .ref a), (1, .int x)]) hx hb dJ7_fill_53178_4 rfl hl (by decide) rfl (fun ls hl => ?_)
  have J : ∀ (k i : Nat) (H : Heap) (locs : List Loc) (ls : Array Slot), n < i + k → i ≤ n → va_P D classes (ws.set q (a, .inl (cq, n, .inl (fun j => if j < i then x else f j)))) H → va_D Af (ws.set q (a, .inl (cq, n, .inl (fun j => if j < i then x else f j)))) → va_S Af s.heap H locs → lv_has ls 4 [(3, .int (nI n)), (2, .int (nI i)), (0, .ref a), (1, .int x)] → W p l e rm_fill s m args below meth c H locs 0 0 Q (F0 m 5 ls []) := by
    intro k
    induction k with
    | zero =>
      intro i H locs ls h1 h2
      omega
    | succ k ih =>
      intro i H locs ls h1 h2 hP hD hS hl
      have hat2 : (ws.set q (a, .inl (cq, n, .inl (fun j => if j < i then x else f j))))[q]? = some (a, .inl (cq, n, .inl (fun j => if j < i then x else f j))) := List.getElem?_set_self hq
      refine lv_iload_n hx hb dJ7_fill_53178_5 rfl (lv_at hl 1 rfl) ?_
      refine lv_iload_n hx hb dJ7_fill_53178_6 rfl (lv_at hl 0 rfl) ?_
      refine lv_icmp_ge (tgt := 20) hx hb dJ7_fill_53178_7 (by decide) (fun c1 => ?_) (fun c1 => ?_)
      · have hin : i = n := by
          have := (nI_leI (by omega) (by omega)).mp c1
          omega
        subst hin
        exact hret () H locs 20 ls dJ7_fill_53178_20 hP hD hS trivial
      · have hlt : i < n := by
          apply Classical.byContradiction
          intro hn2
          exact c1 ((nI_leI (by omega) (by omega)).mpr (by omega))
        refine lv_aload_n hx hb dJ7_fill_53178_10 rfl (lv_at hl 2 rfl) ?_
        refine lv_iload_n hx hb dJ7_fill_53178_11 rfl (lv_at hl 1 rfl) ?_
        refine lv_iload_n hx hb dJ7_fill_53178_12 rfl (lv_at hl 3 rfl) ?_
        refine va_iast hx hb hK hP hD hS q t hat2 hty (vp_in_nI hlt (by omega)) dJ7_fill_53178_13 (fun H locs hP hD hS => ?_)
        rw [nI_clamp (by omega), fl_upd, List.set_set] at hP hD
        refine lv_iinc (v := nI (i + 1)) (lv' := [(2, .int (nI (i + 1))), (3, .int (nI n)), (0, .ref a), (1, .int x)]) hx hb dJ7_fill_53178_14 hl (k := 1) rfl (by rw [← nI_1 i]; rfl) (by decide) rfl (fun ls hl => ?_)
        refine lv_goto (tgt := 5) hx hb dJ7_fill_53178_17 (by decide) ?_
        exact ih (i + 1) H locs ls (by omega) (by omega) hP hD hS (lv_sub hl [1, 0, 2, 3] rfl)
  have h0 : ws.set q (a, .inl (cq, n, .inl (fun j => if j < 0 then x else f j))) = ws := by
    have : (fun j => if j < 0 then x else f j) = f := by
      funext j
      rw [if_neg (by omega)]
    rw [this]
    obtain ⟨h9, e9⟩ := List.getElem?_eq_some_iff.mp hat
    rw [← e9]
    simp
  exact J (n + 1) 0 s.heap [] ls (by omega) (by omega) (by rw [h0]; exact hP) (by rw [h0]; exact hD) hS hl
theorem rg_bc {x p : Int32} (e : x = bc p) : rg x 0 63 := by
  unfold bc at e
  exact rg_andr e (rg_k (by decide) : rg 63 63 63) (by decide)
theorem sub_pos {n d day n1 x : Int32} {h9 : Int} (hn : rg n 1 9) (hd : rg d 0 h9) (e1 : n1 = n - 1) (h1 : day.toInt ≤ n1.toInt) (h2 : d.toInt ≤ day.toInt) (ex : x = n - d) : rg x 1 9 := by
  obtain ⟨p1, p2⟩ := hn
  have q1 : (1 : Int32).toInt = 1 := rfl
  have q2 : n1.toInt = n.toInt - 1 := by rw [e1, ti_sub (by omega) (by omega), q1]
  have q4 := hd.1
  have q3 : x.toInt = n.toInt - d.toInt := by rw [ex, ti_sub (by omega) (by omega)]
  unfold rg
  omega
/-- how many of the lowest n bits are set -/
def cntB (x : BitVec 32) : Nat → Nat
  | 0 => 0
  | n + 1 => cntB x n + (if x.getLsbD n then 1 else 0)
theorem cntB_le (x : BitVec 32) (n : Nat) : cntB x n ≤ n := by
  induction n with
  | zero => exact Nat.le_refl 0
  | succ n ih =>
    show cntB x n + _ ≤ n + 1
    split <;> omega
theorem cntB_pos {x : BitVec 32} {n j : Nat} (hj : j < n) (h : x.getLsbD j = true) : 1 ≤ cntB x n := by
  induction n with
  | zero => omega
  | succ n ih =>
    show 1 ≤ cntB x n + _
    by_cases e : j = n
    · subst e
      rw [h]
      simp
    · have := ih (by omega)
      omega
theorem sh_t : ∀ k : Fin 32, ((nI k.val &&& 31).toBitVec.smod 32).toNat = k.val := by decide +kernel
/-- the bit k of p, as it is taken -/
theorem bit_of (p : Int32) {k : Nat} (hk : k < 31) : (p >>> (nI k &&& 31)) &&& 1 = nI (if p.toBitVec.getLsbD k then 1 else 0) := by
  apply Int32.toBitVec_inj.mp
  rw [Int32.toBitVec_and, Int32.toBitVec_shiftRight]
  have hs : ((nI k &&& 31).toBitVec.smod 32) = BitVec.ofNat 32 k := by
    apply BitVec.eq_of_toNat_eq
    rw [sh_t ⟨k, by omega⟩]
    simp
    omega
  apply BitVec.eq_of_getLsbD_eq
  intro i hi
  rw [BitVec.getLsbD_and]
  by_cases h0 : i = 0
  · subst h0
    have hk2 : ((nI k &&& 31).toBitVec.smod 32).toNat = k := sh_t ⟨k, by omega⟩
    show ((BitVec.sshiftRight p.toBitVec ((nI k &&& 31).toBitVec.smod 32).toNat).getLsbD 0 && _) = _
    rw [hk2, BitVec.getLsbD_sshiftRight]
    have q : k + 0 < 32 := by omega
    have q9 : k < 32 := by omega
    cases hb : p.toBitVec.getLsbD k with
    | false =>
      have z : (p.toBitVec.getLsbD (k + 0)) = false := hb
      simp [z, q9]
      rfl
    | true =>
      have z : (p.toBitVec.getLsbD (k + 0)) = true := hb
      simp [z, q9]
      rfl
  · have q : (1 : Int32).toBitVec.getLsbD i = false := by
      have : (1 : Int32).toBitVec = 1#32 := rfl
      rw [this, BitVec.getLsbD_one]
      simp
      omega
    rw [q, Bool.and_false]
    have q2 : ∀ b : Bool, (nI (if b then 1 else 0)).toBitVec.getLsbD i = false := by
      intro b
      cases b
      · show (0#32).getLsbD i = false
        simp
      · show (1#32).getLsbD i = false
        rw [BitVec.getLsbD_one]
        simp
        omega
    exact (q2 _).symm
theorem rg_bits {x p : Int32} (e : x = nI (cntB p.toBitVec 31)) : rg x 0 31 := by
  have := cntB_le p.toBitVec 31
  subst e
  unfold rg
  rw [nI_toInt (by omega)]
  omega
theorem rg_bits1 {x p : Int32} {a b : Int} (e : x = nI (cntB p.toBitVec 31)) (h : rg p a b) (ok : decide (1 ≤ a) = true) : rg x 1 31 := by
  simp only [decide_eq_true_eq] at ok
  have q := cntB_le p.toBitVec 31
  have t := ti_nat (b := p) (by have := h.1; omega)
  have hne : p.toBitVec ≠ 0#32 := by
    intro h0
    have : p.toBitVec.toNat = 0 := by rw [h0]; rfl
    have := h.1
    omega
  obtain ⟨j, hj, -, hj3⟩ := low_bit p.toBitVec hne
  have hle : 2 ^ j ≤ p.toBitVec.toNat := Nat.ge_two_pow_of_testBit (by exact hj3)
  have hj31 : j < 31 := by
    apply Classical.byContradiction
    intro hn
    have : j = 31 := by omega
    subst this
    omega
  have q2 := cntB_pos hj31 hj3
  subst e
  unfold rg
  rw [nI_toInt (by omega)]
  omega
abbrev rm_X12_bitsOf : Room := { frames := 0, cells := 0, slots := 0, locals := 0 }
set_option maxRecDepth 100000 in
set_option maxHeartbeats 1000000 in
theorem c_X12_bitsOf (l : Launch) (D : va_G) (tys : List (ClassId × FieldType)) (ws : va_W) (sz : Nat) (p0 : Int32) : Met l yX12_bitsOf (Cond.code yX12_bitsOf cX12_bitsOf 3 (some .int) :: GW) rm_X12_bitsOf (mPc D classes tys ws sz [.int p0]) (mQi (S := Unit) D classes tys ws sz (fun _ => ws) (fun r _ => r = nI (cntB p0.toBitVec 31))) 0 0 (va_A ws sz) := by
  refine met_i (own := "ShoeingDayModel") (by decide +kernel) rfl (Nat.le_of_ble_eq_true rfl) ?_
  intro p e s m args below meth c Q Af ls hC hP hD hS hA hl hret
  have hx := hC.1
  have hb := hC.2.1
  have hl : lv_has ls 3 [(0, .int p0)] := hl
  refine lv_iconst (v := 0) hx hb dX12_bitsOf_0 (by decide) ?_
  refine lv_istore_n (lv' := [(1, .int 0), (0, .int p0)]) hx hb dX12_bitsOf_1 rfl hl (by decide) rfl (fun ls hl => ?_)
  refine lv_iconst (v := 0) hx hb dX12_bitsOf_2 (by decide) ?_
  refine lv_istore_n (lv' := [(2, .int 0), (1, .int 0), (0, .int p0)]) hx hb dX12_bitsOf_3 rfl hl (by decide) rfl (fun ls hl => ?_)
  have J : ∀ (k i : Nat) (ls : Array Slot), 31 < i + k → i ≤ 31 → lv_has ls 3 [(2, .int (nI i)), (1, .int (nI (cntB p0.toBitVec i))), (0, .int p0)] → W p l e rm_X12_bitsOf s m args below meth c s.heap [] 0 0 Q (F0 m 4 ls []) := by
    intro k
    induction k with
    | zero =>
      intro i ls h1 h2
      omega
    | succ k ih =>
      intro i ls h1 h2 hl
      have hcl := cntB_le p0.toBitVec i
      refine lv_iload_n hx hb dX12_bitsOf_4 rfl (lv_at hl 0 rfl) ?_
      refine lv_bipush (v := nI 31) hx hb dX12_bitsOf_5 (by decide) ?_
      refine lv_icmp_ge (tgt := 24) hx hb dX12_bitsOf_7 (by decide) (fun c1 => ?_) (fun c1 => ?_)
      · have hin : i = 31 := by
          have := (nI_leI (by omega) (by omega)).mp c1
          omega
        subst hin
        refine lv_iload_n hx hb dX12_bitsOf_24 rfl (lv_at hl 1 rfl) ?_
        exact hret _ () s.heap [] 25 ls rfl dX12_bitsOf_25 hP hD hS rfl
      · have hlt : i < 31 := by
          apply Classical.byContradiction
          intro hn2
          exact c1 ((nI_leI (by omega) (by omega)).mpr (by omega))
        refine lv_iload_n hx hb dX12_bitsOf_10 rfl (lv_at hl 1 rfl) ?_
        refine lv_iload_n hx hb dX12_bitsOf_11 rfl (lv_at hl 2 rfl) ?_
        refine lv_iload_n hx hb dX12_bitsOf_12 rfl (lv_at hl 0 rfl) ?_
        refine lv_ishr hx hb dX12_bitsOf_13 ?_
        refine lv_iconst (v := 1) hx hb dX12_bitsOf_14 (by decide) ?_
        refine lv_iand hx hb dX12_bitsOf_15 ?_
        refine lv_iadd hx hb dX12_bitsOf_16 ?_
        refine tope (y := nI (cntB p0.toBitVec (i + 1))) (by rw [bit_of p0 hlt, nI_add]; rfl) ?_
        refine lv_istore_n (lv' := [(1, .int (nI (cntB p0.toBitVec (i + 1)))), (2, .int (nI i)), (0, .int p0)]) hx hb dX12_bitsOf_17 rfl hl (by decide) rfl (fun ls hl => ?_)
        refine lv_iinc (v := nI (i + 1)) (lv' := [(2, .int (nI (i + 1))), (1, .int (nI (cntB p0.toBitVec (i + 1)))), (0, .int p0)]) hx hb dX12_bitsOf_18 hl (k := 1) rfl (by rw [← nI_1 i]; rfl) (by decide) rfl (fun ls hl => ?_)
        refine lv_goto (tgt := 4) hx hb dX12_bitsOf_21 (by decide) ?_
        exact ih (i + 1) ls (by omega) (by omega) hl
  exact J 32 0 ls (by omega) (by omega) hl
