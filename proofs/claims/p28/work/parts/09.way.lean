/-! the ways of Parting: what is in a mask, which edges there can be -/
def okE (a b : Int32) : Prop := a.toInt < 8 → b.toInt < 18 → 8 ≤ b.toInt
def ib (x n : Int32) : Prop := x.toBitVec.getLsbD n.toNatClampNeg = true ∧ 0 ≤ n.toInt
def iS (x y n : Int32) : Prop := ib x n ∧ y.toBitVec.getLsbD n.toNatClampNeg = false
def way (f : Nat → Int32) (b g : Int32) : Prop := ∃ P : Int32 → Prop, P g ∧ ∀ n, P n → n ≠ b → P (f n.toNatClampNeg) ∧ okE (f n.toNatClampNeg) n
def wO (x b : Int32) (f qq : Nat → Int32) (k : Int32) : Prop := (∀ j : Nat, (j : Int) < k.toInt → ib x (qq j)) ∧ ∀ n, ib x n → n ≠ b → ib x (f n.toNatClampNeg) ∧ okE (f n.toNatClampNeg) n
def wI (x y d b : Int32) (f qq : Nat → Int32) (k : Int32) : Prop := (∀ j : Nat, (j : Int) < k.toInt → iS x y (qq j)) ∧ (∀ n, iS x y n → n ≠ b → iS x y (f n.toNatClampNeg) ∧ okE (f n.toNatClampNeg) n) ∧ iS x y d ∧ (∀ i : Nat, y.toBitVec.getLsbD i = true → x.toBitVec.getLsbD i = true) ∧ (d.toInt < 8 → ∀ i : Nat, i < 8 → y.toBitVec.getLsbD i = false)
theorem nn_inj {a b : Int32} (ha : 0 ≤ a.toInt) (hb : 0 ≤ b.toInt) (h : a.toNatClampNeg = b.toNatClampNeg) : a = b := by
  apply Int32.toInt_inj.mp
  have h2 : a.toInt.toNat = b.toInt.toNat := h
  omega
theorem tw_t : ∀ j : Fin 30, ((1 : Int32) <<< (nI j.val &&& 31)).toBitVec = BitVec.twoPow 32 j.val := by decide +kernel
theorem wO_0 {x b : Int32} {f qq : Nat → Int32} (hb : rg b 0 19) (e : x = 1 <<< (b &&& 31)) : wO x b f (upd qq (0 : Int32).toNatClampNeg b) 1 := by
  obtain ⟨j, rfl, q1, q2, q0⟩ := nI_rg hb (by omega)
  have hx : x.toBitVec = BitVec.twoPow 32 j := by rw [e]; exact tw_t ⟨j, by omega⟩
  have hc : (nI j).toNatClampNeg = j := nI_clamp (by omega)
  refine ⟨fun i hi => ?_, fun n hn hne => ?_⟩
  · have h1 : (1 : Int32).toInt = 1 := rfl
    have hi0 : i = 0 := by omega
    subst hi0
    show ib x (if 0 = (0 : Int32).toNatClampNeg then nI j else qq 0)
    rw [if_pos (show 0 = (0 : Int32).toNatClampNeg from rfl)]
    refine ⟨?_, by rw [nI_toInt (by omega)]; omega⟩
    rw [hx, hc, BitVec.getLsbD_twoPow]
    have : j < 32 := by omega
    simp [this]
  · exfalso
    obtain ⟨h1, h2⟩ := hn
    rw [hx, BitVec.getLsbD_twoPow] at h1
    simp only [Bool.and_eq_true, decide_eq_true_eq] at h1
    refine hne (nn_inj h2 (by rw [nI_toInt (by omega)]; omega) ?_)
    rw [hc]
    omega
theorem bt_not (x : Int32) {i : Nat} (hi : i < 32) : (x ^^^ (-1)).toBitVec.getLsbD i = !x.toBitVec.getLsbD i := by
  have h : (x ^^^ (-1)).toBitVec = x.toBitVec ^^^ BitVec.allOnes 32 := rfl
  rw [h, BitVec.getLsbD_xor, BitVec.getLsbD_allOnes]
  simp [hi]
theorem bt_ge {x : Int32} {i : Nat} (h : x.toBitVec.getLsbD i = true) : i < 32 := by
  apply Classical.byContradiction
  intro hn
  rw [BitVec.getLsbD_of_ge _ _ (by omega)] at h
  cases h
/-- new nodes: those that can be reached and weren't seen; what was seen is as it was -/
theorem iS_new {x r y fr x2 : Int32} (ey : y = x ^^^ (-1)) (ef : fr = r &&& y) (e2 : x2 = x ||| fr) (n : Int32) : iS x2 fr n ↔ ib x n := by
  have hf : ∀ i : Nat, fr.toBitVec.getLsbD i = (r.toBitVec.getLsbD i && y.toBitVec.getLsbD i) := by
    intro i; rw [ef, Int32.toBitVec_and, BitVec.getLsbD_and]
  have h2 : ∀ i : Nat, x2.toBitVec.getLsbD i = (x.toBitVec.getLsbD i || fr.toBitVec.getLsbD i) := by
    intro i; rw [e2, Int32.toBitVec_or, BitVec.getLsbD_or]
  unfold iS ib
  rw [h2]
  constructor
  · rintro ⟨⟨h, h0⟩, h3⟩
    rw [h3, Bool.or_false] at h
    exact ⟨h, h0⟩
  · rintro ⟨h, h0⟩
    have hi := bt_ge h
    refine ⟨⟨by rw [h]; rfl, h0⟩, ?_⟩
    rw [hf, ey, bt_not x hi, h]
    simp
theorem wI_1 {x b r y fr x2 d k a : Int32} {f qq : Nat → Int32} {l1 h1 : Int} (h : wO x b f qq k) (ed : d = qq a.toNatClampNeg) (ha : rg a l1 h1) (ok : decide (0 ≤ l1) = true) (hk : a.toInt < k.toInt) (ey : y = x ^^^ (-1)) (ef : fr = r &&& y) (e2 : x2 = x ||| fr) (hr : d.toInt < 8 → ∀ i : Nat, i < 8 → r.toBitVec.getLsbD i = false) : wI x2 fr d b f qq k := by
  simp only [decide_eq_true_eq] at ok
  have hh := iS_new ey ef e2
  refine ⟨fun j hj => (hh _).mpr (h.1 j hj), fun n hn hne => ?_, ?_, fun i hi => ?_, fun hd i hi => ?_⟩
  · obtain ⟨q1, q2⟩ := h.2 n ((hh n).mp hn) hne
    exact ⟨(hh _).mpr q1, q2⟩
  · rw [ed]
    refine (hh _).mpr (h.1 _ ?_)
    have := ha.1
    show ((a.toInt.toNat : Nat) : Int) < k.toInt
    omega
  · rw [e2, Int32.toBitVec_or, BitVec.getLsbD_or, hi, Bool.or_true]
  · rw [ef, Int32.toBitVec_and, BitVec.getLsbD_and, hr hd i hi, Bool.false_and]
theorem wI_0 {x y d b k : Int32} {f qq : Nat → Int32} (h : wI x y d b f qq k) (e : y = 0) : wO x b f qq k := by
  subst e
  have hz : ∀ n, iS x 0 n ↔ ib x n := fun n => ⟨fun q => q.1, fun q => ⟨q, by
    have : (0 : Int32).toBitVec = 0#32 := rfl
    rw [this]
    simp⟩⟩
  refine ⟨fun j hj => (hz _).mp (h.1 j hj), fun n hn hne => ?_⟩
  obtain ⟨q1, q2⟩ := h.2.1 n ((hz n).mpr hn) hne
  exact ⟨(hz _).mp q1, q2⟩
/-- lowest: its bit is in the mask, and goes -/
theorem low_is {y n : Int32} {l1 h1 : Int} (e : n = bc ((y &&& -y) - 1)) (hy : rg y l1 h1) (ok : decide (1 ≤ l1) = true) : 0 ≤ n.toInt ∧ y.toBitVec.getLsbD n.toNatClampNeg = true ∧ ∀ i : Nat, (y &&& (y - 1)).toBitVec.getLsbD i = (y.toBitVec.getLsbD i && !decide (i = n.toNatClampNeg)) := by
  simp only [decide_eq_true_eq] at ok
  obtain ⟨p1, p2⟩ := hy
  have q := ti_nat (b := y) (by omega)
  have hne : y.toBitVec ≠ 0#32 := by
    intro h0
    have : y.toBitVec.toNat = 0 := by rw [h0]; rfl
    omega
  obtain ⟨j, hj, hj2, hj3⟩ := low_bit y.toBitVec hne
  have hle : 2 ^ j ≤ y.toBitVec.toNat := Nat.ge_two_pow_of_testBit (by exact hj3)
  have hj31 : j < 31 := by
    apply Classical.byContradiction
    intro hn
    have : j = 31 := by omega
    subst this
    omega
  have hpp : y &&& -y = Int32.ofBitVec (BitVec.twoPow 32 j) := by
    apply Int32.toBitVec_inj.mp
    rw [Int32.toBitVec_and, Int32.toBitVec_neg]
    exact hj2
  rw [hpp, bc_pow ⟨j, hj31⟩] at e
  subst e
  have hc : (nI j).toNatClampNeg = j := nI_clamp (by omega)
  refine ⟨by rw [nI_toInt (by omega)]; omega, by rw [hc]; exact hj3, fun i => ?_⟩
  rw [hc]
  -- y - 1 = y + ~0; use that y = (y without bit j) + 2^j
  have hsplit : (y &&& (y - 1)).toBitVec = y.toBitVec &&& ~~~(BitVec.twoPow 32 j) := by
    rw [Int32.toBitVec_and, Int32.toBitVec_sub]
    have h1 : (1 : Int32).toBitVec = 1#32 := rfl
    rw [h1, ← hj2]
    generalize y.toBitVec = v
    apply BitVec.eq_of_getLsbD_eq
    intro i hi
    have e1 : v - 1#32 = ~~~(-v) := by
      rw [BitVec.not_neg]
    rw [e1]
    simp only [BitVec.getLsbD_and, BitVec.getLsbD_not, hi, decide_true, Bool.true_and]
    cases v.getLsbD i <;> simp
  rw [hsplit, BitVec.getLsbD_and, BitVec.getLsbD_not, BitVec.getLsbD_twoPow]
  by_cases hi : i < 32
  · by_cases hij : i = j
    · subst hij
      simp [hi]
    · have : ¬ j = i := by omega
      simp [hi, hij, this]
  · rw [BitVec.getLsbD_of_ge _ _ (by omega)]
    simp
theorem iS_low {x y n : Int32} {l1 h1 : Int} (e : n = bc ((y &&& -y) - 1)) (hy : rg y l1 h1) (ok : decide (1 ≤ l1) = true) (hsub : ∀ i : Nat, y.toBitVec.getLsbD i = true → x.toBitVec.getLsbD i = true) (z : Int32) : iS x (y &&& (y - 1)) z ↔ (iS x y z ∨ z = n) := by
  obtain ⟨h0, h1, h2⟩ := low_is e hy ok
  unfold iS
  rw [h2]
  constructor
  · rintro ⟨⟨q1, q2⟩, q3⟩
    by_cases hz : z.toNatClampNeg = n.toNatClampNeg
    · exact Or.inr (nn_inj q2 h0 hz)
    · refine Or.inl ⟨⟨q1, q2⟩, ?_⟩
      simpa [hz] using q3
  · rintro (⟨⟨q1, q2⟩, q3⟩ | rfl)
    · exact ⟨⟨q1, q2⟩, by rw [q3]; rfl⟩
    · exact ⟨⟨hsub _ h1, h0⟩, by simp⟩
theorem w_edge {x y d b k n : Int32} {f qq : Nat → Int32} {l1 h1 : Int} (h : wI x y d b f qq k) (e : n = bc ((y &&& -y) - 1)) (hy : rg y l1 h1) (ok : decide (1 ≤ l1) = true) : ∀ z, (iS x y z ∨ z = n) → z ≠ b → ((iS x y (upd f n.toNatClampNeg d z.toNatClampNeg) ∨ upd f n.toNatClampNeg d z.toNatClampNeg = n) ∧ okE (upd f n.toNatClampNeg d z.toNatClampNeg) z) := by
  obtain ⟨h0, hb1, -⟩ := low_is e hy ok
  intro z hz hne
  have hu : upd f n.toNatClampNeg d z.toNatClampNeg = if z.toNatClampNeg = n.toNatClampNeg then d else f z.toNatClampNeg := rfl
  by_cases hzn : z.toNatClampNeg = n.toNatClampNeg
  · rw [hu, if_pos hzn]
    refine ⟨Or.inl h.2.2.1, fun hd _ => ?_⟩
    have hz0 : 0 ≤ z.toInt := by
      rcases hz with q | q
      · exact q.1.2
      · rw [q]; exact h0
    apply Classical.byContradiction
    intro hlt
    have hfa := h.2.2.2.2 hd n.toNatClampNeg (by rw [← hzn]; show z.toInt.toNat < 8; omega)
    rw [hb1] at hfa
    cases hfa
  · rw [hu, if_neg hzn]
    have hzS : iS x y z := hz.resolve_right (fun q => hzn (by rw [q]))
    obtain ⟨q1, q2⟩ := h.2.1 z hzS hne
    exact ⟨Or.inl q1, q2⟩
theorem w_way {x y d b k n g : Int32} {f qq : Nat → Int32} {l1 h1 : Int} (h : wI x y d b f qq k) (e : n = bc ((y &&& -y) - 1)) (hy : rg y l1 h1) (ok : decide (1 ≤ l1) = true) (eg : n = g) : way (upd f n.toNatClampNeg d) b g :=
  ⟨fun z => iS x y z ∨ z = n, Or.inr eg.symm, w_edge h e hy ok⟩
theorem w_next {x y d b k n : Int32} {f qq : Nat → Int32} {l1 h1 : Int} (h : wI x y d b f qq k) (e : n = bc ((y &&& -y) - 1)) (hy : rg y l1 h1) (ok : decide (1 ≤ l1) = true) : wI x (y &&& (y - 1)) d b (upd f n.toNatClampNeg d) qq k := by
  have hl := iS_low (x := x) e hy ok h.2.2.2.1
  obtain ⟨-, -, hcl⟩ := low_is e hy ok
  refine ⟨fun j hj => (hl _).mpr (Or.inl (h.1 j hj)), fun z hz hne => ?_, (hl _).mpr (Or.inl h.2.2.1), fun i hi => ?_, fun hd i hi => ?_⟩
  · obtain ⟨q1, q2⟩ := w_edge h e hy ok z ((hl z).mp hz) hne
    exact ⟨(hl _).mpr q1, q2⟩
  · rw [hcl] at hi
    simp only [Bool.and_eq_true] at hi
    exact h.2.2.2.1 i hi.1
  · rw [hcl, h.2.2.2.2 hd i hi, Bool.false_and]
theorem w_push {x y d b k k2 n : Int32} {f qq : Nat → Int32} {l1 h1 : Int} (h : wI x (y &&& (y - 1)) d b f qq k) (e : n = bc ((y &&& -y) - 1)) (hy : rg y l1 h1) (ok : decide (1 ≤ l1) = true) (hb : x.toBitVec.getLsbD n.toNatClampNeg = true) (hk : rg k 0 30) (ek : k2 = k + 1) : wI x (y &&& (y - 1)) d b f (upd qq k.toNatClampNeg n) k2 := by
  obtain ⟨h0, -, hcl⟩ := low_is e hy ok
  have e1 : (1 : Int32).toInt = 1 := rfl
  have hk2 : k2.toInt = k.toInt + 1 := by rw [ek, ti_add (by have := hk.1; omega) (by have := hk.2; omega), e1]
  refine ⟨fun j hj => ?_, h.2⟩
  show iS x (y &&& (y - 1)) (if j = k.toNatClampNeg then n else qq j)
  split
  · refine ⟨⟨hb, h0⟩, ?_⟩
    rw [hcl]
    simp
  · rename_i hne
    refine h.1 j ?_
    have : ¬ j = k.toInt.toNat := hne
    have := hk.1
    omega
theorem w_bit {x y d b k n : Int32} {f qq : Nat → Int32} {l1 h1 : Int} (h : wI x y d b f qq k) (e : n = bc ((y &&& -y) - 1)) (hy : rg y l1 h1) (ok : decide (1 ≤ l1) = true) : x.toBitVec.getLsbD n.toNatClampNeg = true := h.2.2.2.1 _ (low_is e hy ok).2.1
theorem shl_low {x y : Int32} (e : x = y <<< ((8 : Int32) &&& 31)) : ∀ i : Nat, i < 8 → x.toBitVec.getLsbD i = false := by
  intro i hi
  have h : x.toBitVec = y.toBitVec <<< ((8 : Int32) &&& 31).toBitVec.smod 32 := by rw [e]; rfl
  have h8 : ((8 : Int32) &&& 31).toBitVec.smod 32 = 8#32 := by decide
  rw [h, h8]
  rw [BitVec.shiftLeft_eq']
  have h9 : (8#32).toNat = 8 := rfl
  rw [h9, BitVec.getLsbD_shiftLeft]
  simp [hi]
theorem shl_low2 {x y z : Int32} (e : x = y <<< ((8 : Int32) &&& 31)) (e2 : z = x ||| 262144) : ∀ i : Nat, i < 8 → z.toBitVec.getLsbD i = false := by
  intro i hi
  rw [e2, Int32.toBitVec_or, BitVec.getLsbD_or, shl_low e i hi, Bool.false_or]
  have h : (262144 : Int32).toBitVec = 262144#32 := rfl
  rw [h]
  have : ∀ j : Fin 8, (262144#32).getLsbD j.val = false := by decide
  exact this ⟨i, hi⟩
