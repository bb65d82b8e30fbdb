/-! the reference's isCovered, exactly -/
def sub_ (k : Nat) (set : Int32) : Prop := ∀ i : Nat, k.testBit i = true → set.toBitVec.getLsbD i = true
def okU (near : Nat → Int32) (r : Int32) (k : Nat) : Prop := ∀ j : Nat, r.toBitVec.getLsbD j = true ↔ ∃ i : Nat, k.testBit i = true ∧ (near i).toBitVec.getLsbD j = true
def cntN (k : Nat) : Nat := cntB (BitVec.ofNat 32 k) 31
def cvI (near reach : Nat → Int32) (set : Int32) (n : Int) : Prop := ∀ k : Nat, (k : Int) < n → sub_ k set → okU near (reach k) k ∧ cntN k ≤ cntB (reach k).toBitVec 31
/-- some part of set has too few -/
def cvN (near : Nat → Int32) (set : Int32) : Prop := ∃ (k : Nat) (r : Int32), (k : Int) ≤ set.toInt ∧ sub_ k set ∧ okU near r k ∧ cntB r.toBitVec 31 < cntN k
theorem cv_0 {near reach : Nat → Int32} {set : Int32} : cvI near (upd reach (0 : Int32).toNatClampNeg 0) set (1 : Int32).toInt := by
  intro k hk _
  have h1 : (1 : Int32).toInt = 1 := rfl
  have hk0 : k = 0 := by omega
  subst hk0
  have hr : upd reach (0 : Int32).toNatClampNeg 0 0 = 0 := rfl
  rw [hr]
  refine ⟨fun j => ⟨fun h => ?_, fun ⟨i, hi, _⟩ => ?_⟩, ?_⟩
  · have : (0 : Int32).toBitVec = 0#32 := rfl
    rw [this] at h
    simp at h
  · simp at hi
  · show cntB (BitVec.ofNat 32 0) 31 ≤ cntB (0 : Int32).toBitVec 31
    exact Nat.le_refl _
theorem tb_nat {m : Int32} {a b : Int} (h : rg m a b) (ok : decide (0 ≤ a) = true) (i : Nat) : m.toNatClampNeg.testBit i = m.toBitVec.getLsbD i := by
  simp only [decide_eq_true_eq] at ok
  have q := ti_nat (b := m) (by have := h.1; omega)
  have : m.toNatClampNeg = m.toBitVec.toNat := by
    show m.toInt.toNat = _
    omega
  rw [this]
  rfl
/-- a part that isn't within: nothing is asked of it -/
theorem cv_skip {near reach : Nat → Int32} {set m x y : Int32} {a b : Int} (h : cvI near reach set m.toInt) (hm : rg m a b) (ok : decide (0 ≤ a) = true) (ey : y = set ^^^ (-1)) (ex : x = m &&& y) (c : ¬ x = 0) : cvI near reach set (m.toInt + 1) := by
  intro k hk hs
  by_cases e : (k : Int) < m.toInt
  · exact h k e hs
  · exfalso
    have hkm : k = m.toNatClampNeg := by
      show k = m.toInt.toNat
      omega
    apply c
    apply Int32.toBitVec_inj.mp
    apply BitVec.eq_of_getLsbD_eq
    intro i hi
    have hz : (0 : Int32).toBitVec = 0#32 := rfl
    rw [ex, ey, Int32.toBitVec_and, BitVec.getLsbD_and, bt_not set hi, hz]
    simp only [BitVec.getLsbD_zero]
    cases hb : m.toBitVec.getLsbD i with
    | false => rfl
    | true =>
      have := hs i (by rw [hkm, tb_nat hm ok]; exact hb)
      rw [this]
      rfl
theorem cv_bit {m low x y : Int32} (hl : rg low 0 9) (e1 : y = m >>> (low &&& 31)) (e2 : x = y &&& 1) : x = nI (if m.toBitVec.getLsbD low.toNatClampNeg then 1 else 0) := by
  obtain ⟨k, rfl, q1, q2, q0⟩ := nI_rg hl (by omega)
  rw [e2, e1, nI_clamp (by omega)]
  exact bit_of m (by omega)
theorem cv_inc {m low low2 x y : Int32} (hm : rg m 1 1023) (hl : rg low 0 9) (hv : ∀ i : Nat, (i : Int) < low.toInt → m.toBitVec.getLsbD i = false) (e1 : y = m >>> (low &&& 31)) (e2 : x = y &&& 1) (c : x = 0) (e3 : low2 = low + 1) : rg low2 1 9 ∧ ∀ i : Nat, (i : Int) < low2.toInt → m.toBitVec.getLsbD i = false := by
  have hb := cv_bit hl e1 e2
  have hbf : m.toBitVec.getLsbD low.toNatClampNeg = false := by
    cases hh : m.toBitVec.getLsbD low.toNatClampNeg with
    | false => rfl
    | true =>
      rw [hh, c] at hb
      exact absurd hb (by decide)
  have h1 : (1 : Int32).toInt = 1 := rfl
  have hl2 : low2.toInt = low.toInt + 1 := by rw [e3, ti_add (by have := hl.1; omega) (by have := hl.2; omega), h1]
  have hall : ∀ i : Nat, (i : Int) < low2.toInt → m.toBitVec.getLsbD i = false := by
    intro i hi
    by_cases e : (i : Int) < low.toInt
    · exact hv i e
    · have : i = low.toNatClampNeg := by
        show i = low.toInt.toNat
        have := hl.1
        omega
      rw [this]
      exact hbf
  refine ⟨⟨by have := hl.1; omega, ?_⟩, hall⟩
  apply Classical.byContradiction
  intro hn
  have q := ti_nat (b := m) (by have := hm.1; omega)
  have hne : m.toBitVec ≠ 0#32 := by
    intro h0
    have : m.toBitVec.toNat = 0 := by rw [h0]; rfl
    have := hm.1
    omega
  obtain ⟨j, hj, -, hj3⟩ := low_bit m.toBitVec hne
  have hle : 2 ^ j ≤ m.toBitVec.toNat := Nat.ge_two_pow_of_testBit (by exact hj3)
  have hj10 : j < 10 := by
    apply Classical.byContradiction
    intro hz
    have : 2 ^ 10 ≤ 2 ^ j := Nat.pow_le_pow_right (by decide) (by omega)
    have := hm.2
    omega
  have := hall j (by omega)
  rw [hj3] at this
  cases this
/-- m without its lowest bit -/
theorem cv_rest {m low : Int32} (hm : rg m 1 1023) (hl : rg low 0 9) (hv : ∀ i : Nat, (i : Int) < low.toInt → m.toBitVec.getLsbD i = false) (hb : m.toBitVec.getLsbD low.toNatClampNeg = true) : ∀ i : Nat, (m &&& (m - 1)).toBitVec.getLsbD i = (m.toBitVec.getLsbD i && !decide (i = low.toNatClampNeg)) := by
  obtain ⟨h0, h1, h2⟩ := low_is (y := m) rfl hm (by decide)
  have : (bc ((m &&& -m) - 1)).toNatClampNeg = low.toNatClampNeg := by
    rcases Nat.lt_trichotomy (bc ((m &&& -m) - 1)).toNatClampNeg low.toNatClampNeg with h | h | h
    · have := hv _ (show (((bc ((m &&& -m) - 1)).toNatClampNeg : Nat) : Int) < low.toInt by
        have h3 : (bc ((m &&& -m) - 1)).toNatClampNeg < low.toInt.toNat := h
        omega)
      rw [h1] at this
      cases this
    · exact h
    · -- then low's bit would go by the lowest's being above it: it is below
      exfalso
      have q := ti_nat (b := m) (by have := hm.1; omega)
      have hne : m.toBitVec ≠ 0#32 := by
        intro hz
        rw [hz] at hb
        simp at hb
      obtain ⟨j, hj, hj2, hj3⟩ := low_bit m.toBitVec hne
      have hle : 2 ^ j ≤ m.toBitVec.toNat := Nat.ge_two_pow_of_testBit (by exact hj3)
      have hj31 : j < 31 := by
        apply Classical.byContradiction
        intro hn
        have : j = 31 := by omega
        subst this
        omega
      have hpp : m &&& -m = Int32.ofBitVec (BitVec.twoPow 32 j) := by
        apply Int32.toBitVec_inj.mp
        rw [Int32.toBitVec_and, Int32.toBitVec_neg]
        exact hj2
      rw [hpp, bc_pow ⟨j, hj31⟩, nI_clamp (show j < 2 ^ 31 by omega)] at h
      have hx : (m.toBitVec &&& -m.toBitVec).getLsbD low.toNatClampNeg = false := by
        rw [hj2, BitVec.getLsbD_twoPow]
        have : ¬ j = low.toNatClampNeg := by omega
        simp [this]
      rw [BitVec.getLsbD_and, BitVec.getLsbD_neg, hb] at hx
      simp only [Bool.true_and, Bool.true_xor, Bool.not_eq_false', Bool.and_eq_true, decide_eq_true_eq] at hx
      obtain ⟨-, i, hi, hit⟩ := hx
      have := hv i (show ((i : Nat) : Int) < low.toInt by
        have h3 : i < low.toInt.toNat := hi
        omega)
      rw [hit] at this
      cases this
  intro i
  rw [h2 i, this]
/-- the next part: joined out of the part without its lowest, and that one's -/
theorem cv_new {near reach : Nat → Int32} {set m low k x z r : Int32} (h : cvI near reach set m.toInt) (hm : rg m 1 1023) (hl : rg low 0 9) (hv : ∀ i : Nat, (i : Int) < low.toInt → m.toBitVec.getLsbD i = false) (hb : m.toBitVec.getLsbD low.toNatClampNeg = true) (hs : sub_ m.toNatClampNeg set)
    (ek : k = m &&& (m - 1)) (ex : x = reach k.toNatClampNeg) (ez : z = near low.toNatClampNeg) (er : r = x ||| z) : okU near r m.toNatClampNeg := by
  have hr := cv_rest hm hl hv hb
  rw [← ek] at hr
  have hk0 := (mask_less ek hm (by decide))
  have hkr : rg k 0 1022 := by
    have := hm.2
    exact ⟨hk0.2, by omega⟩
  have hkt : ∀ i, k.toNatClampNeg.testBit i = k.toBitVec.getLsbD i := fun i => tb_nat hkr (by decide) i
  have hmt : ∀ i, m.toNatClampNeg.testBit i = m.toBitVec.getLsbD i := fun i => tb_nat hm (by decide) i
  have hks : sub_ k.toNatClampNeg set := fun i hi => by
    rw [hkt, hr] at hi
    simp only [Bool.and_eq_true] at hi
    exact hs i (by rw [hmt]; exact hi.1)
  have hu := (h k.toNatClampNeg (by
    show ((k.toInt.toNat : Nat) : Int) < m.toInt
    omega) hks).1
  intro j
  rw [er, Int32.toBitVec_or, BitVec.getLsbD_or, Bool.or_eq_true, ex, ez]
  constructor
  · rintro (h1 | h1)
    · obtain ⟨i, hi, hn⟩ := (hu j).mp h1
      rw [hkt, hr] at hi
      simp only [Bool.and_eq_true] at hi
      exact ⟨i, by rw [hmt]; exact hi.1, hn⟩
    · exact ⟨low.toNatClampNeg, by rw [hmt]; exact hb, h1⟩
  · rintro ⟨i, hi, hn⟩
    by_cases e : i = low.toNatClampNeg
    · exact Or.inr (e ▸ hn)
    · refine Or.inl ((hu j).mpr ⟨i, ?_, hn⟩)
      rw [hkt, hr]
      rw [hmt] at hi
      simp [hi, e]
theorem cv_up {near reach : Nat → Int32} {set m r : Int32} (h : cvI near reach set m.toInt) (hm : rg m 1 1023) (hu : sub_ m.toNatClampNeg set → okU near r m.toNatClampNeg) (hc : cntN m.toNatClampNeg ≤ cntB r.toBitVec 31) : cvI near (upd reach m.toNatClampNeg r) set (m.toInt + 1) := by
  intro k hk hs
  by_cases e : k = m.toNatClampNeg
  · subst e
    have : upd reach m.toNatClampNeg r m.toNatClampNeg = r := pk_us
    rw [this]
    exact ⟨hu hs, hc⟩
  · have : upd reach m.toNatClampNeg r k = reach k := pk_un e
    rw [this]
    refine h k ?_ hs
    have h3 : ¬ k = m.toInt.toNat := e
    have := hm.1
    omega
theorem cv_hit {m low x y : Int32} (hl : rg low 0 9) (e1 : y = m >>> (low &&& 31)) (e2 : x = y &&& 1) (c : ¬ x = 0) : m.toBitVec.getLsbD low.toNatClampNeg = true := by
  have hb := cv_bit hl e1 e2
  cases hh : m.toBitVec.getLsbD low.toNatClampNeg with
  | true => rfl
  | false =>
    rw [hh] at hb
    exact absurd hb c
theorem cv_sub {set m x y : Int32} {a b : Int} (hm : rg m a b) (ok : decide (0 ≤ a) = true) (ey : y = set ^^^ (-1)) (ex : x = m &&& y) (c : x = 0) : sub_ m.toNatClampNeg set := by
  intro i hi
  rw [tb_nat hm ok] at hi
  have hi32 := bt_ge hi
  have hx : x.toBitVec.getLsbD i = false := by
    rw [c]
    have hz : (0 : Int32).toBitVec = 0#32 := rfl
    rw [hz]
    simp
  rw [ex, ey, Int32.toBitVec_and, BitVec.getLsbD_and, bt_not set hi32, hi] at hx
  simpa using hx
theorem cv_cm {m : Int32} {a b : Int} (hm : rg m a b) (ok : decide (0 ≤ a) = true) : cntN m.toNatClampNeg = cntB m.toBitVec 31 := by
  simp only [decide_eq_true_eq] at ok
  have q := ti_nat (b := m) (by have := hm.1; omega)
  have : BitVec.ofNat 32 m.toNatClampNeg = m.toBitVec := by
    apply BitVec.eq_of_toNat_eq
    rw [BitVec.toNat_ofNat]
    show m.toInt.toNat % 2 ^ 32 = m.toBitVec.toNat
    omega
  unfold cntN
  rw [this]
theorem cv_ti {x p : Int32} (e : x = nI (cntB p.toBitVec 31)) : x.toInt = (cntB p.toBitVec 31 : Int) := by
  have := cntB_le p.toBitVec 31
  rw [e, nI_toInt (by omega)]
theorem cv_le {m r x y : Int32} {a b : Int} (hm : rg m a b) (ok : decide (0 ≤ a) = true) (e1 : x = nI (cntB r.toBitVec 31)) (e2 : y = nI (cntB m.toBitVec 31)) (h : y.toInt ≤ x.toInt) : cntN m.toNatClampNeg ≤ cntB r.toBitVec 31 := by
  rw [cv_cm hm ok]
  have := cv_ti e1
  have := cv_ti e2
  omega
theorem cv_lt {m r x y : Int32} {a b : Int} (hm : rg m a b) (ok : decide (0 ≤ a) = true) (e1 : x = nI (cntB r.toBitVec 31)) (e2 : y = nI (cntB m.toBitVec 31)) (h : x.toInt < y.toInt) : cntB r.toBitVec 31 < cntN m.toNatClampNeg := by
  rw [cv_cm hm ok]
  have := cv_ti e1
  have := cv_ti e2
  omega
