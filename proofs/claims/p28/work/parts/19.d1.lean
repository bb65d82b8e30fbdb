/-! rows and columns of what is lacked: their sums, the greatest, those who have it -/
def lk (f : Nat → Int32) (i j : Nat) : Nat := (f (10 * i + j)).toInt.toNat
def ok99 (f : Nat → Int32) : Prop := ∀ k : Nat, k < 80 → rg (f k) 0 99
def rowS (f : Nat → Int32) (i : Nat) : Nat := sm (lk f i) 10
def colS (f : Nat → Int32) (j : Nat) : Nat := sm (fun i => lk f i j) 8
theorem lk_ti {f : Nat → Int32} {i j : Nat} (hf : ok99 f) (hi : i < 8) (hj : j < 10) : (f (10 * i + j)).toInt = (lk f i j : Nat) ∧ lk f i j ≤ 99 := by
  obtain ⟨h1, h2⟩ := hf (10 * i + j) (by omega)
  unfold lk
  omega
theorem cl_ti {x : Int32} {a b : Int} (h : rg x a b) (ok : decide (0 ≤ a) = true) : (x.toNatClampNeg : Int) = x.toInt := by
  simp only [decide_eq_true_eq] at ok
  have := h.1
  show ((x.toInt.toNat : Nat) : Int) = x.toInt
  omega
theorem ad_cell {x y p h : Int32} (hp : rg p 0 7) (hh : rg h 0 9) (ex : x = 10 * p) (ey : y = x + h) : y.toNatClampNeg = 10 * p.toNatClampNeg + h.toNatClampNeg ∧ p.toNatClampNeg < 8 ∧ h.toNatClampNeg < 10 := by
  have h10 : (10 : Int32).toInt = 10 := rfl
  have h1 := hp.1; have h2 := hp.2; have h3 := hh.1; have h4 := hh.2
  have e1 : x.toInt = 10 * p.toInt := by rw [ex, ti_mul (by rw [h10]; omega) (by rw [h10]; omega), h10]
  have e2 : y.toInt = x.toInt + h.toInt := by rw [ey, ti_add (by omega) (by omega)]
  show y.toInt.toNat = 10 * p.toInt.toNat + h.toInt.toNat ∧ p.toInt.toNat < 8 ∧ h.toInt.toNat < 10
  omega
theorem sm_bd {g : Nat → Nat} {n b : Nat} (h : ∀ i, i < n → g i ≤ b) : sm g n ≤ n * b := by
  induction n with
  | zero => exact Nat.zero_le _
  | succ n ih =>
    have h1 := ih (fun i hi => h i (by omega))
    have h2 := h n (by omega)
    show sm g n + g n ≤ (n + 1) * b
    rw [Nat.add_mul]
    omega
theorem rowS_bd {f : Nat → Int32} (hf : ok99 f) {i n : Nat} (hi : i < 8) (hn : n ≤ 10) : sm (lk f i) n ≤ n * 99 := sm_bd (fun j hj => (lk_ti hf hi (by omega)).2)
theorem colS_bd {f : Nat → Int32} (hf : ok99 f) {j n : Nat} (hj : j < 10) (hn : n ≤ 8) : sm (fun i => lk f i j) n ≤ n * 99 := sm_bd (fun i hi => (lk_ti hf (by omega) hj).2)
theorem inc_nat {h h2 : Int32} {a b : Int} (hh : rg h a b) (ok : (decide (0 ≤ a) && decide (b ≤ 100000)) = true) (e : h2 = h + 1) : h2.toNatClampNeg = h.toNatClampNeg + 1 ∧ h2.toInt = h.toInt + 1 := by
  simp only [Bool.and_eq_true, decide_eq_true_eq] at ok
  have h1 : (1 : Int32).toInt = 1 := rfl
  have := hh.1; have := hh.2
  have e2 : h2.toInt = h.toInt + 1 := by rw [e, ti_add (by omega) (by omega), h1]
  refine ⟨?_, e2⟩
  show h2.toInt.toNat = h.toInt.toNat + 1
  omega
theorem ss_step {f : Nat → Int32} {sum s2 p h x y z : Int32} (hf : ok99 f) (hp : rg p 0 7) (hh : rg h 0 9) (hi : sum.toInt = (sm (lk f p.toNatClampNeg) h.toNatClampNeg : Nat)) (ex : x = 10 * p) (ey : y = x + h) (ez : z = f y.toNatClampNeg) (es : s2 = sum + z) : rg s2 0 990 ∧ ∀ h2 : Int32, h2 = h + 1 → s2.toInt = (sm (lk f p.toNatClampNeg) h2.toNatClampNeg : Nat) := by
  obtain ⟨ea, hp8, hh10⟩ := ad_cell hp hh ex ey
  obtain ⟨q1, q2⟩ := lk_ti hf hp8 hh10
  rw [← ea, ← ez] at q1
  have q3 := rowS_bd hf hp8 (n := h.toNatClampNeg) (by omega)
  have e1 : s2.toInt = sum.toInt + z.toInt := by rw [es, ti_add (by omega) (by omega)]
  refine ⟨⟨by omega, by omega⟩, fun h2 e2 => ?_⟩
  rw [(inc_nat hh (by decide) e2).1]
  show s2.toInt = ((sm (lk f p.toNatClampNeg) h.toNatClampNeg + lk f p.toNatClampNeg h.toNatClampNeg : Nat) : Int)
  omega
theorem hs_step {f : Nat → Int32} {sum s2 p h x y z : Int32} (hf : ok99 f) (hp : rg p 0 9) (hh : rg h 0 7) (hi : sum.toInt = (sm (fun i => lk f i p.toNatClampNeg) h.toNatClampNeg : Nat)) (ex : x = 10 * h) (ey : y = x + p) (ez : z = f y.toNatClampNeg) (es : s2 = sum + z) : rg s2 0 990 ∧ ∀ h2 : Int32, h2 = h + 1 → s2.toInt = (sm (fun i => lk f i p.toNatClampNeg) h2.toNatClampNeg : Nat) := by
  obtain ⟨ea, hh8, hp10⟩ := ad_cell hh hp ex ey
  obtain ⟨q1, q2⟩ := lk_ti hf hh8 hp10
  rw [← ea, ← ez] at q1
  have q3 := colS_bd hf hp10 (n := h.toNatClampNeg) (by omega)
  have e1 : s2.toInt = sum.toInt + z.toInt := by rw [es, ti_add (by omega) (by omega)]
  refine ⟨⟨by omega, by omega⟩, fun h2 e2 => ?_⟩
  rw [(inc_nat hh (by decide) e2).1]
  show s2.toInt = ((sm (fun i => lk f i p.toNatClampNeg) h.toNatClampNeg + lk f h.toNatClampNeg p.toNatClampNeg : Nat) : Int)
  omega
theorem ss_end {g : Nat → Nat} {x h : Int32} {n : Nat} (hi : x.toInt = (sm g h.toNatClampNeg : Nat)) (h1 : (n : Int) ≤ h.toInt) (h2 : h.toInt ≤ (n : Int)) : x.toInt = (sm g n : Nat) := by
  have : h.toNatClampNeg = n := by
    show h.toInt.toNat = n
    omega
  rw [← this]
  exact hi
/-- m is the greatest of the first a rows, b columns -/
def lsA (f : Nat → Int32) (m : Int32) (a b : Int) : Prop := (∀ i : Nat, i < 8 → (i : Int) < a → (rowS f i : Int) ≤ m.toInt) ∧ (∀ j : Nat, j < 10 → (j : Int) < b → (colS f j : Int) ≤ m.toInt) ∧ (m.toInt = 0 ∨ (∃ i : Nat, i < 8 ∧ (rowS f i : Int) = m.toInt) ∨ ∃ j : Nat, j < 10 ∧ (colS f j : Int) = m.toInt)
def isL (f : Nat → Int32) (m : Nat) : Prop := (∀ i : Nat, i < 8 → rowS f i ≤ m) ∧ (∀ j : Nat, j < 10 → colS f j ≤ m) ∧ (m = 0 ∨ (∃ i : Nat, i < 8 ∧ rowS f i = m) ∨ ∃ j : Nat, j < 10 ∧ colS f j = m)
theorem ls_0 {f : Nat → Int32} : lsA f 0 (0 : Int32).toInt 0 := by
  have h0 : (0 : Int32).toInt = 0 := rfl
  exact ⟨fun i _ h => by omega, fun j _ h => by omega, Or.inl h0⟩
theorem ls_r0 {f : Nat → Int32} {m s x : Int32} (h : lsA f m s.toInt 0) (hs : rg s 0 7) (ex : x.toInt = (rowS f s.toNatClampNeg : Nat)) (hle : x.toInt ≤ m.toInt) : lsA f m (s.toInt + 1) 0 := by
  refine ⟨fun i hi hi2 => ?_, h.2.1, h.2.2⟩
  by_cases e : (i : Int) < s.toInt
  · exact h.1 i hi e
  · have : i = s.toNatClampNeg := by
      have := hs.1
      show i = s.toInt.toNat
      omega
    rw [this]
    omega
theorem ls_r1 {f : Nat → Int32} {m s x y : Int32} (h : lsA f m s.toInt 0) (hs : rg s 0 7) (ex : x.toInt = (rowS f s.toNatClampNeg : Nat)) (ey : y.toInt = (rowS f s.toNatClampNeg : Nat)) (hlt : m.toInt < x.toInt) : lsA f y (s.toInt + 1) 0 := by
  have h8 : s.toNatClampNeg < 8 := by
    have := hs.2
    show s.toInt.toNat < 8
    omega
  refine ⟨fun i hi hi2 => ?_, fun j _ hj => by omega, Or.inr (Or.inl ⟨s.toNatClampNeg, h8, by omega⟩)⟩
  by_cases e : (i : Int) < s.toInt
  · have := h.1 i hi e
    omega
  · have : i = s.toNatClampNeg := by
      have := hs.1
      show i = s.toInt.toNat
      omega
    rw [this]
    omega
theorem ls_c0 {f : Nat → Int32} {m s x : Int32} (h : lsA f m 8 s.toInt) (hs : rg s 0 9) (ex : x.toInt = (colS f s.toNatClampNeg : Nat)) (hle : x.toInt ≤ m.toInt) : lsA f m 8 (s.toInt + 1) := by
  refine ⟨h.1, fun i hi hi2 => ?_, h.2.2⟩
  by_cases e : (i : Int) < s.toInt
  · exact h.2.1 i hi e
  · have : i = s.toNatClampNeg := by
      have := hs.1
      show i = s.toInt.toNat
      omega
    rw [this]
    omega
theorem ls_c1 {f : Nat → Int32} {m s x y : Int32} (h : lsA f m 8 s.toInt) (hs : rg s 0 9) (ex : x.toInt = (colS f s.toNatClampNeg : Nat)) (ey : y.toInt = (colS f s.toNatClampNeg : Nat)) (hlt : m.toInt < x.toInt) : lsA f y 8 (s.toInt + 1) := by
  have h8 : s.toNatClampNeg < 10 := by
    have := hs.2
    show s.toInt.toNat < 10
    omega
  refine ⟨fun i hi hi2 => ?_, fun i hi hi2 => ?_, Or.inr (Or.inr ⟨s.toNatClampNeg, h8, by omega⟩)⟩
  · have := h.1 i hi hi2
    omega
  by_cases e : (i : Int) < s.toInt
  · have := h.2.1 i hi e
    omega
  · have : i = s.toNatClampNeg := by
      have := hs.1
      show i = s.toInt.toNat
      omega
    rw [this]
    omega
theorem ls_mid {f : Nat → Int32} {m s : Int32} (h : lsA f m s.toInt 0) (h8 : (8 : Int) ≤ s.toInt) : lsA f m 8 (0 : Int32).toInt := by
  have h0 : (0 : Int32).toInt = 0 := rfl
  exact ⟨fun i hi hi2 => h.1 i hi (by omega), fun j _ hj => by omega, h.2.2⟩
theorem ls_end {f : Nat → Int32} {m s : Int32} (h : lsA f m 8 s.toInt) (h10 : (10 : Int) ≤ s.toInt) (hm : 0 ≤ m.toInt) : isL f m.toInt.toNat := by
  refine ⟨fun i hi => ?_, fun j hj => ?_, ?_⟩
  · have := h.1 i hi (by omega)
    omega
  · have := h.2.1 j hj (by omega)
    omega
  · rcases h.2.2 with h1 | ⟨i, hi, h1⟩ | ⟨j, hj, h1⟩
    · exact Or.inl (by omega)
    · exact Or.inr (Or.inl ⟨i, hi, by omega⟩)
    · exact Or.inr (Or.inr ⟨j, hj, by omega⟩)
theorem isL_one {f : Nat → Int32} {m n : Nat} (h : isL f m) (h2 : isL f n) : m = n := by
  have le : ∀ {a b : Nat}, isL f a → isL f b → a ≤ b := by
    intro a b ha hb
    rcases ha.2.2 with e | ⟨i, hi, e⟩ | ⟨j, hj, e⟩
    · omega
    · rw [← e]; exact hb.1 i hi
    · rw [← e]; exact hb.2.1 j hj
  exact Nat.le_antisymm (le h h2) (le h2 h)
/-- the mask of those whose sum is m, of the first n -/
def bM (g : Nat → Nat) (r m : Int32) (n : Int) : Prop := ∀ i : Nat, r.toBitVec.getLsbD i = true ↔ ((i : Int) < n ∧ (g i : Int) = m.toInt)
theorem bM_0 {g : Nat → Nat} {m : Int32} : bM g 0 m (0 : Int32).toInt := by
  intro i
  have hz : (0 : Int32).toBitVec = 0#32 := rfl
  have h0 : (0 : Int32).toInt = 0 := rfl
  rw [hz]
  constructor
  · intro h1
    simp at h1
  · intro h1
    have := h1.1
    omega
theorem bM_step {g : Nat → Nat} {r m s s2 v r2 : Int32} (h : bM g r m s.toInt) (hs : rg s 0 9) (hv : (v = 1 <<< (s &&& 31) ∧ (g s.toNatClampNeg : Int) = m.toInt) ∨ (v = 0 ∧ ¬ (g s.toNatClampNeg : Int) = m.toInt)) (er : r2 = r ||| v) (e2 : s2 = s + 1) : bM g r2 m s2.toInt := by
  obtain ⟨k, rfl, q1, q2, q0⟩ := nI_rg hs (by omega)
  have hc : (nI k).toNatClampNeg = k := nI_clamp (by omega)
  have ht : (nI k).toInt = (k : Int) := nI_toInt (by omega)
  rw [(inc_nat hs (by decide) e2).2, ht]
  rw [hc] at hv
  intro i
  rw [er, Int32.toBitVec_or, BitVec.getLsbD_or, Bool.or_eq_true, h i, ht]
  rcases hv with ⟨hv, hg⟩ | ⟨hv, hg⟩
  · have hvb : v.toBitVec = BitVec.twoPow 32 k := by rw [hv]; exact tw_t ⟨k, by omega⟩
    rw [hvb, BitVec.getLsbD_twoPow]
    simp only [Bool.and_eq_true, decide_eq_true_eq]
    constructor
    · rintro (⟨h2, h3⟩ | ⟨h2, h3⟩)
      · exact ⟨by omega, h3⟩
      · have : i = k := by omega
        subst this
        exact ⟨by omega, hg⟩
    · rintro ⟨h2, h3⟩
      by_cases e : i = k
      · exact Or.inr ⟨by omega, by omega⟩
      · exact Or.inl ⟨by omega, h3⟩
  · have hz : v.toBitVec = 0#32 := by rw [hv]; rfl
    rw [hz]
    constructor
    · rintro (⟨h2, h3⟩ | h2)
      · exact ⟨by omega, h3⟩
      · simp at h2
    · rintro ⟨h2, h3⟩
      by_cases e : i = k
      · subst e
        exact absurd h3 hg
      · exact Or.inl ⟨by omega, h3⟩
theorem bM_end {g : Nat → Nat} {r m s n : Int32} (h : bM g r m s.toInt) (h1 : s.toInt ≤ n.toInt) (h2 : n.toInt ≤ s.toInt) : bM g r m n.toInt := by
  have : n.toInt = s.toInt := by omega
  rw [this]
  exact h
