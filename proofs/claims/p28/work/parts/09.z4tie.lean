/-! from masks to sets: what isCovered says of those who must stand -/
theorem cntB_cnt (x : BitVec 32) (n : Nat) : cntB x n = cnt (fun i => x.getLsbD i = true) n := by
  induction n with
  | zero => rfl
  | succ n ih =>
    show cntB x n + (if x.getLsbD n then 1 else 0) = cnt (fun i => x.getLsbD i = true) n + one (x.getLsbD n = true)
    rw [ih]
    cases h : x.getLsbD n with
    | true => rw [one_t rfl]; rfl
    | false => rw [one_f (fun z => by cases z)]; rfl
theorem cnt_cut {X : Nat → Prop} {m n : Nat} (h : m ≤ n) : cnt (fun i => i < m ∧ X i) n = cnt X m := by
  induction n with
  | zero =>
    have : m = 0 := by omega
    subst this
    rfl
  | succ n ih =>
    by_cases e : m = n + 1
    · subst e
      exact cnt_congr (fun i hi => ⟨fun z => z.2, fun z => ⟨hi, z⟩⟩)
    · show cnt (fun i => i < m ∧ X i) n + one (n < m ∧ X n) = cnt X m
      rw [one_f (fun z => by have := z.1; omega), ih (by omega)]
      omega
noncomputable def kOf (X : Nat → Prop) : Nat → Nat
  | 0 => 0
  | n + 1 => one (X n) * 2 ^ n + kOf X n
theorem kOf_lt (X : Nat → Prop) (n : Nat) : kOf X n < 2 ^ n := by
  induction n with
  | zero => exact Nat.one_pos
  | succ n ih =>
    show one (X n) * 2 ^ n + kOf X n < 2 ^ (n + 1)
    rw [Nat.pow_succ]
    by_cases h : X n
    · rw [one_t h]
      omega
    · rw [one_f h]
      omega
theorem kOf_bit (X : Nat → Prop) (n i : Nat) : (kOf X n).testBit i = true ↔ i < n ∧ X i := by
  induction n with
  | zero =>
    show (0 : Nat).testBit i = true ↔ _
    simp
  | succ n ih =>
    show (one (X n) * 2 ^ n + kOf X n).testBit i = true ↔ _
    have hlt := kOf_lt X n
    by_cases h : X n
    · rw [one_t h, Nat.one_mul]
      rcases Nat.lt_trichotomy i n with e | e | e
      · rw [Nat.testBit_two_pow_add_gt e, ih]
        exact ⟨fun z => ⟨by omega, z.2⟩, fun z => ⟨e, z.2⟩⟩
      · subst e
        rw [Nat.testBit_two_pow_add_eq, Nat.testBit_lt_two_pow hlt]
        exact ⟨fun _ => ⟨by omega, h⟩, fun _ => rfl⟩
      · have : 2 ^ n + kOf X n < 2 ^ i := by
          have q : 2 ^ (n + 1) ≤ 2 ^ i := Nat.pow_le_pow_right (by decide) (by omega)
          rw [Nat.pow_succ] at q
          omega
        rw [Nat.testBit_lt_two_pow this]
        exact ⟨fun z => (by cases z), fun z => (by omega)⟩
    · rw [one_f h, Nat.zero_mul, Nat.zero_add, ih]
      exact ⟨fun z => ⟨by omega, z.2⟩, fun z => ⟨by
        have : i ≠ n := fun e => h (e ▸ z.2)
        omega, z.2⟩⟩
theorem sub_le {k : Nat} {set : Int32} {b : Int} (hs : rg set 0 b) (h : sub_ k set) : (k : Int) ≤ set.toInt := by
  have q := ti_nat (b := set) hs.1
  have e : k = k &&& set.toBitVec.toNat := by
    apply Nat.eq_of_testBit_eq
    intro i
    rw [Nat.testBit_and]
    cases hk : k.testBit i with
    | false => rfl
    | true =>
      have := h i hk
      rw [Bool.true_and]
      exact this.symm
  have : k ≤ set.toBitVec.toNat := by
    rw [e]
    exact Nat.and_le_right
  omega
theorem ofNat_bit {k : Nat} (hk : k < 2 ^ 31) (i : Nat) : (BitVec.ofNat 32 k).getLsbD i = k.testBit i := by
  show (BitVec.ofNat 32 k).toNat.testBit i = _
  rw [BitVec.toNat_ofNat, Nat.mod_eq_of_lt (by omega)]
/-- covered: whoever of set they are, they have as many to stand with -/
theorem cv_hall {near reach : Nat → Int32} {set : Int32} {Ed : Nat → Nat → Prop} {b : Nat} (hb : b ≤ 31) (h : cvI near reach set (set.toInt + 1)) (hs : rg set 0 1023) (hn : ∀ i j, i < 10 → set.toBitVec.getLsbD i = true → ((near i).toBitVec.getLsbD j = true ↔ j < b ∧ Ed i j)) {X : Nat → Prop} (hX : ∀ i, X i → i < 10 ∧ set.toBitVec.getLsbD i = true) : cnt X 10 ≤ cnt (fun j => ∃ i, i < 10 ∧ X i ∧ Ed i j) b := by
  have hsub : sub_ (kOf X 10) set := fun i hi => (hX i ((kOf_bit X 10 i).mp hi).2).2
  have hk := sub_le hs hsub
  have hlt := kOf_lt X 10
  obtain ⟨hu, hc⟩ := h (kOf X 10) (by omega) hsub
  have h1 : cntN (kOf X 10) = cnt X 10 := by
    unfold cntN
    rw [cntB_cnt, ← cnt_cut (X := X) (m := 10) (n := 31) (by omega)]
    refine cnt_congr (fun i _ => ?_)
    rw [ofNat_bit (by omega)]
    exact kOf_bit X 10 i
  have h2 : cntB (reach (kOf X 10)).toBitVec 31 = cnt (fun j => ∃ i, i < 10 ∧ X i ∧ Ed i j) b := by
    rw [cntB_cnt, ← cnt_cut (X := fun j => ∃ i, i < 10 ∧ X i ∧ Ed i j) (m := b) (n := 31) hb]
    refine cnt_congr (fun j _ => ?_)
    rw [hu j]
    constructor
    · rintro ⟨i, hi, hj⟩
      obtain ⟨hi10, hx⟩ := (kOf_bit X 10 i).mp hi
      obtain ⟨q1, q2⟩ := (hn i j hi10 (hX i hx).2).mp hj
      exact ⟨q1, i, hi10, hx, q2⟩
    · rintro ⟨hj, i, hi10, hx, he⟩
      exact ⟨i, (kOf_bit X 10 i).mpr ⟨hi10, hx⟩, (hn i j hi10 (hX i hx).2).mpr ⟨hj, he⟩⟩
  omega
/-- not covered: some of set have too few -/
theorem cv_not {near : Nat → Int32} {set : Int32} {Ed : Nat → Nat → Prop} {b : Nat} (hb : b ≤ 31) (h : cvN near set) (hs : rg set 0 1023) (hn : ∀ i j, i < 10 → set.toBitVec.getLsbD i = true → ((near i).toBitVec.getLsbD j = true ↔ j < b ∧ Ed i j)) : ∃ X : Nat → Prop, (∀ i, X i → i < 10 ∧ set.toBitVec.getLsbD i = true) ∧ cnt (fun j => ∃ i, i < 10 ∧ X i ∧ Ed i j) b < cnt X 10 := by
  obtain ⟨k, r, hk, hsub, hu, hc⟩ := h
  have hk10 : k < 2 ^ 10 := by
    have := hs.2
    omega
  have hb10 : ∀ i, k.testBit i = true → i < 10 := by
    intro i hi
    apply Classical.byContradiction
    intro hz
    have : 2 ^ 10 ≤ 2 ^ i := Nat.pow_le_pow_right (by decide) (by omega)
    rw [Nat.testBit_lt_two_pow (by omega)] at hi
    cases hi
  have hX : ∀ i, k.testBit i = true → i < 10 ∧ set.toBitVec.getLsbD i = true := fun i hi => ⟨hb10 i hi, hsub i hi⟩
  refine ⟨fun i => k.testBit i = true, hX, ?_⟩
  have h1 : cntN k = cnt (fun i => k.testBit i = true) 10 := by
    unfold cntN
    rw [cntB_cnt, ← cnt_cut (X := fun i => k.testBit i = true) (m := 10) (n := 31) (by omega)]
    refine cnt_congr (fun i _ => ?_)
    rw [ofNat_bit (by omega)]
    exact ⟨fun z => ⟨hb10 i z, z⟩, fun z => z.2⟩
  have h2 : cntB r.toBitVec 31 = cnt (fun j => ∃ i, i < 10 ∧ k.testBit i = true ∧ Ed i j) b := by
    rw [cntB_cnt, ← cnt_cut (X := fun j => ∃ i, i < 10 ∧ k.testBit i = true ∧ Ed i j) (m := b) (n := 31) hb]
    refine cnt_congr (fun j _ => ?_)
    rw [hu j]
    constructor
    · rintro ⟨i, hi, hj⟩
      obtain ⟨q1, q2⟩ := (hn i j (hb10 i hi) (hX i hi).2).mp hj
      exact ⟨q1, i, hb10 i hi, hi, q2⟩
    · rintro ⟨hj, i, hi10, hx, he⟩
      exact ⟨i, hx, (hn i j hi10 (hX i hx).2).mpr ⟨hj, he⟩⟩
  show cnt (fun j => ∃ i, i < 10 ∧ k.testBit i = true ∧ Ed i j) b < _
  omega
