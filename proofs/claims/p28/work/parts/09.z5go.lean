/-! canGoOn: the masks that it lays into near, smith by smith (horses of free with which he lacks, from fr on) -/
def nOK (near lack : Nat → Int32) (fr free : Int32) (i : Nat) (h : Int) : Prop := ∀ j : Nat, (near i).toBitVec.getLsbD j = true ↔ ((j : Int) < h ∧ j < 10 ∧ fr.toInt ≤ (i : Int) ∧ free.toBitVec.getLsbD j = true ∧ 0 < (lack (10 * i + j)).toInt)
theorem go_0 {near lack : Nat → Int32} {fr free : Int32} {s : Nat} : nOK (upd near s 0) lack fr free s 0 := by
  intro j
  have h : upd near s 0 s = 0 := pk_us
  rw [h]
  have hz : (0 : Int32).toBitVec = 0#32 := rfl
  rw [hz]
  constructor
  · intro h1
    simp at h1
  · intro h1
    have := h1.1
    omega
theorem go_keep {near lack : Nat → Int32} {fr free r : Int32} {s i : Nat} {h : Int} (hn : nOK near lack fr free i h) (e : i ≠ s) : nOK (upd near s r) lack fr free i h := by
  intro j
  have h1 : upd near s r i = near i := pk_un e
  rw [h1]
  exact hn j
theorem go_done {near lack : Nat → Int32} {fr free : Int32} {s : Nat} {h : Int} (hn : nOK near lack fr free s h) (hd : 10 ≤ h ∨ (s : Int) < fr.toInt) : nOK near lack fr free s 10 := by
  intro j
  rw [hn j]
  constructor
  · rintro ⟨h1, h2, h3, h4, h5⟩
    exact ⟨by omega, h2, h3, h4, h5⟩
  · rintro ⟨h1, h2, h3, h4, h5⟩
    exact ⟨by omega, h2, h3, h4, h5⟩
theorem go_step {near lack : Nat → Int32} {fr free v r : Int32} {s k : Nat} (hn : nOK near lack fr free s (k : Int)) (hk : k < 10) (hfr : fr.toInt ≤ (s : Int))
    (hv : (v = 1 <<< (nI k &&& 31) ∧ free.toBitVec.getLsbD k = true ∧ 0 < (lack (10 * s + k)).toInt) ∨ (v = 0 ∧ ¬ (free.toBitVec.getLsbD k = true ∧ 0 < (lack (10 * s + k)).toInt))) (er : r = near s ||| v) : nOK (upd near s r) lack fr free s ((k : Int) + 1) := by
  intro j
  have h1 : upd near s r s = r := pk_us
  rw [h1, er, Int32.toBitVec_or, BitVec.getLsbD_or, Bool.or_eq_true, hn j]
  rcases hv with ⟨hv, hf, hl⟩ | ⟨hv, hno⟩
  · have hvb : v.toBitVec = BitVec.twoPow 32 k := by rw [hv]; exact tw_t ⟨k, by omega⟩
    rw [hvb, BitVec.getLsbD_twoPow]
    simp only [Bool.and_eq_true, decide_eq_true_eq]
    constructor
    · rintro (⟨h2, h3, h4, h5, h6⟩ | ⟨h2, h3⟩)
      · exact ⟨by omega, h3, h4, h5, h6⟩
      · have : j = k := by omega
        subst this
        exact ⟨by omega, hk, hfr, hf, hl⟩
    · rintro ⟨h2, h3, h4, h5, h6⟩
      by_cases e : j = k
      · exact Or.inr ⟨by omega, by omega⟩
      · exact Or.inl ⟨by omega, h3, h4, h5, h6⟩
  · have hz : v.toBitVec = 0#32 := by rw [hv]; rfl
    rw [hz]
    constructor
    · rintro (⟨h2, h3, h4, h5, h6⟩ | h2)
      · exact ⟨by omega, h3, h4, h5, h6⟩
      · simp at h2
    · rintro ⟨h2, h3, h4, h5, h6⟩
      by_cases e : j = k
      · subst e
        exact absurd ⟨h5, h6⟩ hno
      · exact Or.inl ⟨by omega, h3, h4, h5, h6⟩
