/-! what the reference's reader keeps: at ≤ end ≤ size; a word is not empty -/
theorem tiA {x a b : Int32} {l1 h1 l2 h2 : Int} (e : x = a + b) (ha : rg a l1 h1) (hb : rg b l2 h2) (ok : (decide (-2147483648 ≤ l1 + l2) && decide (h1 + h2 ≤ 2147483647)) = true) : x.toInt = a.toInt + b.toInt := by
  simp only [Bool.and_eq_true, decide_eq_true_eq] at ok
  obtain ⟨p1, p2⟩ := ha
  obtain ⟨q1, q2⟩ := hb
  rw [e, ti_add (by omega) (by omega)]
theorem tiS {x a b : Int32} {l1 h1 l2 h2 : Int} (e : x = a - b) (ha : rg a l1 h1) (hb : rg b l2 h2) (ok : (decide (-2147483648 ≤ l1 - h2) && decide (h1 - l2 ≤ 2147483647)) = true) : x.toInt = a.toInt - b.toInt := by
  simp only [Bool.and_eq_true, decide_eq_true_eq] at ok
  obtain ⟨p1, p2⟩ := ha
  obtain ⟨q1, q2⟩ := hb
  rw [e, ti_sub (by omega) (by omega)]
def gI (G F : Nat → Int32) : Prop := (G 5).toInt ≤ (F 4).toInt ∧ (F 4).toInt ≤ (F 1).toInt ∧ F 1 = G 1
def gL (G F : Nat → Int32) : Prop := (G 5).toInt ≤ (F 4).toInt ∧ (F 4).toInt < (F 5).toInt ∧ (F 5).toInt ≤ (F 1).toInt ∧ F 1 = G 1
def gD (G F : Nat → Int32) : Prop := (G 5).toInt ≤ (F 4).toInt ∧ (F 4).toInt ≤ (F 5).toInt ∧ (F 5).toInt ≤ (F 1).toInt ∧ F 1 = G 1
def pI (F : Nat → Int32) : Prop := (F 4).toInt ≤ (F 5).toInt ∧ (F 5).toInt ≤ (F 1).toInt ∧ (F 6 = 3 → (F 4).toInt < (F 5).toInt)
def gP (G F : Nat → Int32) : Prop := pI F ∧ (G 5).toInt ≤ (F 4).toInt ∧ F 1 = G 1
theorem gI.of {G F : Nat → Int32} {t z : Int32} (h1 : F 4 = t) (h3 : F 1 = z) (h0 : z = G 1) (h : (G 5).toInt ≤ t.toInt ∧ t.toInt ≤ z.toInt) : gI G F := by
  unfold gI
  rw [h1, h3]
  exact ⟨h.1, h.2, h0⟩
theorem gL.of {G F : Nat → Int32} {t e z : Int32} (h1 : F 4 = t) (h2 : F 5 = e) (h3 : F 1 = z) (h0 : z = G 1) (h : (G 5).toInt ≤ t.toInt ∧ t.toInt < e.toInt ∧ e.toInt ≤ z.toInt) : gL G F := by
  unfold gL
  rw [h1, h2, h3]
  exact ⟨h.1, h.2.1, h.2.2, h0⟩
theorem gD.of {G F : Nat → Int32} {t e z : Int32} (h1 : F 4 = t) (h2 : F 5 = e) (h3 : F 1 = z) (h0 : z = G 1) (h : (G 5).toInt ≤ t.toInt ∧ t.toInt ≤ e.toInt ∧ e.toInt ≤ z.toInt) : gD G F := by
  unfold gD
  rw [h1, h2, h3]
  exact ⟨h.1, h.2.1, h.2.2, h0⟩
theorem gP.of {G F : Nat → Int32} {t e z k : Int32} (h1 : F 4 = t) (h2 : F 5 = e) (h3 : F 1 = z) (h4 : F 6 = k) (h0 : z = G 1) (h : (G 5).toInt ≤ t.toInt ∧ t.toInt ≤ e.toInt ∧ e.toInt ≤ z.toInt) (hk : k = 3 → t.toInt < e.toInt) : gP G F := by
  unfold gP pI
  rw [h1, h2, h3, h4]
  exact ⟨⟨h.2.1, h.2.2, hk⟩, h.1, h0⟩
/-- behind calls of other methods of the reader: the same text, no way back -/
def pR (G F : Nat → Int32) : Prop := pI F ∧ (G 4).toInt ≤ (F 4).toInt ∧ F 1 = G 1
theorem pR.rf {F : Nat → Int32} (h : pI F) : pR F F := ⟨h, Int.le_refl _, rfl⟩
theorem pR.tr {G F K : Nat → Int32} (h : pR G F) (h2 : pR F K) : pR G K := ⟨h2.1, Int.le_trans h.2.1 h2.2.1, h2.2.2.trans h.2.2⟩
theorem pR.go {G F K : Nat → Int32} (h : pR G F) (h2 : gP F K) : pR G K := ⟨h2.1, Int.le_trans h.2.1 (Int.le_trans h.1.1 h2.2.1), h2.2.2.trans h.2.2⟩
theorem pR.fr {G F K : Nat → Int32} (h : pR G F) (h1 : K 4 = F 4) (h2 : K 5 = F 5) (h3 : K 1 = F 1) (h4 : K 6 = F 6) : pR G K := by
  unfold pR pI at *
  rw [h1, h2, h3, h4]
  exact h
theorem sgn_lt {r k z : Int32} {a b : Int} (h : r = 0 ∨ k.toInt < z.toInt) (hr : rg r a b) (ok : decide (1 ≤ a) = true) : k.toInt < z.toInt := by
  simp only [decide_eq_true_eq] at ok
  rcases h with h | h
  · subst h
    have q : (0 : Int32).toInt = 0 := rfl
    have := hr.1
    omega
  · exact h
theorem fpos {F : Nat → Int32} {k : Nat} {v : Int32} (h : F k = v) (h2 : 0 < v.toInt) : 0 < (F k).toInt := by
  rw [h]
  exact h2
/-- how many lines there may still be -/
def mu (F : Nat → Int32) : Nat := if F 2 = 0 then (1702 - (F 4).toInt).toNat else 0
theorem mu_dec {F G : Nat → Int32} {n : Nat} (h : mu F < n + 1) (hg : F 2 = 0) (hR : pR F G) (h2 : G 2 = 0 → (F 4).toInt < (G 4).toInt) (h3 : rg (G 4) 0 1700) : mu G < n := by
  unfold mu at h ⊢
  rw [if_pos hg] at h
  have h4 := hR.2.1
  have h5 := h3.2
  by_cases hz : G 2 = 0
  · rw [if_pos hz]
    have := h2 hz
    omega
  · rw [if_neg hz]
    omega
/-- what later answers, and the time behind it -/
def lat (t b r u : Int32) : Prop := (0 ≤ b.toInt ∧ b.toInt ≤ 1000 ∧ (t + b).toInt ≤ 100000 ∧ r = t + b ∧ u = t + b) ∨ (¬ (0 ≤ b.toInt ∧ b.toInt ≤ 1000 ∧ (t + b).toInt ≤ 100000) ∧ r = -1 ∧ u = t)
theorem lat_one {t b r u r2 u2 : Int32} (h : lat t b r u) (h2 : lat t b r2 u2) : r = r2 ∧ u = u2 := by
  unfold lat at h h2
  rcases h with h | h <;> rcases h2 with h2 | h2
  · exact ⟨h.2.2.2.1.trans h2.2.2.2.1.symm, h.2.2.2.2.trans h2.2.2.2.2.symm⟩
  · exact absurd ⟨h.1, h.2.1, h.2.2.1⟩ h2.1
  · exact absurd ⟨h2.1, h2.2.1, h2.2.2.1⟩ h.1
  · exact ⟨h.2.1.trans h2.2.1.symm, h.2.2.trans h2.2.2.symm⟩
