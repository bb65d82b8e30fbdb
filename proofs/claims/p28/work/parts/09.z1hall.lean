/-! counting, Hall's theorem, and covers of both sides by one matching -/
noncomputable def one (q : Prop) : Nat := @ite Nat q (Classical.propDecidable q) 1 0
theorem one_t {q : Prop} (h : q) : one q = 1 := by unfold one; exact @if_pos q (Classical.propDecidable q) h Nat 1 0
theorem one_f {q : Prop} (h : ¬ q) : one q = 0 := by unfold one; exact @if_neg q (Classical.propDecidable q) h Nat 1 0
noncomputable def cnt (p : Nat → Prop) : Nat → Nat
  | 0 => 0
  | n + 1 => cnt p n + one (p n)
theorem cnt_mono {p q : Nat → Prop} {n : Nat} (h : ∀ i, i < n → p i → q i) : cnt p n ≤ cnt q n := by
  induction n with
  | zero => exact Nat.le_refl 0
  | succ n ih =>
    have h1 := ih (fun i hi => h i (by omega))
    show cnt p n + one (p n) ≤ cnt q n + one (q n)
    by_cases hp : p n
    · rw [one_t hp, one_t (h n (by omega) hp)]
      omega
    · rw [one_f hp]
      omega
theorem cnt_congr {p q : Nat → Prop} {n : Nat} (h : ∀ i, i < n → (p i ↔ q i)) : cnt p n = cnt q n :=
  Nat.le_antisymm (cnt_mono (fun i hi => (h i hi).mp)) (cnt_mono (fun i hi => (h i hi).mpr))
theorem cnt_or {p q : Nat → Prop} {n : Nat} (h : ∀ i, i < n → p i → ¬ q i) : cnt (fun i => p i ∨ q i) n = cnt p n + cnt q n := by
  induction n with
  | zero => rfl
  | succ n ih =>
    have h1 := ih (fun i hi => h i (by omega))
    show cnt (fun i => p i ∨ q i) n + one (p n ∨ q n) = (cnt p n + one (p n)) + (cnt q n + one (q n))
    rw [h1]
    by_cases hp : p n
    · rw [one_t hp, one_t (Or.inl hp), one_f (h n (by omega) hp)]
      omega
    · by_cases hq : q n
      · rw [one_f hp, one_t hq, one_t (Or.inr hq)]
        omega
      · rw [one_f hp, one_f hq, one_f (fun z => z.elim hp hq)]
        omega
theorem cnt_split (p q : Nat → Prop) (n : Nat) : cnt p n = cnt (fun i => p i ∧ q i) n + cnt (fun i => p i ∧ ¬ q i) n := by
  rw [← cnt_or (fun i _ h1 h2 => h2.2 h1.2)]
  exact cnt_congr (fun i _ => ⟨fun h => (Classical.em (q i)).elim (fun z => Or.inl ⟨h, z⟩) (fun z => Or.inr ⟨h, z⟩), fun h => h.elim (·.1) (·.1)⟩)
theorem cnt_zero {p : Nat → Prop} {n : Nat} (h : ∀ i, i < n → ¬ p i) : cnt p n = 0 := by
  induction n with
  | zero => rfl
  | succ n ih =>
    show cnt p n + one (p n) = 0
    rw [ih (fun i hi => h i (by omega)), one_f (h n (by omega))]
theorem cnt_pos {p : Nat → Prop} {n i : Nat} (hi : i < n) (h : p i) : 1 ≤ cnt p n := by
  induction n with
  | zero => omega
  | succ n ih =>
    show 1 ≤ cnt p n + one (p n)
    by_cases e : i = n
    · subst e
      rw [one_t h]
      omega
    · have := ih (by omega)
      omega
theorem cnt_ex {p : Nat → Prop} {n : Nat} (h : 1 ≤ cnt p n) : ∃ i, i < n ∧ p i := by
  apply Classical.byContradiction
  intro hn
  rw [cnt_zero (fun i hi hp => hn ⟨i, hi, hp⟩)] at h
  omega
theorem cnt_one {n j : Nat} (hj : j < n) : cnt (fun i => i = j) n = 1 := by
  induction n with
  | zero => omega
  | succ n ih =>
    show cnt (fun i => i = j) n + one (n = j) = 1
    by_cases e : n = j
    · rw [one_t e, cnt_zero (fun i hi => by omega)]
    · rw [one_f e, ih (by omega)]
theorem cnt_del {p : Nat → Prop} {n j : Nat} (hj : j < n) (h : p j) : cnt p n = cnt (fun i => p i ∧ i ≠ j) n + 1 := by
  rw [cnt_split p (fun i => i = j) n, Nat.add_comm]
  congr 1
  rw [← cnt_one hj]
  exact cnt_congr (fun i _ => ⟨fun z => z.2, fun z => ⟨by rw [z]; exact h, z⟩⟩)
theorem cnt_del_le {p : Nat → Prop} {n j : Nat} : cnt p n ≤ cnt (fun i => p i ∧ i ≠ j) n + 1 := by
  by_cases hj : j < n
  · by_cases h : p j
    · exact Nat.le_of_eq (cnt_del hj h)
    · exact Nat.le_trans (cnt_mono (fun i _ hp => ⟨hp, fun e => h (e ▸ hp)⟩)) (Nat.le_succ _)
  · exact Nat.le_trans (cnt_mono (fun i hi hp => ⟨hp, fun e => hj (e ▸ hi)⟩)) (Nat.le_succ _)
/-- what some of X are joined to -/
def nb (E : Nat → Nat → Prop) (a : Nat) (X : Nat → Prop) (j : Nat) : Prop := ∃ i, i < a ∧ X i ∧ E i j
theorem hall (E : Nat → Nat → Prop) (a b : Nat) : ∀ (k : Nat) (L R : Nat → Prop), cnt L a ≤ k → (∀ X : Nat → Prop, (∀ i, X i → L i) → cnt X a ≤ cnt (fun j => nb E a X j ∧ R j) b) →
    ∃ f : Nat → Nat, (∀ i, i < a → L i → f i < b ∧ R (f i) ∧ E i (f i)) ∧ ∀ i j, i < a → j < a → L i → L j → f i = f j → i = j := by
  intro k
  induction k with
  | zero =>
    intro L R hk _
    have hn : ∀ i, i < a → ¬ L i := fun i hi h => by have := cnt_pos hi h; omega
    exact ⟨fun _ => 0, fun i hi h => absurd h (hn i hi), fun i j hi _ h => absurd h (hn i hi)⟩
  | succ k ih =>
    intro L R hk hH
    by_cases hL : ∃ i, i < a ∧ L i
    · by_cases ht : ∃ X : Nat → Prop, (∀ i, X i → L i) ∧ (∃ i, i < a ∧ X i) ∧ (∃ i, i < a ∧ L i ∧ ¬ X i) ∧ cnt (fun j => nb E a X j ∧ R j) b = cnt X a
      · -- a tight part: it by itself, and the rest by what is left
        obtain ⟨X, hX, ⟨i1, hi1, hx1⟩, ⟨i2, hi2, hl2, hx2⟩, hc⟩ := ht
        have hs := cnt_split L X a
        have hXL : cnt (fun i => L i ∧ X i) a = cnt X a := cnt_congr (fun i _ => ⟨fun z => z.2, fun z => ⟨hX i z, z⟩⟩)
        have h1 := cnt_pos (p := fun i => L i ∧ ¬ X i) hi2 ⟨hl2, hx2⟩
        have h2 := cnt_pos (p := X) hi1 hx1
        obtain ⟨f, hf1, hf2⟩ := ih X R (by omega) (fun Y hY => hH Y (fun i z => hX i (hY i z)))
        obtain ⟨g, hg1, hg2⟩ := ih (fun i => L i ∧ ¬ X i) (fun j => R j ∧ ¬ nb E a X j) (by omega) (fun Y hY => by
          have q := hH (fun i => X i ∨ Y i) (fun i z => z.elim (hX i) (fun w => (hY i w).1))
          rw [cnt_or (fun i _ hx hy => (hY i hy).2 hx)] at q
          have q2 : cnt (fun j => nb E a (fun i => X i ∨ Y i) j ∧ R j) b ≤ cnt (fun j => (nb E a X j ∧ R j) ∨ (nb E a Y j ∧ (R j ∧ ¬ nb E a X j))) b := cnt_mono (fun j _ hj => by
            obtain ⟨⟨i, hi, hxy, he⟩, hr⟩ := hj
            by_cases hn : nb E a X j
            · exact Or.inl ⟨hn, hr⟩
            · refine Or.inr ⟨⟨i, hi, ?_, he⟩, hr, hn⟩
              exact hxy.resolve_left (fun z => hn ⟨i, hi, z, he⟩))
          rw [cnt_or (fun j _ h3 h4 => h4.2.2 h3.1)] at q2
          omega)
        refine ⟨fun i => @ite Nat (X i) (Classical.propDecidable _) (f i) (g i), fun i hi hl => ?_, fun i j hi hj hli hlj he => ?_⟩
        · dsimp only
          by_cases hx : X i
          · rw [@if_pos (X i) (Classical.propDecidable _) hx]
            exact hf1 i hi hx
          · rw [@if_neg (X i) (Classical.propDecidable _) hx]
            obtain ⟨q1, q2, q3⟩ := hg1 i hi ⟨hl, hx⟩
            exact ⟨q1, q2.1, q3⟩
        · dsimp only at he
          by_cases hx : X i <;> by_cases hy : X j
          · rw [@if_pos (X i) (Classical.propDecidable _) hx, @if_pos (X j) (Classical.propDecidable _) hy] at he
            exact hf2 i j hi hj hx hy he
          · rw [@if_pos (X i) (Classical.propDecidable _) hx, @if_neg (X j) (Classical.propDecidable _) hy] at he
            exact absurd ⟨i, hi, hx, he ▸ (hf1 i hi hx).2.2⟩ (hg1 j hj ⟨hlj, hy⟩).2.1.2
          · rw [@if_neg (X i) (Classical.propDecidable _) hx, @if_pos (X j) (Classical.propDecidable _) hy] at he
            exact absurd ⟨j, hj, hy, he ▸ (hf1 j hj hy).2.2⟩ (hg1 i hi ⟨hli, hx⟩).2.1.2
          · rw [@if_neg (X i) (Classical.propDecidable _) hx, @if_neg (X j) (Classical.propDecidable _) hy] at he
            exact hg2 i j hi hj ⟨hli, hx⟩ ⟨hlj, hy⟩ he
      · -- none is tight: any one, by any of his
        obtain ⟨i0, hi0, hl0⟩ := hL
        have q := hH (fun i => i = i0) (fun i z => by rw [z]; exact hl0)
        rw [cnt_one hi0] at q
        obtain ⟨j0, hj0, ⟨i9, -, hi9, he0⟩, hr0⟩ := cnt_ex q
        subst hi9
        have hd := cnt_del hi0 hl0
        obtain ⟨f, hf1, hf2⟩ := ih (fun i => L i ∧ i ≠ i9) (fun j => R j ∧ j ≠ j0) (by omega) (fun Y hY => by
          by_cases hYe : ∃ i, i < a ∧ Y i
          · have h1 := hH Y (fun i z => (hY i z).1)
            have h2 : ¬ cnt (fun j => nb E a Y j ∧ R j) b = cnt Y a := fun z => ht ⟨Y, fun i w => (hY i w).1, hYe, ⟨i9, hi0, hl0, fun w => (hY i9 w).2 rfl⟩, z⟩
            have h3 := cnt_del_le (p := fun j => nb E a Y j ∧ R j) (n := b) (j := j0)
            have h4 : cnt (fun i => (nb E a Y i ∧ R i) ∧ i ≠ j0) b = cnt (fun j => nb E a Y j ∧ (R j ∧ j ≠ j0)) b := cnt_congr (fun i _ => ⟨fun z => ⟨z.1.1, z.1.2, z.2⟩, fun z => ⟨⟨z.1, z.2.1⟩, z.2.2⟩⟩)
            omega
          · rw [cnt_zero (fun i hi hy => hYe ⟨i, hi, hy⟩)]
            exact Nat.zero_le _)
        refine ⟨fun i => if i = i9 then j0 else f i, fun i hi hl => ?_, fun i j hi hj hli hlj he => ?_⟩
        · dsimp only
          by_cases e : i = i9
          · rw [if_pos e, e]
            exact ⟨hj0, hr0, he0⟩
          · rw [if_neg e]
            obtain ⟨q1, q2, q3⟩ := hf1 i hi ⟨hl, e⟩
            exact ⟨q1, q2.1, q3⟩
        · dsimp only at he
          by_cases e : i = i9 <;> by_cases e2 : j = i9
          · rw [e, e2]
          · rw [if_pos e, if_neg e2] at he
            exact absurd he.symm (hf1 j hj ⟨hlj, e2⟩).2.1.2
          · rw [if_neg e, if_pos e2] at he
            exact absurd he (hf1 i hi ⟨hli, e⟩).2.1.2
          · rw [if_neg e, if_neg e2] at he
            exact hf2 i j hi hj ⟨hli, e⟩ ⟨hlj, e2⟩ he
    · have hn : ∀ i, i < a → ¬ L i := fun i hi h => hL ⟨i, hi, h⟩
      exact ⟨fun _ => 0, fun i hi h => absurd h (hn i hi), fun i j hi _ h => absurd h (hn i hi)⟩
/-- M is a matching: nobody on either side stands twice -/
def mat (M : Nat → Nat → Prop) : Prop := (∀ i j k, M i j → M i k → j = k) ∧ ∀ i j k, M i k → M j k → i = j
/-- one matching covers what two matchings cover, each on its side -/
theorem both {E : Nat → Nat → Prop} {a b : Nat} {L R : Nat → Prop} {f g : Nat → Nat} (hf1 : ∀ i, i < a → L i → f i < b ∧ E i (f i)) (hf2 : ∀ i j, i < a → j < a → L i → L j → f i = f j → i = j)
    (hg1 : ∀ j, j < b → R j → g j < a ∧ E (g j) j) (hg2 : ∀ i j, i < b → j < b → R i → R j → g i = g j → i = j) :
    ∃ M : Nat → Nat → Prop, mat M ∧ (∀ i j, M i j → i < a ∧ j < b ∧ E i j) ∧ (∀ i, i < a → L i → ∃ j, M i j) ∧ ∀ j, j < b → R j → ∃ i, M i j := by
  let Z : Nat → Prop := fun x => ∀ P : Nat → Prop, (∀ i, i < a → L i → (∀ j, j < b → R j → g j ≠ i) → P i) → (∀ i, i < a → L i → P i → R (f i) → P (g (f i))) → P x
  have z0 : ∀ i, i < a → L i → (∀ j, j < b → R j → g j ≠ i) → Z i := fun i hi hl hn P h1 _ => h1 i hi hl hn
  have z1 : ∀ i, i < a → L i → Z i → R (f i) → Z (g (f i)) := fun i hi hl hz hr P h1 h2 => h2 i hi hl (hz P h1 h2) hr
  have z2 : ∀ x, Z x → (x < a ∧ L x ∧ (∀ j, j < b → R j → g j ≠ x)) ∨ ∃ i, i < a ∧ L i ∧ Z i ∧ R (f i) ∧ x = g (f i) := by
    intro x hx
    exact (hx (fun x => Z x ∧ ((x < a ∧ L x ∧ (∀ j, j < b → R j → g j ≠ x)) ∨ ∃ i, i < a ∧ L i ∧ Z i ∧ R (f i) ∧ x = g (f i)))
      (fun i hi hl hn => ⟨z0 i hi hl hn, Or.inl ⟨hi, hl, hn⟩⟩)
      (fun i hi hl hp hr => ⟨z1 i hi hl hp.1 hr, Or.inr ⟨i, hi, hl, hp.1, hr, rfl⟩⟩)).2
  refine ⟨fun i j => (i < a ∧ L i ∧ Z i ∧ j = f i) ∨ (j < b ∧ R j ∧ ¬ Z (g j) ∧ i = g j), ⟨?_, ?_⟩, ?_, ?_, ?_⟩
  · rintro i j k (⟨h1, h2, h3, h4⟩ | ⟨h1, h2, h3, h4⟩) (⟨k1, k2, k3, k4⟩ | ⟨k1, k2, k3, k4⟩)
    · rw [h4, k4]
    · exact absurd (k4 ▸ h3) k3
    · exact absurd (h4 ▸ k3) h3
    · exact hg2 j k h1 k1 h2 k2 (h4 ▸ k4)
  · rintro i j k (⟨h1, h2, h3, h4⟩ | ⟨h1, h2, h3, h4⟩) (⟨k1, k2, k3, k4⟩ | ⟨k1, k2, k3, k4⟩)
    · exact hf2 i j h1 k1 h2 k2 (h4 ▸ k4)
    · exact absurd (h4 ▸ z1 i h1 h2 h3 (h4 ▸ k2)) k3
    · exact absurd (k4 ▸ z1 j k1 k2 k3 (k4 ▸ h2)) h3
    · rw [h4, k4]
  · rintro i j (⟨h1, h2, h3, h4⟩ | ⟨h1, h2, h3, h4⟩)
    · obtain ⟨q1, q2⟩ := hf1 i h1 h2
      rw [h4]
      exact ⟨h1, q1, q2⟩
    · obtain ⟨q1, q2⟩ := hg1 j h1 h2
      rw [h4]
      exact ⟨q1, h1, q2⟩
  · intro i hi hl
    by_cases hz : Z i
    · exact ⟨f i, Or.inl ⟨hi, hl, hz, rfl⟩⟩
    · have : ∃ j, j < b ∧ R j ∧ g j = i := by
        apply Classical.byContradiction
        intro hn
        exact hz (z0 i hi hl (fun j hj hr he => hn ⟨j, hj, hr, he⟩))
      obtain ⟨j, hj, hr, he⟩ := this
      exact ⟨j, Or.inr ⟨hj, hr, by rw [he]; exact hz, he.symm⟩⟩
  · intro j hj hr
    by_cases hz : Z (g j)
    · rcases z2 _ hz with ⟨-, -, h3⟩ | ⟨i, hi, hl, hzi, hri, he⟩
      · exact absurd rfl (h3 j hj hr)
      · obtain ⟨q1, -⟩ := hf1 i hi hl
        exact ⟨i, Or.inl ⟨hi, hl, hzi, hg2 j (f i) hj q1 hr hri he⟩⟩
    · exact ⟨g j, Or.inr ⟨hj, hr, hz, rfl⟩⟩
