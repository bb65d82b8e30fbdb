/-! one-to-one counts, sums, and: those who have most can all be covered -/
theorem cnt_inj {X : Nat → Prop} {f : Nat → Nat} {b : Nat} : ∀ (a : Nat) (Y : Nat → Prop), (∀ i, i < a → X i → f i < b ∧ Y (f i)) → (∀ i j, i < a → j < a → X i → X j → f i = f j → i = j) → cnt X a ≤ cnt Y b := by
  intro a
  induction a with
  | zero => intro Y _ _; exact Nat.zero_le _
  | succ a ih =>
    intro Y h1 h2
    show cnt X a + one (X a) ≤ cnt Y b
    by_cases hx : X a
    · obtain ⟨q1, q2⟩ := h1 a (by omega) hx
      have h := ih (fun j => Y j ∧ j ≠ f a) (fun i hi hxi => by
        obtain ⟨r1, r2⟩ := h1 i (by omega) hxi
        refine ⟨r1, r2, fun e => ?_⟩
        have := h2 i a (by omega) (by omega) hxi hx e
        omega) (fun i j hi hj => h2 i j (by omega) (by omega))
      rw [one_t hx, cnt_del q1 q2]
      omega
    · rw [one_f hx]
      exact ih Y (fun i hi => h1 i (by omega)) (fun i j hi hj => h2 i j (by omega) (by omega))
def sm (f : Nat → Nat) : Nat → Nat
  | 0 => 0
  | n + 1 => sm f n + f n
theorem sm_le {f g : Nat → Nat} {n : Nat} (h : ∀ i, i < n → f i ≤ g i) : sm f n ≤ sm g n := by
  induction n with
  | zero => exact Nat.le_refl 0
  | succ n ih =>
    have h1 := ih (fun i hi => h i (by omega))
    have h2 := h n (by omega)
    show sm f n + f n ≤ sm g n + g n
    omega
theorem sm_congr {f g : Nat → Nat} {n : Nat} (h : ∀ i, i < n → f i = g i) : sm f n = sm g n :=
  Nat.le_antisymm (sm_le (fun i hi => Nat.le_of_eq (h i hi))) (sm_le (fun i hi => Nat.le_of_eq (h i hi).symm))
theorem sm_add (f g : Nat → Nat) (n : Nat) : sm (fun i => f i + g i) n = sm f n + sm g n := by
  induction n with
  | zero => rfl
  | succ n ih =>
    show sm (fun i => f i + g i) n + (f n + g n) = (sm f n + f n) + (sm g n + g n)
    omega
theorem sm_zero (n : Nat) : sm (fun _ => 0) n = 0 := by
  induction n with
  | zero => rfl
  | succ n ih =>
    show sm (fun _ => 0) n + 0 = 0
    omega
theorem sm_swap (w : Nat → Nat → Nat) (a b : Nat) : sm (fun i => sm (fun j => w i j) b) a = sm (fun j => sm (fun i => w i j) a) b := by
  induction a with
  | zero => exact (sm_zero b).symm
  | succ a ih =>
    show sm (fun i => sm (fun j => w i j) b) a + sm (fun j => w a j) b = sm (fun j => sm (fun i => w i j) a + w a j) b
    rw [sm_add, ih]
theorem sm_cnt (X : Nat → Prop) (m n : Nat) : sm (fun i => one (X i) * m) n = cnt X n * m := by
  induction n with
  | zero => simp [sm, cnt]
  | succ n ih =>
    show sm (fun i => one (X i) * m) n + one (X n) * m = (cnt X n + one (X n)) * m
    rw [ih, Nat.add_mul]
theorem sm_mul (k : Nat) (f : Nat → Nat) (n : Nat) : k * sm f n = sm (fun i => k * f i) n := by
  induction n with
  | zero => rfl
  | succ n ih =>
    show k * (sm f n + f n) = sm (fun i => k * f i) n + k * f n
    rw [Nat.mul_add, ih]
theorem sm_get {f : Nat → Nat} {n i : Nat} (hi : i < n) : f i ≤ sm f n := by
  induction n with
  | zero => omega
  | succ n ih =>
    show f i ≤ sm f n + f n
    by_cases e : i = n
    · subst e; omega
    · have := ih (by omega)
      omega
/-- of those whose sum is the greatest of all, any number have at least as many to stand with -/
theorem busy_hall {w : Nat → Nat → Nat} {a b m : Nat} {X : Nat → Prop} (hm : 0 < m) (hr : ∀ i, i < a → X i → sm (w i) b = m) (hc : ∀ j, j < b → sm (fun i => w i j) a ≤ m) : cnt X a ≤ cnt (nb (fun i j => 0 < w i j) a X) b := by
  have h1 : cnt X a * m = sm (fun i => sm (fun j => one (X i) * w i j) b) a := by
    rw [← sm_cnt]
    refine sm_congr (fun i hi => ?_)
    rw [← sm_mul (one (X i)) (w i) b]
    by_cases hx : X i
    · rw [hr i hi hx]
    · rw [one_f hx, Nat.zero_mul, Nat.zero_mul]
  have h2 : sm (fun j => sm (fun i => one (X i) * w i j) a) b ≤ sm (fun j => one (nb (fun i j => 0 < w i j) a X j) * m) b := by
    refine sm_le (fun j hj => ?_)
    by_cases hn : nb (fun i j => 0 < w i j) a X j
    · rw [one_t hn, Nat.one_mul]
      refine Nat.le_trans (sm_le (fun i hi => ?_)) (hc j hj)
      by_cases hx : X i
      · rw [one_t hx, Nat.one_mul]
        exact Nat.le_refl _
      · rw [one_f hx, Nat.zero_mul]
        exact Nat.zero_le _
    · rw [one_f hn, Nat.zero_mul]
      refine Nat.le_trans (sm_le (g := fun _ => 0) (fun i hi => ?_)) (Nat.le_of_eq (sm_zero a))
      by_cases hx : X i
      · have : w i j = 0 := by
          apply Classical.byContradiction
          intro hw
          exact hn ⟨i, hi, hx, Nat.pos_of_ne_zero hw⟩
        rw [this, Nat.mul_zero]
        exact Nat.le_refl _
      · rw [one_f hx, Nat.zero_mul]
        exact Nat.le_refl _
  rw [sm_cnt] at h2
  have h3 : cnt X a * m ≤ cnt (nb (fun i j => 0 < w i j) a X) b * m := by
    rw [h1, sm_swap]
    exact h2
  exact Nat.le_of_mul_le_mul_right h3 hm
/-- a matching among those from s on and the free, that covers LS and RS -/
def feas (E : Nat → Nat → Prop) (a b s : Nat) (free LS RS : Nat → Prop) : Prop := ∃ M : Nat → Nat → Prop, mat M ∧ (∀ i j, M i j → i < a ∧ j < b ∧ s ≤ i ∧ free j ∧ E i j) ∧ (∀ i, i < a → s ≤ i → LS i → ∃ j, M i j) ∧ ∀ j, j < b → RS j → ∃ i, M i j
/-- Hall's two conditions -/
def hallL (E : Nat → Nat → Prop) (a b s : Nat) (free LS : Nat → Prop) : Prop := ∀ X : Nat → Prop, (∀ i, X i → LS i ∧ s ≤ i) → cnt X a ≤ cnt (fun j => nb E a X j ∧ free j) b
def hallR (E : Nat → Nat → Prop) (a b s : Nat) (RS : Nat → Prop) : Prop := ∀ Y : Nat → Prop, (∀ j, Y j → RS j) → cnt Y b ≤ cnt (fun i => (∃ j, j < b ∧ Y j ∧ E i j) ∧ s ≤ i) a
theorem feas_of {E : Nat → Nat → Prop} {a b s : Nat} {free LS RS : Nat → Prop} (h1 : hallL E a b s free LS) (h2 : hallR E a b s RS) (hRS : ∀ j, RS j → free j) : feas E a b s free LS RS := by
  obtain ⟨f, f1, f2⟩ := hall (fun i j => E i j) a b (cnt (fun i => LS i ∧ s ≤ i) a) (fun i => LS i ∧ s ≤ i) free (Nat.le_refl _) h1
  obtain ⟨g, g1, g2⟩ := hall (fun j i => E i j) b a (cnt RS b) RS (fun i => s ≤ i) (Nat.le_refl _) h2
  obtain ⟨M, hM, hE, hL, hR⟩ := both (E := fun i j => E i j ∧ s ≤ i ∧ free j) (a := a) (b := b) (L := fun i => LS i ∧ s ≤ i) (R := RS) (f := f) (g := g)
    (fun i hi hl => ⟨(f1 i hi hl).1, (f1 i hi hl).2.2, hl.2, (f1 i hi hl).2.1⟩) f2
    (fun j hj hr => ⟨(g1 j hj hr).1, (g1 j hj hr).2.2, (g1 j hj hr).2.1, hRS j hr⟩) g2
  exact ⟨M, hM, fun i j h => ⟨(hE i j h).1, (hE i j h).2.1, (hE i j h).2.2.2.1, (hE i j h).2.2.2.2, (hE i j h).2.2.1⟩, fun i hi hs hl => hL i hi ⟨hl, hs⟩, hR⟩
theorem feas_L {E : Nat → Nat → Prop} {a b s : Nat} {free LS RS : Nat → Prop} (h : feas E a b s free LS RS) : hallL E a b s free LS := by
  obtain ⟨M, hM, hE, hL, -⟩ := h
  intro X hX
  have hch : ∀ i, ∃ j, i < a → X i → M i j := fun i => by
    by_cases hi : i < a ∧ X i
    · obtain ⟨j, hj⟩ := hL i hi.1 (hX i hi.2).2 (hX i hi.2).1
      exact ⟨j, fun _ _ => hj⟩
    · exact ⟨0, fun h1 h2 => absurd ⟨h1, h2⟩ hi⟩
  obtain ⟨f, hf⟩ : ∃ f : Nat → Nat, ∀ i, i < a → X i → M i (f i) := ⟨fun i => Classical.choose (hch i), fun i => Classical.choose_spec (hch i)⟩
  refine cnt_inj (f := f) a _ (fun i hi hx => ?_) (fun i j hi hj hx hy e => ?_)
  · have q := hE i (f i) (hf i hi hx)
    exact ⟨q.2.1, ⟨i, hi, hx, q.2.2.2.2⟩, q.2.2.2.1⟩
  · exact hM.2 i j (f i) (hf i hi hx) (e ▸ hf j hj hy)
theorem feas_R {E : Nat → Nat → Prop} {a b s : Nat} {free LS RS : Nat → Prop} (h : feas E a b s free LS RS) : hallR E a b s RS := by
  obtain ⟨M, hM, hE, -, hR⟩ := h
  intro Y hY
  have hch : ∀ j, ∃ i, j < b → Y j → M i j := fun j => by
    by_cases hj : j < b ∧ Y j
    · obtain ⟨i, hi⟩ := hR j hj.1 (hY j hj.2)
      exact ⟨i, fun _ _ => hi⟩
    · exact ⟨0, fun h1 h2 => absurd ⟨h1, h2⟩ hj⟩
  obtain ⟨g, hg⟩ : ∃ g : Nat → Nat, ∀ j, j < b → Y j → M (g j) j := ⟨fun j => Classical.choose (hch j), fun j => Classical.choose_spec (hch j)⟩
  refine cnt_inj (f := g) b _ (fun j hj hy => ?_) (fun i j hi hj hx hy e => ?_)
  · have q := hE (g j) j (hg j hj hy)
    exact ⟨q.1, ⟨j, hj, hy, q.2.2.2.2⟩, q.2.2.1⟩
  · exact hM.1 (g i) i j (hg i hi hx) (e ▸ hg j hj hy)
/-- the next smith: he has a horse with which the rest can go on, or needs none -/
theorem feas_step {E : Nat → Nat → Prop} {a b s : Nat} {free LS RS : Nat → Prop} (h : feas E a b s free LS RS) : (∃ j, j < b ∧ free j ∧ E s j ∧ feas E a b (s + 1) (fun k => free k ∧ k ≠ j) LS (fun k => RS k ∧ k ≠ j)) ∨ (¬ (s < a ∧ LS s) ∧ feas E a b (s + 1) free LS RS) := by
  obtain ⟨M, hM, hE, hL, hR⟩ := h
  by_cases hs : ∃ j, M s j
  · obtain ⟨j, hj⟩ := hs
    have q := hE s j hj
    refine Or.inl ⟨j, q.2.1, q.2.2.2.1, q.2.2.2.2, fun i k => M i k ∧ i ≠ s, ⟨fun i x y h1 h2 => hM.1 i x y h1.1 h2.1, fun x y k h1 h2 => hM.2 x y k h1.1 h2.1⟩, fun i k h1 => ?_, fun i hi hs1 hl => ?_, fun k hk hr => ?_⟩
    · have r := hE i k h1.1
      exact ⟨r.1, r.2.1, by have := h1.2; omega, ⟨r.2.2.2.1, fun e => h1.2 (hM.2 i s k h1.1 (e ▸ hj))⟩, r.2.2.2.2⟩
    · obtain ⟨k, hk⟩ := hL i hi (by omega) hl
      exact ⟨k, hk, by omega⟩
    · obtain ⟨i, hi⟩ := hR k hk hr.1
      exact ⟨i, hi, fun e => hr.2 (hM.1 s k j (e ▸ hi) hj)⟩
  · refine Or.inr ⟨fun z => hs (hL s z.1 (Nat.le_refl s) z.2), M, hM, fun i k h1 => ?_, fun i hi hs1 hl => hL i hi (by omega) hl, hR⟩
    have r := hE i k h1
    exact ⟨r.1, r.2.1, by
      have : i ≠ s := fun e => hs ⟨k, e ▸ h1⟩
      omega, r.2.2.2.1, r.2.2.2.2⟩
/-- in the beginning -/
theorem feas_0 {w : Nat → Nat → Nat} {a b m : Nat} (hm : 0 < m) (hr : ∀ i, i < a → sm (w i) b ≤ m) (hc : ∀ j, j < b → sm (fun i => w i j) a ≤ m) : feas (fun i j => 0 < w i j) a b 0 (fun _ => True) (fun i => i < a ∧ sm (w i) b = m) (fun j => j < b ∧ sm (fun i => w i j) a = m) := by
  refine feas_of (fun X hX => ?_) (fun Y hY => ?_) (fun _ _ => trivial)
  · refine Nat.le_trans (busy_hall (w := w) (b := b) (X := X) hm (fun i _ hx => (hX i hx).1.2) hc) (cnt_mono (fun j _ h => ⟨h, trivial⟩))
  · refine Nat.le_trans (busy_hall (w := fun j i => w i j) (a := b) (b := a) (X := Y) hm (fun j _ hy => (hY j hy).2) hr) (cnt_mono (fun i _ h => ⟨h, Nat.zero_le _⟩))
