/-! layRound: smith by smith, those who have most can still all be covered -/
theorem va_us {A : Nat → Nat → Int32} {q : Nat} {g : Nat → Int32} : va_up A q g q = g := by simp [va_up]
theorem feas_mono {E : Nat → Nat → Prop} {a b s : Nat} {free free2 LS LS2 RS RS2 : Nat → Prop} (h : feas E a b s free LS RS) (h1 : ∀ j, j < b → free j → free2 j) (h2 : ∀ i, i < a → s ≤ i → LS2 i → LS i) (h3 : ∀ j, j < b → RS2 j → RS j) : feas E a b s free2 LS2 RS2 := by
  obtain ⟨M, hM, hE, hL, hR⟩ := h
  exact ⟨M, hM, fun i j z => ⟨(hE i j z).1, (hE i j z).2.1, (hE i j z).2.2.1, h1 j (hE i j z).2.1 (hE i j z).2.2.2.1, (hE i j z).2.2.2.2⟩, fun i hi hs hl => hL i hi hs (h2 i hi hs hl), fun j hj hr => hR j hj (h3 j hj hr)⟩
def zo (f : Nat → Int32) (a b : Int) : Prop := ∀ i j : Nat, i < 8 → j < 10 → (a ≤ (i : Int) ∨ b ≤ (j : Int)) → lk f i j = 0
def lrI (f wi : Nat → Int32) (bS bH0 bH free : Int32) (n : Nat) : Prop :=
  feas (EG f) 8 10 n (bt free) (bt bS) (bt bH) ∧ (∀ j, bt bH j → bt free j) ∧ (∀ j : Nat, j < 10 → bt bH0 j → bt bH j ∨ ¬ bt free j) ∧
  (∀ i : Nat, i < n → ((wi i).toInt < 0 ∧ ¬ bt bS i) ∨ ∃ j : Nat, j < 10 ∧ (wi i).toInt = (j : Int) ∧ EG f i j ∧ ¬ bt free j) ∧
  (∀ i k : Nat, i < n → k < n → 0 ≤ (wi i).toInt → (wi i).toInt = (wi k).toInt → i = k) ∧ (∀ j : Nat, j < 10 → ¬ bt free j → ∃ i : Nat, i < n ∧ (wi i).toInt = (j : Int))
theorem all10 : ∀ j : Fin 10, (1023 : Int32).toBitVec.getLsbD j.val = true := by decide +kernel
theorem bM_lt {g : Nat → Nat} {r m : Int32} {n : Int} (h : bM g r m n) {i : Nat} (hi : bt r i) : (i : Int) < n ∧ (g i : Int) = m.toInt := (h i).mp hi
theorem lr_0 {f wi : Nat → Int32} {bS bH m m2 : Int32} {a b : Int} (hpos : ∀ k : Nat, isL f k → 0 < k) (h1 : isL f m.toInt.toNat ∧ 0 ≤ m.toInt ∧ bM (rowS f) bS m a) (h2 : isL f m2.toInt.toNat ∧ 0 ≤ m2.toInt ∧ bM (colS f) bH m2 b) (hb : rg bH 0 1023) : lrI f wi bS bH bH 1023 0 := by
  have h10 : ∀ j, j < 10 → bt 1023 j := fun j hj => all10 ⟨j, hj⟩
  have hm := isL_one h1.1 h2.1
  refine ⟨?_, fun j hj => h10 j (bt_lt hb (n := 10) (by decide) hj), fun j hj h => Or.inl h, fun i hi => absurd hi (Nat.not_lt_zero _), fun i k hi => absurd hi (Nat.not_lt_zero _), fun j hj h => absurd (h10 j hj) h⟩
  have q := feas_0 (w := lk f) (a := 8) (b := 10) (m := m.toInt.toNat) (hpos _ h1.1) (fun i hi => h1.1.1 i hi) (fun j hj => h1.1.2.1 j hj)
  refine feas_mono q (fun j hj _ => h10 j hj) (fun i hi _ hl => ⟨hi, ?_⟩) (fun j hj hr => ⟨hj, ?_⟩)
  · have e := (bM_lt h1.2.2 hl).2
    show rowS f i = m.toInt.toNat
    omega
  · have e := (bM_lt h2.2.2 hr).2
    show colS f j = m.toInt.toNat
    omega
theorem lr_put {f wi : Nat → Int32} {bS bH0 bH free v : Int32} {n : Nat} (h : lrI f wi bS bH0 bH free n) : lrI f (upd wi n v) bS bH0 bH free n := by
  have e : ∀ i, i < n → upd wi n v i = wi i := fun i hi => pk_un (by omega)
  obtain ⟨a, b, c, d, g, k⟩ := h
  refine ⟨a, b, c, fun i hi => ?_, fun i j hi hj => ?_, fun j hj hn => ?_⟩
  · rw [e i hi]; exact d i hi
  · rw [e i hi, e j hj]; exact g i j hi hj
  · obtain ⟨i, hi, he⟩ := k j hj hn
    exact ⟨i, hi, by rw [e i hi]; exact he⟩
/-- horse k is not one with which the rest can go on -/
def noH (f : Nat → Int32) (bS bH free : Int32) (n k : Nat) : Prop := ¬ (bt free k ∧ EG f n k ∧ hallL (EG f) 8 10 (n + 1) (fun j => bt free j ∧ j ≠ k) (bt bS) ∧ hallR (EG f) 8 10 (n + 1) (fun j => bt bH j ∧ j ≠ k))
theorem bt_clr {x y z w h : Int32} (hh : rg h 0 9) (e1 : y = 1 <<< (h &&& 31)) (e2 : z = y ^^^ (-1)) (e3 : w = x &&& z) (j : Nat) : bt w j ↔ bt x j ∧ j ≠ h.toNatClampNeg := by
  obtain ⟨k, rfl, q1, q2, q0⟩ := nI_rg hh (by omega)
  have hkc : (nI k).toNatClampNeg = k := nI_clamp (by omega)
  have hy : y.toBitVec = BitVec.twoPow 32 k := by rw [e1]; exact tw_t ⟨k, by omega⟩
  unfold bt
  rw [hkc, e3, Int32.toBitVec_and, BitVec.getLsbD_and, Bool.and_eq_true, e2]
  constructor
  · rintro ⟨h1, h2⟩
    refine ⟨h1, fun e => ?_⟩
    rw [bt_not y (bt_ge h1), hy, BitVec.getLsbD_twoPow, e] at h2
    have : k < 32 := by omega
    simp [this] at h2
  · rintro ⟨h1, h2⟩
    refine ⟨h1, ?_⟩
    rw [bt_not y (bt_ge h1), hy, BitVec.getLsbD_twoPow]
    have : ¬ k = j := fun e => h2 e.symm
    simp [this]
theorem low_t : ∀ k : Fin 9, ∀ i : Fin 32, (((1 : Int32) <<< (nI k.val &&& 31)) - 1).toBitVec.getLsbD i.val = decide (i.val < k.val) := by decide +kernel
theorem bt_left {bS s s1 y y1 z w : Int32} (hs : rg s 0 7) (e0 : s1 = s + 1) (e1 : y = 1 <<< (s1 &&& 31)) (e2 : y1 = y - 1) (e3 : z = y1 ^^^ (-1)) (e4 : w = bS &&& z) (i : Nat) : bt w i ↔ bt bS i ∧ s.toNatClampNeg + 1 ≤ i := by
  obtain ⟨hn, ht⟩ := inc_nat hs (by decide) e0
  have h1 : rg s1 1 8 := ⟨by have := hs.1; omega, by have := hs.2; omega⟩
  obtain ⟨k, rfl, q1, q2, q0⟩ := nI_rg h1 (by omega)
  have hkc : (nI k).toNatClampNeg = k := nI_clamp (by omega)
  rw [hkc] at hn
  unfold bt
  rw [e4, Int32.toBitVec_and, BitVec.getLsbD_and, Bool.and_eq_true, e3]
  constructor
  · rintro ⟨g1, g2⟩
    have gi := bt_ge g1
    rw [bt_not y1 gi, e2, e1, low_t ⟨k, by omega⟩ ⟨i, gi⟩] at g2
    simp only [Bool.not_eq_true', decide_eq_false_iff_not] at g2
    exact ⟨g1, by omega⟩
  · rintro ⟨g1, g2⟩
    have gi := bt_ge g1
    refine ⟨g1, ?_⟩
    rw [bt_not y1 gi, e2, e1, low_t ⟨k, by omega⟩ ⟨i, gi⟩]
    simp only [Bool.not_eq_true', decide_eq_false_iff_not]
    omega
theorem hallL_congr {E : Nat → Nat → Prop} {a b s : Nat} {free free2 LS LS2 : Nat → Prop} (h1 : ∀ j, free j ↔ free2 j) (h2 : ∀ i, s ≤ i → (LS i ↔ LS2 i)) (h : hallL E a b s free LS) : hallL E a b s free2 LS2 := by
  intro X hX
  refine Nat.le_trans (h X (fun i hi => ⟨(h2 i (hX i hi).2).mpr (hX i hi).1, (hX i hi).2⟩)) (cnt_mono (fun j _ z => ⟨z.1, (h1 j).mp z.2⟩))
theorem hallR_congr {E : Nat → Nat → Prop} {a b s : Nat} {RS RS2 : Nat → Prop} (h1 : ∀ j, RS j ↔ RS2 j) (h : hallR E a b s RS) : hallR E a b s RS2 := fun Y hY => h Y (fun j hj => (h1 j).mpr (hY j hj))
/-- what canGoOn says, of the sets themselves -/
theorem go_sets {f : Nat → Int32} {bS bH free s s1 left f2 h2 h : Int32} (hs : rg s 0 7) (e0 : s1 = s + 1) (hl : ∀ i, bt left i ↔ bt bS i ∧ s.toNatClampNeg + 1 ≤ i) (hf : ∀ j, bt f2 j ↔ bt free j ∧ j ≠ h.toNatClampNeg) (hh : ∀ j, bt h2 j ↔ bt bH j ∧ j ≠ h.toNatClampNeg) :
    (gHL f s1 f2 left ∧ gHR f s1 h2) ↔ (hallL (EG f) 8 10 (s.toNatClampNeg + 1) (fun j => bt free j ∧ j ≠ h.toNatClampNeg) (bt bS) ∧ hallR (EG f) 8 10 (s.toNatClampNeg + 1) (fun j => bt bH j ∧ j ≠ h.toNatClampNeg)) := by
  unfold gHL gHR
  rw [(inc_nat hs (by decide) e0).1]
  exact ⟨fun z => ⟨hallL_congr hf (fun i hi => ⟨fun w => ((hl i).mp w).1, fun w => (hl i).mpr ⟨w, hi⟩⟩) z.1, hallR_congr hh z.2⟩, fun z => ⟨hallL_congr (fun j => (hf j).symm) (fun i hi => ⟨fun w => (hl i).mpr ⟨w, hi⟩, fun w => ((hl i).mp w).1⟩) z.1, hallR_congr (fun j => (hh j).symm) z.2⟩⟩
def lrH (f wi : Nat → Int32) (bS bH0 bH free s : Int32) (h : Int) : Prop := lrI f wi bS bH0 bH free s.toNatClampNeg ∧ (wi s.toNatClampNeg).toInt = -1 ∧ ∀ k : Nat, k < 10 → (k : Int) < h → noH f bS bH free s.toNatClampNeg k
theorem lrH_0 {f wi : Nat → Int32} {bS bH0 bH free s : Int32} (h : lrI f wi bS bH0 bH free s.toNatClampNeg) : lrH f (upd wi s.toNatClampNeg (-1)) bS bH0 bH free s (0 : Int32).toInt := by
  have h0 : (0 : Int32).toInt = 0 := rfl
  refine ⟨lr_put h, ?_, fun k _ hk => by omega⟩
  have : upd wi s.toNatClampNeg (-1) s.toNatClampNeg = -1 := pk_us
  rw [this]
  rfl
theorem lrH_no {f wi : Nat → Int32} {bS bH0 bH free s h : Int32} (H : lrH f wi bS bH0 bH free s h.toInt) (hh : rg h 0 9) (hn : noH f bS bH free s.toNatClampNeg h.toNatClampNeg) : lrH f wi bS bH0 bH free s (h.toInt + 1) := by
  refine ⟨H.1, H.2.1, fun k hk hk2 => ?_⟩
  by_cases e : (k : Int) < h.toInt
  · exact H.2.2 k hk e
  · have := cl_ti hh (by decide)
    have : k = h.toNatClampNeg := by omega
    rw [this]
    exact hn
/-- behind the search: none (and he needs none), or h, and the rest can be covered -/
def lrX (f wi : Nat → Int32) (bS bH0 bH free s h : Int32) : Prop := lrI f wi bS bH0 bH free s.toNatClampNeg ∧ (wi s.toNatClampNeg).toInt = -1 ∧
  ((h.toInt = 10 ∧ ¬ bt bS s.toNatClampNeg ∧ feas (EG f) 8 10 (s.toNatClampNeg + 1) (bt free) (bt bS) (bt bH)) ∨ (h.toInt < 10 ∧ bt free h.toNatClampNeg ∧ EG f s.toNatClampNeg h.toNatClampNeg ∧ feas (EG f) 8 10 (s.toNatClampNeg + 1) (fun j => bt free j ∧ j ≠ h.toNatClampNeg) (bt bS) (fun j => bt bH j ∧ j ≠ h.toNatClampNeg)))
theorem lrX_none {f wi : Nat → Int32} {bS bH0 bH free s h : Int32} (H : lrH f wi bS bH0 bH free s h.toInt) (hs : rg s 0 7) (hh : rg h 10 10) : lrX f wi bS bH0 bH free s h := by
  have h1 := hh.1
  have h2 := hh.2
  refine ⟨H.1, H.2.1, Or.inl ⟨by omega, ?_⟩⟩
  rcases feas_step H.1.1 with ⟨j, hj, hf, he, hfe⟩ | ⟨hn, hfe⟩
  · exact absurd ⟨hf, he, feas_L hfe, feas_R hfe⟩ (H.2.2 j hj (by omega))
  · have := cl_ti hs (by decide)
    have := hs.2
    exact ⟨fun z => hn ⟨by omega, z⟩, hfe⟩
theorem lrX_one {f wi : Nat → Int32} {bS bH0 bH free s h : Int32} (H : lrH f wi bS bH0 bH free s h.toInt) (hh : rg h 0 9) (hf : bt free h.toNatClampNeg) (he : EG f s.toNatClampNeg h.toNatClampNeg) (hg : hallL (EG f) 8 10 (s.toNatClampNeg + 1) (fun j => bt free j ∧ j ≠ h.toNatClampNeg) (bt bS) ∧ hallR (EG f) 8 10 (s.toNatClampNeg + 1) (fun j => bt bH j ∧ j ≠ h.toNatClampNeg)) : lrX f wi bS bH0 bH free s h := by
  have h2 := hh.2
  exact ⟨H.1, H.2.1, Or.inr ⟨by omega, hf, he, feas_of hg.1 hg.2 (fun j z => ⟨H.1.2.1 j z.1, z.2⟩)⟩⟩
theorem lr_skip {f wi : Nat → Int32} {bS bH0 bH free s h : Int32} (H : lrX f wi bS bH0 bH free s h) (e : h = 10) : lrI f wi bS bH0 bH free (s.toNatClampNeg + 1) := by
  have h10 : (10 : Int32).toInt = 10 := rfl
  obtain ⟨⟨a, b, c, d, g, k⟩, w, H⟩ := H
  rcases H with ⟨_, hn, hfe⟩ | ⟨hlt, _⟩
  · refine ⟨hfe, b, c, fun i hi => ?_, fun i j hi hj hp he => ?_, fun j hj hnf => ?_⟩
    · by_cases e : i < s.toNatClampNeg
      · exact d i e
      · have : i = s.toNatClampNeg := by omega
        rw [this]
        exact Or.inl ⟨by omega, hn⟩
    · have hi2 : i < s.toNatClampNeg := by
        apply Classical.byContradiction
        intro z
        have : i = s.toNatClampNeg := by omega
        rw [this] at hp
        omega
      have hj2 : j < s.toNatClampNeg := by
        apply Classical.byContradiction
        intro z
        have : j = s.toNatClampNeg := by omega
        rw [this] at he
        omega
      exact g i j hi2 hj2 hp he
    · obtain ⟨i, hi, he⟩ := k j hj hnf
      exact ⟨i, by omega, he⟩
  · rw [e] at hlt
    omega
theorem lr_take {f wi : Nat → Int32} {bS bH0 bH free s h f2 h2 : Int32} (H : lrX f wi bS bH0 bH free s h) (hh : rg h 0 9) (hf : ∀ j, bt f2 j ↔ bt free j ∧ j ≠ h.toNatClampNeg) (hb : ∀ j, bt h2 j ↔ bt bH j ∧ j ≠ h.toNatClampNeg) : lrI f (upd wi s.toNatClampNeg h) bS bH0 h2 f2 (s.toNatClampNeg + 1) := by
  have hc := cl_ti hh (by decide)
  have hle := hh.2
  obtain ⟨⟨a, b, c, d, g, k⟩, w, H⟩ := H
  have es : upd wi s.toNatClampNeg h s.toNatClampNeg = h := pk_us
  have en : ∀ i, i < s.toNatClampNeg → upd wi s.toNatClampNeg h i = wi i := fun i hi => pk_un (by omega)
  rcases H with ⟨h10, _⟩ | ⟨hlt, hfr, he, hfe⟩
  · omega
  have nofr : ∀ i, i < s.toNatClampNeg → (wi i).toInt = h.toInt → False := fun i hi e => by
    rcases d i hi with ⟨z, _⟩ | ⟨j, hj, z, _, hnf⟩
    · have := hh.1
      omega
    · have : j = h.toNatClampNeg := by omega
      exact hnf (this ▸ hfr)
  refine ⟨feas_mono hfe (fun j _ z => (hf j).mpr z) (fun i _ _ z => z) (fun j _ z => (hb j).mp z), fun j hj => (hf j).mpr ⟨b j ((hb j).mp hj).1, ((hb j).mp hj).2⟩, fun j hj h0 => ?_, fun i hi => ?_, fun i j hi hj hp he2 => ?_, fun j hj hnf => ?_⟩
  · by_cases e : j = h.toNatClampNeg
    · exact Or.inr (fun z => ((hf j).mp z).2 e)
    · rcases c j hj h0 with z | z
      · exact Or.inl ((hb j).mpr ⟨z, e⟩)
      · exact Or.inr (fun y => z ((hf j).mp y).1)
  · by_cases e : i < s.toNatClampNeg
    · rw [en i e]
      rcases d i e with z | ⟨j, hj, z, y, x⟩
      · exact Or.inl z
      · exact Or.inr ⟨j, hj, z, y, fun q => x ((hf j).mp q).1⟩
    · have : i = s.toNatClampNeg := by omega
      rw [this, es]
      exact Or.inr ⟨h.toNatClampNeg, by omega, hc.symm, he, fun q => ((hf _).mp q).2 rfl⟩
  · by_cases e : i < s.toNatClampNeg <;> by_cases e2 : j < s.toNatClampNeg
    · rw [en i e] at hp he2
      rw [en j e2] at he2
      exact g i j e e2 hp he2
    · have : j = s.toNatClampNeg := by omega
      rw [en i e, this, es] at he2
      exact (nofr i e he2).elim
    · have : i = s.toNatClampNeg := by omega
      rw [en j e2, this, es] at he2
      exact (nofr j e2 he2.symm).elim
    · omega
  · by_cases e : j = h.toNatClampNeg
    · exact ⟨s.toNatClampNeg, by omega, by rw [es, e]; exact hc.symm⟩
    · obtain ⟨i, hi, hi2⟩ := k j hj (fun z => hnf ((hf j).mpr ⟨z, e⟩))
      exact ⟨i, by omega, by rw [en i hi]; exact hi2⟩
/-- how long smith i lets the round last -/
noncomputable def lim (f wi : Nat → Int32) (L : Int32) (i : Nat) : Int := if (wi i).toInt < 0 then L.toInt - (rowS f i : Int) else (lk f i (wi i).toInt.toNat : Int)
def mnI (f wi : Nat → Int32) (free L x : Int32) (a b : Int) : Prop := x.toInt ≤ L.toInt ∧ (∀ i : Nat, i < 8 → (i : Int) < a → x.toInt ≤ lim f wi L i) ∧ (∀ j : Nat, j < 10 → (j : Int) < b → bt free j → x.toInt + (colS f j : Int) ≤ L.toInt) ∧
  (x.toInt = L.toInt ∨ (∃ i : Nat, i < 8 ∧ x.toInt = lim f wi L i) ∨ ∃ j : Nat, j < 10 ∧ bt free j ∧ x.toInt + (colS f j : Int) = L.toInt)
theorem mnI_0 {f wi : Nat → Int32} {free L : Int32} : mnI f wi free L L (0 : Int32).toInt 0 := by
  have h0 : (0 : Int32).toInt = 0 := rfl
  exact ⟨Int.le_refl _, fun i _ h => by omega, fun j _ h => by omega, Or.inl rfl⟩
theorem mn_row {f wi : Nat → Int32} {free L x m y s : Int32} (h : mnI f wi free L x s.toInt 0) (hs : rg s 0 7) (hm : m.toInt = lim f wi L s.toNatClampNeg) (hy : (y = m ∧ m.toInt < x.toInt) ∨ (y = x ∧ x.toInt ≤ m.toInt)) : mnI f wi free L y (s.toInt + 1) 0 := by
  have hc := cl_ti hs (by decide)
  have h7 := hs.2
  obtain ⟨a, b, c, d⟩ := h
  have key : ∀ z : Int32, z.toInt ≤ x.toInt → z.toInt ≤ m.toInt → ∀ i : Nat, i < 8 → (i : Int) < s.toInt + 1 → z.toInt ≤ lim f wi L i := by
    intro z h1 h2 i hi hi2
    by_cases e : (i : Int) < s.toInt
    · have := b i hi e
      omega
    · have : i = s.toNatClampNeg := by omega
      rw [this]
      omega
  rcases hy with ⟨e, hl⟩ | ⟨e, hl⟩
  · subst e
    exact ⟨by omega, key y (by omega) (by omega), fun j _ hj => by omega, Or.inr (Or.inl ⟨s.toNatClampNeg, by omega, hm⟩)⟩
  · subst e
    exact ⟨a, key y (by omega) (by omega), fun j _ hj => by omega, d⟩
theorem mn_mid {f wi : Nat → Int32} {free L x s : Int32} (h : mnI f wi free L x s.toInt 0) (h8 : (8 : Int) ≤ s.toInt) : mnI f wi free L x 8 (0 : Int32).toInt := by
  have h0 : (0 : Int32).toInt = 0 := rfl
  exact ⟨h.1, fun i hi hi2 => h.2.1 i hi (by omega), fun j _ hj => by omega, h.2.2.2⟩
theorem mn_c0 {f wi : Nat → Int32} {free L x s : Int32} (h : mnI f wi free L x 8 s.toInt) (hs : rg s 0 9) (hn : bt free s.toNatClampNeg → x.toInt + (colS f s.toNatClampNeg : Int) ≤ L.toInt) : mnI f wi free L x 8 (s.toInt + 1) := by
  have hc := cl_ti hs (by decide)
  refine ⟨h.1, h.2.1, fun j hj hj2 hb => ?_, h.2.2.2⟩
  by_cases e : (j : Int) < s.toInt
  · exact h.2.2.1 j hj e hb
  · have : j = s.toNatClampNeg := by omega
    rw [this]
    rw [this] at hb
    exact hn hb
theorem mn_c1 {f wi : Nat → Int32} {free L x y s : Int32} (h : mnI f wi free L x 8 s.toInt) (hs : rg s 0 9) (hb : bt free s.toNatClampNeg) (hy : y.toInt + (colS f s.toNatClampNeg : Int) = L.toInt) (hlt : y.toInt < x.toInt) : mnI f wi free L y 8 (s.toInt + 1) := by
  have hc := cl_ti hs (by decide)
  have h9 := hs.2
  refine ⟨by have := h.1; omega, fun i hi hi2 => ?_, fun j hj hj2 hb2 => ?_, Or.inr (Or.inr ⟨s.toNatClampNeg, by omega, hb, hy⟩)⟩
  · have := h.2.1 i hi hi2
    omega
  · by_cases e : (j : Int) < s.toInt
    · have := h.2.2.1 j hj e hb2
      omega
    · have : j = s.toNatClampNeg := by omega
      rw [this]
      omega
def rnd (f wi : Nat → Int32) (r L : Nat) : Prop := isL f L ∧ 1 ≤ r ∧ r ≤ L ∧ (∀ i j : Nat, i < 8 → j < 10 → (wi i).toInt = (j : Int) → r ≤ lk f i j) ∧ (∀ i : Nat, i < 8 → (wi i).toInt < 0 → rowS f i + r ≤ L) ∧ (∀ j : Nat, j < 10 → (∀ i : Nat, i < 8 → (wi i).toInt ≠ (j : Int)) → colS f j + r ≤ L) ∧
  (∀ i k : Nat, i < 8 → k < 8 → 0 ≤ (wi i).toInt → (wi i).toInt = (wi k).toInt → i = k) ∧
  (r = L ∨ (∃ i j : Nat, i < 8 ∧ j < 10 ∧ (wi i).toInt = (j : Int) ∧ lk f i j = r) ∨ (∃ i : Nat, i < 8 ∧ (wi i).toInt < 0 ∧ rowS f i + r = L) ∨ ∃ j : Nat, j < 10 ∧ (∀ i : Nat, i < 8 → (wi i).toInt ≠ (j : Int)) ∧ colS f j + r = L)
theorem zo_row {f : Nat → Int32} {a b : Int} (hz : zo f a b) {i : Nat} (hi : i < 8) (h : a ≤ (i : Int)) : rowS f i = 0 := by
  unfold rowS
  rw [sm_congr (g := fun _ => 0) (fun j hj => hz i j hi hj (Or.inl h)), sm_zero]
theorem zo_col {f : Nat → Int32} {a b : Int} (hz : zo f a b) {j : Nat} (hj : j < 10) (h : b ≤ (j : Int)) : colS f j = 0 := by
  unfold colS
  rw [sm_congr (g := fun _ => 0) (fun i hi => hz i j hi hj (Or.inr h)), sm_zero]
theorem lr_rnd {f wi : Nat → Int32} {bS bH0 bH free s m m2 L x y : Int32} {a b : Int} (hwi : ∀ i : Nat, rg (wi i) (-1) 9) (hpos : ∀ k : Nat, isL f k → 0 < k) (hz : zo f a b) (h1 : isL f m.toInt.toNat ∧ 0 ≤ m.toInt ∧ bM (rowS f) bS m a) (h2 : isL f m2.toInt.toNat ∧ 0 ≤ m2.toInt ∧ bM (colS f) bH0 m2 b)
    (H : lrI f wi bS bH0 bH free s.toNatClampNeg) (hs : rg s 8 8) (hL : isL f L.toInt.toNat) (hL0 : 0 ≤ L.toInt) (hm : mnI f wi free L x 8 y.toInt) (hy : 10 ≤ y.toInt) : rnd f wi x.toInt.toNat L.toInt.toNat ∧ 1 ≤ x.toInt := by
  have hs8 : s.toNatClampNeg = 8 := by
    have := cl_ti hs (by decide)
    have := hs.1
    have := hs.2
    omega
  rw [hs8] at H
  have em := isL_one h1.1 hL
  have em2 := isL_one h2.1 hL
  have hLp := hpos _ hL
  obtain ⟨fe, b1, c1, d1, g1, k1⟩ := H
  obtain ⟨M, hM, hE, hLm, hRm⟩ := fe
  have noB : ∀ j, j < 10 → ¬ bt bH j := fun j hj hb => by
    obtain ⟨i, hi⟩ := hRm j hj hb
    have := hE i j hi
    omega
  have rowu : ∀ i, i < 8 → (wi i).toInt < 0 → rowS f i < L.toInt.toNat := by
    intro i hi hneg
    rcases d1 i hi with ⟨_, hn⟩ | ⟨j, _, hj, _⟩
    · by_cases ha : (i : Int) < a
      · have hle := hL.1 i hi
        have : ¬ (rowS f i : Int) = m.toInt := fun e => hn ((h1.2.2 i).mpr ⟨ha, e⟩)
        have := h1.2.1
        omega
      · rw [zo_row hz hi (by omega)]
        exact hLp
    · omega
  have colu : ∀ j, j < 10 → bt free j → colS f j < L.toInt.toNat := by
    intro j hj hf
    by_cases ha : (j : Int) < b
    · have hle := hL.2.1 j hj
      have : ¬ (colS f j : Int) = m2.toInt := fun e => by
        rcases c1 j hj ((h2.2.2 j).mpr ⟨ha, e⟩) with z | z
        · exact noB j hj z
        · exact z hf
      have := h2.2.1
      omega
    · rw [zo_col hz hj (by omega)]
      exact hLp
  have free_of : ∀ j : Nat, j < 10 → (∀ i : Nat, i < 8 → (wi i).toInt ≠ (j : Int)) → bt free j := fun j hj hn => by
    apply Classical.byContradiction
    intro hf
    obtain ⟨i, hi, he⟩ := k1 j hj hf
    exact hn i hi he
  have free_no : ∀ j : Nat, j < 10 → bt free j → ∀ i : Nat, i < 8 → (wi i).toInt ≠ (j : Int) := fun j hj hf i hi he => by
    rcases d1 i hi with ⟨z, _⟩ | ⟨k, hk, hk2, _, hnf⟩
    · omega
    · have : k = j := by omega
      exact hnf (this ▸ hf)
  have limp : ∀ i, i < 8 → 1 ≤ lim f wi L i := by
    intro i hi
    unfold lim
    split
    · rename_i hneg
      have := rowu i hi hneg
      omega
    · rename_i hneg
      rcases d1 i hi with ⟨z, _⟩ | ⟨j, hj, he, hg, _⟩
      · omega
      · rw [he]
        have : 0 < lk f i j := hg
        show (1 : Int) ≤ (lk f i (j : Int).toNat : Nat)
        have e : (j : Int).toNat = j := by omega
        rw [e]
        omega
  have hx1 : 1 ≤ x.toInt := by
    rcases hm.2.2.2 with e | ⟨i, hi, e⟩ | ⟨j, hj, hf, e⟩
    · omega
    · have := limp i hi
      omega
    · have := colu j hj hf
      omega
  refine ⟨⟨hL, by omega, by have := hm.1; omega, fun i j hi hj he => ?_, fun i hi hneg => ?_, fun j hj hn => ?_, fun i k hi hk hp he => g1 i k hi hk hp he, ?_⟩, hx1⟩
  · have q := hm.2.1 i hi (by omega)
    unfold lim at q
    rw [if_neg (by omega), he] at q
    have e : (j : Int).toNat = j := by omega
    rw [e] at q
    omega
  · have q := hm.2.1 i hi (by omega)
    unfold lim at q
    rw [if_pos hneg] at q
    omega
  · have q := hm.2.2.1 j hj (by omega) (free_of j hj hn)
    omega
  · rcases hm.2.2.2 with e | ⟨i, hi, e⟩ | ⟨j, hj, hf, e⟩
    · exact Or.inl (by omega)
    · unfold lim at e
      by_cases hneg : (wi i).toInt < 0
      · rw [if_pos hneg] at e
        exact Or.inr (Or.inr (Or.inl ⟨i, hi, hneg, by omega⟩))
      · rw [if_neg hneg] at e
        have h9 := (hwi i).2
        refine Or.inr (Or.inl ⟨i, (wi i).toInt.toNat, hi, by omega, by omega, by omega⟩)
    · exact Or.inr (Or.inr (Or.inr ⟨j, hj, free_no j hj hf, by omega⟩))
