/-! canGoOn: Hall's two conditions -/
def bt (x : Int32) (i : Nat) : Prop := x.toBitVec.getLsbD i = true
def EG (f : Nat → Int32) (i j : Nat) : Prop := 0 < lk f i j
def gHL (f : Nat → Int32) (fr free set : Int32) : Prop := hallL (EG f) 8 10 fr.toNatClampNeg (bt free) (bt set)
def gHR (f : Nat → Int32) (fr set : Int32) : Prop := hallR (EG f) 8 10 fr.toNatClampNeg (bt set)
theorem eg_ti {f : Nat → Int32} {i j : Nat} : EG f i j ↔ 0 < (f (10 * i + j)).toInt := by
  unfold EG lk
  omega
theorem bt_lt {x : Int32} {n i : Nat} {b : Int} (hx : rg x 0 b) (hb : b < (2 ^ n : Nat)) (h : bt x i) : i < n := by
  apply Classical.byContradiction
  intro hn
  have q := ti_nat (b := x) hx.1
  have h2 : x.toBitVec.toNat.testBit i = true := h
  have h3 := Nat.ge_two_pow_of_testBit h2
  have h4 : 2 ^ n ≤ 2 ^ i := Nat.pow_le_pow_right (by decide) (by omega)
  have := hx.2
  omega
theorem cnt_n {X : Nat → Prop} {m n : Nat} (h : m ≤ n) : cnt X m ≤ cnt X n := by
  rw [← cnt_cut h]
  exact cnt_mono (fun i _ z => z.2)
theorem cnt_n' {X : Nat → Prop} {m n : Nat} (h : m ≤ n) (hX : ∀ i, X i → i < m) : cnt X n = cnt X m := by
  rw [← cnt_cut h]
  exact cnt_congr (fun i _ => ⟨fun z => ⟨hX i z, z⟩, fun z => z.2⟩)
theorem go_L {near f : Nat → Int32} {fr free set : Int32} (hfr : rg fr 0 8) (hs : rg set 0 255) (h : ∀ i : Nat, i < 8 → nOK near f fr free i 10) (hlo : ∀ i : Nat, bt set i → fr.toInt ≤ (i : Int)) :
    (∀ reach : Nat → Int32, cvI near reach set (set.toInt + 1) → gHL f fr free set) ∧ (cvN near set → ¬ gHL f fr free set) := by
  have hfc := cl_ti hfr (by decide)
  have h8 : ∀ i, bt set i → i < 8 := fun i hi => bt_lt hs (n := 8) (by decide) hi
  have hn : ∀ i j, i < 10 → set.toBitVec.getLsbD i = true → ((near i).toBitVec.getLsbD j = true ↔ j < 10 ∧ (bt free j ∧ EG f i j)) := by
    intro i j _ hb
    rw [h i (h8 i hb) j, eg_ti]
    have := hlo i hb
    exact ⟨fun z => ⟨z.2.1, z.2.2.2.1, z.2.2.2.2⟩, fun z => ⟨by omega, z.1, this, z.2.1, z.2.2⟩⟩
  refine ⟨fun reach hc X hX => ?_, fun hc hh => ?_⟩
  · have q := cv_hall (Ed := fun i j => bt free j ∧ EG f i j) (b := 10) (by decide) hc (rg_w hs (by decide)) hn (X := fun i => X i ∧ i < 8) (fun i hi => ⟨by omega, (hX i hi.1).1⟩)
    have q1 : cnt X 8 ≤ cnt (fun i => X i ∧ i < 8) 10 := by
      rw [cnt_n' (X := fun i => X i ∧ i < 8) (m := 8) (by decide) (fun i z => z.2)]
      exact cnt_mono (fun i hi z => ⟨z, hi⟩)
    refine Nat.le_trans q1 (Nat.le_trans q (cnt_mono (fun j _ z => ?_)))
    obtain ⟨i, _, hx, hf, he⟩ := z
    exact ⟨⟨i, hx.2, hx.1, he⟩, hf⟩
  · obtain ⟨X, hX, hlt⟩ := cv_not (Ed := fun i j => bt free j ∧ EG f i j) (b := 10) (by decide) hc (rg_w hs (by decide)) hn
    have q := hh X (fun i hi => ⟨(hX i hi).2, by have := hlo i (hX i hi).2; omega⟩)
    rw [cnt_n' (X := X) (m := 8) (by decide) (fun i z => h8 i (hX i z).2)] at hlt
    have q2 : cnt (fun j => nb (EG f) 8 X j ∧ bt free j) 10 ≤ cnt (fun j => ∃ i, i < 10 ∧ X i ∧ bt free j ∧ EG f i j) 10 := cnt_mono (fun j _ z => by
      obtain ⟨⟨i, hi, hx, he⟩, hf⟩ := z
      exact ⟨i, by omega, hx, hf, he⟩)
    omega
def nHK (near lack : Nat → Int32) (fr : Int32) (j : Nat) (s : Int) : Prop := ∀ i : Nat, (near j).toBitVec.getLsbD i = true ↔ ((i : Int) < s ∧ i < 8 ∧ fr.toInt ≤ (i : Int) ∧ 0 < (lack (10 * i + j)).toInt)
theorem goh_0 {near lack : Nat → Int32} {fr : Int32} {s : Nat} : nHK (upd near s 0) lack fr s fr.toInt := by
  intro j
  have h : upd near s 0 s = 0 := pk_us
  rw [h]
  have hz : (0 : Int32).toBitVec = 0#32 := rfl
  rw [hz]
  constructor
  · intro h1
    simp at h1
  · intro h1
    have := h1.1
    have := h1.2.2.1
    omega
theorem goh_keep {near lack : Nat → Int32} {fr r : Int32} {s i : Nat} {h : Int} (hn : nHK near lack fr i h) (e : i ≠ s) : nHK (upd near s r) lack fr i h := by
  intro j
  have h1 : upd near s r i = near i := pk_un e
  rw [h1]
  exact hn j
theorem goh_done {near lack : Nat → Int32} {fr : Int32} {j : Nat} {s : Int} (hn : nHK near lack fr j s) (hd : 8 ≤ s) : nHK near lack fr j 8 := by
  intro i
  rw [hn i]
  exact ⟨fun z => ⟨by omega, z.2⟩, fun z => ⟨by omega, z.2⟩⟩
theorem goh_step {near lack : Nat → Int32} {fr v r : Int32} {j k : Nat} (hn : nHK near lack fr j (k : Int)) (hk : k < 8) (hfr : fr.toInt ≤ (k : Int))
    (hv : (v = 1 <<< (nI k &&& 31) ∧ 0 < (lack (10 * k + j)).toInt) ∨ (v = 0 ∧ ¬ 0 < (lack (10 * k + j)).toInt)) (er : r = near j ||| v) : nHK (upd near j r) lack fr j ((k : Int) + 1) := by
  intro i
  have h1 : upd near j r j = r := pk_us
  rw [h1, er, Int32.toBitVec_or, BitVec.getLsbD_or, Bool.or_eq_true, hn i]
  rcases hv with ⟨hv, hl⟩ | ⟨hv, hno⟩
  · have hvb : v.toBitVec = BitVec.twoPow 32 k := by rw [hv]; exact tw_t ⟨k, by omega⟩
    rw [hvb, BitVec.getLsbD_twoPow]
    simp only [Bool.and_eq_true, decide_eq_true_eq]
    constructor
    · rintro (⟨h2, h3, h4, h5⟩ | ⟨h2, h3⟩)
      · exact ⟨by omega, h3, h4, h5⟩
      · have : i = k := by omega
        subst this
        exact ⟨by omega, hk, hfr, hl⟩
    · rintro ⟨h2, h3, h4, h5⟩
      by_cases e : i = k
      · exact Or.inr ⟨by omega, by omega⟩
      · exact Or.inl ⟨by omega, h3, h4, h5⟩
  · have hz : v.toBitVec = 0#32 := by rw [hv]; rfl
    rw [hz]
    constructor
    · rintro (⟨h2, h3, h4, h5⟩ | h2)
      · exact ⟨by omega, h3, h4, h5⟩
      · simp at h2
    · rintro ⟨h2, h3, h4, h5⟩
      by_cases e : i = k
      · subst e
        exact absurd h5 hno
      · exact Or.inl ⟨by omega, h3, h4, h5⟩
theorem go_R {near f : Nat → Int32} {fr set : Int32} (hfr : rg fr 0 8) (hs : rg set 0 1023) (h : ∀ j : Nat, j < 10 → nHK near f fr j 8) :
    (∀ reach : Nat → Int32, cvI near reach set (set.toInt + 1) → gHR f fr set) ∧ (cvN near set → ¬ gHR f fr set) := by
  have hfc := cl_ti hfr (by decide)
  have hn : ∀ j i, j < 10 → set.toBitVec.getLsbD j = true → ((near j).toBitVec.getLsbD i = true ↔ i < 8 ∧ (fr.toNatClampNeg ≤ i ∧ EG f i j)) := by
    intro j i hj _
    rw [h j hj i, eg_ti]
    exact ⟨fun z => ⟨z.2.1, by have := z.2.2.1; omega, z.2.2.2⟩, fun z => ⟨by omega, z.1, by have := z.2.1; omega, z.2.2⟩⟩
  have h10 : ∀ j, bt set j → j < 10 := fun j hj => bt_lt hs (n := 10) (by decide) hj
  refine ⟨fun reach hc Y hY => ?_, fun hc hh => ?_⟩
  · have q := cv_hall (Ed := fun j i => fr.toNatClampNeg ≤ i ∧ EG f i j) (b := 8) (by decide) hc hs hn (X := Y) (fun j hj => ⟨h10 j (hY j hj), hY j hj⟩)
    refine Nat.le_trans q (cnt_mono (fun i _ z => ?_))
    obtain ⟨j, hj, hy, hf, he⟩ := z
    exact ⟨⟨j, hj, hy, he⟩, hf⟩
  · obtain ⟨Y, hY, hlt⟩ := cv_not (Ed := fun j i => fr.toNatClampNeg ≤ i ∧ EG f i j) (b := 8) (by decide) hc hs hn
    have q := hh Y (fun j hj => (hY j hj).2)
    have q2 : cnt (fun i => (∃ j, j < 10 ∧ Y j ∧ EG f i j) ∧ fr.toNatClampNeg ≤ i) 8 ≤ cnt (fun i => ∃ j, j < 10 ∧ Y j ∧ fr.toNatClampNeg ≤ i ∧ EG f i j) 8 := cnt_mono (fun i _ z => by
      obtain ⟨⟨j, hj, hy, he⟩, hf⟩ := z
      exact ⟨j, hj, hy, hf, he⟩)
    omega
/-- all masks before s stand, and that of s so far -/
def gA (near f : Nat → Int32) (fr free s : Int32) : Prop := ∀ i : Nat, (i : Int) < s.toInt → nOK near f fr free i 10
def gB (near f : Nat → Int32) (fr free s h : Int32) : Prop := gA near f fr free s ∧ nOK near f fr free s.toNatClampNeg h.toInt
def gV (f : Nat → Int32) (free s h v : Int32) : Prop := (v = 1 <<< (h &&& 31) ∧ bt free h.toNatClampNeg ∧ 0 < (f (10 * s.toNatClampNeg + h.toNatClampNeg)).toInt) ∨ (v = 0 ∧ ¬ (bt free h.toNatClampNeg ∧ 0 < (f (10 * s.toNatClampNeg + h.toNatClampNeg)).toInt))
theorem gA_0 {near f : Nat → Int32} {fr free : Int32} : gA near f fr free 0 := fun i hi => by
  have h0 : (0 : Int32).toInt = 0 := rfl
  omega
theorem gB_0 {near f : Nat → Int32} {fr free s : Int32} (h : gA near f fr free s) (hs : rg s 0 7) : gB (upd near s.toNatClampNeg 0) f fr free s 0 := by
  refine ⟨fun i hi => go_keep (h i hi) (fun e => ?_), go_0⟩
  have := cl_ti hs (by decide)
  omega
theorem gB_done {near f : Nat → Int32} {fr free s s2 h : Int32} (hB : gB near f fr free s h) (hs : rg s 0 7) (hd : 10 ≤ h.toInt ∨ s.toInt < fr.toInt) (e : s2 = s + 1) : gA near f fr free s2 := by
  have hc := cl_ti hs (by decide)
  intro i hi
  rw [(inc_nat hs (by decide) e).2] at hi
  by_cases e : (i : Int) < s.toInt
  · exact hB.1 i e
  · have : i = s.toNatClampNeg := by omega
    rw [this]
    exact go_done hB.2 (by omega)
theorem gB_step {near f : Nat → Int32} {fr free s h h2 v x r : Int32} (hB : gB near f fr free s h) (hs : rg s 0 7) (hh : rg h 0 9) (hfr : fr.toInt ≤ s.toInt) (hv : gV f free s h v) (ex : x = near s.toNatClampNeg) (er : r = x ||| v) (e : h2 = h + 1) : gB (upd near s.toNatClampNeg r) f fr free s h2 := by
  have hc := cl_ti hs (by decide)
  have hhc := cl_ti hh (by decide)
  obtain ⟨k, rfl, q1, q2, q0⟩ := nI_rg hh (by omega)
  have hkc : (nI k).toNatClampNeg = k := nI_clamp (by omega)
  have hkt : (nI k).toInt = (k : Int) := nI_toInt (by omega)
  refine ⟨fun i hi => go_keep (hB.1 i hi) (fun e => by omega), ?_⟩
  have h3 := hB.2
  rw [hkt] at h3
  rw [(inc_nat hh (by decide) e).2, hkt]
  unfold gV at hv
  rw [hkc] at hv
  exact go_step h3 (by omega) (by omega) hv (by rw [er, ex])
theorem gA_all {near f : Nat → Int32} {fr free s : Int32} (h : gA near f fr free s) (hs : 8 ≤ s.toInt) : ∀ i : Nat, i < 8 → nOK near f fr free i 10 := fun i hi => h i (by omega)
def hA_ (near f : Nat → Int32) (fr s : Int32) : Prop := ∀ j : Nat, (j : Int) < s.toInt → nHK near f fr j 8
def hB_ (near f : Nat → Int32) (fr s h : Int32) : Prop := hA_ near f fr s ∧ nHK near f fr s.toNatClampNeg h.toInt ∧ fr.toInt ≤ h.toInt
def hV_ (f : Nat → Int32) (s h v : Int32) : Prop := (v = 1 <<< (h &&& 31) ∧ 0 < (f (10 * h.toNatClampNeg + s.toNatClampNeg)).toInt) ∨ (v = 0 ∧ ¬ 0 < (f (10 * h.toNatClampNeg + s.toNatClampNeg)).toInt)
theorem hA_0 {near f : Nat → Int32} {fr : Int32} : hA_ near f fr 0 := fun i hi => by
  have h0 : (0 : Int32).toInt = 0 := rfl
  omega
theorem hB_0 {near f : Nat → Int32} {fr s : Int32} (h : hA_ near f fr s) (hs : rg s 0 9) : hB_ (upd near s.toNatClampNeg 0) f fr s fr := by
  refine ⟨fun i hi => goh_keep (h i hi) (fun e => ?_), goh_0, Int.le_refl _⟩
  have := cl_ti hs (by decide)
  omega
theorem hB_done {near f : Nat → Int32} {fr s s2 h : Int32} (hB : hB_ near f fr s h) (hs : rg s 0 9) (hd : 8 ≤ h.toInt) (e : s2 = s + 1) : hA_ near f fr s2 := by
  have hc := cl_ti hs (by decide)
  intro i hi
  rw [(inc_nat hs (by decide) e).2] at hi
  by_cases e : (i : Int) < s.toInt
  · exact hB.1 i e
  · have : i = s.toNatClampNeg := by omega
    rw [this]
    exact goh_done hB.2.1 hd
theorem hB_step {near f : Nat → Int32} {fr s h h2 v x r : Int32} (hB : hB_ near f fr s h) (hs : rg s 0 9) (hh : rg h 0 7) (hv : hV_ f s h v) (ex : x = near s.toNatClampNeg) (er : r = x ||| v) (e : h2 = h + 1) : hB_ (upd near s.toNatClampNeg r) f fr s h2 := by
  have hc := cl_ti hs (by decide)
  obtain ⟨k, rfl, q1, q2, q0⟩ := nI_rg hh (by omega)
  have hkc : (nI k).toNatClampNeg = k := nI_clamp (by omega)
  have hkt : (nI k).toInt = (k : Int) := nI_toInt (by omega)
  have hfr := hB.2.2
  rw [hkt] at hfr
  refine ⟨fun i hi => goh_keep (hB.1 i hi) (fun e => by omega), ?_, ?_⟩
  · have h3 := hB.2.1
    rw [hkt] at h3
    rw [(inc_nat hh (by decide) e).2, hkt]
    unfold hV_ at hv
    rw [hkc] at hv
    exact goh_step h3 (by omega) hfr hv (by rw [er, ex])
  · rw [(inc_nat hh (by decide) e).2, hkt]
    omega
theorem hA_all {near f : Nat → Int32} {fr s : Int32} (h : hA_ near f fr s) (hs : 10 ≤ s.toInt) : ∀ j : Nat, j < 10 → nHK near f fr j 8 := fun i hi => h i (by omega)
theorem bit_hit {m low x y : Int32} (hl : rg low 0 9) (e1 : y = m >>> (low &&& 31)) (e2 : x = y &&& 1) (c : x = 1) : bt m low.toNatClampNeg := cv_hit hl e1 e2 (by rw [c]; decide)
theorem bit_no {m low x y : Int32} (hl : rg low 0 9) (e1 : y = m >>> (low &&& 31)) (e2 : x = y &&& 1) (c : ¬ x = 1) : ¬ bt m low.toNatClampNeg := by
  intro h
  have hb := cv_bit hl e1 e2
  have h2 : m.toBitVec.getLsbD low.toNatClampNeg = true := h
  rw [h2] at hb
  exact c hb
theorem bit_0 {m low x y : Int32} (hl : rg low 0 9) (e1 : y = m >>> (low &&& 31)) (e2 : x = y &&& 1) (c : x = 0) : ¬ bt m low.toNatClampNeg := bit_no hl e1 e2 (by rw [c]; decide)
