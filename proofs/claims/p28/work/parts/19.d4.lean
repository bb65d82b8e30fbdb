/-! a round's end: the greatest falls by as much, and either a pair is done or one more has the greatest -/
theorem cnt_lt {p q : Nat → Prop} {n i : Nat} (h : ∀ k, k < n → p k → q k) (hi : i < n) (hq : q i) (hp : ¬ p i) : cnt p n < cnt q n := by
  rw [cnt_del hi hq]
  exact Nat.lt_succ_of_le (cnt_mono (fun k hk z => ⟨h k hk z, fun e => hp (e ▸ z)⟩))
theorem sm_lt {g h : Nat → Nat} {n i : Nat} (hle : ∀ k, k < n → g k ≤ h k) (hi : i < n) (hlt : g i < h i) : sm g n < sm h n := by
  induction n with
  | zero => omega
  | succ n ih =>
    show sm g n + g n < sm h n + h n
    by_cases e : i = n
    · subst e
      have := sm_le (f := g) (g := h) (n := i) (fun k hk => hle k (by omega))
      omega
    · have := ih (fun k hk => hle k (by omega)) (by omega)
      have := hle n (by omega)
      omega
theorem sm_one {g h : Nat → Nat} {n i r : Nat} (hi : i < n) (hne : ∀ k, k < n → k ≠ i → g k = h k) (he : g i + r = h i) : sm g n + r = sm h n := by
  induction n with
  | zero => omega
  | succ n ih =>
    show sm g n + g n + r = sm h n + h n
    by_cases e : i = n
    · subst e
      rw [sm_congr (f := g) (g := h) (fun k hk => hne k (by omega) (by omega))]
      omega
    · have := ih (by omega) (fun k hk => hne k (by omega))
      have := hne n (by omega) (by omega)
      omega
/-- what is left of pairs, and of those who haven't the greatest -/
noncomputable def mu_ (f : Nat → Int32) (L : Nat) : Nat := sm (fun i => cnt (EG f i) 10) 8 + cnt (fun i => rowS f i ≠ L) 8 + cnt (fun j => colS f j ≠ L) 10
theorem cnt_le_n (p : Nat → Prop) (n : Nat) : cnt p n ≤ n := by
  induction n with
  | zero => exact Nat.le_refl 0
  | succ n ih =>
    show cnt p n + one (p n) ≤ n + 1
    by_cases h : p n
    · rw [one_t h]; omega
    · rw [one_f h]; omega
theorem mu_le (f : Nat → Int32) (L : Nat) : mu_ f L ≤ 98 := by
  have h1 : sm (fun i => cnt (EG f i) 10) 8 ≤ 8 * 10 := sm_bd (fun i _ => cnt_le_n _ _)
  have h2 := cnt_le_n (fun i => rowS f i ≠ L) 8
  have h3 := cnt_le_n (fun j => colS f j ≠ L) 10
  unfold mu_
  omega
/-- what works leaves -/
def wks (f f2 wi : Nat → Int32) (r : Nat) : Prop := ∀ i j : Nat, i < 8 → j < 10 → ((wi i).toInt = (j : Int) → lk f2 i j + r = lk f i j) ∧ ((wi i).toInt ≠ (j : Int) → lk f2 i j = lk f i j)
theorem wk_row {f f2 wi : Nat → Int32} {r : Nat} (hw : wks f f2 wi r) {i : Nat} (hi : i < 8) (h9 : (wi i).toInt ≤ 9) : (0 ≤ (wi i).toInt → rowS f2 i + r = rowS f i) ∧ ((wi i).toInt < 0 → rowS f2 i = rowS f i) := by
  refine ⟨fun h0 => ?_, fun hn => ?_⟩
  · exact sm_one (i := (wi i).toInt.toNat) (by omega) (fun k hk hne => (hw i k hi hk).2 (by omega)) ((hw i _ hi (by omega)).1 (by omega))
  · exact sm_congr (fun k hk => (hw i k hi hk).2 (by omega))
theorem wk_col {f f2 wi : Nat → Int32} {r : Nat} (hw : wks f f2 wi r) (hinj : ∀ i k : Nat, i < 8 → k < 8 → 0 ≤ (wi i).toInt → (wi i).toInt = (wi k).toInt → i = k) {j : Nat} (hj : j < 10) : (∀ i : Nat, i < 8 → (wi i).toInt = (j : Int) → colS f2 j + r = colS f j) ∧ ((∀ i : Nat, i < 8 → (wi i).toInt ≠ (j : Int)) → colS f2 j = colS f j) := by
  refine ⟨fun i hi he => ?_, fun hn => ?_⟩
  · exact sm_one (g := fun i => lk f2 i j) (h := fun i => lk f i j) (i := i) hi (fun k hk hne => (hw k j hk hj).2 (fun e => hne (hinj k i hk hi (by omega) (by omega)))) ((hw i j hi hj).1 he)
  · exact sm_congr (fun k hk => (hw k j hk hj).2 (hn k hk))
theorem day_step {f f2 wi : Nat → Int32} {r L : Nat} (h : rnd f wi r L) (hw : wks f f2 wi r) (hwi : ∀ i : Nat, rg (wi i) (-1) 9) : isL f2 (L - r) ∧ (r < L → mu_ f2 (L - r) < mu_ f L) := by
  obtain ⟨hL, h1, hrL, hp, hru, hcu, hinj, hat⟩ := h
  have rowM : ∀ i : Nat, i < 8 → 0 ≤ (wi i).toInt → rowS f2 i + r = rowS f i := fun i hi => (wk_row hw hi (hwi i).2).1
  have rowU : ∀ i : Nat, i < 8 → (wi i).toInt < 0 → rowS f2 i = rowS f i := fun i hi => (wk_row hw hi (hwi i).2).2
  have colM : ∀ j : Nat, j < 10 → ∀ i : Nat, i < 8 → (wi i).toInt = (j : Int) → colS f2 j + r = colS f j := fun j hj => (wk_col hw hinj hj).1
  have colU : ∀ j : Nat, j < 10 → (∀ i : Nat, i < 8 → (wi i).toInt ≠ (j : Int)) → colS f2 j = colS f j := fun j hj => (wk_col hw hinj hj).2
  have colc : ∀ j : Nat, (∃ i : Nat, i < 8 ∧ (wi i).toInt = (j : Int)) ∨ (∀ i : Nat, i < 8 → (wi i).toInt ≠ (j : Int)) := fun j => by
    by_cases e : ∃ i : Nat, i < 8 ∧ (wi i).toInt = (j : Int)
    · exact Or.inl e
    · exact Or.inr (fun i hi he => e ⟨i, hi, he⟩)
  have rowB : ∀ i, i < 8 → rowS f i = L → rowS f2 i = L - r := fun i hi e => by
    by_cases hn : (wi i).toInt < 0
    · have := hru i hi hn
      omega
    · have := rowM i hi (by omega)
      omega
  have colB : ∀ j, j < 10 → colS f j = L → colS f2 j = L - r := fun j hj e => by
    rcases colc j with ⟨i, hi, he⟩ | hn
    · have := colM j hj i hi he
      omega
    · have := hcu j hj hn
      omega
  have hL2 : isL f2 (L - r) := by
    refine ⟨fun i hi => ?_, fun j hj => ?_, ?_⟩
    · have := hL.1 i hi
      by_cases hn : (wi i).toInt < 0
      · have := hru i hi hn
        have := rowU i hi hn
        omega
      · have := rowM i hi (by omega)
        omega
    · have := hL.2.1 j hj
      rcases colc j with ⟨i, hi, he⟩ | hn
      · have := colM j hj i hi he
        omega
      · have := hcu j hj hn
        have := colU j hj hn
        omega
    · rcases hL.2.2 with e | ⟨i, hi, e⟩ | ⟨j, hj, e⟩
      · omega
      · exact Or.inr (Or.inl ⟨i, hi, rowB i hi e⟩)
      · exact Or.inr (Or.inr ⟨j, hj, colB j hj e⟩)
  refine ⟨hL2, fun hlt => ?_⟩
  have egm : ∀ i, i < 8 → ∀ j, j < 10 → EG f2 i j → EG f i j := fun i hi j hj h => by
    have h2 : 0 < lk f2 i j := h
    show 0 < lk f i j
    by_cases e : (wi i).toInt = (j : Int)
    · have := (hw i j hi hj).1 e
      omega
    · have := (hw i j hi hj).2 e
      omega
  have cm : ∀ i, i < 8 → cnt (EG f2 i) 10 ≤ cnt (EG f i) 10 := fun i hi => cnt_mono (fun j hj => egm i hi j hj)
  have a1 : sm (fun i => cnt (EG f2 i) 10) 8 ≤ sm (fun i => cnt (EG f i) 10) 8 := sm_le (fun i hi => cm i hi)
  have rm : ∀ i, i < 8 → rowS f2 i ≠ L - r → rowS f i ≠ L := fun i hi hne e => hne (rowB i hi e)
  have cmm : ∀ j, j < 10 → colS f2 j ≠ L - r → colS f j ≠ L := fun j hj hne e => hne (colB j hj e)
  have a2 : cnt (fun i => rowS f2 i ≠ L - r) 8 ≤ cnt (fun i => rowS f i ≠ L) 8 := cnt_mono rm
  have a3 : cnt (fun j => colS f2 j ≠ L - r) 10 ≤ cnt (fun j => colS f j ≠ L) 10 := cnt_mono cmm
  unfold mu_
  rcases hat with e | ⟨i, j, hi, hj, he, hr⟩ | ⟨i, hi, hn, he⟩ | ⟨j, hj, hn, he⟩
  · omega
  · have : sm (fun i => cnt (EG f2 i) 10) 8 < sm (fun i => cnt (EG f i) 10) 8 := by
      refine sm_lt (fun i hi => cm i hi) hi (cnt_lt (fun k hk => egm i hi k hk) hj ?_ ?_)
      · show 0 < lk f i j
        omega
      · have := (hw i j hi hj).1 he
        show ¬ 0 < lk f2 i j
        omega
    omega
  · have : cnt (fun i => rowS f2 i ≠ L - r) 8 < cnt (fun i => rowS f i ≠ L) 8 := by
      refine cnt_lt rm hi (show rowS f i ≠ L by omega) (fun hz => hz ?_)
      rw [rowU i hi hn]
      omega
    omega
  · have : cnt (fun j => colS f2 j ≠ L - r) 10 < cnt (fun j => colS f j ≠ L) 10 := by
      refine cnt_lt cmm hj (show colS f j ≠ L by omega) (fun hz => hz ?_)
      rw [colU j hj hn]
      omega
    omega
theorem wk_ok {f f2 wi : Nat → Int32} {r : Nat} {a b : Int} (hw : wks f f2 wi r) (hz : zo f a b) : zo f2 a b := fun i j hi hj h => by
  have := hz i j hi hj h
  by_cases e : (wi i).toInt = (j : Int)
  · have := (hw i j hi hj).1 e
    omega
  · have := (hw i j hi hj).2 e
    omega
/-- before each round of the day: n rounds stand -/
def dayM (f : Nat → Int32) (n : Int32) : Prop := ∀ L : Nat, isL f L → 0 < L → n.toInt + (mu_ f L : Int) ≤ 98
theorem dayM_0 {f : Nat → Int32} : dayM f 0 := fun L _ _ => by
  have := mu_le f L
  have h0 : (0 : Int32).toInt = 0 := rfl
  omega
theorem dayM_n {f : Nat → Int32} {n x : Int32} (h : dayM f n) (hx : isL f x.toInt.toNat) (hp : 0 < x.toInt) : n.toInt ≤ 98 := by
  have := h _ hx (by omega)
  omega
theorem dayM_step {f f2 wi : Nat → Int32} {n n2 : Int32} {r L : Nat} (h : dayM f n) (hn : rg n 0 98) (e : n2 = n + 1) (hr : rnd f wi r L) (hw : wks f f2 wi r) (hwi : ∀ i : Nat, rg (wi i) (-1) 9) : dayM f2 n2 := by
  obtain ⟨q1, q2⟩ := day_step hr hw hwi
  intro L2 hL2 hp
  have e2 := isL_one q1 hL2
  have := q2 (by omega)
  have := h L hr.1 (by omega)
  rw [(inc_nat hn (by decide) e).2, ← e2]
  omega
theorem pos_of {f : Nat → Int32} {x : Int32} (hx : isL f x.toInt.toNat) (hp : 0 < x.toInt) : ∀ k : Nat, isL f k → 0 < k := fun k hk => by
  have := isL_one hx hk
  omega
/-- works, smith by smith -/
def wkI (f g wi : Nat → Int32) (q : Int32) (n : Int) : Prop := ∀ k : Nat, k < 80 → g k = if ((k / 10 : Nat) : Int) < n ∧ (wi (k / 10)).toInt = ((k % 10 : Nat) : Int) then f k - q else f k
theorem wkI_0 {f wi : Nat → Int32} {q : Int32} : wkI f f wi q (0 : Int32).toInt := fun k _ => by
  have h0 : (0 : Int32).toInt = 0 := rfl
  rw [if_neg (fun z => by have := z.1; omega)]
theorem wkI_no {f g wi : Nat → Int32} {q s x : Int32} (h : wkI f g wi q s.toInt) (hs : rg s 0 7) (ex : x = wi s.toNatClampNeg) (hn : x.toInt < 0) : wkI f g wi q (s.toInt + 1) := fun k hk => by
  have hc := cl_ti hs (by decide)
  rw [h k hk]
  by_cases e : k / 10 = s.toNatClampNeg
  · rw [if_neg (fun z => by have := z.1; omega), if_neg (fun z => by have := z.2; rw [e, ← ex] at this; omega)]
  · by_cases e2 : ((k / 10 : Nat) : Int) < s.toInt ∧ (wi (k / 10)).toInt = ((k % 10 : Nat) : Int)
    · rw [if_pos e2, if_pos ⟨by have := e2.1; omega, e2.2⟩]
    · rw [if_neg e2, if_neg (fun z => e2 ⟨by have := z.1; omega, z.2⟩)]
theorem wkI_one {f g wi : Nat → Int32} {q s x y z v r : Int32} (h : wkI f g wi q s.toInt) (hs : rg s 0 7) (ex : x = wi s.toNatClampNeg) (hx : rg x 0 9) (ey : y = 10 * s) (ez : z = y + x) (ev : v = g z.toNatClampNeg) (er : r = v - q) : wkI f (upd g z.toNatClampNeg r) wi q (s.toInt + 1) := fun k hk => by
  have hc := cl_ti hs (by decide)
  have hxc := cl_ti hx (by decide)
  obtain ⟨ea, h8, h10⟩ := ad_cell hs hx ey ez
  by_cases e : k = z.toNatClampNeg
  · subst e
    have e1 : upd g z.toNatClampNeg r z.toNatClampNeg = r := pk_us
    rw [e1]
    have ed : z.toNatClampNeg / 10 = s.toNatClampNeg := by omega
    have em : z.toNatClampNeg % 10 = x.toNatClampNeg := by omega
    rw [if_pos ⟨by omega, by rw [ed, em, ← ex]; omega⟩, er, ev, h _ hk, if_neg (fun z => by have := z.1; omega)]
  · have e1 : upd g z.toNatClampNeg r k = g k := pk_un e
    rw [e1, h k hk]
    by_cases e2 : ((k / 10 : Nat) : Int) < s.toInt ∧ (wi (k / 10)).toInt = ((k % 10 : Nat) : Int)
    · rw [if_pos e2, if_pos ⟨by have := e2.1; omega, e2.2⟩]
    · rw [if_neg e2, if_neg (fun w => by
        by_cases e3 : k / 10 = s.toNatClampNeg
        · have := w.2
          rw [e3, ← ex] at this
          omega
        · exact e2 ⟨by have := w.1; omega, w.2⟩)]
theorem wkI_end {f g wi : Nat → Int32} {q s : Int32} (h : wkI f g wi q s.toInt) (hs : 8 ≤ s.toInt) : wkI f g wi q 8 := fun k hk => by
  rw [h k hk]
  by_cases e2 : ((k / 10 : Nat) : Int) < s.toInt ∧ (wi (k / 10)).toInt = ((k % 10 : Nat) : Int)
  · rw [if_pos e2, if_pos ⟨by omega, e2.2⟩]
  · rw [if_neg e2, if_neg (fun w => e2 ⟨by omega, w.2⟩)]
theorem wk_of {f g wi : Nat → Int32} {q : Int32} {r L : Nat} (h : wkI f g wi q 8) (hf : ok99 f) (hr : rnd f wi r L) (hq : 0 ≤ q.toInt) (hqr : q.toInt ≤ (r : Int)) (hwi : ∀ i : Nat, rg (wi i) (-1) 9) : wks f g wi q.toInt.toNat ∧ ok99 g := by
  have key : ∀ i j : Nat, i < 8 → j < 10 → (wi i).toInt = (j : Int) → (g (10 * i + j)).toInt = (f (10 * i + j)).toInt - q.toInt ∧ q.toInt ≤ (f (10 * i + j)).toInt := by
    intro i j hi hj he
    have e1 : (10 * i + j) / 10 = i := by omega
    have e2 : (10 * i + j) % 10 = j := by omega
    have q1 := h (10 * i + j) (by omega)
    rw [e1, e2, if_pos ⟨by omega, he⟩] at q1
    have q2 := hr.2.2.2.1 i j hi hj he
    obtain ⟨q3, q4⟩ := lk_ti hf hi hj
    rw [q1, ti_sub (by omega) (by omega)]
    omega
  have keyn : ∀ i j : Nat, i < 8 → j < 10 → (wi i).toInt ≠ (j : Int) → g (10 * i + j) = f (10 * i + j) := by
    intro i j hi hj he
    have e1 : (10 * i + j) / 10 = i := by omega
    have e2 : (10 * i + j) % 10 = j := by omega
    have q1 := h (10 * i + j) (by omega)
    rw [e1, e2, if_neg (fun z => he z.2)] at q1
    exact q1
  refine ⟨fun i j hi hj => ⟨fun he => ?_, fun he => ?_⟩, fun k hk => ?_⟩
  · obtain ⟨q1, q2⟩ := key i j hi hj he
    unfold lk
    omega
  · unfold lk
    rw [keyn i j hi hj he]
  · have e1 : 10 * (k / 10) + k % 10 = k := by omega
    by_cases he : (wi (k / 10)).toInt = ((k % 10 : Nat) : Int)
    · obtain ⟨q1, q2⟩ := key (k / 10) (k % 10) (by omega) (by omega) he
      rw [e1] at q1 q2
      have := hf k hk
      exact ⟨by omega, by have := this.2; omega⟩
    · have := keyn (k / 10) (k % 10) (by omega) (by omega) he
      rw [e1] at this
      rw [this]
      exact hf k hk
theorem eg_ne {f : Nat → Int32} {s h x y z : Int32} (hf : ok99 f) (hs : rg s 0 7) (hh : rg h 0 9) (ex : x = 10 * s) (ey : y = x + h) (ez : z = f y.toNatClampNeg) (hne : ¬ z = 0) : EG f s.toNatClampNeg h.toNatClampNeg := by
  obtain ⟨ea, h8, h10⟩ := ad_cell hs hh ex ey
  rw [eg_ti, ← ea, ← ez]
  have q := hf y.toNatClampNeg (by omega)
  rw [← ez] at q
  have : z.toInt ≠ 0 := fun e => hne (Int32.toInt_inj.mp e)
  have := q.1
  omega
theorem eg_no {f : Nat → Int32} {s h x y z : Int32} (_hf : ok99 f) (hs : rg s 0 7) (hh : rg h 0 9) (ex : x = 10 * s) (ey : y = x + h) (ez : z = f y.toNatClampNeg) (he : z = 0) : ¬ EG f s.toNatClampNeg h.toNatClampNeg := by
  obtain ⟨ea, h8, h10⟩ := ad_cell hs hh ex ey
  rw [eg_ti, ← ea, ← ez, he]
  decide
theorem lim_neg {f wi : Nat → Int32} {L w x y s : Int32} (ew : w = wi s.toNatClampNeg) (hw : w.toInt < (0 : Int32).toInt) (ex : x = L - y) (hL : rg L 0 990) (hy0 : rg y 0 990) (hy : y.toInt = (rowS f s.toNatClampNeg : Nat)) : x.toInt = lim f wi L s.toNatClampNeg := by
  have h0 : (0 : Int32).toInt = 0 := rfl
  have e := tiS ex hL hy0 (by decide)
  unfold lim
  rw [← ew, if_pos (by omega)]
  omega
theorem lim_pos {f wi : Nat → Int32} {L w x y z s : Int32} (hf : ok99 f) (ew : w = wi s.toNatClampNeg) (hs : rg s 0 7) (hw : rg w 0 9) (ey : y = 10 * s) (ez : z = y + w) (ex : x = f z.toNatClampNeg) : x.toInt = lim f wi L s.toNatClampNeg := by
  obtain ⟨ea, h8, h10⟩ := ad_cell hs hw ey ez
  have h0 := hw.1
  unfold lim
  rw [← ew, if_neg (by omega), ex, ea]
  exact (lk_ti hf h8 h10).1
