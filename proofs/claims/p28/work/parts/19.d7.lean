/-! the reference's flow: ways end, and each way that grows takes from what leaves node 20 -/
def phi (f : Nat → Int32) : Nat := sm (fun n => (f (440 + n)).toInt.toNat) 22
def bfs (cf : Nat → Int32) (ρ : Nat → Nat) : Prop := 0 ≤ (cf 20).toInt ∧ ∀ v : Nat, v < 22 → 0 ≤ (cf v).toInt → v ≠ 20 → 0 ≤ (cf (cf v).toNatClampNeg).toInt ∧ ρ (cf v).toNatClampNeg < ρ v
def bq_ (cf qq : Nat → Int32) (many : Int32) : Prop := (∃ ρ : Nat → Nat, bfs cf ρ) ∧ (∀ j : Nat, (j : Int) < many.toInt → 0 ≤ (cf (qq j).toNatClampNeg).toInt) ∧ many.toInt = (cnt (fun v => 0 ≤ (cf v).toInt) 22 : Nat)
theorem fl_0 {f : Nat → Int32} : ∀ v : Nat, (v : Int) < (0 : Int32).toInt → f v = -1 := fun x hx => by
  have h0 : (0 : Int32).toInt = 0 := rfl
  omega
theorem fl_step {f : Nat → Int32} {j j2 : Int32} (h : ∀ x : Nat, (x : Int) < j.toInt → f x = -1) (hj : rg j 0 21) (e : j2 = j + 1) : ∀ x : Nat, (x : Int) < j2.toInt → upd f j.toNatClampNeg (-1) x = -1 := fun x hx => by
  have hc := cl_ti hj (by decide)
  rw [(inc_nat hj (by decide) e).2] at hx
  by_cases ex : x = j.toNatClampNeg
  · rw [ex]; exact pk_us
  · exact (pk_un ex).trans (h x (by omega))
theorem bq_init {f qq : Nat → Int32} {j : Int32} (h : ∀ x : Nat, (x : Int) < j.toInt → f x = -1) (hj : 22 ≤ j.toInt) : bq_ (upd f (20 : Int32).toNatClampNeg 20) (upd qq (0 : Int32).toNatClampNeg 20) 1 := by
  have e20 : (20 : Int32).toNatClampNeg = 20 := rfl
  have e0 : (0 : Int32).toNatClampNeg = 0 := rfl
  have t20 : (20 : Int32).toInt = 20 := rfl
  have t1 : (1 : Int32).toInt = 1 := rfl
  rw [e20, e0]
  have u20 : upd f 20 20 20 = 20 := pk_us
  have un : ∀ v, v < 22 → v ≠ 20 → upd f 20 20 v = -1 := fun v hv hne => (pk_un hne).trans (h v (by omega))
  refine ⟨⟨fun _ => 0, by rw [u20, t20]; decide, fun v hv hp hne => ?_⟩, fun k hk => ?_, ?_⟩
  · rw [un v hv hne] at hp
    exact absurd hp (by decide)
  · have : k = 0 := by omega
    subst this
    have : upd qq 0 20 0 = 20 := pk_us
    rw [this, e20, u20, t20]
    decide
  · have : cnt (fun v => 0 ≤ (upd f 20 20 v).toInt) 22 = cnt (fun v => v = 20) 22 := cnt_congr (fun v hv => ⟨fun z => by
      apply Classical.byContradiction
      intro hne
      rw [un v hv hne] at z
      exact absurd z (by decide), fun z => by rw [z, u20, t20]; decide⟩)
    rw [this, cnt_one (by decide)]
    rfl
theorem bq_many {cf qq : Nat → Int32} {many n : Int32} (H : bq_ cf qq many) (hn : rg n 0 21) (hu : (cf n.toNatClampNeg).toInt < 0) : 0 ≤ many.toInt ∧ many.toInt ≤ 21 := by
  have hc := cl_ti hn (by decide)
  have h2 := hn.2
  have h1 := H.2.2
  have h3 : cnt (fun v => 0 ≤ (cf v).toInt) 22 < cnt (fun _ => True) 22 := cnt_lt (i := n.toNatClampNeg) (fun _ _ _ => trivial) (by omega) trivial (by omega)
  have h4 := cnt_le_n (fun _ => True) 22
  omega
theorem bq_push {cf qq : Nat → Int32} {many m2 n p i : Int32} (H : bq_ cf qq many) (hcf : ∀ v : Nat, rg (cf v) (-1) 21) (hqq : ∀ v : Nat, rg (qq v) 0 21) (hn : rg n 0 21) (hi : rg i 0 21) (him : i.toInt < many.toInt) (hu : (cf n.toNatClampNeg).toInt < 0) (ep : p = qq i.toNatClampNeg) (e : m2 = many + 1) : bq_ (upd cf n.toNatClampNeg p) (upd qq many.toNatClampNeg n) m2 := by
  have hc := cl_ti hn (by decide)
  have hic := cl_ti hi (by decide)
  have hm := bq_many H hn hu
  have hmc := cl_ti (⟨hm.1, hm.2⟩ : rg many 0 21) (by decide)
  obtain ⟨⟨ρ, hb0, hb⟩, hq, hcn⟩ := H
  have hp0 : 0 ≤ (cf p.toNatClampNeg).toInt := by rw [ep]; exact hq _ (by omega)
  have hpn : p.toNatClampNeg ≠ n.toNatClampNeg := fun z => by rw [z] at hp0; omega
  have hpr : rg p 0 21 := by rw [ep]; exact hqq _
  have us : upd cf n.toNatClampNeg p n.toNatClampNeg = p := pk_us
  have un : ∀ v, v ≠ n.toNatClampNeg → upd cf n.toNatClampNeg p v = cf v := fun v hv => pk_un hv
  have keep : ∀ v : Nat, 0 ≤ (cf v).toInt → v ≠ n.toNatClampNeg := fun v hv z => by rw [z] at hv; omega
  have keep2 : ∀ v : Nat, 0 ≤ (cf v).toInt → 0 ≤ (upd cf n.toNatClampNeg p v).toInt := fun v hv => by rw [un v (keep v hv)]; exact hv
  refine ⟨⟨fun v => if v = n.toNatClampNeg then ρ p.toNatClampNeg + 1 else ρ v, keep2 20 hb0, fun v hv hvp hne => ?_⟩, fun j hj => ?_, ?_⟩
  · by_cases ev : v = n.toNatClampNeg
    · rw [ev, us]
      refine ⟨keep2 _ hp0, ?_⟩
      show (if p.toNatClampNeg = n.toNatClampNeg then _ else _) < (if n.toNatClampNeg = n.toNatClampNeg then _ else _)
      rw [if_neg hpn, if_pos rfl]
      omega
    · rw [un v ev] at hvp ⊢
      obtain ⟨a, b⟩ := hb v hv hvp hne
      refine ⟨keep2 _ a, ?_⟩
      show (if (cf v).toNatClampNeg = n.toNatClampNeg then _ else _) < (if v = n.toNatClampNeg then _ else _)
      rw [if_neg (keep _ a), if_neg ev]
      exact b
  · rw [(inc_nat (⟨hm.1, hm.2⟩ : rg many 0 21) (by decide) e).2] at hj
    by_cases ej : j = many.toNatClampNeg
    · have : upd qq many.toNatClampNeg n j = n := by rw [ej]; exact pk_us
      rw [this, us]
      exact hpr.1
    · have : upd qq many.toNatClampNeg n j = qq j := pk_un ej
      rw [this]
      exact keep2 _ (hq j (by omega))
  · rw [(inc_nat (⟨hm.1, hm.2⟩ : rg many 0 21) (by decide) e).2, hcn]
    have h22 : n.toNatClampNeg < 22 := by have := hn.2; omega
    rw [cnt_del (p := fun v => 0 ≤ (upd cf n.toNatClampNeg p v).toInt) h22 (by rw [us]; exact hpr.1)]
    rw [cnt_congr (p := fun v => 0 ≤ (cf v).toInt) (q := fun v => 0 ≤ (upd cf n.toNatClampNeg p v).toInt ∧ v ≠ n.toNatClampNeg) (fun v _ => ⟨fun z => ⟨keep2 v z, keep v z⟩, fun z => by rw [un v z.2] at z; exact z.1⟩)]
    omega
/-- the nodes passed on the way back: none has less room than least -/
def pth (C R : Nat → Int32) (S : Nat → Prop) (least n : Int32) : Prop := S 21 ∧ (∀ m : Nat, S m → m < 22 ∧ m ≠ 20 ∧ least.toInt ≤ (R (22 * (C m).toNatClampNeg + m)).toInt) ∧ ∀ m : Nat, S m → (C m).toNatClampNeg = n.toNatClampNeg ∨ S (C m).toNatClampNeg
theorem ad_22 {x y p h : Int32} (hp : rg p 0 21) (hh : rg h 0 21) (ex : x = 22 * p) (ey : y = x + h) : y.toNatClampNeg = 22 * p.toNatClampNeg + h.toNatClampNeg ∧ p.toNatClampNeg < 22 ∧ h.toNatClampNeg < 22 := by
  have h10 : (22 : Int32).toInt = 22 := rfl
  have h1 := hp.1; have h2 := hp.2; have h3 := hh.1; have h4 := hh.2
  have e1 : x.toInt = 22 * p.toInt := by rw [ex, ti_mul (by rw [h10]; omega) (by rw [h10]; omega), h10]
  have e2 : y.toInt = x.toInt + h.toInt := by rw [ey, ti_add (by omega) (by omega)]
  show y.toInt.toNat = 22 * p.toInt.toNat + h.toInt.toNat ∧ p.toInt.toNat < 22 ∧ h.toInt.toNat < 22
  omega
theorem pth_0 {C R : Nat → Int32} {n x y v : Int32} (en : n = C (21 : Int32).toNatClampNeg) (hn : rg n 0 21) (ex : x = 22 * n) (ey : y = x + 21) (ev : v = R y.toNatClampNeg) : pth C R (fun m => m = 21) v n := by
  have e21 : (21 : Int32).toNatClampNeg = 21 := rfl
  obtain ⟨ea, -, -⟩ := ad_22 hn (rg_k (by decide) : rg 21 0 21) ex ey
  rw [e21] at en ea
  refine ⟨rfl, fun m hm => ⟨by omega, by omega, ?_⟩, fun m hm => Or.inl (by rw [hm, ← en])⟩
  rw [hm, ← en, ← ea, ← ev]
  exact Int.le_refl _
theorem pth_le {C R : Nat → Int32} {S : Nat → Prop} {least l2 n : Int32} (h : pth C R S least n) (hl : l2.toInt ≤ least.toInt) : pth C R S l2 n := ⟨h.1, fun m hm => ⟨(h.2.1 m hm).1, (h.2.1 m hm).2.1, Int.le_trans hl (h.2.1 m hm).2.2⟩, h.2.2⟩
theorem pth_step {C R : Nat → Int32} {S : Nat → Prop} {least n n2 c x y v : Int32} (h : pth C R S least n) (hn : rg n 0 21) (hne : ¬ n = 20) (ec : c = C n.toNatClampNeg) (hc : rg c 0 21) (ex : x = 22 * c) (ey : y = x + n) (ev : v = R y.toNatClampNeg) (hl : least.toInt ≤ v.toInt) (e2 : n2 = C n.toNatClampNeg) : pth C R (fun m => S m ∨ m = n.toNatClampNeg) least n2 := by
  obtain ⟨ea, -, hn22⟩ := ad_22 hc hn ex ey
  have hnc := cl_ti hn (by decide)
  refine ⟨Or.inl h.1, fun m hm => ?_, fun m hm => ?_⟩
  · rcases hm with hm | hm
    · exact h.2.1 m hm
    · refine ⟨by omega, fun z => hne (Int32.toInt_inj.mp ?_), ?_⟩
      · have : (20 : Int32).toInt = 20 := rfl
        omega
      · rw [hm, ← ec, ← ea, ← ev]
        exact hl
  · rcases hm with hm | hm
    · rcases h.2.2 m hm with z | z
      · exact Or.inr (Or.inr z)
      · exact Or.inr (Or.inl z)
    · exact Or.inl (by rw [hm, e2])
/-- on the way back, taking least away: row 20 stays until the last, and falls there -/
def tkI (C R g : Nat → Int32) (S : Nat → Prop) (least n : Int32) : Prop := (¬ n = 20 ∧ S n.toNatClampNeg ∧ ∀ m : Nat, m < 22 → g (440 + m) = R (440 + m)) ∨ (n = 20 ∧ (least.toInt ≤ 0 ∨ phi g < phi R))
theorem phi_lt {R g : Nat → Int32} {n : Nat} {l : Int} (hn : n < 22) (h : ∀ m : Nat, m < 22 → m ≠ n → g (440 + m) = R (440 + m)) (hl : 0 < l) (hle : l ≤ (R (440 + n)).toInt) (hg : (g (440 + n)).toInt = (R (440 + n)).toInt - l) : phi g < phi R := by
  refine sm_lt (i := n) (fun k hk => ?_) hn ?_
  · by_cases e : k = n
    · subst e
      omega
    · rw [h k hk e]
      exact Nat.le_refl _
  · show (g (440 + n)).toInt.toNat < (R (440 + n)).toInt.toNat
    omega
theorem tk_step {C R g : Nat → Int32} {S : Nat → Prop} {least n n2 c x y v r x2 y2 w t z : Int32} (hS : pth C R S least z) (hz : z = 20) (H : tkI C R g S least n) (hn : rg n 0 21) (hne : ¬ n = 20) (ec : c = C n.toNatClampNeg) (hc : rg c 0 21) (ex : x = 22 * c) (ey : y = x + n) (ev : v = g y.toNatClampNeg) (er : r = v - least)
    (ex2 : x2 = 22 * n) (ey2 : y2 = x2 + c) (_ew : w = upd g y.toNatClampNeg r y2.toNatClampNeg) (_et : t = w + least) (e2 : n2 = c) : tkI C R (upd (upd g y.toNatClampNeg r) y2.toNatClampNeg t) S least n2 := by
  obtain ⟨ea, hc22, hn22⟩ := ad_22 hc hn ex ey
  obtain ⟨eb, -, -⟩ := ad_22 hn hc ex2 ey2
  have hnc := cl_ti hn (by decide)
  have hcc := cl_ti hc (by decide)
  have t20 : (20 : Int32).toInt = 20 := rfl
  have c20 : (20 : Int32).toNatClampNeg = 20 := rfl
  have hn20 : n.toNatClampNeg ≠ 20 := fun z => hne (Int32.toInt_inj.mp (by omega))
  rcases H with ⟨_, hSn, hrow⟩ | ⟨e, _⟩
  · obtain ⟨_, _, hle⟩ := hS.2.1 _ hSn
    rw [← ec] at hle
    have far2 : ∀ m : Nat, m < 22 → upd (upd g y.toNatClampNeg r) y2.toNatClampNeg t (440 + m) = upd g y.toNatClampNeg r (440 + m) := fun m hm => pk_un (by omega)
    by_cases e20 : c = 20
    · right
      refine ⟨by rw [e2]; exact e20, ?_⟩
      by_cases hl : least.toInt ≤ 0
      · exact Or.inl hl
      · right
        have ecn : c.toNatClampNeg = 20 := by rw [e20]; rfl
        rw [ecn] at hle ea
        have hrn := hrow n.toNatClampNeg hn22
        have hy : y.toNatClampNeg = 440 + n.toNatClampNeg := by omega
        have hv : v.toInt = (R (440 + n.toNatClampNeg)).toInt := by rw [ev, hy, hrn]
        have hle2 : least.toInt ≤ (R (440 + n.toNatClampNeg)).toInt := hle
        have hb := v.toInt_lt
        have hr : r.toInt = v.toInt - least.toInt := by rw [er, ti_sub (by omega) (by omega)]
        refine phi_lt (n := n.toNatClampNeg) (l := least.toInt) hn22 (fun m hm hmn => ?_) (by omega) hle2 ?_
        · rw [far2 m hm]
          exact (pk_un (by omega)).trans (hrow m hm)
        · rw [far2 _ hn22, ← hy]
          have : upd g y.toNatClampNeg r y.toNatClampNeg = r := pk_us
          rw [this, hr, hv, hy]
    · left
      refine ⟨by rw [e2]; exact e20, ?_, fun m hm => ?_⟩
      · rcases hS.2.2 _ hSn with q | q
        · rw [← ec, hz] at q
          exact absurd (Int32.toInt_inj.mp (by omega)) e20
        · rw [← ec] at q
          rw [e2]
          exact q
      · rw [far2 m hm]
        refine (pk_un ?_).trans (hrow m hm)
        have : c.toNatClampNeg ≠ 20 := fun z => e20 (Int32.toInt_inj.mp (by omega))
        omega
  · exact absurd e hne
def grM (more : Int32) (f : Nat → Int32) : Nat := if 0 < more.toInt then phi f + 1 else 0
theorem gr_dec {more m2 : Int32} {f g : Nat → Int32} {n : Nat} (h : grM more f < n + 1) (hp : 0 < more.toInt) (hg : m2.toInt ≤ 0 ∨ phi g < phi f) : grM m2 g < n := by
  unfold grM at h ⊢
  rw [if_pos hp] at h
  by_cases h2 : 0 < m2.toInt
  · rw [if_pos h2]
    rcases hg with hg | hg <;> omega
  · rw [if_neg h2]
    omega
theorem vis_next {C : Nat → Int32} {ρ : Nat → Nat} {v : Nat} {c : Int32} (h : bfs C ρ) (hv : v < 22) (hp : 0 ≤ (C v).toInt) (hne : v ≠ 20) (ec : c = C v) : 0 ≤ (C c.toNatClampNeg).toInt ∧ ρ c.toNatClampNeg < ρ v := by
  rw [ec]
  exact h.2 v hv hp hne
theorem vis_next2 {C : Nat → Int32} {ρ : Nat → Nat} {n c : Int32} (h : bfs C ρ) (hn : rg n 0 21) (hp : 0 ≤ (C n.toNatClampNeg).toInt) (hne : ¬ n = 20) (ec : c = C n.toNatClampNeg) : 0 ≤ (C c.toNatClampNeg).toInt ∧ ρ c.toNatClampNeg < ρ n.toNatClampNeg := by
  have hc := cl_ti hn (by decide)
  have h2 := hn.2
  refine vis_next h (by omega) hp (fun z => hne (Int32.toInt_inj.mp ?_)) ec
  have : (20 : Int32).toInt = 20 := rfl
  omega
