/-! what is lacked now, and what is kept of it: hours of 0 to 99, and none outside the yard -/
def okc (a b : Int) (k : Nat) (v : Int32) : Prop := rg v 0 99 ∧ ((a ≤ ((k / 10 : Nat) : Int) ∨ b ≤ ((k % 10 : Nat) : Int)) → v = 0)
def DM (a b : Int) (f : Nat → Int32) (o : Nat) : Prop := ∀ k : Nat, k < 80 → okc a b k (f (o + k))
theorem DM_ok {a b : Int} {f : Nat → Int32} (h : DM a b f 0) : ok99 f ∧ zo f a b := by
  refine ⟨fun k hk => ?_, fun i j hi hj hab => ?_⟩
  · have := (h k hk).1
    rw [Nat.zero_add] at this
    exact this
  · have q := h (10 * i + j) (by omega)
    have e1 : (10 * i + j) / 10 = i := by omega
    have e2 : (10 * i + j) % 10 = j := by omega
    unfold okc at q
    rw [e1, e2, Nat.zero_add] at q
    unfold lk
    rw [q.2 hab]
    rfl
theorem ok_DM {a b : Int} {f : Nat → Int32} (h : ok99 f) (hz : zo f a b) : DM a b f 0 := by
  intro k hk
  have e : 10 * (k / 10) + k % 10 = k := by omega
  rw [Nat.zero_add]
  refine ⟨h k hk, fun hab => ?_⟩
  have q := hz (k / 10) (k % 10) (by omega) (by omega) hab
  unfold lk at q
  rw [e] at q
  have := (h k hk).1
  apply Int32.toInt_inj.mp
  have h0 : (0 : Int32).toInt = 0 := rfl
  omega
theorem DM_put {a b : Int} {f : Nat → Int32} {o k x : Nat} {v : Int32} (h : DM a b f o) (ex : x = o + k) (hv : okc a b k v) : DM a b (upd f x v) o := by
  intro j hj
  by_cases e : o + j = x
  · have ej : j = k := by omega
    subst ej
    rw [e]
    have : upd f x v x = v := pk_us
    rw [this]
    exact hv
  · have : upd f x v (o + j) = f (o + j) := pk_un e
    rw [this]
    exact h j hj
theorem DM_far {a b : Int} {f : Nat → Int32} {o x : Nat} {v : Int32} (h : DM a b f o) (hx : x < o ∨ o + 80 ≤ x) : DM a b (upd f x v) o := by
  intro j hj
  have : upd f x v (o + j) = f (o + j) := pk_un (by omega)
  rw [this]
  exact h j hj
theorem DM_mono {a b a2 b2 : Int} {f : Nat → Int32} {o : Nat} (h : DM a b f o) (ha : a ≤ a2) (hb : b ≤ b2) : DM a2 b2 f o := fun k hk => ⟨(h k hk).1, fun z => (h k hk).2 (z.elim (fun y => Or.inl (by omega)) (fun y => Or.inr (by omega)))⟩
/-- n of f's from p on lie in g from o on -/
def cpI (g h : Nat → Int32) (o p : Nat) (n : Int) : Prop := ∀ k : Nat, (k : Int) < n → g (o + k) = h (p + k)
theorem cp_0 {g h : Nat → Int32} {o p : Nat} : cpI g h o p (0 : Int32).toInt := fun k hk => by
  have h0 : (0 : Int32).toInt = 0 := rfl
  omega
theorem cp_step {g h : Nat → Int32} {o p x y : Nat} {j j2 v : Int32} (H : cpI g h o p j.toInt) (hj : rg j 0 79) (ex : x = o + j.toNatClampNeg) (ey : y = p + j.toNatClampNeg) (ev : v = h y) (e : j2 = j + 1) : cpI (upd g x v) h o p j2.toInt := by
  have hc := cl_ti hj (by decide)
  rw [(inc_nat hj (by decide) e).2]
  intro k hk
  by_cases e : o + k = x
  · have ek : k = j.toNatClampNeg := by omega
    rw [e]
    have : upd g x v x = v := pk_us
    rw [this, ev, ey, ek]
  · have : upd g x v (o + k) = g (o + k) := pk_un e
    rw [this]
    exact H k (by omega)
theorem cp_DM {a b : Int} {g h : Nat → Int32} {o p : Nat} {n : Int} (H : cpI g h o p n) (hn : 80 ≤ n) (hD : DM a b h p) : DM a b g o := fun k hk => by
  rw [H k (by omega)]
  exact hD k hk
theorem cp_end {g h : Nat → Int32} {o p : Nat} {n : Int} (H : cpI g h o p n) (hn : 80 ≤ n) : cpI g h o p 80 := fun k hk => H k (by omega)
theorem ad_off {c x y b j : Int32} {cn : Nat} (hc : c.toInt = (cn : Int)) (hcn : cn ≤ 81) (hb : rg b 0 40) (hj : rg j 0 80) (ex : x = c * b) (ey : y = x + j) : y.toNatClampNeg = cn * b.toNatClampNeg + j.toNatClampNeg ∧ b.toNatClampNeg ≤ 40 ∧ j.toNatClampNeg ≤ 80 := by
  obtain ⟨k, rfl, q1, q2, q0⟩ := nI_rg hb (by omega)
  have hkc : (nI k).toNatClampNeg = k := nI_clamp (by omega)
  have hkt : (nI k).toInt = (k : Int) := nI_toInt (by omega)
  have hjc := cl_ti hj (by decide)
  have h3 := hj.1; have h4 := hj.2
  have hm : cn * k ≤ 81 * 40 := Nat.mul_le_mul hcn (by omega)
  have em : c.toInt * (nI k).toInt = ((cn * k : Nat) : Int) := by rw [hc, hkt, Int.natCast_mul]
  have e1 : x.toInt = ((cn * k : Nat) : Int) := by rw [ex, ti_mul (by omega) (by omega), em]
  have e2 : y.toInt = x.toInt + j.toInt := by rw [ey, ti_add (by omega) (by omega)]
  rw [hkc]
  generalize cn * k = z at *
  refine ⟨?_, by omega, by omega⟩
  show y.toInt.toNat = z + j.toNatClampNeg
  omega
def sN (F : Nat → Int32) (A : Nat → Nat → Int32) : Int := (A 3 (F 8).toNatClampNeg).toInt
def hN (F : Nat → Int32) (A : Nat → Nat → Int32) : Int := (A 4 (F 8).toNatClampNeg).toInt
def LM (F : Nat → Int32) (A : Nat → Nat → Int32) : Prop := DM (sN F A) (hN F A) (A 17) 0 ∧ DM (sN F A) (hN F A) (A 10) (80 * (F 8).toNatClampNeg) ∧ (∀ i : Nat, (i : Int) < (F 14).toInt + (F 15).toInt → DM (sN F A) (hN F A) (A 27) (81 * i)) ∧ ∀ x : Nat, x < 3 → 0 ≤ (A 36 x).toInt → DM (sN F A) (hN F A) (A 37) (80 * x)
theorem LM.fr {F G : Nat → Int32} {A C : Nat → Nat → Int32} (h : LM F A) (h8 : G 8 = F 8) (h14 : G 14 = F 14) (h15 : G 15 = F 15) (a3 : C 3 = A 3) (a4 : C 4 = A 4) (a10 : C 10 = A 10) (a17 : C 17 = A 17) (a27 : C 27 = A 27) (a36 : C 36 = A 36) (a37 : C 37 = A 37) : LM G C := by
  unfold LM sN hN at *
  rw [h8, h14, h15, a3, a4, a10, a17, a27, a36, a37]
  exact h
theorem LM.was {F G : Nat → Int32} {A C : Nat → Nat → Int32} (h : LM F A) (h8 : G 8 = F 8) (a3 : C 3 = A 3) (a4 : C 4 = A 4) (a10 : C 10 = A 10) (a36 : C 36 = A 36) (a37 : C 37 = A 37) (hn : DM (sN F A) (hN F A) (C 17) 0) (hw : ∀ i : Nat, (i : Int) < (G 14).toInt + (G 15).toInt → DM (sN F A) (hN F A) (C 27) (81 * i)) : LM G C := by
  unfold LM sN hN at *
  rw [h8, a3, a4, a10, a36, a37]
  exact ⟨hn, h.2.1, hw, h.2.2.2⟩
theorem LM.lay {F G : Nat → Int32} {A C : Nat → Nat → Int32} (h : LM F A) (h8 : G 8 = F 8) (a3 : C 3 = A 3) (a4 : C 4 = A 4) (hc : cpI (C 16) (A 17) 0 0 80) : ok99 (C 16) ∧ zo (C 16) (C 3 (G 8).toNatClampNeg).toInt (C 4 (G 8).toNatClampNeg).toInt := by
  have q := DM_ok (cp_DM hc (Int.le_refl _) h.1)
  unfold sN hN at q
  rw [h8, a3, a4]
  exact q
/-- was, moved down by one -/
def shI (g h : Nat → Int32) (n : Int) : Prop := ∀ k : Nat, k < 3321 → g k = if (k : Int) < n then h (k + 81) else h k
theorem sh_0 {h : Nat → Int32} : shI h h (0 : Int32).toInt := fun k _ => by
  have h0 : (0 : Int32).toInt = 0 := rfl
  rw [if_neg (by omega)]
theorem sh_step {g h : Nat → Int32} {j j2 y v : Int32} (H : shI g h j.toInt) (hj : rg j 0 3239) (ey : y = j + 81) (ev : v = g y.toNatClampNeg) (e : j2 = j + 1) : shI (upd g j.toNatClampNeg v) h j2.toInt := by
  have hc := cl_ti hj (by decide)
  have h81 : (81 : Int32).toInt = 81 := rfl
  have h1 := hj.1; have h2 := hj.2
  have e1 : y.toInt = j.toInt + 81 := by rw [ey, ti_add (by omega) (by omega), h81]
  have e2 : y.toNatClampNeg = j.toNatClampNeg + 81 := by
    show y.toInt.toNat = j.toInt.toNat + 81
    omega
  rw [(inc_nat hj (by decide) e).2]
  intro k hk
  by_cases ek : k = j.toNatClampNeg
  · have : upd g j.toNatClampNeg v k = v := by rw [ek]; exact pk_us
    rw [this, ev, e2, H _ (by omega), if_neg (by omega), if_pos (by omega), ek]
  · have : upd g j.toNatClampNeg v k = g k := pk_un ek
    rw [this, H k hk]
    by_cases e3 : (k : Int) < j.toInt
    · rw [if_pos e3, if_pos (by omega)]
    · rw [if_neg e3, if_neg (by omega)]
theorem sh_DM {a b : Int} {g h : Nat → Int32} {n : Int} (H : shI g h n) (hn : 3240 ≤ n) {i : Nat} (hi : i < 39) (hD : DM a b h (81 * (i + 1))) : DM a b g (81 * i) := fun k hk => by
  rw [H _ (by omega), if_pos (by omega)]
  have := hD k hk
  have e : 81 * (i + 1) + k = 81 * i + k + 81 := by omega
  rw [e] at this
  exact this
/-- the acts kept so far, and the new one so far -/
def kaI (a b : Int) (g h : Nat → Int32) (n : Int32) (m : Int) : Prop := (∀ i : Nat, (i : Int) < n.toInt → DM a b g (81 * i)) ∧ cpI g h (81 * n.toNatClampNeg) 0 m
theorem ka_step {a b : Int} {g h : Nat → Int32} {n j j2 x y v : Int32} (H : kaI a b g h n j.toInt) (hn : rg n 0 40) (hj : rg j 0 79) (ex : x = 81 * n) (ey : y = x + j) (ev : v = h j.toNatClampNeg) (e : j2 = j + 1) : kaI a b (upd g y.toNatClampNeg v) h n j2.toInt := by
  have hnc := cl_ti hn (by decide)
  obtain ⟨ea, q1, q2⟩ := ad_off (cn := 81) rfl (by decide) hn (rg_w hj (by decide)) ex ey
  refine ⟨fun i hi => DM_far (H.1 i hi) (by omega), cp_step H.2 hj ea (Nat.zero_add _).symm ev e⟩
theorem ka_end {a b : Int} {g h : Nat → Int32} {n n2 x y v : Int32} {m : Int} (H : kaI a b g h n m) (hm : 80 ≤ m) (hn : rg n 0 40) (hD : DM a b h 0) (ex : x = 81 * n) (ey : y = x + 80) (e : n2 = n + 1) : ∀ i : Nat, (i : Int) < n2.toInt + (0 : Int32).toInt → DM a b (upd g y.toNatClampNeg v) (81 * i) := by
  have hnc := cl_ti hn (by decide)
  obtain ⟨ea, q1, q2⟩ := ad_off (cn := 81) (j := 80) rfl (by decide) hn (rg_k (by decide)) ex ey
  have e80 : (80 : Int32).toNatClampNeg = 80 := rfl
  have h0 : (0 : Int32).toInt = 0 := rfl
  rw [(inc_nat hn (by decide) e).2]
  intro i hi
  refine DM_far ?_ (by omega)
  by_cases e3 : (i : Int) < n.toInt
  · exact H.1 i e3
  · have : i = n.toNatClampNeg := by omega
    rw [this]
    exact cp_DM H.2 hm hD
theorem okc_of {a b : Int} {k : Nat} {v : Int32} (h : rg v 0 99) (ha : ((k / 10 : Nat) : Int) < a) (hb : ((k % 10 : Nat) : Int) < b) : okc a b k v := ⟨h, fun z => by omega⟩
theorem okc_0 {a b : Int} {k : Nat} : okc a b k 0 := ⟨rg_k (by decide), fun _ => rfl⟩
/-- exchange: what lies in was and what is lacked now change places, hour by hour -/
def exI (a b : Int) (f g : Nat → Int32) (N : Int) : Prop := DM a b f 0 ∧ ∀ i : Nat, (i : Int) < N → DM a b g (81 * i)
theorem ex_step {a b : Int} {f g : Nat → Int32} {N : Int} {n j x y v w : Int32} (H : exI a b f g N) (hn : rg n 0 40) (hN : n.toInt < N) (hj : rg j 0 79) (ex : x = 81 * n) (ey : y = x + j) (ev : v = g y.toNatClampNeg) (ew : w = f j.toNatClampNeg) : exI a b (upd f j.toNatClampNeg v) (upd g y.toNatClampNeg w) N := by
  have hnc := cl_ti hn (by decide)
  have hjc := cl_ti hj (by decide)
  have h2 := hj.2
  obtain ⟨ea, q1, q2⟩ := ad_off (cn := 81) rfl (by decide) hn (rg_w hj (by decide)) ex ey
  have hj80 : j.toNatClampNeg < 80 := by omega
  refine ⟨DM_put (k := j.toNatClampNeg) H.1 (Nat.zero_add _).symm ?_, fun i hi => ?_⟩
  · rw [ev, ea]
    exact H.2 n.toNatClampNeg (by omega) _ hj80
  · by_cases e : i = n.toNatClampNeg
    · rw [e]
      refine DM_put (k := j.toNatClampNeg) (H.2 _ (by omega)) ea ?_
      have := H.1 _ hj80
      rw [Nat.zero_add] at this
      rw [ew]
      exact this
    · exact DM_far (H.2 i hi) (by omega)
theorem ex_end {a b : Int} {f g : Nat → Int32} {N : Int} {n x y v : Int32} (H : exI a b f g N) (hn : rg n 0 40) (ex : x = 81 * n) (ey : y = x + 80) : exI a b f (upd g y.toNatClampNeg v) N := by
  obtain ⟨ea, q1, q2⟩ := ad_off (cn := 81) (j := 80) rfl (by decide) hn (rg_k (by decide)) ex ey
  have e80 : (80 : Int32).toNatClampNeg = 80 := rfl
  exact ⟨H.1, fun i hi => DM_far (H.2 i hi) (by omega)⟩
theorem LM.sum {F G : Nat → Int32} {A : Nat → Nat → Int32} (h : LM F A) (h8 : G 8 = F 8) (hs : (G 14).toInt + (G 15).toInt = (F 14).toInt + (F 15).toInt) : LM G A := by
  unfold LM sN hN at *
  rw [h8, hs]
  exact h
theorem LM.now {F : Nat → Int32} {A : Nat → Nat → Int32} {g : Nat → Int32} (h : LM F A) (hn : DM (sN F A) (hN F A) g 0) : LM F (va_up A 17 g) := ⟨hn, h.2.1, h.2.2.1, h.2.2.2⟩
theorem LM.keep {F G : Nat → Int32} {A C : Nat → Nat → Int32} (h : LM F A) (h8 : G 8 = F 8) (h14 : G 14 = F 14) (h15 : G 15 = F 15) (a3 : C 3 = A 3) (a4 : C 4 = A 4) (a10 : C 10 = A 10) (a27 : C 27 = A 27) (a36 : C 36 = A 36) (a37 : C 37 = A 37) (hn : DM (sN F A) (hN F A) (C 17) 0) : LM G C := by
  unfold LM sN hN at *
  rw [h8, h14, h15, a3, a4, a10, a27, a36, a37]
  exact ⟨hn, h.2⟩
/-- a box that is being filled: the others stay -/
def imI (g h f : Nat → Int32) (p : Nat) (n : Int) : Prop := cpI g f (80 * p) 0 n ∧ ∀ x : Nat, x < 3 → x ≠ p → ∀ k : Nat, k < 80 → g (80 * x + k) = h (80 * x + k)
theorem im_0 {h f : Nat → Int32} {p : Nat} : imI h h f p (0 : Int32).toInt := ⟨cp_0, fun _ _ _ _ _ => rfl⟩
theorem im_step {g h f : Nat → Int32} {p j j2 x y v : Int32} (H : imI g h f p.toNatClampNeg j.toInt) (hp : rg p 0 2) (hj : rg j 0 79) (ex : x = 80 * p) (ey : y = x + j) (ev : v = f j.toNatClampNeg) (e : j2 = j + 1) : imI (upd g y.toNatClampNeg v) h f p.toNatClampNeg j2.toInt := by
  have hjc := cl_ti hj (by decide)
  have h2 := hj.2
  obtain ⟨ea, q1, q2⟩ := ad_off (cn := 80) rfl (by decide) (rg_w hp (by decide)) (rg_w hj (by decide)) ex ey
  refine ⟨cp_step H.1 hj ea (Nat.zero_add _).symm ev e, fun z hz hne k hk => ?_⟩
  have : upd g y.toNatClampNeg v (80 * z + k) = g (80 * z + k) := pk_un (by omega)
  rw [this]
  exact H.2 z hz hne k hk
theorem LM.img {F G : Nat → Int32} {A C : Nat → Nat → Int32} {p : Nat} {n : Int} (h : LM F A) (h8 : G 8 = F 8) (h14 : G 14 = F 14) (h15 : G 15 = F 15) (a3 : C 3 = A 3) (a4 : C 4 = A 4) (a10 : C 10 = A 10) (a17 : C 17 = A 17) (a27 : C 27 = A 27) (a36 : ∀ x : Nat, x ≠ p → C 36 x = A 36 x) (him : imI (C 37) (A 37) (A 17) p n) (hn : 80 ≤ n) : LM G C := by
  unfold LM sN hN at *
  rw [h8, h14, h15, a3, a4, a10, a17, a27]
  refine ⟨h.1, h.2.1, h.2.2.1, fun x hx h0 => ?_⟩
  by_cases e : x = p
  · rw [e]
    exact cp_DM him.1 hn h.1
  · rw [a36 x e] at h0
    intro k hk
    rw [him.2 x hx e k hk]
    exact h.2.2.2 x hx h0 k hk
/-- breaks: of the hours from h on, his and the other's are 99 at most together -/
def brI (f : Nat → Int32) (s o : Int32) (h : Int) : Prop := ∀ j : Nat, j < 10 → h ≤ (j : Int) → (f (10 * s.toNatClampNeg + j)).toInt + (f (10 * o.toNatClampNeg + j)).toInt ≤ 99
def brJ (f : Nat → Int32) (s o : Int32) (h : Int) : Prop := ∀ j : Nat, j < 10 → (j : Int) < h → (f (10 * s.toNatClampNeg + j)).toInt + (f (10 * o.toNatClampNeg + j)).toInt ≤ 99
theorem brJ_0 {f : Nat → Int32} {s o : Int32} : brJ f s o (0 : Int32).toInt := fun j _ hj => by
  have h0 : (0 : Int32).toInt = 0 := rfl
  omega
theorem br_cell {a b : Int} {f : Nat → Int32} (hD : DM a b f 0) {s h x y z : Int32} (hs : rg s 0 7) (hh : rg h 0 9) (ex : x = 10 * s) (ey : y = x + h) (ez : z = f y.toNatClampNeg) : y.toNatClampNeg = 10 * s.toNatClampNeg + h.toNatClampNeg ∧ y.toNatClampNeg / 10 = s.toNatClampNeg ∧ y.toNatClampNeg % 10 = h.toNatClampNeg ∧ y.toNatClampNeg < 80 ∧ okc a b y.toNatClampNeg z := by
  obtain ⟨ea, h8, h10⟩ := ad_cell hs hh ex ey
  have q := hD y.toNatClampNeg (by omega)
  rw [Nat.zero_add, ← ez] at q
  exact ⟨ea, by omega, by omega, by omega, q⟩
theorem brJ_step {a b : Int} {f : Nat → Int32} (hD : DM a b f 0) {s o h h2 x y z x2 y2 z2 t : Int32} (H : brJ f s o h.toInt) (hs : rg s 0 7) (ho : rg o 0 7) (hh : rg h 0 9) (ex : x = 10 * s) (ey : y = x + h) (ez : z = f y.toNatClampNeg) (ex2 : x2 = 10 * o) (ey2 : y2 = x2 + h) (ez2 : z2 = f y2.toNatClampNeg) (et : t = z + z2) (ht : t.toInt ≤ 99) (e : h2 = h + 1) : brJ f s o h2.toInt := by
  obtain ⟨a1, -, -, -, a2⟩ := br_cell hD hs hh ex ey ez
  obtain ⟨b1, -, -, -, b2⟩ := br_cell hD ho hh ex2 ey2 ez2
  have hc := cl_ti hh (by decide)
  have et2 := tiA et a2.1 b2.1 (by decide)
  rw [(inc_nat hh (by decide) e).2]
  intro j hj hj2
  by_cases ej : (j : Int) < h.toInt
  · exact H j hj ej
  · have : j = h.toNatClampNeg := by omega
    rw [this, ← a1, ← b1, ← ez, ← ez2]
    omega
theorem brJ_I {f : Nat → Int32} {s o : Int32} {h : Int} (H : brJ f s o h) (hh : 10 ≤ h) : brI f s o (0 : Int32).toInt := fun j hj _ => H j hj (by omega)
theorem br_step {a b : Int} {f : Nat → Int32} (hD : DM a b f 0) {s o h h2 x y z x2 y2 z2 t : Int32} (H : brI f s o h.toInt) (hs : rg s 0 7) (ho : rg o 0 7) (hh : rg h 0 9) (hso : ¬ s = o) (hoa : o.toInt < a) (ex : x = 10 * s) (ey : y = x + h) (ez : z = f y.toNatClampNeg) (ex2 : x2 = 10 * o) (ey2 : y2 = x2 + h) (ez2 : z2 = f y2.toNatClampNeg) (et : t = z2 + z) (e : h2 = h + 1) : DM a b (upd (upd f y2.toNatClampNeg t) y.toNatClampNeg 0) 0 ∧ brI (upd (upd f y2.toNatClampNeg t) y.toNatClampNeg 0) s o h2.toInt := by
  obtain ⟨a1, a3, a4, a5, a2⟩ := br_cell hD hs hh ex ey ez
  obtain ⟨b1, b3, b4, b5, b2⟩ := br_cell hD ho hh ex2 ey2 ez2
  have hc := cl_ti hh (by decide)
  have hoc := cl_ti ho (by decide)
  have hsc := cl_ti hs (by decide)
  have hne : s.toInt ≠ o.toInt := fun z => hso (Int32.toInt_inj.mp z)
  have et2 := tiA et b2.1 a2.1 (by decide)
  have hsum := H h.toNatClampNeg (by have := hh.2; omega) (by omega)
  rw [← a1, ← b1, ← ez, ← ez2] at hsum
  have hz0 : (0 : Int32).toInt = 0 := rfl
  refine ⟨DM_put (k := y.toNatClampNeg) (DM_put (k := y2.toNatClampNeg) hD (Nat.zero_add _).symm ⟨⟨by have := a2.1.1; have := b2.1.1; omega, by omega⟩, fun hz => ?_⟩) (Nat.zero_add _).symm okc_0, ?_⟩
  · rw [b3, b4] at hz
    have hz2 : b ≤ ((h.toNatClampNeg : Nat) : Int) := by omega
    have e1 := a2.2 (by rw [a4]; exact Or.inr hz2)
    have e2 := b2.2 (by rw [b4]; exact Or.inr hz2)
    rw [et, e1, e2]
    rfl
  · rw [(inc_nat hh (by decide) e).2]
    intro j hj hj2
    have u1 : upd (upd f y2.toNatClampNeg t) y.toNatClampNeg 0 (10 * s.toNatClampNeg + j) = f (10 * s.toNatClampNeg + j) := by
      rw [show upd (upd f y2.toNatClampNeg t) y.toNatClampNeg 0 (10 * s.toNatClampNeg + j) = upd f y2.toNatClampNeg t (10 * s.toNatClampNeg + j) from pk_un (by omega)]
      exact pk_un (by omega)
    have u2 : upd (upd f y2.toNatClampNeg t) y.toNatClampNeg 0 (10 * o.toNatClampNeg + j) = f (10 * o.toNatClampNeg + j) := by
      rw [show upd (upd f y2.toNatClampNeg t) y.toNatClampNeg 0 (10 * o.toNatClampNeg + j) = upd f y2.toNatClampNeg t (10 * o.toNatClampNeg + j) from pk_un (by omega)]
      exact pk_un (by omega)
    rw [u1, u2]
    exact H j hj (by omega)
theorem cell_in {s h x y : Int32} {a b : Int} (hs : rg s 0 7) (hh : rg h 0 9) (ex : x = 10 * s) (ey : y = x + h) (ha : s.toInt < a) (hb : h.toInt < b) : ((y.toNatClampNeg / 10 : Nat) : Int) < a ∧ ((y.toNatClampNeg % 10 : Nat) : Int) < b := by
  obtain ⟨ea, h8, h10⟩ := ad_cell hs hh ex ey
  have hc := cl_ti hh (by decide)
  have hsc := cl_ti hs (by decide)
  omega
theorem bk_step {a b : Int} {f h : Nat → Int32} {p j x y v : Int32} (H : DM a b f 0) (hb : DM a b h (80 * p.toNatClampNeg)) (hp : rg p 0 2) (hj : rg j 0 79) (ex : x = 80 * p) (ey : y = x + j) (ev : v = h y.toNatClampNeg) : DM a b (upd f j.toNatClampNeg v) 0 := by
  obtain ⟨ea, q1, q2⟩ := ad_off (cn := 80) rfl (by decide) (rg_w hp (by decide)) (rg_w hj (by decide)) ex ey
  have hjc := cl_ti hj (by decide)
  have h2 := hj.2
  refine DM_put (k := j.toNatClampNeg) H (Nat.zero_add _).symm ?_
  rw [ev, ea]
  exact hb _ (by omega)
theorem LM.now2 {F : Nat → Int32} {A : Nat → Nat → Int32} {g h : Nat → Int32} (H : LM F A) (hn : DM (sN F A) (hN F A) h 0) : LM F (va_up (va_up A 17 g) 17 h) := ⟨hn, H.2.1, H.2.2.1, H.2.2.2⟩
