/-! the reference's reader: the bank that is being read holds hours of its own yard; the other bank stays -/
def frB (C A : Nat → Nat → Int32) (r : Nat) : Prop := ∀ x : Nat, x < 2 → x ≠ r → C 3 x = A 3 x ∧ C 4 x = A 4 x ∧ ∀ k : Nat, k < 80 → C 10 (80 * x + k) = A 10 (80 * x + k)
def dmB (A : Nat → Nat → Int32) (r : Nat) : Prop := DM (A 3 r).toInt (A 4 r).toInt (A 10) (80 * r)
def rdB (C A : Nat → Nat → Int32) (r : Nat) : Prop := frB C A r ∧ dmB C r
theorem rdB_rf {A : Nat → Nat → Int32} {r : Nat} (h : dmB A r) : rdB A A r := ⟨fun _ _ _ => ⟨rfl, rfl, fun _ _ => rfl⟩, h⟩
theorem rdB_fr {A C E : Nat → Nat → Int32} {r : Nat} (h : rdB C A r) (h3 : E 3 = C 3) (h4 : E 4 = C 4) (h10 : E 10 = C 10) : rdB E A r := by
  unfold rdB frB dmB at *
  rw [h3, h4, h10]
  exact h
theorem rdB_tr {A C E : Nat → Nat → Int32} {r : Nat} (h : rdB C A r) (h2 : rdB E C r) : rdB E A r := by
  refine ⟨fun x hx hne => ?_, h2.2⟩
  obtain ⟨a, b, c⟩ := h.1 x hx hne
  obtain ⟨d, e, f⟩ := h2.1 x hx hne
  exact ⟨d.trans a, e.trans b, fun k hk => (f k hk).trans (c k hk)⟩
theorem rs_post {A C : Nat → Nat → Int32} {r : Nat} {v : Int32} (h3 : C 3 = upd (A 3) r v) (h4 : C 4 = A 4) (h10 : C 10 = A 10) (hv : (A 3 r).toInt ≤ v.toInt) (hB : dmB A r) : rdB C A r := by
  refine ⟨fun x hx hne => ?_, ?_⟩
  · rw [h3, h4, h10]
    exact ⟨pk_un hne, rfl, fun _ _ => rfl⟩
  · unfold dmB
    rw [h3, h4, h10]
    have : upd (A 3) r v r = v := pk_us
    rw [this]
    exact DM_mono hB hv (Int.le_refl _)
theorem rh_post {A C : Nat → Nat → Int32} {r : Nat} {v : Int32} (h3 : C 3 = A 3) (h4 : C 4 = upd (A 4) r v) (h10 : C 10 = A 10) (hv : (A 4 r).toInt ≤ v.toInt) (hB : dmB A r) : rdB C A r := by
  refine ⟨fun x hx hne => ?_, ?_⟩
  · rw [h3, h4, h10]
    exact ⟨rfl, pk_un hne, fun _ _ => rfl⟩
  · unfold dmB
    rw [h3, h4, h10]
    have : upd (A 4) r v r = v := pk_us
    rw [this]
    exact DM_mono hB (Int.le_refl _) hv
theorem hr_ad {rb s h x y z w : Int32} (hr : rg rb 0 1) (hs : rg s 0 7) (hh : rg h 0 9) (ex : x = 80 * rb) (ey : y = 10 * s) (ez : z = x + y) (ew : w = z + h) : w.toNatClampNeg = 80 * rb.toNatClampNeg + (10 * s.toNatClampNeg + h.toNatClampNeg) ∧ rb.toNatClampNeg < 2 ∧ s.toNatClampNeg < 8 ∧ h.toNatClampNeg < 10 := by
  have h10 : (10 : Int32).toInt = 10 := rfl
  have h80 : (80 : Int32).toInt = 80 := rfl
  have := hr.1; have := hr.2; have := hs.1; have := hs.2; have := hh.1; have := hh.2
  have e1 : x.toInt = 80 * rb.toInt := by rw [ex, ti_mul (by rw [h80]; omega) (by rw [h80]; omega), h80]
  have e2 : y.toInt = 10 * s.toInt := by rw [ey, ti_mul (by rw [h10]; omega) (by rw [h10]; omega), h10]
  have e3 : z.toInt = x.toInt + y.toInt := by rw [ez, ti_add (by omega) (by omega)]
  have e4 : w.toInt = z.toInt + h.toInt := by rw [ew, ti_add (by omega) (by omega)]
  show w.toInt.toNat = 80 * rb.toInt.toNat + (10 * s.toInt.toNat + h.toInt.toNat) ∧ rb.toInt.toNat < 2 ∧ s.toInt.toNat < 8 ∧ h.toInt.toNat < 10
  omega
theorem ho_post {A C : Nat → Nat → Int32} {r s h w : Nat} {v : Int32} (h3 : C 3 = A 3) (h4 : C 4 = A 4) (h10 : C 10 = upd (A 10) w v) (ew : w = 80 * r + (10 * s + h)) (hs8 : s < 8) (hh10 : h < 10) (hs : (s : Int) < (A 3 r).toInt) (hh : (h : Int) < (A 4 r).toInt) (hv : rg v 0 99) (hB : dmB A r) : rdB C A r := by
  refine ⟨fun x hx hne => ?_, ?_⟩
  · rw [h3, h4, h10]
    exact ⟨rfl, rfl, fun k hk => pk_un (by omega)⟩
  · unfold dmB
    rw [h3, h4, h10]
    exact DM_put (k := 10 * s + h) hB ew (okc_of hv (by omega) (by omega))
/-- clearBank -/
def clI (C A : Nat → Nat → Int32) (r : Nat) (n : Int) : Prop := frB C A r ∧ ∀ k : Nat, 80 * r ≤ k → (k : Int) < n → C 10 k = 0
theorem cl_0 {A C : Nat → Nat → Int32} {r : Nat} {n : Int} (h3 : C 3 = upd (A 3) r 0) (h4 : C 4 = upd (A 4) r 0) (h10 : C 10 = A 10) (hn : n = ((80 * r : Nat) : Int)) : clI C A r n := by
  refine ⟨fun x hx hne => ?_, fun k h1 h2 => by omega⟩
  rw [h3, h4, h10]
  exact ⟨pk_un hne, pk_un hne, fun _ _ => rfl⟩
theorem cl_step {A C E : Nat → Nat → Int32} {r : Nat} {j j2 : Int32} (H : clI C A r j.toInt) (hj : rg j 0 159) (hr : r < 2) (h1 : ((80 * r : Nat) : Int) ≤ j.toInt) (h2 : j.toInt < ((80 * r : Nat) : Int) + 80) (h3 : E 3 = C 3) (h4 : E 4 = C 4) (h10 : E 10 = upd (C 10) j.toNatClampNeg 0) (e : j2 = j + 1) : clI E A r j2.toInt ∧ ((80 * r : Nat) : Int) ≤ j2.toInt := by
  have hc := cl_ti hj (by decide)
  rw [(inc_nat hj (by decide) e).2]
  refine ⟨⟨fun x hx hne => ?_, fun k g1 g2 => ?_⟩, by omega⟩
  · rw [h3, h4, h10]
    obtain ⟨a, b, c⟩ := H.1 x hx hne
    exact ⟨a, b, fun k hk => (pk_un (by omega)).trans (c k hk)⟩
  · rw [h10]
    by_cases ek : k = j.toNatClampNeg
    · rw [ek]; exact pk_us
    · exact (pk_un ek).trans (H.2 k g1 (by omega))
theorem cl_end {A C : Nat → Nat → Int32} {r : Nat} {n : Int} (H : clI C A r n) (hn : ((80 * r : Nat) : Int) + 80 ≤ n) : rdB C A r := ⟨H.1, fun k hk => by
  rw [H.2 (80 * r + k) (by omega) (by omega)]
  exact okc_0⟩
theorem LM.other {F G : Nat → Int32} {A C : Nat → Nat → Int32} {r : Nat} (h : LM F A) (h8 : G 8 = F 8) (h14 : G 14 = F 14) (h15 : G 15 = F 15) (a17 : C 17 = A 17) (a27 : C 27 = A 27) (a36 : C 36 = A 36) (a37 : C 37 = A 37) (hf : frB C A r) (hr : (F 8).toNatClampNeg ≠ r) (h2 : (F 8).toNatClampNeg < 2) : LM G C := by
  obtain ⟨e3, e4, e10⟩ := hf _ h2 hr
  unfold LM sN hN at *
  rw [h8, h14, h15, a17, a27, a36, a37, e3, e4]
  exact ⟨h.1, fun k hk => by rw [e10 k hk]; exact h.2.1 k hk, h.2.2⟩
theorem LM.new {F G : Nat → Int32} {A C : Nat → Nat → Int32} {n : Int} (hB : dmB A (F 8).toNatClampNeg) (h8 : G 8 = F 8) (h14 : G 14 = 0) (h15 : G 15 = 0) (a3 : C 3 = A 3) (a4 : C 4 = A 4) (a10 : C 10 = A 10) (hc : cpI (C 17) (A 10) 0 (80 * (F 8).toNatClampNeg) 80) (a36 : ∀ x : Nat, (x : Int) < n → C 36 x = -1) (hn : 3 ≤ n) : LM G C := by
  unfold LM sN hN
  rw [h8, h14, h15, a3, a4, a10]
  have h0 : (0 : Int32).toInt = 0 := rfl
  refine ⟨cp_DM hc (Int.le_refl _) hB, hB, fun i hi => by omega, fun x hx h => ?_⟩
  rw [a36 x (by omega)] at h
  exact absurd h (by decide)
theorem flip_bank {b r : Int32} (hb : rg b 0 1) (e : r = 1 - b) : rg r 0 1 ∧ b.toNatClampNeg ≠ r.toNatClampNeg ∧ b.toNatClampNeg < 2 := by
  have h1 : (1 : Int32).toInt = 1 := rfl
  have := hb.1; have := hb.2
  have e1 : r.toInt = 1 - b.toInt := by rw [e, ti_sub (by omega) (by omega), h1]
  refine ⟨⟨by omega, by omega⟩, ?_⟩
  show b.toInt.toNat ≠ r.toInt.toNat ∧ b.toInt.toNat < 2
  omega
theorem cl_init {A C : Nat → Nat → Int32} {r x : Int32} (h3 : C 3 = upd (A 3) r.toNatClampNeg 0) (h4 : C 4 = upd (A 4) r.toNatClampNeg 0) (h10 : C 10 = A 10) (hr : rg r 0 1) (ex : x = 80 * r) : clI C A r.toNatClampNeg x.toInt ∧ ((80 * r.toNatClampNeg : Nat) : Int) ≤ x.toInt := by
  have h80 : (80 : Int32).toInt = 80 := rfl
  have := hr.1; have := hr.2
  have hc := cl_ti hr (by decide)
  have e1 : x.toInt = 80 * r.toInt := by rw [ex, ti_mul (by rw [h80]; omega) (by rw [h80]; omega), h80]
  exact ⟨cl_0 h3 h4 h10 (by omega), by omega⟩
theorem flip_lt {r : Int32} (hr : rg r 0 1) : r.toNatClampNeg < 2 := by
  have := cl_ti hr (by decide)
  have := hr.2
  omega
theorem cl_lim' {r x y : Int32} (hr : rg r 0 1) (ex : x = 80 * r) (ey : y = x + 80) : y.toInt = ((80 * r.toNatClampNeg : Nat) : Int) + 80 := by
  have h80 : (80 : Int32).toInt = 80 := rfl
  have := hr.1; have := hr.2
  have hc := cl_ti hr (by decide)
  have e1 : x.toInt = 80 * r.toInt := by rw [ex, ti_mul (by rw [h80]; omega) (by rw [h80]; omega), h80]
  have e2 : y.toInt = x.toInt + 80 := by rw [ey, ti_add (by omega) (by omega), h80]
  omega
theorem cl_lim {r x y j : Int32} (hr : rg r 0 1) (ex : x = 80 * r) (ey : y = x + 80) (h : j.toInt < y.toInt) : j.toInt < ((80 * r.toNatClampNeg : Nat) : Int) + 80 := by
  have := cl_lim' hr ex ey
  omega
theorem cl_lim2 {r x y j : Int32} (hr : rg r 0 1) (ex : x = 80 * r) (ey : y = x + 80) (h : y.toInt ≤ j.toInt) : ((80 * r.toNatClampNeg : Nat) : Int) + 80 ≤ j.toInt := by
  have := cl_lim' hr ex ey
  omega
/-- yard: before the bank is cleared, while it is read -/
def yA (F : Nat → Int32) (A : Nat → Nat → Int32) (G : Nat → Int32) (C : Nat → Nat → Int32) : Prop := G 8 = F 8 ∧ G 14 = F 14 ∧ G 15 = F 15 ∧ C 17 = A 17 ∧ C 36 = A 36 ∧ C 3 = A 3 ∧ C 4 = A 4 ∧ C 10 = A 10
def yB (F : Nat → Int32) (A : Nat → Nat → Int32) (G : Nat → Int32) (C : Nat → Nat → Int32) (r : Nat) : Prop := G 8 = F 8 ∧ G 14 = F 14 ∧ G 15 = F 15 ∧ C 17 = A 17 ∧ C 36 = A 36 ∧ rdB C A r
theorem yA_rf {F G : Nat → Int32} {A : Nat → Nat → Int32} (h8 : G 8 = F 8) (h14 : G 14 = F 14) (h15 : G 15 = F 15) : yA F A G A := ⟨h8, h14, h15, rfl, rfl, rfl, rfl, rfl⟩
theorem yA_up {F G : Nat → Int32} {A C : Nat → Nat → Int32} {g : Nat → Int32} (h : yA F A G C) : yA F A G (va_up C 2 g) := h
theorem yB_of {F G K : Nat → Int32} {A C E : Nat → Nat → Int32} {r : Nat} (h : yA F A G C) (h8 : K 8 = G 8) (h14 : K 14 = G 14) (h15 : K 15 = G 15) (a17 : E 17 = C 17) (a36 : E 36 = C 36) (hr : rdB E C r) : yB F A K E r := by
  obtain ⟨b8, b14, b15, b17, b36, b3, b4, b10⟩ := h
  refine ⟨h8.trans b8, h14.trans b14, h15.trans b15, a17.trans b17, a36.trans b36, fun x hx hne => ?_, hr.2⟩
  obtain ⟨c, d, e⟩ := hr.1 x hx hne
  rw [b3] at c
  rw [b4] at d
  rw [b10] at e
  exact ⟨c, d, e⟩
theorem yB_tr {F G K : Nat → Int32} {A C E : Nat → Nat → Int32} {r : Nat} (h : yB F A G C r) (h8 : K 8 = G 8) (h14 : K 14 = G 14) (h15 : K 15 = G 15) (a17 : E 17 = C 17) (a36 : E 36 = C 36) (hr : rdB E C r) : yB F A K E r := by
  obtain ⟨b8, b14, b15, b17, b36, b⟩ := h
  exact ⟨h8.trans b8, h14.trans b14, h15.trans b15, a17.trans b17, a36.trans b36, rdB_tr b hr⟩
theorem yB_fr {F G K : Nat → Int32} {A C E : Nat → Nat → Int32} {r : Nat} (h : yB F A G C r) (h8 : K 8 = G 8) (h14 : K 14 = G 14) (h15 : K 15 = G 15) (a17 : E 17 = C 17) (a36 : E 36 = C 36) (a3 : E 3 = C 3) (a4 : E 4 = C 4) (a10 : E 10 = C 10) : yB F A K E r :=
  ⟨h8.trans h.1, h14.trans h.2.1, h15.trans h.2.2.1, a17.trans h.2.2.2.1, a36.trans h.2.2.2.2.1, rdB_fr h.2.2.2.2.2 a3 a4 a10⟩
theorem bq_0 {f : Nat → Int32} : ∀ x : Nat, (x : Int) < (0 : Int32).toInt → f x = -1 := fun x hx => by
  have h0 : (0 : Int32).toInt = 0 := rfl
  omega
theorem bq_step {f : Nat → Int32} {j j2 : Int32} (h : ∀ x : Nat, (x : Int) < j.toInt → f x = -1) (hj : rg j 0 2) (e : j2 = j + 1) : ∀ x : Nat, (x : Int) < j2.toInt → upd f j.toNatClampNeg (-1) x = -1 := fun x hx => by
  have hc := cl_ti hj (by decide)
  rw [(inc_nat hj (by decide) e).2] at hx
  by_cases ex : x = j.toNatClampNeg
  · rw [ex]; exact pk_us
  · exact (pk_un ex).trans (h x (by omega))
