/-! ranges of ints, with their arithmetic -/
abbrev GT : List Cond := lw_tbl
def rg (x : Int32) (a b : Int) : Prop := a ≤ x.toInt ∧ x.toInt ≤ b
theorem rg_top (x : Int32) : rg x (-2147483648) 2147483647 := ⟨by have := x.le_toInt; omega, by have := x.toInt_lt; omega⟩
theorem rg_w {x : Int32} {a b c d : Int} (h : rg x a b) (ok : (decide (c ≤ a) && decide (b ≤ d)) = true) : rg x c d := by
  simp only [Bool.and_eq_true, decide_eq_true_eq] at ok
  exact ⟨Int.le_trans ok.1 h.1, Int.le_trans h.2 ok.2⟩
theorem rg_k {x : Int32} {a b : Int} (h : (decide (a ≤ x.toInt) && decide (x.toInt ≤ b)) = true) : rg x a b := by
  simp only [Bool.and_eq_true, decide_eq_true_eq] at h
  exact h
theorem rg_e {x y : Int32} {a b : Int} (e : x = y) (h : rg y a b) : rg x a b := e ▸ h
theorem rg_emp {x : Int32} {a b : Int} {P : Prop} (h : rg x a b) (ok : decide (b < a) = true) : P := by
  simp only [decide_eq_true_eq] at ok
  exact absurd (Int.le_trans h.1 h.2) (by omega)
theorem bm32 {n : Int} (h1 : -2147483648 ≤ n) (h2 : n ≤ 2147483647) : n.bmod (2 ^ 32) = n := by
  rw [Int.bmod_def]
  split <;> omega
theorem ti_add {a b : Int32} (h1 : -2147483648 ≤ a.toInt + b.toInt) (h2 : a.toInt + b.toInt ≤ 2147483647) : (a + b).toInt = a.toInt + b.toInt := by
  rw [Int32.toInt_add, bm32 h1 h2]
theorem ti_sub {a b : Int32} (h1 : -2147483648 ≤ a.toInt - b.toInt) (h2 : a.toInt - b.toInt ≤ 2147483647) : (a - b).toInt = a.toInt - b.toInt := by
  rw [Int32.toInt_sub, bm32 h1 h2]
theorem ti_mul {a b : Int32} (h1 : -2147483648 ≤ a.toInt * b.toInt) (h2 : a.toInt * b.toInt ≤ 2147483647) : (a * b).toInt = a.toInt * b.toInt := by
  rw [Int32.toInt_mul, bm32 h1 h2]
theorem rg_add {x a b : Int32} {l1 h1 l2 h2 l h : Int} (e : x = a + b) (ha : rg a l1 h1) (hb : rg b l2 h2) (ok : (decide (-2147483648 ≤ l1 + l2) && decide (h1 + h2 ≤ 2147483647) && decide (l ≤ l1 + l2) && decide (h1 + h2 ≤ h)) = true) : rg x l h := by
  simp only [Bool.and_eq_true, decide_eq_true_eq] at ok
  obtain ⟨ha1, ha2⟩ := ha
  obtain ⟨hb1, hb2⟩ := hb
  subst e
  unfold rg
  rw [ti_add (by omega) (by omega)]
  omega
theorem ti_addk {x a b : Int32} {l1 h1 : Int} (e : x = a + b) (ha : rg a l1 h1) (ok : (decide (-2147483648 ≤ l1 + b.toInt) && decide (h1 + b.toInt ≤ 2147483647)) = true) : x.toInt = a.toInt + b.toInt := by
  simp only [Bool.and_eq_true, decide_eq_true_eq] at ok
  obtain ⟨ha1, ha2⟩ := ha
  subst e
  rw [ti_add (by omega) (by omega)]
theorem rg_sub {x a b : Int32} {l1 h1 l2 h2 l h : Int} (e : x = a - b) (ha : rg a l1 h1) (hb : rg b l2 h2) (ok : (decide (-2147483648 ≤ l1 - h2) && decide (h1 - l2 ≤ 2147483647) && decide (l ≤ l1 - h2) && decide (h1 - l2 ≤ h)) = true) : rg x l h := by
  simp only [Bool.and_eq_true, decide_eq_true_eq] at ok
  obtain ⟨ha1, ha2⟩ := ha
  obtain ⟨hb1, hb2⟩ := hb
  subst e
  unfold rg
  rw [ti_sub (by omega) (by omega)]
  omega
theorem rg_mul {x a b : Int32} {l1 h1 l2 h2 l h : Int} (e : x = a * b) (ha : rg a l1 h1) (hb : rg b l2 h2) (ok : (decide (0 ≤ l1) && decide (0 ≤ l2) && decide (h1 * h2 ≤ 2147483647) && decide (l ≤ l1 * l2) && decide (h1 * h2 ≤ h)) = true) : rg x l h := by
  simp only [Bool.and_eq_true, decide_eq_true_eq] at ok
  obtain ⟨ha1, ha2⟩ := ha
  obtain ⟨hb1, hb2⟩ := hb
  subst e
  have q1 : l1 * l2 ≤ a.toInt * b.toInt := Int.mul_le_mul ha1 hb1 (by omega) (by omega)
  have q2 : a.toInt * b.toInt ≤ h1 * h2 := Int.mul_le_mul ha2 hb2 (by omega) (by omega)
  have q3 : 0 ≤ l1 * l2 := Int.mul_nonneg (by omega) (by omega)
  unfold rg
  rw [ti_mul (by omega) (by omega)]
  omega
theorem ti_nat {b : Int32} (h : 0 ≤ b.toInt) : b.toInt = (b.toBitVec.toNat : Int) ∧ b.toBitVec.toNat < 2147483648 := by
  have q : b.toInt = b.toBitVec.toInt := rfl
  have q2 := BitVec.toInt_eq_toNat_cond b.toBitVec
  have q3 := b.toBitVec.isLt
  rw [q] at h ⊢
  rw [q2] at h ⊢
  split at h <;> rename_i q4
  · rw [if_pos q4]; omega
  · omega
theorem ti_ofnat {b : Int32} (h : b.toBitVec.toNat < 2147483648) : b.toInt = (b.toBitVec.toNat : Int) := by
  have q : b.toInt = b.toBitVec.toInt := rfl
  rw [q, BitVec.toInt_eq_toNat_cond]
  rw [if_pos (by omega)]
theorem rg_andr {x a b : Int32} {l2 h2 l h : Int} (e : x = a &&& b) (hb : rg b l2 h2) (ok : (decide (0 ≤ l2) && decide (l ≤ 0) && decide (h2 ≤ h)) = true) : rg x l h := by
  simp only [Bool.and_eq_true, decide_eq_true_eq] at ok
  obtain ⟨hb1, hb2⟩ := hb
  subst e
  have q := ti_nat (b := b) (by omega)
  have q1 : (a &&& b).toBitVec.toNat ≤ b.toBitVec.toNat := by
    rw [Int32.toBitVec_and, BitVec.toNat_and]
    exact Nat.and_le_right
  have q2 := ti_ofnat (b := a &&& b) (by omega)
  unfold rg
  omega
theorem rg_andl {x a b : Int32} {l2 h2 l h : Int} (e : x = a &&& b) (hb : rg a l2 h2) (ok : (decide (0 ≤ l2) && decide (l ≤ 0) && decide (h2 ≤ h)) = true) : rg x l h :=
  rg_andr (a := b) (b := a) (by rw [e, Int32.and_comm]) hb ok
theorem rg_or {x a b : Int32} {l1 h1 l2 h2 l h : Int} (k : Nat) (e : x = a ||| b) (ha : rg a l1 h1) (hb : rg b l2 h2) (ok : (decide (0 ≤ l1) && decide (0 ≤ l2) && decide (h1 < (2 ^ k : Nat)) && decide (h2 < (2 ^ k : Nat)) && decide (k ≤ 31) && decide (l ≤ 0) && decide ((2 ^ k : Nat) - 1 ≤ h)) = true) : rg x l h := by
  simp only [Bool.and_eq_true, decide_eq_true_eq] at ok
  obtain ⟨ha1, ha2⟩ := ha
  obtain ⟨hb1, hb2⟩ := hb
  subst e
  have q := ti_nat (b := b) (by omega)
  have p := ti_nat (b := a) (by omega)
  have q1 : (a ||| b).toBitVec.toNat < 2 ^ k := by
    rw [Int32.toBitVec_or, BitVec.toNat_or]
    exact Nat.or_lt_two_pow (by omega) (by omega)
  have q3 : (2 : Nat) ^ k ≤ 2 ^ 31 := Nat.pow_le_pow_right (by decide) ok.1.1.2
  have q2 := ti_ofnat (b := a ||| b) (by omega)
  unfold rg
  omega
theorem nI_rg {x : Int32} {a b : Int} (h : rg x a b) (h0 : 0 ≤ a) : ∃ j : Nat, x = nI j ∧ a ≤ (j : Int) ∧ (j : Int) ≤ b ∧ j < 2147483648 := by
  obtain ⟨h1, h2⟩ := h
  have q := ti_nat (b := x) (by omega)
  have p : x.toInt < 2 ^ 31 := x.toInt_lt
  refine ⟨x.toInt.toNat, Int32.toInt_inj.mp ?_, by omega, by omega, by omega⟩
  rw [nI_toInt (by omega)]
  omega
theorem shl1_t : ∀ j : Fin 30, ((1 : Int32) <<< (nI j.val &&& 31)).toInt = (2 ^ j.val : Nat) := by decide +kernel
theorem shl2_t : ∀ j : Fin 30, ((2 : Int32) <<< (nI j.val &&& 31)).toInt = (2 * 2 ^ j.val : Nat) := by decide +kernel
theorem rg_shl1 {x y : Int32} {l2 h2 l h : Int} (e : x = 1 <<< (y &&& 31)) (hy : rg y l2 h2) (ok : (decide (0 ≤ l2) && decide (h2 ≤ 29) && decide (l ≤ (2 ^ l2.toNat : Nat)) && decide ((2 ^ h2.toNat : Nat) ≤ h)) = true) : rg x l h := by
  simp only [Bool.and_eq_true, decide_eq_true_eq] at ok
  obtain ⟨j, rfl, q1, q2, q0⟩ := nI_rg hy (by omega)
  subst e
  have q := shl1_t ⟨j, by omega⟩
  have q3 : (2 : Nat) ^ l2.toNat ≤ 2 ^ j := Nat.pow_le_pow_right (by decide) (by omega)
  have q4 : (2 : Nat) ^ j ≤ 2 ^ h2.toNat := Nat.pow_le_pow_right (by decide) (by omega)
  unfold rg
  dsimp only at q
  omega
theorem rg_shl2 {x y : Int32} {l2 h2 l h : Int} (e : x = 2 <<< (y &&& 31)) (hy : rg y l2 h2) (ok : (decide (0 ≤ l2) && decide (h2 ≤ 29) && decide (l ≤ (2 * 2 ^ l2.toNat : Nat)) && decide ((2 * 2 ^ h2.toNat : Nat) ≤ h)) = true) : rg x l h := by
  simp only [Bool.and_eq_true, decide_eq_true_eq] at ok
  obtain ⟨j, rfl, q1, q2, q0⟩ := nI_rg hy (by omega)
  subst e
  have q := shl2_t ⟨j, by omega⟩
  have q3 : (2 : Nat) ^ l2.toNat ≤ 2 ^ j := Nat.pow_le_pow_right (by decide) (by omega)
  have q4 : (2 : Nat) ^ j ≤ 2 ^ h2.toNat := Nat.pow_le_pow_right (by decide) (by omega)
  unfold rg
  dsimp only at q
  omega
theorem rg_shlk {x y s : Int32} {l2 h2 l h : Int} (k : Nat) (e : x = y <<< (s &&& 31)) (hy : rg y l2 h2) (hs : ((s &&& 31).toBitVec.smod 32).toNat = k) (ok : (decide (0 ≤ l2) && decide (h2 * (2 ^ k : Nat) ≤ 2147483647) && decide (l ≤ l2 * (2 ^ k : Nat)) && decide (h2 * (2 ^ k : Nat) ≤ h)) = true) : rg x l h := by
  simp only [Bool.and_eq_true, decide_eq_true_eq] at ok
  obtain ⟨j, rfl, q1, q2, q0⟩ := nI_rg hy (by omega)
  have q3 : l2 * ((2 ^ k : Nat) : Int) ≤ (j : Int) * ((2 ^ k : Nat) : Int) := Int.mul_le_mul_of_nonneg_right q1 (Int.natCast_nonneg _)
  have q4 : (j : Int) * ((2 ^ k : Nat) : Int) ≤ h2 * ((2 ^ k : Nat) : Int) := Int.mul_le_mul_of_nonneg_right q2 (Int.natCast_nonneg _)
  have q5 : ((j * 2 ^ k : Nat) : Int) = (j : Int) * ((2 ^ k : Nat) : Int) := by rw [Int.natCast_mul]
  have q6 : j * 2 ^ k < 2 ^ 31 := by omega
  rw [pk_shlN (s &&& 31) k hs (by omega)] at e
  subst e
  unfold rg
  rw [nI_toInt q6]
  omega
theorem rg_shrk {x y s : Int32} {l2 h2 l h : Int} (k : Nat) (e : x = y >>> (s &&& 31)) (hy : rg y l2 h2) (hs : ((s &&& 31).toBitVec.smod 32).toNat = k) (ok : (decide (0 ≤ l2) && decide (l ≤ 0) && decide (h2 ≤ h)) = true) : rg x l h := by
  simp only [Bool.and_eq_true, decide_eq_true_eq] at ok
  obtain ⟨j, rfl, q1, q2, q0⟩ := nI_rg hy (by omega)
  rw [pk_shrN (by omega) (s &&& 31) k hs] at e
  subst e
  have q7 : j / 2 ^ k ≤ j := Nat.div_le_self _ _
  generalize j / 2 ^ k = z at q7
  unfold rg
  rw [nI_toInt (by omega)]
  omega
theorem ediv_anti {a b c : Int} (ha : 0 ≤ a) (hb : 0 < b) (h : b ≤ c) : a / c ≤ a / b := by
  have q1 := Int.ediv_nonneg (a := a) (b := c) ha (by omega)
  refine (Int.le_ediv_iff_mul_le hb).mpr ?_
  refine Int.le_trans (Int.mul_le_mul_of_nonneg_left h q1) ?_
  exact Int.ediv_mul_le a (by omega)
theorem rg_div {x a b : Int32} {l1 h1 l2 h2 l h : Int} (e : x = a / b) (ha : rg a l1 h1) (hb : rg b l2 h2) (ok : (decide (0 ≤ l1) && decide (1 ≤ l2) && decide (l ≤ 0) && decide (h1 / l2 ≤ h)) = true) : rg x l h := by
  simp only [Bool.and_eq_true, decide_eq_true_eq] at ok
  obtain ⟨i, rfl, p1, p2, p0⟩ := nI_rg ha (by omega)
  obtain ⟨j, rfl, q1, q2, q0⟩ := nI_rg hb (by omega)
  rw [pk_div (by omega) (by omega) (by omega)] at e
  subst e
  have q7 : i / j ≤ i := Nat.div_le_self _ _
  unfold rg
  rw [nI_toInt (by omega)]
  refine ⟨Int.le_trans ok.1.2 (Int.natCast_nonneg _), Int.le_trans ?_ ok.2⟩
  have q8 : ((i / j : Nat) : Int) = (i : Int) / (j : Int) := by simp
  rw [q8]
  refine Int.le_trans (Int.ediv_le_ediv (by omega) p2) ?_
  exact ediv_anti (by omega) (by omega) q1
theorem rg_rem {x a b : Int32} {l1 h1 l2 h2 l h : Int} (e : x = a - a / b * b) (ha : rg a l1 h1) (hb : rg b l2 h2) (ok : (decide (0 ≤ l1) && decide (1 ≤ l2) && decide (l ≤ 0) && (decide (h1 ≤ h) || decide (h2 - 1 ≤ h))) = true) : rg x l h := by
  simp only [Bool.and_eq_true, Bool.or_eq_true, decide_eq_true_eq] at ok
  obtain ⟨i, rfl, p1, p2, p0⟩ := nI_rg ha (by omega)
  obtain ⟨j, rfl, q1, q2, q0⟩ := nI_rg hb (by omega)
  rw [pk_rem (by omega) (by omega) (by omega)] at e
  subst e
  have q7 : i % j ≤ i := Nat.mod_le _ _
  have q8 : i % j < j := Nat.mod_lt _ (by omega)
  unfold rg
  rw [nI_toInt (by omega)]
  omega
theorem rg_neg {x a : Int32} {l1 h1 l h : Int} (e : x = -a) (ha : rg a l1 h1) (ok : (decide (-2147483647 ≤ l1) && decide (l ≤ -h1) && decide (-l1 ≤ h)) = true) : rg x l h := by
  simp only [Bool.and_eq_true, decide_eq_true_eq] at ok
  obtain ⟨h1, h2⟩ := ha
  have p : a.toInt < 2 ^ 31 := a.toInt_lt
  subst e
  unfold rg
  rw [Int32.toInt_neg, bm32 (by omega) (by omega)]
  omega
theorem iL {x y : Int32} (h : x < y) : x.toInt < y.toInt := Int32.lt_iff_toInt_lt.mp h
theorem iE {x y : Int32} (h : x ≤ y) : x.toInt ≤ y.toInt := Int32.le_iff_toInt_le.mp h
theorem iNL {x y : Int32} (h : ¬ x < y) : y.toInt ≤ x.toInt := by
  have := mt Int32.lt_iff_toInt_lt.mpr h
  omega
theorem iNE {x y : Int32} (h : ¬ x ≤ y) : y.toInt < x.toInt := by
  have := mt Int32.le_iff_toInt_le.mpr h
  omega
theorem rg_max {x a b : Int32} {l1 h1 l2 h2 l h : Int} (e : x = if a < b then b else a) (ha : rg a l1 h1) (hb : rg b l2 h2) (ok : ((decide (l ≤ l1) || decide (l ≤ l2)) && decide (h1 ≤ h) && decide (h2 ≤ h)) = true) : rg x l h := by
  simp only [Bool.and_eq_true, Bool.or_eq_true, decide_eq_true_eq] at ok
  obtain ⟨p1, p2⟩ := ha
  obtain ⟨q1, q2⟩ := hb
  unfold rg
  split at e <;> rename_i q <;> subst e
  · have := iL q
    omega
  · have := iNL q
    omega
theorem rg_lt1 {x y : Int32} {a b c d : Int} (h : x.toInt < y.toInt) (hx : rg x a b) (hy : rg y c d) : rg x a (d - 1) := ⟨hx.1, by have := hy.2; omega⟩
theorem rg_lt2 {x y : Int32} {a b c d : Int} (h : x.toInt < y.toInt) (hx : rg x a b) (hy : rg y c d) : rg y (a + 1) d := ⟨by have := hx.1; omega, hy.2⟩
theorem rg_le1 {x y : Int32} {a b c d : Int} (h : x.toInt ≤ y.toInt) (hx : rg x a b) (hy : rg y c d) : rg x a d := ⟨hx.1, by have := hy.2; omega⟩
theorem rg_le2 {x y : Int32} {a b c d : Int} (h : x.toInt ≤ y.toInt) (hx : rg x a b) (hy : rg y c d) : rg y a d := ⟨by have := hx.1; omega, hy.2⟩
theorem rg_eq1 {x y : Int32} {a b c d l h : Int} (e : x = y) (hx : rg x a b) (hy : rg y c d) (ok : ((decide (l ≤ a) || decide (l ≤ c)) && (decide (b ≤ h) || decide (d ≤ h))) = true) : rg x l h := by
  simp only [Bool.and_eq_true, Bool.or_eq_true, decide_eq_true_eq] at ok
  subst e
  obtain ⟨p1, p2⟩ := hx
  obtain ⟨q1, q2⟩ := hy
  unfold rg
  omega
theorem rg_ne1 {x y : Int32} {a b c : Int} (e : ¬ x = y) (hx : rg x a b) (hy : rg y c c) : (c = a → rg x (a + 1) b) ∧ (c = b → rg x a (b - 1)) := by
  have q : x.toInt ≠ y.toInt := fun h => e (Int32.toInt_inj.mp h)
  obtain ⟨p1, p2⟩ := hx
  obtain ⟨q1, q2⟩ := hy
  unfold rg
  exact ⟨fun h => by omega, fun h => by omega⟩
theorem in_rg {i : Int32} {n : Nat} {a b : Int} (h : rg i a b) (ok : (decide (0 ≤ a) && decide (b < (n : Int))) = true) : vp_in i n := by
  simp only [Bool.and_eq_true, decide_eq_true_eq] at ok
  exact vp_in_iff.mpr ⟨Int.le_trans ok.1 h.1, Int.lt_of_le_of_lt h.2 ok.2⟩
theorem ne0_rg {x : Int32} {a b : Int} (h : rg x a b) (ok : (decide (0 < a) || decide (b < 0)) = true) : ¬ x = 0 := by
  simp only [Bool.or_eq_true, decide_eq_true_eq] at ok
  intro e
  subst e
  have := h.1
  have := h.2
  have q : (0 : Int32).toInt = 0 := rfl
  omega
theorem nn_rg {x : Int32} {a b : Int} (h : rg x a b) (ok : decide (0 ≤ a) = true) : ¬ x < 0 := by
  simp only [decide_eq_true_eq] at ok
  intro e
  have := iL e
  have := h.1
  have q : (0 : Int32).toInt = 0 := rfl
  omega
theorem cp_rg {x y : Int32} {a b c d : Int} {n : Nat} (h : rg x a b) (h2 : rg y c d) (ok : (decide (0 ≤ a) && decide (0 ≤ c) && decide (b + d ≤ (n : Int))) = true) : x.toNatClampNeg + y.toNatClampNeg ≤ n := by
  simp only [Bool.and_eq_true, decide_eq_true_eq] at ok
  obtain ⟨p1, p2⟩ := h
  obtain ⟨q1, q2⟩ := h2
  show x.toInt.toNat + y.toInt.toNat ≤ n
  omega
theorem nb_rg {v : Int32} (h : rg v 0 1) : narrow .boolean (.int v) = .int v := by
  obtain ⟨j, rfl, p1, p2, p0⟩ := nI_rg h (by omega)
  have : j = 0 ∨ j = 1 := by omega
  rcases this with rfl | rfl <;> rfl
/-- a mask that isn't 0 loses its lowest bit -/
theorem mask_less {x y : Int32} {a b : Int} (e : y = x &&& (x - 1)) (h : rg x a b) (ok : decide (1 ≤ a) = true) : y.toInt.toNat < x.toInt.toNat ∧ 0 ≤ y.toInt := by
  simp only [decide_eq_true_eq] at ok
  obtain ⟨p1, p2⟩ := h
  have q1 : (1 : Int32).toInt = 1 := rfl
  have q2 := x.toInt_lt
  have r1 : rg (x - 1) (x.toInt - 1) (x.toInt - 1) := by
    unfold rg
    rw [ti_sub (by rw [q1]; omega) (by rw [q1]; omega), q1]
    omega
  have r2 : rg y 0 (x.toInt - 1) := by
    have q := ti_nat (b := x - 1) (by have := r1.1; omega)
    have q3 : (x &&& (x - 1)).toBitVec.toNat ≤ (x - 1).toBitVec.toNat := by
      rw [Int32.toBitVec_and, BitVec.toNat_and]
      exact Nat.and_le_right
    have q4 := ti_ofnat (b := x &&& (x - 1)) (by omega)
    have := r1.1
    have := r1.2
    subst e
    unfold rg
    omega
  have := r2.1
  have := r2.2
  omega
