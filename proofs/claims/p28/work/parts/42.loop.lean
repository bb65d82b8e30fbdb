set_option maxHeartbeats 4000000 in
set_option maxRecDepth 100000 in
theorem law_loop {p : Program} {e : Env} {s : State} {m : MethodId} {below : List Frame} {meth : Method} {c : Code} {l : Launch} {D : va_G} {b Ls : Nat} {xs : Nat → Int32} {nC nS : Nat} (hC : LC p s m c b Ls xs) (hL : Ls ≤ 3072) (hr : meth.sig.returnType = ret) (hlocks : meth.locks = false) (hf : nC ≤ room_1.cells ∧ nS ≤ room_1.slots) : ∀ (n : Nat) (i : Int32) (cA : Nat → ClassId) (ad : Nat → Nat) (F : Nat → Int32) (L : Nat → Int64) (A : Nat → Nat → Int32) (B : Nat → Nat → Int64) (cM : Nat → ClassId) (aM : Nat → Nat) (G : Nat → Int32) (LG : Nat → Int64) (C : Nat → Nat → Int32) (BG : Nat → Nat → Int64) (H : Heap) (locs : List Loc) (ls : Array Slot), ((Ls : Int) + 6 - i.toInt).toNat < n → 0 ≤ i.toInt → i.toInt ≤ (Ls : Int) + 6 → LV F A G C → va_K D classes (tysX cA) s → va_K D classes (tysM cM) s → va_P D classes (wX cA ad F L A B ++ wM cM aM G LG C BG) H → va_D (fun q : Nat => s.heap.size ≤ q) (wX cA ad F L A B ++ wM cM aM G LG C BG) → va_S (fun q : Nat => s.heap.size ≤ q) s.heap H locs → lv_has ls 4 [(0, .ref b), (1, .ref (ad 0)), (2, .ref (aM 0)), (3, .int i)] → W p l e room_1 s m #[Value.ref b] below meth c H locs nC nS (lw_Z below #[Value.ref b] s) (F0 m 18 ls []) := by
  have hx := hC.1
  have hb := hC.2.1
  have hXs := hC.2.2.2.2.2.2.1
  have hbl := hC.2.2.2.2.2.2.2
  have hbA : ¬ (fun q : Nat => s.heap.size ≤ q) b := Nat.not_le.mpr hbl
  intro n
  induction n with
  | zero =>
    intro i cA ad F L A B cM aM G LG C BG H locs ls hn
    exact absurd hn (Nat.not_lt_zero _)
  | succ n ih =>
    intro i cA ad F L A B cM aM G LG C BG H locs ls hn hi0 hiL hV hKX hKM hP hD hS hl
    refine lv_iload_n hx hb dL_law_18 rfl (lv_at hl 3 rfl) ?_
    refine lv_aload_n hx hb dL_law_19 rfl (lv_at hl 0 rfl) ?_
    refine va_slen hx hb hXs hbl hbA hS dL_law_20 ?_
    refine lv_bipush (v := 6) hx hb dL_law_21 (by decide) ?_
    refine lv_isub hx hb dL_law_23 ?_
    refine lv_topi (fun x ex => ?_)
    have e0 : (Int32.ofNat Ls).toInt = (Ls : Int) := nI_toInt (by omega)
    have e6 : (6 : Int32).toInt = 6 := rfl
    have hx6 : x.toInt = (Ls : Int) - 6 := by rw [ex, ti_sub (by omega) (by omega), e0, e6]
    refine lv_icmp_gt (tgt := 1013) hx hb dL_law_24 (by decide) (fun c1 => ?_) (fun c1 => ?_)
    · refine lv_iconst (v := 1) hx hb dL_law_1013 (by decide) ?_
      refine va_forget (fun q hq => hS.2.2 q hq) ?_
      refine W.widen (k := 600000) (n := 7302250) hf.1 hf.2 ?_
      exact lw_ret hx hb hr hlocks dL_law_1014
    · have hle := iNL c1
      have hi6 : i.toInt + 6 ≤ (Ls : Int) := by omega
      refine lv_aload_n hx hb dL_law_27 rfl (lv_at hl 0 rfl) ?_
      refine lv_iload_n hx hb dL_law_28 rfl (lv_at hl 3 rfl) ?_
      refine va_sld hx hb hXs hbl hbA hS (vp_in_iff.mpr ⟨hi0, by omega⟩) dL_law_29 ?_
      refine lv_bipush (v := 31) hx hb dL_law_30 (by decide) ?_
      refine lv_iand hx hb dL_law_32 ?_
      refine lv_topi (fun y ey => ?_)
      have hy : rg y 0 31 := rg_andr ey (rg_k (by decide) : rg 31 31 31) (by decide)
      have K : ∀ (cA : Nat → ClassId) (ad : Nat → Nat) (F : Nat → Int32) (L : Nat → Int64) (A : Nat → Nat → Int32) (B : Nat → Nat → Int64) (cM : Nat → ClassId) (aM : Nat → Nat) (G : Nat → Int32) (LG : Nat → Int64) (C : Nat → Nat → Int32) (BG : Nat → Nat → Int64) (H : Heap) (locs : List Loc) (ls : Array Slot), LV F A G C → va_K D classes (tysX cA) s → va_K D classes (tysM cM) s → va_P D classes (wX cA ad F L A B ++ wM cM aM G LG C BG) H → va_D (fun q : Nat => s.heap.size ≤ q) (wX cA ad F L A B ++ wM cM aM G LG C BG) → va_S (fun q : Nat => s.heap.size ≤ q) s.heap H locs → lv_has ls 4 [(0, .ref b), (1, .ref (ad 0)), (2, .ref (aM 0)), (3, .int i)] → W p l e room_1 s m #[Value.ref b] below meth c H locs nC nS (lw_Z below #[Value.ref b] s) (F0 m 1007 ls []) := by
        intro cA ad F L A B cM aM G LG C BG H locs ls hV hKX hKM hP hD hS hl
        obtain ⟨i2, ei2⟩ : ∃ y : Int32, y = i + 6 := ⟨_, rfl⟩
        have hi2 : i2.toInt = i.toInt + 6 := by rw [ei2, ti_add (by omega) (by omega), e6]
        refine lv_iinc (v := i2) (lv' := [(3, .int i2), (0, .ref b), (1, .ref (ad 0)), (2, .ref (aM 0))]) hx hb dL_law_1007 hl (k := 3) rfl (by rw [ei2]; rfl) (by decide) rfl (fun ls hl => ?_)
        refine lv_goto (tgt := 18) hx hb dL_law_1010 (by decide) ?_
        exact ih i2 cA ad F L A B cM aM G LG C BG H locs ls (by omega) (by omega) (by omega) hV hKX hKM hP hD hS (lv_sub hl [1, 2, 3, 0] rfl)
      have h0 := hy.1
      have h1 := hy.2
      by_cases hhi : 30 < y.toInt
      · refine lv_tableOut (tgt := 1007) hx hb dL_law_33 (Or.inr hhi) (by decide) ?_
        exact K cA ad F L A B cM aM G LG C BG H locs ls hV hKX hKM hP hD hS hl
      have hlo : ¬ y.toInt < 0 := by omega
      have hcs : y.toInt = 0 ∨ y.toInt = 1 ∨ y.toInt = 2 ∨ y.toInt = 3 ∨ y.toInt = 4 ∨ y.toInt = 5 ∨ y.toInt = 6 ∨ y.toInt = 7 ∨ y.toInt = 8 ∨ y.toInt = 9 ∨ y.toInt = 10 ∨ y.toInt = 11 ∨ y.toInt = 12 ∨ y.toInt = 13 ∨ y.toInt = 14 ∨ y.toInt = 15 ∨ y.toInt = 16 ∨ y.toInt = 17 ∨ y.toInt = 18 ∨ y.toInt = 19 ∨ y.toInt = 20 ∨ y.toInt = 21 ∨ y.toInt = 22 ∨ y.toInt = 23 ∨ y.toInt = 24 ∨ y.toInt = 25 ∨ y.toInt = 26 ∨ y.toInt = 27 ∨ y.toInt = 28 ∨ y.toInt = 29 ∨ y.toInt = 30 := by omega
      rcases hcs with hcs | hcs | hcs | hcs | hcs | hcs | hcs | hcs | hcs | hcs | hcs | hcs | hcs | hcs | hcs | hcs | hcs | hcs | hcs | hcs | hcs | hcs | hcs | hcs | hcs | hcs | hcs | hcs | hcs | hcs | hcs
      · refine lv_tableIn (off := 139) (tgt := 172) hx hb dL_law_33 hlo hhi (by rw [hcs]; rfl) (by decide) ?_
        exact law_c0 hC hL hf hi0 hi6 hV hKX hKM hP hD hS hl K
      · refine lv_tableIn (off := 202) (tgt := 235) hx hb dL_law_33 hlo hhi (by rw [hcs]; rfl) (by decide) ?_
        exact law_c1 hC hL hf hi0 hi6 hV hKX hKM hP hD hS hl K
      · refine lv_tableIn (off := 225) (tgt := 258) hx hb dL_law_33 hlo hhi (by rw [hcs]; rfl) (by decide) ?_
        exact law_c2 hC hL hf hi0 hi6 hV hKX hKM hP hD hS hl K
      · refine lv_tableIn (off := 238) (tgt := 271) hx hb dL_law_33 hlo hhi (by rw [hcs]; rfl) (by decide) ?_
        exact law_c3 hC hL hf hi0 hi6 hV hKX hKM hP hD hS hl K
      · refine lv_tableIn (off := 261) (tgt := 294) hx hb dL_law_33 hlo hhi (by rw [hcs]; rfl) (by decide) ?_
        exact law_c4 hC hL hf hi0 hi6 hV hKX hKM hP hD hS hl K
      · refine lv_tableIn (off := 294) (tgt := 327) hx hb dL_law_33 hlo hhi (by rw [hcs]; rfl) (by decide) ?_
        exact law_c5 hC hL hf hi0 hi6 hV hKX hKM hP hD hS hl K
      · refine lv_tableIn (off := 343) (tgt := 376) hx hb dL_law_33 hlo hhi (by rw [hcs]; rfl) (by decide) ?_
        exact law_c6 hC hL hf hi0 hi6 hV hKX hKM hP hD hS hl K
      · refine lv_tableIn (off := 356) (tgt := 389) hx hb dL_law_33 hlo hhi (by rw [hcs]; rfl) (by decide) ?_
        exact law_c7 hC hL hf hi0 hi6 hV hKX hKM hP hD hS hl K
      · refine lv_tableIn (off := 395) (tgt := 428) hx hb dL_law_33 hlo hhi (by rw [hcs]; rfl) (by decide) ?_
        exact law_c8 hC hL hf hi0 hi6 hV hKX hKM hP hD hS hl K
      · refine lv_tableIn (off := 408) (tgt := 441) hx hb dL_law_33 hlo hhi (by rw [hcs]; rfl) (by decide) ?_
        exact law_c9 hC hL hf hi0 hi6 hV hKX hKM hP hD hS hl K
      · refine lv_tableIn (off := 431) (tgt := 464) hx hb dL_law_33 hlo hhi (by rw [hcs]; rfl) (by decide) ?_
        exact law_c10 hC hL hf hi0 hi6 hV hKX hKM hP hD hS hl K
      · refine lv_tableIn (off := 464) (tgt := 497) hx hb dL_law_33 hlo hhi (by rw [hcs]; rfl) (by decide) ?_
        exact law_c11 hC hL hf hi0 hi6 hV hKX hKM hP hD hS hl K
      · refine lv_tableIn (off := 477) (tgt := 510) hx hb dL_law_33 hlo hhi (by rw [hcs]; rfl) (by decide) ?_
        exact law_c12 hC hL hf hi0 hi6 hV hKX hKM hP hD hS hl K
      · refine lv_tableIn (off := 530) (tgt := 563) hx hb dL_law_33 hlo hhi (by rw [hcs]; rfl) (by decide) ?_
        exact law_c13 hC hL hf hi0 hi6 hV hKX hKM hP hD hS hl K
      · refine lv_tableIn (off := 543) (tgt := 576) hx hb dL_law_33 hlo hhi (by rw [hcs]; rfl) (by decide) ?_
        exact law_c14 hC hL hf hi0 hi6 hV hKX hKM hP hD hS hl K
      · refine lv_tableIn (off := 556) (tgt := 589) hx hb dL_law_33 hlo hhi (by rw [hcs]; rfl) (by decide) ?_
        exact law_c15 hC hL hf hi0 hi6 hV hKX hKM hP hD hS hl K
      · refine lv_tableIn (off := 579) (tgt := 612) hx hb dL_law_33 hlo hhi (by rw [hcs]; rfl) (by decide) ?_
        exact law_c16 hC hL hf hi0 hi6 hV hKX hKM hP hD hS hl K
      · refine lv_tableIn (off := 622) (tgt := 655) hx hb dL_law_33 hlo hhi (by rw [hcs]; rfl) (by decide) ?_
        exact law_c17 hC hL hf hi0 hi6 hV hKX hKM hP hD hS hl K
      · refine lv_tableIn (off := 655) (tgt := 688) hx hb dL_law_33 hlo hhi (by rw [hcs]; rfl) (by decide) ?_
        exact law_c18 hC hL hf hi0 hi6 hV hKX hKM hP hD hS hl K
      · refine lv_tableIn (off := 668) (tgt := 701) hx hb dL_law_33 hlo hhi (by rw [hcs]; rfl) (by decide) ?_
        exact law_c19 hC hL hf hi0 hi6 hV hKX hKM hP hD hS hl K
      · refine lv_tableIn (off := 681) (tgt := 714) hx hb dL_law_33 hlo hhi (by rw [hcs]; rfl) (by decide) ?_
        exact law_c20 hC hL hf hi0 hi6 hV hKX hKM hP hD hS hl K
      · refine lv_tableIn (off := 704) (tgt := 737) hx hb dL_law_33 hlo hhi (by rw [hcs]; rfl) (by decide) ?_
        exact law_c21 hC hL hf hi0 hi6 hV hKX hKM hP hD hS hl K
      · refine lv_tableIn (off := 737) (tgt := 770) hx hb dL_law_33 hlo hhi (by rw [hcs]; rfl) (by decide) ?_
        exact law_c22 hC hL hf hi0 hi6 hV hKX hKM hP hD hS hl K
      · refine lv_tableIn (off := 750) (tgt := 783) hx hb dL_law_33 hlo hhi (by rw [hcs]; rfl) (by decide) ?_
        exact law_c23 hC hL hf hi0 hi6 hV hKX hKM hP hD hS hl K
      · refine lv_tableIn (off := 773) (tgt := 806) hx hb dL_law_33 hlo hhi (by rw [hcs]; rfl) (by decide) ?_
        exact law_c24 hC hL hf hi0 hi6 hV hKX hKM hP hD hS hl K
      · refine lv_tableIn (off := 816) (tgt := 849) hx hb dL_law_33 hlo hhi (by rw [hcs]; rfl) (by decide) ?_
        exact law_c25 hC hL hf hi0 hi6 hV hKX hKM hP hD hS hl K
      · refine lv_tableIn (off := 839) (tgt := 872) hx hb dL_law_33 hlo hhi (by rw [hcs]; rfl) (by decide) ?_
        exact law_c26 hC hL hf hi0 hi6 hV hKX hKM hP hD hS hl K
      · refine lv_tableIn (off := 862) (tgt := 895) hx hb dL_law_33 hlo hhi (by rw [hcs]; rfl) (by decide) ?_
        exact law_c27 hC hL hf hi0 hi6 hV hKX hKM hP hD hS hl K
      · refine lv_tableIn (off := 905) (tgt := 938) hx hb dL_law_33 hlo hhi (by rw [hcs]; rfl) (by decide) ?_
        exact law_c28 hC hL hf hi0 hi6 hV hKX hKM hP hD hS hl K
      · refine lv_tableIn (off := 928) (tgt := 961) hx hb dL_law_33 hlo hhi (by rw [hcs]; rfl) (by decide) ?_
        exact law_c29 hC hL hf hi0 hi6 hV hKX hKM hP hD hS hl K
      · refine lv_tableIn (off := 951) (tgt := 984) hx hb dL_law_33 hlo hhi (by rw [hcs]; rfl) (by decide) ?_
        exact law_c30 hC hL hf hi0 hi6 hV hKX hKM hP hD hS hl K
