abbrev rm_X11_pair_0 : Room := { frames := 2, cells := 0, slots := 0, locals := 43 }
set_option maxHeartbeats 4000000 in
set_option maxRecDepth 100000 in
theorem c_X11_pair_0 (l : Launch) (D : va_G) (cA : Nat → ClassId) (sz : Nat) (ad : Nat → Nat) (F : Nat → Int32) (L : Nat → Int64) (A : Nat → Nat → Int32) (B : Nat → Nat → Int64) (p1 : Int32) (p2 : Int32) (hT : typX F A) : Met l yX11_pair (Cond.code yX11_pair cX11_pair 3 (some .int) :: GW) rm_X11_pair_0 (mPc D classes (tysX cA) (wX cA ad F L A B) sz [.ref (ad 0), .int p1, .int p2]) (mQi (S := SW) D classes (tysX cA) (wX cA ad F L A B) sz (wfX cA ad) (fun r u => qX [] [58, 59] F A u.1 u.2.2.1 ∧ rg r (-1) 10)) 0 0 (va_A (wX cA ad F L A B) sz) := by
  refine met_i (own := "ShoeingDay") (by decide +kernel) rfl (Nat.le_of_ble_eq_true rfl) ?_
  intro p e s m args below meth c Q Af ls hC hP hD hS hA hl hret
  have hx := hC.1
  have hb := hC.2.1
  have hown := hC.2.2.2.1
  have hg := hC.g
  have hK := hC.K
  have hl : lv_has ls 3 [(0, .ref (ad 0)), (1, .int p1), (2, .int p2)] := hl
  have hq : qX [] [58, 59] F A F A := qX.rf hT
  obtain ⟨H, hH⟩ : ∃ H, H = s.heap := ⟨_, rfl⟩
  have hP : va_P D classes (wX cA ad F L A B) H := by rw [hH]; exact hP
  have hS : va_S Af s.heap H [] := by rw [hH]; exact hS
  obtain ⟨locs, hlo⟩ : ∃ q : List Loc, q = [] := ⟨_, rfl⟩
  rw [← hH, ← hlo]
  rw [← hlo] at hS
  refine lv_aload_n hx hb dX11_pair_0 rfl (lv_at hl 0 rfl) ?_
  refine lv_iload_n hx hb dX11_pair_1 rfl (lv_at hl 1 rfl) ?_
  refine lv_iload_n hx hb dX11_pair_2 rfl (lv_at hl 2 rfl) ?_
  refine callv_i (As := [.int p1, .int p2]) (rest := []) hC (c_X11_isPair_0 l D cA H.size ad F L A B (p1) (p2) hq.1) (cwV 2 hg (g_V mw_727 mw_724 mw_726 ms_18 mw_1) rfl rfl rfl (by decide +kernel) ⟨(Nat.le_of_ble_eq_true rfl), (Nat.le_of_ble_eq_true rfl)⟩) hP hD hS hA atX_0 rfl rfl hl.1 rfl (Nat.le_of_ble_eq_true rfl) dX11_pair_3 ⟨Nat.zero_le _, Nat.zero_le _⟩ (fun x1 u H locs hw hP hD hS => ?_)
  obtain ⟨r2, g3⟩ := hw
  have hP : va_P D classes (wX cA ad F L A B) H := hP
  have hD : va_D Af (wX cA ad F L A B) := hD
  refine lv_if_eq (tgt := 24) hx hb dX11_pair_6 (by decide) (fun c4 => ?_) (fun c4 => ?_)
  · skip
    have r5 : rg x1 0 0 := rg_eq1 c4 (r2 : rg x1 0 1) ((rg_k (by decide)) : rg 0 0 0) (by decide)
    refine lv_iconst (v := (-1)) hx hb dX11_pair_24 (by decide) ?_
    exact hret ((-1)) (F, L, A, B) H locs 25 ls rfl dX11_pair_25 hP hD hS ⟨hq, (rg_k (by decide))⟩
  · skip
    have g6 := g3.resolve_left c4
    refine lv_aload_n hx hb dX11_pair_9 rfl (lv_at hl 0 rfl) ?_
    refine va_get (ci := 11) (v := .ref (ad 56)) (C := RX11) (T := TX11) (N := 13) hx hb hg inX11 hown hK hP 0 atX_0 rfl 7 (by decide) (hg _ mw_532) (fun _ h9 => h9) rfl dX11_pair_10 ?_
    refine lv_iload_n hx hb dX11_pair_13 rfl (lv_at hl 1 rfl) ?_
    refine lv_iload_n hx hb dX11_pair_14 rfl (lv_at hl 2 rfl) ?_
    refine calls_i (As := [.int p1, .int p2]) (rest := [.ref (ad 56)]) hC (c_X11_cellOf l D (tysX cA) (wX cA ad F L A B) H.size (p1) (p2)) (cwS 2 hg (g_S mw_681 mw_736 mw_680 mw_1) rfl rfl rfl (by decide +kernel) ⟨(Nat.le_of_ble_eq_true rfl), (Nat.le_of_ble_eq_true rfl)⟩) hP hD hS hA rfl hl.1 rfl (Nat.le_of_ble_eq_true rfl) dX11_pair_15 ⟨Nat.zero_le _, Nat.zero_le _⟩ (fun x7 u H locs hw hP hD hS => ?_)
    have e8 := hw
    have hP : va_P D classes (wX cA ad F L A B) H := hP
    have hD : va_D Af (wX cA ad F L A B) := hD
    have r9 : rg x7 0 79 := rg_cell hw (g6.1 : rg p1 0 7) (g6.2 : rg p2 0 9) (by decide)
    refine callv_i (As := [.int x7]) (rest := []) hC (c_X9_addPair_56 l D cA H.size ad F L A B (x7) hq.1 r9) (cwV 1 hg (g_V mw_1007 mw_1004 mw_1005 mw_1006 mw_17) rfl rfl rfl (by decide +kernel) ⟨(Nat.le_of_ble_eq_true rfl), (Nat.le_of_ble_eq_true rfl)⟩) hP hD hS hA atX_56 rfl rfl hl.1 rfl (Nat.le_of_ble_eq_true rfl) dX11_pair_18 ⟨Nat.zero_le _, Nat.zero_le _⟩ (fun x10 u H locs hw hP hD hS => ?_)
    obtain ⟨F11, L11, A11, B11⟩ := u
    try dsimp only at hw
    obtain ⟨hq11, r12⟩ := hw
    have hq := hq.call hq11 (by decide)
    have hP : va_P D classes (wX cA ad F11 L11 A11 B11) H := hP
    have hD : va_D Af (wX cA ad F11 L11 A11 B11) := hD
    refine lv_goto (tgt := 25) hx hb dX11_pair_21 (by decide) ?_
    exact hret (x10) (F11, L11, A11, B11) H locs 25 ls rfl dX11_pair_25 hP hD hS ⟨hq, r12⟩
abbrev rm_X11_hush_0 : Room := { frames := 0, cells := 0, slots := 0, locals := 0 }
set_option maxHeartbeats 4000000 in
set_option maxRecDepth 100000 in
theorem c_X11_hush_0 (l : Launch) (D : va_G) (cA : Nat → ClassId) (sz : Nat) (ad : Nat → Nat) (F : Nat → Int32) (L : Nat → Int64) (A : Nat → Nat → Int32) (B : Nat → Nat → Int64)  (hT : typX F A) : Met l yX11_hush (Cond.code yX11_hush cX11_hush 2 (some .int) :: GW) rm_X11_hush_0 (mPc D classes (tysX cA) (wX cA ad F L A B) sz [.ref (ad 0)]) (mQi (S := SW) D classes (tysX cA) (wX cA ad F L A B) sz (wfX cA ad) (fun r u => qX [39] [] F A u.1 u.2.2.1 ∧ rg r 0 12)) 0 0 (va_A (wX cA ad F L A B) sz) := by
  refine met_i (own := "ShoeingDay") (by decide +kernel) rfl (Nat.le_of_ble_eq_true rfl) ?_
  intro p e s m args below meth c Q Af ls hC hP hD hS hA hl hret
  have hx := hC.1
  have hb := hC.2.1
  have hown := hC.2.2.2.1
  have hg := hC.g
  have hK := hC.K
  have hl : lv_has ls 2 [(0, .ref (ad 0))] := hl
  have hq : qX [39] [] F A F A := qX.rf hT
  obtain ⟨H, hH⟩ : ∃ H, H = s.heap := ⟨_, rfl⟩
  have hP : va_P D classes (wX cA ad F L A B) H := by rw [hH]; exact hP
  have hS : va_S Af s.heap H [] := by rw [hH]; exact hS
  obtain ⟨locs, hlo⟩ : ∃ q : List Loc, q = [] := ⟨_, rfl⟩
  rw [← hH, ← hlo]
  rw [← hlo] at hS
  refine lv_aload_n hx hb dX11_hush_0 rfl (lv_at hl 0 rfl) ?_
  refine va_get (ci := 11) (v := .ref (ad 56)) (C := RX11) (T := TX11) (N := 13) hx hb hg inX11 hown hK hP 0 atX_0 rfl 7 (by decide) (hg _ mw_532) (fun _ h9 => h9) rfl dX11_hush_1 ?_
  refine va_get (ci := 9) (v := .int (F 39)) (C := RX9) (T := TX9) (N := 8) hx hb hg inX9 hown hK hP 56 atX_56 rfl 4 (by decide) (hg _ mw_449) (fun _ h9 => h9) rfl dX11_hush_4 ?_
  refine lv_topi (fun x1 e2 => ?_)
  have r3 : rg x1 0 12 := rg_e e2 (hq.1.1 39)
  refine lv_istore_n (lv' := [(1, .int x1), (0, .ref (ad 0))]) hx hb dX11_hush_7 rfl hl (by decide) rfl (fun ls hl => ?_)
  refine lv_aload_n hx hb dX11_hush_8 rfl (lv_at hl 1 rfl) ?_
  refine va_get (ci := 11) (v := .ref (ad 56)) (C := RX11) (T := TX11) (N := 13) hx hb hg inX11 hown hK hP 0 atX_0 rfl 7 (by decide) (hg _ mw_532) (fun _ h9 => h9) rfl dX11_hush_9 ?_
  refine lv_iconst (v := 0) hx hb dX11_hush_12 (by decide) ?_
  refine va_put (ci := 9) (v := .int 0) (ty := .int) (C := RX9) (T := TX9) (N := 8) hx hb hg inX9 tyX9 tyX9_ok nmX9 hown hK hP hD hS 56 atX_56 rfl 4 (by decide) (hg _ mw_449) (fun _ h9 => h9) rfl (by decide +kernel) rfl rfl (Nat.le_of_ble_eq_true rfl) dX11_hush_13 (fun H locs hP hD hS => ?_)
  have hq := hq.put 39 (x := 0) (by decide) (rg_k (by decide))
  rw [setFX_39] at hP hD
  refine lv_iload_n hx hb dX11_hush_16 rfl (lv_at hl 0 rfl) ?_
  exact hret (x1) ((upd F 39 (0 : Int32)), L, A, B) H locs 17 ls rfl dX11_hush_17 hP hD hS ⟨hq, r3⟩
abbrev rm_X3_together_18 : Room := { frames := 2, cells := 0, slots := 0, locals := 44 }
set_option maxHeartbeats 4000000 in
set_option maxRecDepth 100000 in
theorem c_X3_together_18 (l : Launch) (D : va_G) (cA : Nat → ClassId) (sz : Nat) (ad : Nat → Nat) (F : Nat → Int32) (L : Nat → Int64) (A : Nat → Nat → Int32) (B : Nat → Nat → Int64)  (hT : typX F A) : Met l yX3_together (Cond.code yX3_together cX3_together 3 (some .int) :: GW) rm_X3_together_18 (mPc D classes (tysX cA) (wX cA ad F L A B) sz [.ref (ad 18)]) (mQi (S := Unit) D classes (tysX cA) (wX cA ad F L A B) sz (fun _ : Unit => wX cA ad F L A B) (fun r u => True)) 0 0 (va_A (wX cA ad F L A B) sz) := by
  refine met_i (own := "ShoeingDay$Ledger") (by decide +kernel) rfl (Nat.le_of_ble_eq_true rfl) ?_
  intro p e s m args below meth c Q Af ls hC hP hD hS hA hl hret
  have hx := hC.1
  have hb := hC.2.1
  have hown := hC.2.2.2.1
  have hg := hC.g
  have hK := hC.K
  have hl : lv_has ls 3 [(0, .ref (ad 18))] := hl
  have hq : qX [] [] F A F A := qX.rf hT
  obtain ⟨H, hH⟩ : ∃ H, H = s.heap := ⟨_, rfl⟩
  have hP : va_P D classes (wX cA ad F L A B) H := by rw [hH]; exact hP
  have hS : va_S Af s.heap H [] := by rw [hH]; exact hS
  obtain ⟨locs, hlo⟩ : ∃ q : List Loc, q = [] := ⟨_, rfl⟩
  rw [← hH, ← hlo]
  rw [← hlo] at hS
  refine lv_iconst (v := 0) hx hb dX3_together_0 (by decide) ?_
  refine lv_istore_n (lv' := [(1, .int 0), (0, .ref (ad 18))]) hx hb dX3_together_1 rfl hl (by decide) rfl (fun ls hl => ?_)
  refine lv_iconst (v := 0) hx hb dX3_together_2 (by decide) ?_
  refine lv_istore_n (lv' := [(2, .int 0), (1, .int 0), (0, .ref (ad 18))]) hx hb dX3_together_3 rfl hl (by decide) rfl (fun ls hl => ?_)
  have J4 : ∀ (n4 : Nat) (a1 : Int32) (a2 : Int32) (H : Heap) (locs : List Loc) (ls : Array Slot), (8 - a2.toInt).toNat < n4 → rg a2 0 8 → va_P D classes (wX cA ad F L A B) H → va_D Af (wX cA ad F L A B) → va_S Af s.heap H locs → lv_has ls 3 [(0, .ref (ad 18)), (1, .int a1), (2, .int a2)] → W p l e rm_X3_together_18 s m args below meth c H locs 0 0 Q (F0 m 4 ls []) := by
    intro n4
    induction n4 with
    | zero =>
      intro _ _ _ _ _ hn
      exact absurd hn (Nat.not_lt_zero _)
    | succ n4 ih4 =>
      intro a1 a2 H locs ls hn4 r3 hP hD hS hl
      refine lv_iload_n hx hb dX3_together_4 rfl (lv_at hl 2 rfl) ?_
      refine lv_aload_n hx hb dX3_together_5 rfl (lv_at hl 0 rfl) ?_
      refine va_get (ci := 3) (v := .int (F 21)) (C := RX3) (T := TX3) (N := 4) hx hb hg inX3 hown hK hP 18 atX_18 rfl 1 (by decide) (hg _ mw_239) (fun _ h9 => h9) rfl dX3_together_6 ?_
      refine lv_topi (fun x4 e5 => ?_)
      have r6 : rg x4 0 8 := rg_e e5 (hq.1.1 21)
      refine lv_icmp_ge (tgt := 26) hx hb dX3_together_9 (by decide) (fun c7 => ?_) (fun c7 => ?_)
      · skip
        refine lv_iload_n hx hb dX3_together_26 rfl (lv_at hl 1 rfl) ?_
        exact hret (a1) () H locs 27 ls rfl dX3_together_27 hP hD hS trivial
      · skip
        have r8 : rg a2 0 7 := rg_lt1 (iNE c7) (r3 : rg a2 0 8) (r6 : rg x4 0 8)
        have r9 : rg x4 1 8 := rg_lt2 (iNE c7) (r3 : rg a2 0 8) (r6 : rg x4 0 8)
        refine lv_iload_n hx hb dX3_together_12 rfl (lv_at hl 1 rfl) ?_
        refine lv_aload_n hx hb dX3_together_13 rfl (lv_at hl 0 rfl) ?_
        refine lv_iload_n hx hb dX3_together_14 rfl (lv_at hl 2 rfl) ?_
        refine callv_i (As := [.int a2]) (rest := [.int a1]) hC (c_X3_ofSmith_18 l D cA H.size ad F L A B (a2) hq.1 r8) (cwV 1 hg (g_V mw_749 mw_758 mw_747 mw_748 mw_9) rfl rfl rfl (by decide +kernel) ⟨(Nat.le_of_ble_eq_true rfl), (Nat.le_of_ble_eq_true rfl)⟩) hP hD hS hA atX_18 rfl rfl hl.1 rfl (Nat.le_of_ble_eq_true rfl) dX3_together_15 ⟨Nat.zero_le _, Nat.zero_le _⟩ (fun x10 u H locs hw hP hD hS => ?_)
        have hP : va_P D classes (wX cA ad F L A B) H := hP
        have hD : va_D Af (wX cA ad F L A B) := hD
        refine lv_iadd hx hb dX3_together_18 ?_
        refine lv_topi (fun x11 e12 => ?_)
        refine lv_istore_n (lv' := [(1, .int x11), (0, .ref (ad 18)), (2, .int a2)]) hx hb dX3_together_19 rfl hl (by decide) rfl (fun ls hl => ?_)
        obtain ⟨x13, e14⟩ : ∃ y : Int32, y = a2 + 1 := ⟨_, rfl⟩
        have r15 : rg x13 1 8 := rg_add e14 r8 (rg_k (by decide) : rg 1 1 1) (by decide)
        refine lv_iinc (v := x13) (lv' := [(2, .int x13), (1, .int x11), (0, .ref (ad 18))]) hx hb dX3_together_20 hl (k := 2) rfl (by rw [e14]; rfl) (by decide) rfl (fun ls hl => ?_)
        refine lv_goto (tgt := 4) hx hb dX3_together_23 (by decide) ?_
        exact ih4 (x11) (x13) H locs ls (by have h0 : (1 : Int32).toInt = 1 := rfl; have h1 := ti_addk e14 r8 (by decide); have h2 : rg x13 0 8 := (rg_w r15 (by decide)); unfold rg at h2; omega) (rg_w r15 (by decide)) hP hD hS (lv_sub hl [2, 1, 0] rfl)
  exact J4 _ (0) (0) H locs ls (Nat.lt_succ_self _) (rg_k (by decide)) hP hD hS (lv_sub hl [2, 1, 0] rfl)
abbrev rm_X9_canBe_56 : Room := { frames := 0, cells := 0, slots := 0, locals := 0 }
set_option maxHeartbeats 4000000 in
set_option maxRecDepth 100000 in
theorem c_X9_canBe_56 (l : Launch) (D : va_G) (cA : Nat → ClassId) (sz : Nat) (ad : Nat → Nat) (F : Nat → Int32) (L : Nat → Int64) (A : Nat → Nat → Int32) (B : Nat → Nat → Int64) (p1 : Int32) (hT : typX F A) (hp1 : rg p1 0 11) : Met l yX9_canBe (Cond.code yX9_canBe cX9_canBe 8 (some .boolean) :: GW) rm_X9_canBe_56 (mPc D classes (tysX cA) (wX cA ad F L A B) sz [.ref (ad 56), .int p1]) (mQi (S := Unit) D classes (tysX cA) (wX cA ad F L A B) sz (fun _ : Unit => wX cA ad F L A B) (fun r u => rg r 0 1)) 0 0 (va_A (wX cA ad F L A B) sz) := by
  refine met_i (own := "ShoeingDay$ToldRounds") (by decide +kernel) rfl (Nat.le_of_ble_eq_true rfl) ?_
  intro p e s m args below meth c Q Af ls hC hP hD hS hA hl hret
  have hx := hC.1
  have hb := hC.2.1
  have hown := hC.2.2.2.1
  have hg := hC.g
  have hK := hC.K
  have hl : lv_has ls 8 [(0, .ref (ad 56)), (1, .int p1)] := hl
  have hq : qX [] [] F A F A := qX.rf hT
  obtain ⟨H, hH⟩ : ∃ H, H = s.heap := ⟨_, rfl⟩
  have hP : va_P D classes (wX cA ad F L A B) H := by rw [hH]; exact hP
  have hS : va_S Af s.heap H [] := by rw [hH]; exact hS
  obtain ⟨locs, hlo⟩ : ∃ q : List Loc, q = [] := ⟨_, rfl⟩
  rw [← hH, ← hlo]
  rw [← hlo] at hS
  refine lv_iconst (v := 0) hx hb dX9_canBe_0 (by decide) ?_
  refine lv_istore_n (lv' := [(2, .int 0), (0, .ref (ad 56)), (1, .int p1)]) hx hb dX9_canBe_1 rfl hl (by decide) rfl (fun ls hl => ?_)
  refine lv_iconst (v := 0) hx hb dX9_canBe_2 (by decide) ?_
  refine lv_istore_n (lv' := [(3, .int 0), (2, .int 0), (0, .ref (ad 56)), (1, .int p1)]) hx hb dX9_canBe_3 rfl hl (by decide) rfl (fun ls hl => ?_)
  refine lv_iconst (v := 0) hx hb dX9_canBe_4 (by decide) ?_
  refine lv_istore (lv' := [(4, .int 0), (3, .int 0), (2, .int 0), (0, .ref (ad 56)), (1, .int p1)]) hx hb dX9_canBe_5 hl (by decide) rfl (fun ls hl => ?_)
  have J7 : ∀ (n7 : Nat) (a1 : Int32) (a3 : Int32) (a5 : Int32) (H : Heap) (locs : List Loc) (ls : Array Slot), (10 - a5.toInt).toNat < n7 → rg a1 0 255 → rg a3 0 1023 → rg a5 0 10 → va_P D classes (wX cA ad F L A B) H → va_D Af (wX cA ad F L A B) → va_S Af s.heap H locs → lv_has ls 8 [(0, .ref (ad 56)), (1, .int p1), (2, .int a1), (3, .int a3), (4, .int a5)] → W p l e rm_X9_canBe_56 s m args below meth c H locs 0 0 Q (F0 m 7 ls []) := by
    intro n7
    induction n7 with
    | zero =>
      intro _ _ _ _ _ _ hn
      exact absurd hn (Nat.not_lt_zero _)
    | succ n7 ih7 =>
      intro a1 a3 a5 H locs ls hn7 r2 r4 r6 hP hD hS hl
      refine lv_iload hx hb dX9_canBe_7 (lv_at hl 4 rfl) ?_
      refine lv_aload_n hx hb dX9_canBe_9 rfl (lv_at hl 0 rfl) ?_
      refine va_get (ci := 9) (v := .ref (ad 58)) (C := RX9) (T := TX9) (N := 8) hx hb hg inX9 hown hK hP 56 atX_56 rfl 1 (by decide) (hg _ mw_445) (fun _ h9 => h9) rfl dX9_canBe_10 ?_
      refine lv_iload_n hx hb dX9_canBe_13 rfl (lv_at hl 1 rfl) ?_
      refine va_iald hx hb hK hP 58 44 atX_58 tyX_58 (in_rg hp1 (by decide)) dX9_canBe_14 ?_
      refine lv_topi (fun x7 e8 => ?_)
      have r9 : rg x7 0 10 := rg_e e8 (hq.1.2 58 _)
      refine lv_icmp_ge (tgt := 98) hx hb dX9_canBe_15 (by decide) (fun c10 => ?_) (fun c10 => ?_)
      · skip
        refine lv_iconst (v := 1) hx hb dX9_canBe_98 (by decide) ?_
        exact hret (1) () H locs 99 ls rfl dX9_canBe_99 hP hD hS (rg_k (by decide))
      · skip
        have r11 : rg a5 0 9 := rg_lt1 (iNE c10) (r6 : rg a5 0 10) (r9 : rg x7 0 10)
        have r12 : rg x7 1 10 := rg_lt2 (iNE c10) (r6 : rg a5 0 10) (r9 : rg x7 0 10)
        refine lv_aload_n hx hb dX9_canBe_18 rfl (lv_at hl 0 rfl) ?_
        refine va_get (ci := 9) (v := .ref (ad 59)) (C := RX9) (T := TX9) (N := 8) hx hb hg inX9 hown hK hP 56 atX_56 rfl 2 (by decide) (hg _ mw_446) (fun _ h9 => h9) rfl dX9_canBe_19 ?_
        refine lv_iload_n hx hb dX9_canBe_22 rfl (lv_at hl 1 rfl) ?_
        refine lv_bipush (v := 10) hx hb dX9_canBe_23 (by decide) ?_
        refine lv_imul hx hb dX9_canBe_25 ?_
        refine lv_topi (fun x13 e14 => ?_)
        have r15 : rg x13 0 110 := rg_mul e14 hp1 ((rg_k (by decide)) : rg 10 10 10) (by decide)
        refine lv_iload hx hb dX9_canBe_26 (lv_at hl 4 rfl) ?_
        refine lv_iadd hx hb dX9_canBe_28 ?_
        refine lv_topi (fun x16 e17 => ?_)
        have r18 : rg x16 0 119 := rg_add e17 r15 r11 (by decide)
        refine va_iald hx hb hK hP 59 45 atX_59 tyX_59 (in_rg r18 (by decide)) dX9_canBe_29 ?_
        refine lv_topi (fun x19 e20 => ?_)
        have r21 : rg x19 0 79 := rg_e e20 (hq.1.2 59 _)
        refine lv_istore (lv' := [(5, .int x19), (0, .ref (ad 56)), (1, .int p1), (2, .int a1), (3, .int a3), (4, .int a5)]) hx hb dX9_canBe_30 hl (by decide) rfl (fun ls hl => ?_)
        refine lv_iconst (v := 1) hx hb dX9_canBe_32 (by decide) ?_
        refine lv_iload hx hb dX9_canBe_33 (lv_at hl 0 rfl) ?_
        refine lv_bipush (v := 10) hx hb dX9_canBe_35 (by decide) ?_
        refine lv_idiv hx hb dX9_canBe_37 (by decide) ?_
        refine lv_topi (fun x22 e23 => ?_)
        have r24 : rg x22 0 7 := rg_div e23 r21 ((rg_k (by decide)) : rg 10 10 10) (by decide)
        refine lv_ishl hx hb dX9_canBe_38 ?_
        refine lv_topi (fun x25 e26 => ?_)
        have r27 : rg x25 1 128 := rg_shl1 e26 r24 (by decide)
        refine lv_istore (lv' := [(6, .int x25), (5, .int x19), (0, .ref (ad 56)), (1, .int p1), (2, .int a1), (3, .int a3), (4, .int a5)]) hx hb dX9_canBe_39 hl (by decide) rfl (fun ls hl => ?_)
        refine lv_iconst (v := 1) hx hb dX9_canBe_41 (by decide) ?_
        refine lv_iload hx hb dX9_canBe_42 (lv_at hl 1 rfl) ?_
        refine lv_bipush (v := 10) hx hb dX9_canBe_44 (by decide) ?_
        refine lv_irem hx hb dX9_canBe_46 (by decide) ?_
        refine lv_topi (fun x28 e29 => ?_)
        have r30 : rg x28 0 9 := rg_rem e29 r21 ((rg_k (by decide)) : rg 10 10 10) (by decide)
        refine lv_ishl hx hb dX9_canBe_47 ?_
        refine lv_topi (fun x31 e32 => ?_)
        have r33 : rg x31 1 512 := rg_shl1 e32 r30 (by decide)
        refine lv_istore (lv' := [(7, .int x31), (6, .int x25), (5, .int x19), (0, .ref (ad 56)), (1, .int p1), (2, .int a1), (3, .int a3), (4, .int a5)]) hx hb dX9_canBe_48 hl (by decide) rfl (fun ls hl => ?_)
        refine lv_iload_n hx hb dX9_canBe_50 rfl (lv_at hl 5 rfl) ?_
        refine lv_iload hx hb dX9_canBe_51 (lv_at hl 1 rfl) ?_
        refine lv_iand hx hb dX9_canBe_53 ?_
        refine lv_topi (fun x34 e35 => ?_)
        have r36 : rg x34 0 128 := rg_andr e35 r27 (by decide)
        have J80 : ∀ (H : Heap) (locs : List Loc) (ls : Array Slot), va_P D classes (wX cA ad F L A B) H → va_D Af (wX cA ad F L A B) → va_S Af s.heap H locs → lv_has ls 8 [] → W p l e rm_X9_canBe_56 s m args below meth c H locs 0 0 Q (F0 m 80 ls []) := by
          intro H locs ls hP hD hS hl
          refine lv_iconst (v := 0) hx hb dX9_canBe_80 (by decide) ?_
          exact hret (0) () H locs 81 ls rfl dX9_canBe_81 hP hD hS (rg_k (by decide))
        refine lv_if_ne (tgt := 80) hx hb dX9_canBe_54 (by decide) (fun c37 => ?_) (fun c37 => ?_)
        · skip
          have r38 : rg x34 1 128 := (rg_ne1 c37 (r36 : rg x34 0 128) ((rg_k (by decide)) : rg 0 0 0)).1 rfl
          exact J80  H locs ls  hP hD hS (lv_sub hl [] rfl)
        · skip
          have r39 : rg x34 0 0 := rg_eq1 c37 (r36 : rg x34 0 128) ((rg_k (by decide)) : rg 0 0 0) (by decide)
          refine lv_iload_n hx hb dX9_canBe_57 rfl (lv_at hl 6 rfl) ?_
          refine lv_iload hx hb dX9_canBe_58 (lv_at hl 0 rfl) ?_
          refine lv_iand hx hb dX9_canBe_60 ?_
          refine lv_topi (fun x40 e41 => ?_)
          have r42 : rg x40 0 512 := rg_andr e41 r33 (by decide)
          refine lv_if_ne (tgt := 80) hx hb dX9_canBe_61 (by decide) (fun c43 => ?_) (fun c43 => ?_)
          · skip
            have r44 : rg x40 1 512 := (rg_ne1 c43 (r42 : rg x40 0 512) ((rg_k (by decide)) : rg 0 0 0)).1 rfl
            exact J80  H locs ls  hP hD hS (lv_sub hl [] rfl)
          · skip
            have r45 : rg x40 0 0 := rg_eq1 c43 (r42 : rg x40 0 512) ((rg_k (by decide)) : rg 0 0 0) (by decide)
            refine lv_aload_n hx hb dX9_canBe_64 rfl (lv_at hl 3 rfl) ?_
            refine va_get (ci := 9) (v := .ref (ad 60)) (C := RX9) (T := TX9) (N := 8) hx hb hg inX9 hown hK hP 56 atX_56 rfl 3 (by decide) (hg _ mw_447) (fun _ h9 => h9) rfl dX9_canBe_65 ?_
            refine lv_iload hx hb dX9_canBe_68 (lv_at hl 2 rfl) ?_
            refine va_iald hx hb hK hP 60 46 atX_60 tyX_60 (in_rg r21 (by decide)) dX9_canBe_70 ?_
            refine lv_topi (fun x46 e47 => ?_)
            refine lv_aload_n hx hb dX9_canBe_71 rfl (lv_at hl 3 rfl) ?_
            refine va_get (ci := 9) (v := .ref (ad 57)) (C := RX9) (T := TX9) (N := 8) hx hb hg inX9 hown hK hP 56 atX_56 rfl 0 (by decide) (hg _ mw_444) (fun _ h9 => h9) rfl dX9_canBe_72 ?_
            refine lv_iload_n hx hb dX9_canBe_75 rfl (lv_at hl 4 rfl) ?_
            refine va_iald hx hb hK hP 57 43 atX_57 tyX_57 (in_rg hp1 (by decide)) dX9_canBe_76 ?_
            refine lv_topi (fun x48 e49 => ?_)
            refine lv_icmp_ge (tgt := 82) hx hb dX9_canBe_77 (by decide) (fun c50 => ?_) (fun c50 => ?_)
            · skip
              refine lv_iload_n hx hb dX9_canBe_82 rfl (lv_at hl 5 rfl) ?_
              refine lv_iload hx hb dX9_canBe_83 (lv_at hl 1 rfl) ?_
              refine lv_ior hx hb dX9_canBe_85 ?_
              refine lv_topi (fun x53 e54 => ?_)
              have r55 : rg x53 0 255 := rg_or 8 e54 r2 r27 (by decide)
              refine lv_istore_n (lv' := [(2, .int x53), (7, .int x31), (6, .int x25), (5, .int x19), (0, .ref (ad 56)), (1, .int p1), (3, .int a3), (4, .int a5)]) hx hb dX9_canBe_86 rfl hl (by decide) rfl (fun ls hl => ?_)
              refine lv_iload_n hx hb dX9_canBe_87 rfl (lv_at hl 6 rfl) ?_
              refine lv_iload hx hb dX9_canBe_88 (lv_at hl 1 rfl) ?_
              refine lv_ior hx hb dX9_canBe_90 ?_
              refine lv_topi (fun x56 e57 => ?_)
              have r58 : rg x56 0 1023 := rg_or 10 e57 r4 r33 (by decide)
              refine lv_istore_n (lv' := [(3, .int x56), (2, .int x53), (7, .int x31), (6, .int x25), (5, .int x19), (0, .ref (ad 56)), (1, .int p1), (4, .int a5)]) hx hb dX9_canBe_91 rfl hl (by decide) rfl (fun ls hl => ?_)
              obtain ⟨x59, e60⟩ : ∃ y : Int32, y = a5 + 1 := ⟨_, rfl⟩
              have r61 : rg x59 1 10 := rg_add e60 r11 (rg_k (by decide) : rg 1 1 1) (by decide)
              refine lv_iinc (v := x59) (lv' := [(4, .int x59), (3, .int x56), (2, .int x53), (7, .int x31), (6, .int x25), (5, .int x19), (0, .ref (ad 56)), (1, .int p1)]) hx hb dX9_canBe_92 hl (k := 7) rfl (by rw [e60]; rfl) (by decide) rfl (fun ls hl => ?_)
              refine lv_goto (tgt := 7) hx hb dX9_canBe_95 (by decide) ?_
              exact ih7 (x53) (x56) (x59) H locs ls (by have h0 : (1 : Int32).toInt = 1 := rfl; have h1 := ti_addk e60 r11 (by decide); have h2 : rg x59 0 10 := (rg_w r61 (by decide)); unfold rg at h2; omega) r55 r58 (rg_w r61 (by decide)) hP hD hS (lv_sub hl [6, 7, 2, 1, 0] rfl)
            · skip
              have r51 : rg x46 (-2147483648) 2147483646 := rg_lt1 (iNE c50) ((rg_top _) : rg x46 (-2147483648) 2147483647) ((rg_top _) : rg x48 (-2147483648) 2147483647)
              have r52 : rg x48 (-2147483647) 2147483647 := rg_lt2 (iNE c50) ((rg_top _) : rg x46 (-2147483648) 2147483647) ((rg_top _) : rg x48 (-2147483648) 2147483647)
              exact J80  H locs ls  hP hD hS (lv_sub hl [] rfl)
  exact J7 _ (0) (0) (0) H locs ls (Nat.lt_succ_self _) (rg_k (by decide)) (rg_k (by decide)) (rg_k (by decide)) hP hD hS (lv_sub hl [3, 4, 2, 1, 0] rfl)
abbrev rm_X9_passOne_56 : Room := { frames := 0, cells := 0, slots := 0, locals := 0 }
set_option maxHeartbeats 4000000 in
set_option maxRecDepth 100000 in
theorem c_X9_passOne_56 (l : Launch) (D : va_G) (cA : Nat → ClassId) (sz : Nat) (ad : Nat → Nat) (F : Nat → Int32) (L : Nat → Int64) (A : Nat → Nat → Int32) (B : Nat → Nat → Int64) (p1 : Int32) (hT : typX F A) (hp1 : rg p1 0 11) : Met l yX9_passOne (Cond.code yX9_passOne cX9_passOne 3 none :: GW) rm_X9_passOne_56 (mPc D classes (tysX cA) (wX cA ad F L A B) sz [.ref (ad 56), .int p1]) (mQv (S := SW) D classes (tysX cA) (wX cA ad F L A B) sz (wfX cA ad) (fun u => qX [41, 42] [60] F A u.1 u.2.2.1)) 0 0 (va_A (wX cA ad F L A B) sz) := by
  refine met_v (own := "ShoeingDay$ToldRounds") (by decide +kernel) rfl (Nat.le_of_ble_eq_true rfl) ?_
  intro p e s m args below meth c Q Af ls hC hP hD hS hA hl hret
  have hx := hC.1
  have hb := hC.2.1
  have hown := hC.2.2.2.1
  have hg := hC.g
  have hK := hC.K
  have hl : lv_has ls 3 [(0, .ref (ad 56)), (1, .int p1)] := hl
  have hq : qX [41, 42] [60] F A F A := qX.rf hT
  obtain ⟨H, hH⟩ : ∃ H, H = s.heap := ⟨_, rfl⟩
  have hP : va_P D classes (wX cA ad F L A B) H := by rw [hH]; exact hP
  have hS : va_S Af s.heap H [] := by rw [hH]; exact hS
  obtain ⟨locs, hlo⟩ : ∃ q : List Loc, q = [] := ⟨_, rfl⟩
  rw [← hH, ← hlo]
  rw [← hlo] at hS
  refine lv_iconst (v := 0) hx hb dX9_passOne_0 (by decide) ?_
  refine lv_istore_n (lv' := [(2, .int 0), (0, .ref (ad 56)), (1, .int p1)]) hx hb dX9_passOne_1 rfl hl (by decide) rfl (fun ls hl => ?_)
  have J2 : ∀ (n2 : Nat) (a1 : Int32) (F3 : Nat → Int32) (L3 : Nat → Int64) (A3 : Nat → Nat → Int32) (B3 : Nat → Nat → Int64) (H : Heap) (locs : List Loc) (ls : Array Slot), (10 - a1.toInt).toNat < n2 → rg a1 0 10 → qX [41, 42] [60] F A F3 A3 → va_P D classes (wX cA ad F3 L3 A3 B3) H → va_D Af (wX cA ad F3 L3 A3 B3) → va_S Af s.heap H locs → lv_has ls 3 [(0, .ref (ad 56)), (1, .int p1), (2, .int a1)] → W p l e rm_X9_passOne_56 s m args below meth c H locs 0 0 Q (F0 m 2 ls []) := by
    intro n2
    induction n2 with
    | zero =>
      intro _ _ _ _ _ _ _ _ hn
      exact absurd hn (Nat.not_lt_zero _)
    | succ n2 ih2 =>
      intro a1 F3 L3 A3 B3 H locs ls hn2 r2 hq hP hD hS hl
      refine lv_iload_n hx hb dX9_passOne_2 rfl (lv_at hl 2 rfl) ?_
      refine lv_aload_n hx hb dX9_passOne_3 rfl (lv_at hl 0 rfl) ?_
      refine va_get (ci := 9) (v := .ref (ad 58)) (C := RX9) (T := TX9) (N := 8) hx hb hg inX9 hown hK hP 56 atX_56 rfl 1 (by decide) (hg _ mw_445) (fun _ h9 => h9) rfl dX9_passOne_4 ?_
      refine lv_iload_n hx hb dX9_passOne_7 rfl (lv_at hl 1 rfl) ?_
      refine va_iald hx hb hK hP 58 44 atX_58 tyX_58 (in_rg hp1 (by decide)) dX9_passOne_8 ?_
      refine lv_topi (fun x4 e5 => ?_)
      have r6 : rg x4 0 10 := rg_e e5 (hq.1.2 58 _)
      refine lv_icmp_ge (tgt := 43) hx hb dX9_passOne_9 (by decide) (fun c7 => ?_) (fun c7 => ?_)
      · skip
        refine lv_aload_n hx hb dX9_passOne_43 rfl (lv_at hl 0 rfl) ?_
        refine lv_dup hx hb dX9_passOne_44 rfl ?_
        refine va_get (ci := 9) (v := .int (F3 41)) (C := RX9) (T := TX9) (N := 8) hx hb hg inX9 hown hK hP 56 atX_56 rfl 6 (by decide) (hg _ mw_452) (fun _ h9 => h9) rfl dX9_passOne_45 ?_
        refine lv_topi (fun x10 e11 => ?_)
        refine lv_aload_n hx hb dX9_passOne_48 rfl (lv_at hl 0 rfl) ?_
        refine va_get (ci := 9) (v := .ref (ad 57)) (C := RX9) (T := TX9) (N := 8) hx hb hg inX9 hown hK hP 56 atX_56 rfl 0 (by decide) (hg _ mw_444) (fun _ h9 => h9) rfl dX9_passOne_49 ?_
        refine lv_iload_n hx hb dX9_passOne_52 rfl (lv_at hl 1 rfl) ?_
        refine va_iald hx hb hK hP 57 43 atX_57 tyX_57 (in_rg hp1 (by decide)) dX9_passOne_53 ?_
        refine lv_topi (fun x12 e13 => ?_)
        refine lv_aload_n hx hb dX9_passOne_54 rfl (lv_at hl 0 rfl) ?_
        refine va_get (ci := 9) (v := .ref (ad 58)) (C := RX9) (T := TX9) (N := 8) hx hb hg inX9 hown hK hP 56 atX_56 rfl 1 (by decide) (hg _ mw_445) (fun _ h9 => h9) rfl dX9_passOne_55 ?_
        refine lv_iload_n hx hb dX9_passOne_58 rfl (lv_at hl 1 rfl) ?_
        refine va_iald hx hb hK hP 58 44 atX_58 tyX_58 (in_rg hp1 (by decide)) dX9_passOne_59 ?_
        refine tope (e5) ?_
        refine lv_imul hx hb dX9_passOne_60 ?_
        refine lv_topi (fun x14 e15 => ?_)
        refine lv_isub hx hb dX9_passOne_61 ?_
        refine lv_topi (fun x16 e17 => ?_)
        refine va_put (ci := 9) (v := .int x16) (ty := .int) (C := RX9) (T := TX9) (N := 8) hx hb hg inX9 tyX9 tyX9_ok nmX9 hown hK hP hD hS 56 atX_56 rfl 6 (by decide) (hg _ mw_452) (fun _ h9 => h9) rfl (by decide +kernel) rfl rfl (Nat.le_of_ble_eq_true rfl) dX9_passOne_62 (fun H locs hP hD hS => ?_)
        have hq := hq.put 41 (x := x16) (by decide) (rg_top _)
        rw [setFX_41] at hP hD
        refine lv_aload_n hx hb dX9_passOne_65 rfl (lv_at hl 0 rfl) ?_
        refine lv_dup hx hb dX9_passOne_66 rfl ?_
        refine va_get (ci := 9) (v := .int (F3 42)) (C := RX9) (T := TX9) (N := 8) hx hb hg inX9 hown hK hP 56 atX_56 rfl 7 (by decide) (hg _ mw_454) (fun _ h9 => h9) rfl dX9_passOne_67 ?_
        refine lv_topi (fun x18 e19 => ?_)
        refine lv_aload_n hx hb dX9_passOne_70 rfl (lv_at hl 0 rfl) ?_
        refine va_get (ci := 9) (v := .ref (ad 57)) (C := RX9) (T := TX9) (N := 8) hx hb hg inX9 hown hK hP 56 atX_56 rfl 0 (by decide) (hg _ mw_444) (fun _ h9 => h9) rfl dX9_passOne_71 ?_
        refine lv_iload_n hx hb dX9_passOne_74 rfl (lv_at hl 1 rfl) ?_
        refine va_iald hx hb hK hP 57 43 atX_57 tyX_57 (in_rg hp1 (by decide)) dX9_passOne_75 ?_
        refine tope (e13) ?_
        refine lv_iadd hx hb dX9_passOne_76 ?_
        refine lv_topi (fun x20 e21 => ?_)
        refine va_put (ci := 9) (v := .int x20) (ty := .int) (C := RX9) (T := TX9) (N := 8) hx hb hg inX9 tyX9 tyX9_ok nmX9 hown hK hP hD hS 56 atX_56 rfl 7 (by decide) (hg _ mw_454) (fun _ h9 => h9) rfl (by decide +kernel) rfl rfl (Nat.le_of_ble_eq_true rfl) dX9_passOne_77 (fun H locs hP hD hS => ?_)
        have hq := hq.put 42 (x := x20) (by decide) (rg_top _)
        rw [setFX_42] at hP hD
        exact hret ((upd (upd F3 41 x16) 42 x20), L3, A3, B3) H locs 80 ls dX9_passOne_80 hP hD hS hq
      · skip
        have r8 : rg a1 0 9 := rg_lt1 (iNE c7) (r2 : rg a1 0 10) (r6 : rg x4 0 10)
        have r9 : rg x4 1 10 := rg_lt2 (iNE c7) (r2 : rg a1 0 10) (r6 : rg x4 0 10)
        refine lv_aload_n hx hb dX9_passOne_12 rfl (lv_at hl 0 rfl) ?_
        refine va_get (ci := 9) (v := .ref (ad 60)) (C := RX9) (T := TX9) (N := 8) hx hb hg inX9 hown hK hP 56 atX_56 rfl 3 (by decide) (hg _ mw_447) (fun _ h9 => h9) rfl dX9_passOne_13 ?_
        refine lv_aload_n hx hb dX9_passOne_16 rfl (lv_at hl 0 rfl) ?_
        refine va_get (ci := 9) (v := .ref (ad 59)) (C := RX9) (T := TX9) (N := 8) hx hb hg inX9 hown hK hP 56 atX_56 rfl 2 (by decide) (hg _ mw_446) (fun _ h9 => h9) rfl dX9_passOne_17 ?_
        refine lv_iload_n hx hb dX9_passOne_20 rfl (lv_at hl 1 rfl) ?_
        refine lv_bipush (v := 10) hx hb dX9_passOne_21 (by decide) ?_
        refine lv_imul hx hb dX9_passOne_23 ?_
        refine lv_topi (fun x22 e23 => ?_)
        have r24 : rg x22 0 110 := rg_mul e23 hp1 ((rg_k (by decide)) : rg 10 10 10) (by decide)
        refine lv_iload_n hx hb dX9_passOne_24 rfl (lv_at hl 2 rfl) ?_
        refine lv_iadd hx hb dX9_passOne_25 ?_
        refine lv_topi (fun x25 e26 => ?_)
        have r27 : rg x25 0 119 := rg_add e26 r24 r8 (by decide)
        refine va_iald hx hb hK hP 59 45 atX_59 tyX_59 (in_rg r27 (by decide)) dX9_passOne_26 ?_
        refine lv_topi (fun x28 e29 => ?_)
        have r30 : rg x28 0 79 := rg_e e29 (hq.1.2 59 _)
        refine lv_dup2_11 hx hb dX9_passOne_27 rfl rfl ?_
        refine va_iald hx hb hK hP 60 46 atX_60 tyX_60 (in_rg r30 (by decide)) dX9_passOne_28 ?_
        refine lv_topi (fun x31 e32 => ?_)
        refine lv_aload_n hx hb dX9_passOne_29 rfl (lv_at hl 0 rfl) ?_
        refine va_get (ci := 9) (v := .ref (ad 57)) (C := RX9) (T := TX9) (N := 8) hx hb hg inX9 hown hK hP 56 atX_56 rfl 0 (by decide) (hg _ mw_444) (fun _ h9 => h9) rfl dX9_passOne_30 ?_
        refine lv_iload_n hx hb dX9_passOne_33 rfl (lv_at hl 1 rfl) ?_
        refine va_iald hx hb hK hP 57 43 atX_57 tyX_57 (in_rg hp1 (by decide)) dX9_passOne_34 ?_
        refine lv_topi (fun x33 e34 => ?_)
        refine lv_isub hx hb dX9_passOne_35 ?_
        refine lv_topi (fun x35 e36 => ?_)
        refine va_iast hx hb hK hP hD hS 60 46 atX_60 tyX_60 (in_rg r30 (by decide)) dX9_passOne_36 (fun H locs hP hD hS => ?_)
        have hq := hq.ast 60 (x28).toNatClampNeg (x := x35) (by decide) (rg_top _)
        rw [setX_60] at hP hD
        have k37 : x35 = (va_up A3 60 (upd (A3 60) (x28).toNatClampNeg x35)) 60 (x28).toNatClampNeg := (rdA).symm
        obtain ⟨x38, e39⟩ : ∃ y : Int32, y = a1 + 1 := ⟨_, rfl⟩
        have r40 : rg x38 1 10 := rg_add e39 r8 (rg_k (by decide) : rg 1 1 1) (by decide)
        refine lv_iinc (v := x38) (lv' := [(2, .int x38), (0, .ref (ad 56)), (1, .int p1)]) hx hb dX9_passOne_37 hl (k := 2) rfl (by rw [e39]; rfl) (by decide) rfl (fun ls hl => ?_)
        refine lv_goto (tgt := 2) hx hb dX9_passOne_40 (by decide) ?_
        exact ih2 (x38) (F3) (L3) ((va_up A3 60 (upd (A3 60) (x28).toNatClampNeg x35))) (B3) H locs ls (by have h0 : (1 : Int32).toInt = 1 := rfl; have h1 := ti_addk e39 r8 (by decide); have h2 : rg x38 0 10 := (rg_w r40 (by decide)); unfold rg at h2; omega) (rg_w r40 (by decide)) hq hP hD hS (lv_sub hl [1, 2, 0] rfl)
  exact J2 _ (0) (F) (L) (A) (B) H locs ls (Nat.lt_succ_self _) (rg_k (by decide)) hq hP hD hS (lv_sub hl [1, 2, 0] rfl)
abbrev rm_X9_weigh_56_18 : Room := { frames := 3, cells := 0, slots := 0, locals := 66 }
set_option maxHeartbeats 4000000 in
set_option maxRecDepth 100000 in
theorem c_X9_weigh_56_18 (l : Launch) (D : va_G) (cA : Nat → ClassId) (sz : Nat) (ad : Nat → Nat) (F : Nat → Int32) (L : Nat → Int64) (A : Nat → Nat → Int32) (B : Nat → Nat → Int64)  (hT : typX F A) : Met l yX9_weigh (Cond.code yX9_weigh cX9_weigh 3 none :: GW) rm_X9_weigh_56_18 (mPc D classes (tysX cA) (wX cA ad F L A B) sz [.ref (ad 56), .ref (ad 18)]) (mQv (S := SW) D classes (tysX cA) (wX cA ad F L A B) sz (wfX cA ad) (fun u => qX [40, 41, 42] [60] F A u.1 u.2.2.1)) 0 0 (va_A (wX cA ad F L A B) sz) := by
  refine met_v (own := "ShoeingDay$ToldRounds") (by decide +kernel) rfl (Nat.le_of_ble_eq_true rfl) ?_
  intro p e s m args below meth c Q Af ls hC hP hD hS hA hl hret
  have hx := hC.1
  have hb := hC.2.1
  have hown := hC.2.2.2.1
  have hg := hC.g
  have hK := hC.K
  have hl : lv_has ls 3 [(0, .ref (ad 56)), (1, .ref (ad 18))] := hl
  have hq : qX [40, 41, 42] [60] F A F A := qX.rf hT
  obtain ⟨H, hH⟩ : ∃ H, H = s.heap := ⟨_, rfl⟩
  have hP : va_P D classes (wX cA ad F L A B) H := by rw [hH]; exact hP
  have hS : va_S Af s.heap H [] := by rw [hH]; exact hS
  obtain ⟨locs, hlo⟩ : ∃ q : List Loc, q = [] := ⟨_, rfl⟩
  rw [← hH, ← hlo]
  rw [← hlo] at hS
  refine lv_aload_n hx hb dX9_weigh_0 rfl (lv_at hl 1 rfl) ?_
  refine va_get (ci := 3) (v := .ref (ad 19)) (C := RX3) (T := TX3) (N := 4) hx hb hg inX3 hown hK hP 18 atX_18 rfl 0 (by decide) (hg _ mw_236) (fun _ h9 => h9) rfl dX9_weigh_1 ?_
  refine lv_iconst (v := 0) hx hb dX9_weigh_4 (by decide) ?_
  refine lv_aload_n hx hb dX9_weigh_5 rfl (lv_at hl 0 rfl) ?_
  refine va_get (ci := 9) (v := .ref (ad 60)) (C := RX9) (T := TX9) (N := 8) hx hb hg inX9 hown hK hP 56 atX_56 rfl 3 (by decide) (hg _ mw_447) (fun _ h9 => h9) rfl dX9_weigh_6 ?_
  refine lv_iconst (v := 0) hx hb dX9_weigh_9 (by decide) ?_
  refine lv_bipush (v := 80) hx hb dX9_weigh_10 (by decide) ?_
  refine va_copyi hx hb (hC.2.2.1.trans hl.1.symm) hown (hg _ mw_1020) (hg _ mw_524) (hg _ mw_523) (hg _ mw_19) hK hP hD hS 19 60 13 46 atX_19 atX_60 tyX_19 tyX_60 rfl (nn_rg ((rg_k (by decide)) : rg 0 0 0) (by decide)) (nn_rg ((rg_k (by decide)) : rg 0 0 0) (by decide)) (nn_rg ((rg_k (by decide)) : rg 80 80 80) (by decide)) (cp_rg ((rg_k (by decide)) : rg 0 0 0) ((rg_k (by decide)) : rg 80 80 80) (by decide)) (cp_rg ((rg_k (by decide)) : rg 0 0 0) ((rg_k (by decide)) : rg 80 80 80) (by decide)) (fun _ _ => rfl) (Nat.le_of_ble_eq_true rfl) (Nat.le_of_ble_eq_true rfl) dX9_weigh_12 (fun H locs hP hD hS => ?_)
  have hq := hq.cpy 60 19 (a := ((0 : Int32)).toNatClampNeg) (b := ((0 : Int32)).toNatClampNeg) (n := ((80 : Int32)).toNatClampNeg) (by decide) (by decide)
  rw [setX_60] at hP hD
  refine lv_aload_n hx hb dX9_weigh_15 rfl (lv_at hl 0 rfl) ?_
  refine lv_iconst (v := (-1)) hx hb dX9_weigh_16 (by decide) ?_
  refine va_put (ci := 9) (v := .int (-1)) (ty := .int) (C := RX9) (T := TX9) (N := 8) hx hb hg inX9 tyX9 tyX9_ok nmX9 hown hK hP hD hS 56 atX_56 rfl 5 (by decide) (hg _ mw_450) (fun _ h9 => h9) rfl (by decide +kernel) rfl rfl (Nat.le_of_ble_eq_true rfl) dX9_weigh_17 (fun H locs hP hD hS => ?_)
  have hq := hq.put 40 (x := (-1)) (by decide) (rg_k (by decide))
  rw [setFX_40] at hP hD
  refine lv_aload_n hx hb dX9_weigh_20 rfl (lv_at hl 0 rfl) ?_
  refine lv_aload_n hx hb dX9_weigh_21 rfl (lv_at hl 1 rfl) ?_
  refine callv_i (As := []) (rest := [.ref (ad 56)]) hC (c_X3_together_18 l D cA H.size ad (upd F 40 ((-1) : Int32)) L (va_up A 60 (va_cpy (A 19) (A 60) ((0 : Int32)).toNatClampNeg ((0 : Int32)).toNatClampNeg ((80 : Int32)).toNatClampNeg)) B  hq.1) (cwV 0 hg (g_V mw_1024 mw_1021 mw_1022 mw_1023 mw_9) rfl rfl rfl (by decide +kernel) ⟨(Nat.le_of_ble_eq_true rfl), (Nat.le_of_ble_eq_true rfl)⟩) hP hD hS hA atX_18 rfl rfl hl.1 rfl (Nat.le_of_ble_eq_true rfl) dX9_weigh_22 ⟨Nat.zero_le _, Nat.zero_le _⟩ (fun x1 u H locs hw hP hD hS => ?_)
  have hP : va_P D classes (wX cA ad (upd F 40 ((-1) : Int32)) L (va_up A 60 (va_cpy (A 19) (A 60) ((0 : Int32)).toNatClampNeg ((0 : Int32)).toNatClampNeg ((80 : Int32)).toNatClampNeg)) B) H := hP
  have hD : va_D Af (wX cA ad (upd F 40 ((-1) : Int32)) L (va_up A 60 (va_cpy (A 19) (A 60) ((0 : Int32)).toNatClampNeg ((0 : Int32)).toNatClampNeg ((80 : Int32)).toNatClampNeg)) B) := hD
  refine va_put (ci := 9) (v := .int x1) (ty := .int) (C := RX9) (T := TX9) (N := 8) hx hb hg inX9 tyX9 tyX9_ok nmX9 hown hK hP hD hS 56 atX_56 rfl 6 (by decide) (hg _ mw_452) (fun _ h9 => h9) rfl (by decide +kernel) rfl rfl (Nat.le_of_ble_eq_true rfl) dX9_weigh_25 (fun H locs hP hD hS => ?_)
  have hq := hq.put 41 (x := x1) (by decide) (rg_top _)
  rw [setFX_41] at hP hD
  refine lv_aload_n hx hb dX9_weigh_28 rfl (lv_at hl 0 rfl) ?_
  refine lv_iconst (v := 0) hx hb dX9_weigh_29 (by decide) ?_
  refine va_put (ci := 9) (v := .int 0) (ty := .int) (C := RX9) (T := TX9) (N := 8) hx hb hg inX9 tyX9 tyX9_ok nmX9 hown hK hP hD hS 56 atX_56 rfl 7 (by decide) (hg _ mw_454) (fun _ h9 => h9) rfl (by decide +kernel) rfl rfl (Nat.le_of_ble_eq_true rfl) dX9_weigh_30 (fun H locs hP hD hS => ?_)
  have hq := hq.put 42 (x := 0) (by decide) (rg_k (by decide))
  rw [setFX_42] at hP hD
  refine lv_iconst (v := 0) hx hb dX9_weigh_33 (by decide) ?_
  refine lv_istore_n (lv' := [(2, .int 0), (0, .ref (ad 56)), (1, .ref (ad 18))]) hx hb dX9_weigh_34 rfl hl (by decide) rfl (fun ls hl => ?_)
  have J35 : ∀ (n35 : Nat) (a2 : Int32) (F4 : Nat → Int32) (L4 : Nat → Int64) (A4 : Nat → Nat → Int32) (B4 : Nat → Nat → Int64) (H : Heap) (locs : List Loc) (ls : Array Slot), (12 - a2.toInt).toNat < n35 → rg a2 0 12 → qX [40, 41, 42] [60] F A F4 A4 → va_P D classes (wX cA ad F4 L4 A4 B4) H → va_D Af (wX cA ad F4 L4 A4 B4) → va_S Af s.heap H locs → lv_has ls 3 [(0, .ref (ad 56)), (2, .int a2)] → W p l e rm_X9_weigh_56_18 s m args below meth c H locs 0 0 Q (F0 m 35 ls []) := by
    intro n35
    induction n35 with
    | zero =>
      intro _ _ _ _ _ _ _ _ hn
      exact absurd hn (Nat.not_lt_zero _)
    | succ n35 ih35 =>
      intro a2 F4 L4 A4 B4 H locs ls hn35 r3 hq hP hD hS hl
      refine lv_iload_n hx hb dX9_weigh_35 rfl (lv_at hl 1 rfl) ?_
      refine lv_aload_n hx hb dX9_weigh_36 rfl (lv_at hl 0 rfl) ?_
      refine va_get (ci := 9) (v := .int (F4 39)) (C := RX9) (T := TX9) (N := 8) hx hb hg inX9 hown hK hP 56 atX_56 rfl 4 (by decide) (hg _ mw_448) (fun _ h9 => h9) rfl dX9_weigh_37 ?_
      refine lv_topi (fun x5 e6 => ?_)
      have r7 : rg x5 0 12 := rg_e e6 (hq.1.1 39)
      refine lv_icmp_ge (tgt := 78) hx hb dX9_weigh_40 (by decide) (fun c8 => ?_) (fun c8 => ?_)
      · skip
        exact hret (F4, L4, A4, B4) H locs 78 ls dX9_weigh_78 hP hD hS hq
      · skip
        have r9 : rg a2 0 11 := rg_lt1 (iNE c8) (r3 : rg a2 0 12) (r7 : rg x5 0 12)
        have r10 : rg x5 1 12 := rg_lt2 (iNE c8) (r3 : rg a2 0 12) (r7 : rg x5 0 12)
        refine lv_aload_n hx hb dX9_weigh_43 rfl (lv_at hl 0 rfl) ?_
        refine va_get (ci := 9) (v := .int (F4 40)) (C := RX9) (T := TX9) (N := 8) hx hb hg inX9 hown hK hP 56 atX_56 rfl 5 (by decide) (hg _ mw_450) (fun _ h9 => h9) rfl dX9_weigh_44 ?_
        refine lv_topi (fun x11 e12 => ?_)
        refine lv_iconst (v := (-1)) hx hb dX9_weigh_47 (by decide) ?_
        refine lv_icmp_ne (tgt := 78) hx hb dX9_weigh_48 (by decide) (fun c13 => ?_) (fun c13 => ?_)
        · skip
          exact hret (F4, L4, A4, B4) H locs 78 ls dX9_weigh_78 hP hD hS hq
        · skip
          have r14 : rg x11 (-1) (-1) := rg_eq1 c13 ((rg_top _) : rg x11 (-2147483648) 2147483647) ((rg_k (by decide)) : rg (-1) (-1) (-1)) (by decide)
          refine lv_aload_n hx hb dX9_weigh_51 rfl (lv_at hl 0 rfl) ?_
          refine lv_iload_n hx hb dX9_weigh_52 rfl (lv_at hl 1 rfl) ?_
          refine callv_i (As := [.int a2]) (rest := []) hC (c_X9_canBe_56 l D cA H.size ad F4 L4 A4 B4 (a2) hq.1 r9) (cwV 1 hg (g_V mw_1028 mw_1025 mw_1027 ms_42 mw_17) rfl rfl rfl (by decide +kernel) ⟨(Nat.le_of_ble_eq_true rfl), (Nat.le_of_ble_eq_true rfl)⟩) hP hD hS hA atX_56 rfl rfl hl.1 rfl (Nat.le_of_ble_eq_true rfl) dX9_weigh_53 ⟨Nat.zero_le _, Nat.zero_le _⟩ (fun x15 u H locs hw hP hD hS => ?_)
          have r16 := hw
          have hP : va_P D classes (wX cA ad F4 L4 A4 B4) H := hP
          have hD : va_D Af (wX cA ad F4 L4 A4 B4) := hD
          have J72 : ∀ (F17 : Nat → Int32) (L17 : Nat → Int64) (A17 : Nat → Nat → Int32) (B17 : Nat → Nat → Int64) (a19 : Int32) (H : Heap) (locs : List Loc) (ls : Array Slot), qX [40, 41, 42] [60] F A F17 A17 → F17 39 = x5 → F17 40 = a19 → rg a19 (-1) 11 → va_P D classes (wX cA ad F17 L17 A17 B17) H → va_D Af (wX cA ad F17 L17 A17 B17) → va_S Af s.heap H locs → lv_has ls 3 [(0, .ref (ad 56)), (2, .int a2)] → W p l e rm_X9_weigh_56_18 s m args below meth c H locs 0 0 Q (F0 m 72 ls []) := by
            intro F17 L17 A17 B17 a19 H locs ls hq f18 f20 r21 hP hD hS hl
            obtain ⟨x22, e23⟩ : ∃ y : Int32, y = a2 + 1 := ⟨_, rfl⟩
            have r24 : rg x22 1 12 := rg_add e23 r9 (rg_k (by decide) : rg 1 1 1) (by decide)
            refine lv_iinc (v := x22) (lv' := [(2, .int x22), (0, .ref (ad 56))]) hx hb dX9_weigh_72 hl (k := 1) rfl (by rw [e23]; rfl) (by decide) rfl (fun ls hl => ?_)
            refine lv_goto (tgt := 35) hx hb dX9_weigh_75 (by decide) ?_
            exact ih35 (x22) (F17) (L17) (A17) (B17) H locs ls (by have h0 : (1 : Int32).toInt = 1 := rfl; have h1 := ti_addk e23 r9 (by decide); have h2 : rg x22 0 12 := (rg_w r24 (by decide)); unfold rg at h2; omega) (rg_w r24 (by decide)) hq hP hD hS (lv_sub hl [1, 0] rfl)
          refine lv_if_eq (tgt := 67) hx hb dX9_weigh_56 (by decide) (fun c25 => ?_) (fun c25 => ?_)
          · skip
            have r26 : rg x15 0 0 := rg_eq1 c25 (r16 : rg x15 0 1) ((rg_k (by decide)) : rg 0 0 0) (by decide)
            refine lv_aload_n hx hb dX9_weigh_67 rfl (lv_at hl 0 rfl) ?_
            refine lv_iload_n hx hb dX9_weigh_68 rfl (lv_at hl 1 rfl) ?_
            refine va_put (ci := 9) (v := .int a2) (ty := .int) (C := RX9) (T := TX9) (N := 8) hx hb hg inX9 tyX9 tyX9_ok nmX9 hown hK hP hD hS 56 atX_56 rfl 5 (by decide) (hg _ mw_450) (fun _ h9 => h9) rfl (by decide +kernel) rfl rfl (Nat.le_of_ble_eq_true rfl) dX9_weigh_69 (fun H locs hP hD hS => ?_)
            have hq := hq.put 40 (x := a2) (by decide) (rg_top _)
            rw [setFX_40] at hP hD
            exact J72 ((upd F4 40 a2)) (L4) (A4) (B4) (a2) H locs ls hq (e6.symm) (rfl) (rg_w r9 (by decide)) hP hD hS (lv_sub hl [0, 1] rfl)
          · skip
            have r27 : rg x15 1 1 := (rg_ne1 c25 (r16 : rg x15 0 1) ((rg_k (by decide)) : rg 0 0 0)).1 rfl
            refine lv_aload_n hx hb dX9_weigh_59 rfl (lv_at hl 0 rfl) ?_
            refine lv_iload_n hx hb dX9_weigh_60 rfl (lv_at hl 1 rfl) ?_
            refine callv_v (As := [.int a2]) (rest := []) hC (c_X9_passOne_56 l D cA H.size ad F4 L4 A4 B4 (a2) hq.1 r9) (cwV 1 hg (g_V mw_1032 mw_1029 mw_1031 ms_43 mw_17) rfl rfl rfl (by decide +kernel) ⟨(Nat.le_of_ble_eq_true rfl), (Nat.le_of_ble_eq_true rfl)⟩) hP hD hS hA atX_56 rfl rfl hl.1 rfl (Nat.le_of_ble_eq_true rfl) dX9_weigh_61 ⟨Nat.zero_le _, Nat.zero_le _⟩ (fun  u H locs hw hP hD hS => ?_)
            obtain ⟨F28, L28, A28, B28⟩ := u
            try dsimp only at hw
            have hq28 := hw
            have hq := hq.call hq28 (by decide)
            have hP : va_P D classes (wX cA ad F28 L28 A28 B28) H := hP
            have hD : va_D Af (wX cA ad F28 L28 A28 B28) := hD
            refine lv_goto (tgt := 72) hx hb dX9_weigh_64 (by decide) ?_
            exact J72 (F28) (L28) (A28) (B28) (x11) H locs ls hq ((hq28.2.1 39 (by decide)).trans (e6.symm)) ((hq28.2.1 40 (by decide)).trans (e12.symm)) (rg_w r14 (by decide)) hP hD hS (lv_sub hl [0, 1] rfl)
  exact J35 _ (0) ((upd (upd (upd F 40 ((-1) : Int32)) 41 x1) 42 (0 : Int32))) (L) ((va_up A 60 (va_cpy (A 19) (A 60) ((0 : Int32)).toNatClampNeg ((0 : Int32)).toNatClampNeg ((80 : Int32)).toNatClampNeg))) (B) H locs ls (Nat.lt_succ_self _) (rg_k (by decide)) hq hP hD hS (lv_sub hl [1, 0] rfl)
abbrev rm_X11_judge_0 : Room := { frames := 4, cells := 0, slots := 0, locals := 88 }
set_option maxHeartbeats 4000000 in
set_option maxRecDepth 100000 in
theorem c_X11_judge_0 (l : Launch) (D : va_G) (cA : Nat → ClassId) (sz : Nat) (ad : Nat → Nat) (F : Nat → Int32) (L : Nat → Int64) (A : Nat → Nat → Int32) (B : Nat → Nat → Int64) (p1 : Int32) (hT : typX F A) : Met l yX11_judge (Cond.code yX11_judge cX11_judge 2 (some .int) :: GW) rm_X11_judge_0 (mPc D classes (tysX cA) (wX cA ad F L A B) sz [.ref (ad 0), .int p1]) (mQi (S := SW) D classes (tysX cA) (wX cA ad F L A B) sz (wfX cA ad) (fun r u => qX [40, 41, 42] [60] F A u.1 u.2.2.1)) 0 0 (va_A (wX cA ad F L A B) sz) := by
  refine met_i (own := "ShoeingDay") (by decide +kernel) rfl (Nat.le_of_ble_eq_true rfl) ?_
  intro p e s m args below meth c Q Af ls hC hP hD hS hA hl hret
  have hx := hC.1
  have hb := hC.2.1
  have hown := hC.2.2.2.1
  have hg := hC.g
  have hK := hC.K
  have hl : lv_has ls 2 [(0, .ref (ad 0)), (1, .int p1)] := hl
  have hq : qX [40, 41, 42] [60] F A F A := qX.rf hT
  obtain ⟨H, hH⟩ : ∃ H, H = s.heap := ⟨_, rfl⟩
  have hP : va_P D classes (wX cA ad F L A B) H := by rw [hH]; exact hP
  have hS : va_S Af s.heap H [] := by rw [hH]; exact hS
  obtain ⟨locs, hlo⟩ : ∃ q : List Loc, q = [] := ⟨_, rfl⟩
  rw [← hH, ← hlo]
  rw [← hlo] at hS
  refine lv_iload_n hx hb dX11_judge_0 rfl (lv_at hl 1 rfl) ?_
  have J9 : ∀ (F1 : Nat → Int32) (L1 : Nat → Int64) (A1 : Nat → Nat → Int32) (B1 : Nat → Nat → Int64) (H : Heap) (locs : List Loc) (ls : Array Slot), qX [40, 41, 42] [60] F A F1 A1 → va_P D classes (wX cA ad F1 L1 A1 B1) H → va_D Af (wX cA ad F1 L1 A1 B1) → va_S Af s.heap H locs → lv_has ls 2 [] → W p l e rm_X11_judge_0 s m args below meth c H locs 0 0 Q (F0 m 9 ls []) := by
    intro F1 L1 A1 B1 H locs ls hq hP hD hS hl
    refine lv_iconst (v := (-1)) hx hb dX11_judge_9 (by decide) ?_
    exact hret ((-1)) (F1, L1, A1, B1) H locs 10 ls rfl dX11_judge_10 hP hD hS hq
  refine lv_if_lt (tgt := 9) hx hb dX11_judge_1 (by decide) (fun c2 => ?_) (fun c2 => ?_)
  · skip
    have r3 : rg p1 (-2147483648) (-1) := rg_lt1 (iL c2) ((rg_top _) : rg p1 (-2147483648) 2147483647) ((rg_k (by decide)) : rg 0 0 0)
    exact J9 (F) (L) (A) (B) H locs ls hq hP hD hS (lv_sub hl [] rfl)
  · skip
    have r4 : rg p1 0 2147483647 := rg_le2 (iNL c2) ((rg_k (by decide)) : rg 0 0 0) ((rg_top _) : rg p1 (-2147483648) 2147483647)
    refine lv_iload_n hx hb dX11_judge_4 rfl (lv_at hl 1 rfl) ?_
    refine lv_iconst (v := 2) hx hb dX11_judge_5 (by decide) ?_
    refine lv_icmp_le (tgt := 11) hx hb dX11_judge_6 (by decide) (fun c5 => ?_) (fun c5 => ?_)
    · skip
      have r6 : rg p1 0 2 := rg_le1 (iE c5) (r4 : rg p1 0 2147483647) ((rg_k (by decide)) : rg 2 2 2)
      refine lv_aload_n hx hb dX11_judge_11 rfl (lv_at hl 0 rfl) ?_
      refine va_get (ci := 11) (v := .ref (ad 56)) (C := RX11) (T := TX11) (N := 13) hx hb hg inX11 hown hK hP 0 atX_0 rfl 7 (by decide) (hg _ mw_532) (fun _ h9 => h9) rfl dX11_judge_12 ?_
      refine lv_aload_n hx hb dX11_judge_15 rfl (lv_at hl 0 rfl) ?_
      refine va_get (ci := 11) (v := .ref (ad 18)) (C := RX11) (T := TX11) (N := 13) hx hb hg inX11 hown hK hP 0 atX_0 rfl 2 (by decide) (hg _ mw_527) (fun _ h9 => h9) rfl dX11_judge_16 ?_
      refine callv_v (As := [.ref (ad 18)]) (rest := []) hC (c_X9_weigh_56_18 l D cA H.size ad F L A B  hq.1) (cwV 1 hg (g_V mw_1019 mw_1016 mw_1017 mw_1018 mw_17) rfl rfl rfl (by decide +kernel) ⟨(Nat.le_of_ble_eq_true rfl), (Nat.le_of_ble_eq_true rfl)⟩) hP hD hS hA atX_56 rfl rfl hl.1 rfl (Nat.le_of_ble_eq_true rfl) dX11_judge_19 ⟨Nat.zero_le _, Nat.zero_le _⟩ (fun  u H locs hw hP hD hS => ?_)
      obtain ⟨F8, L8, A8, B8⟩ := u
      try dsimp only at hw
      have hq8 := hw
      have hq := hq.call hq8 (by decide)
      have hP : va_P D classes (wX cA ad F8 L8 A8 B8) H := hP
      have hD : va_D Af (wX cA ad F8 L8 A8 B8) := hD
      refine lv_iload_n hx hb dX11_judge_22 rfl (lv_at hl 1 rfl) ?_
      refine lv_if_ne (tgt := 34) hx hb dX11_judge_23 (by decide) (fun c9 => ?_) (fun c9 => ?_)
      · skip
        have r10 : rg p1 1 2 := (rg_ne1 c9 (r6 : rg p1 0 2) ((rg_k (by decide)) : rg 0 0 0)).1 rfl
        refine lv_iload_n hx hb dX11_judge_34 rfl (lv_at hl 1 rfl) ?_
        refine lv_iconst (v := 1) hx hb dX11_judge_35 (by decide) ?_
        refine lv_icmp_ne (tgt := 49) hx hb dX11_judge_36 (by decide) (fun c12 => ?_) (fun c12 => ?_)
        · skip
          have r13 : rg p1 2 2 := (rg_ne1 c12 (r10 : rg p1 1 2) ((rg_k (by decide)) : rg 1 1 1)).1 rfl
          refine lv_aload_n hx hb dX11_judge_49 rfl (lv_at hl 0 rfl) ?_
          refine va_get (ci := 11) (v := .ref (ad 56)) (C := RX11) (T := TX11) (N := 13) hx hb hg inX11 hown hK hP 0 atX_0 rfl 7 (by decide) (hg _ mw_532) (fun _ h9 => h9) rfl dX11_judge_50 ?_
          refine va_get (ci := 9) (v := .int (F8 42)) (C := RX9) (T := TX9) (N := 8) hx hb hg inX9 hown hK hP 56 atX_56 rfl 7 (by decide) (hg _ mw_455) (fun _ h9 => h9) rfl dX11_judge_53 ?_
          refine lv_topi (fun x15 e16 => ?_)
          exact hret (x15) (F8, L8, A8, B8) H locs 56 ls rfl dX11_judge_56 hP hD hS hq
        · skip
          have r14 : rg p1 1 1 := rg_eq1 c12 (r10 : rg p1 1 2) ((rg_k (by decide)) : rg 1 1 1) (by decide)
          refine lv_aload_n hx hb dX11_judge_39 rfl (lv_at hl 0 rfl) ?_
          refine va_get (ci := 11) (v := .ref (ad 56)) (C := RX11) (T := TX11) (N := 13) hx hb hg inX11 hown hK hP 0 atX_0 rfl 7 (by decide) (hg _ mw_532) (fun _ h9 => h9) rfl dX11_judge_40 ?_
          refine va_get (ci := 9) (v := .int (F8 41)) (C := RX9) (T := TX9) (N := 8) hx hb hg inX9 hown hK hP 56 atX_56 rfl 6 (by decide) (hg _ mw_453) (fun _ h9 => h9) rfl dX11_judge_43 ?_
          refine lv_topi (fun x17 e18 => ?_)
          refine lv_goto (tgt := 56) hx hb dX11_judge_46 (by decide) ?_
          exact hret (x17) (F8, L8, A8, B8) H locs 56 ls rfl dX11_judge_56 hP hD hS hq
      · skip
        have r11 : rg p1 0 0 := rg_eq1 c9 (r6 : rg p1 0 2) ((rg_k (by decide)) : rg 0 0 0) (by decide)
        refine lv_aload_n hx hb dX11_judge_26 rfl (lv_at hl 0 rfl) ?_
        refine va_get (ci := 11) (v := .ref (ad 56)) (C := RX11) (T := TX11) (N := 13) hx hb hg inX11 hown hK hP 0 atX_0 rfl 7 (by decide) (hg _ mw_532) (fun _ h9 => h9) rfl dX11_judge_27 ?_
        refine va_get (ci := 9) (v := .int (F8 40)) (C := RX9) (T := TX9) (N := 8) hx hb hg inX9 hown hK hP 56 atX_56 rfl 5 (by decide) (hg _ mw_451) (fun _ h9 => h9) rfl dX11_judge_30 ?_
        refine lv_topi (fun x19 e20 => ?_)
        exact hret (x19) (F8, L8, A8, B8) H locs 33 ls rfl dX11_judge_33 hP hD hS hq
    · skip
      have r7 : rg p1 3 2147483647 := rg_lt2 (iNE c5) ((rg_k (by decide)) : rg 2 2 2) (r4 : rg p1 0 2147483647)
      exact J9 (F) (L) (A) (B) H locs ls hq hP hD hS (lv_sub hl [] rfl)
abbrev rm_X8_tell_61 : Room := { frames := 0, cells := 0, slots := 0, locals := 0 }
set_option maxHeartbeats 4000000 in
set_option maxRecDepth 100000 in
theorem c_X8_tell_61 (l : Launch) (D : va_G) (cA : Nat → ClassId) (sz : Nat) (ad : Nat → Nat) (F : Nat → Int32) (L : Nat → Int64) (A : Nat → Nat → Int32) (B : Nat → Nat → Int64) (p1 : Int32) (p2 : Int32) (p3 : Int32) (p4 : Int32) (hT : typX F A) (hp1 : rg p1 0 999) (hp2 : rg p2 0 7) (hp3 : rg p3 (-1) 9) (hp4 : rg p4 0 100000) : Met l yX8_tell (Cond.code yX8_tell cX8_tell 5 (some .int) :: GW) rm_X8_tell_61 (mPc D classes (tysX cA) (wX cA ad F L A B) sz [.ref (ad 61), .int p1, .int p2, .int p3, .int p4]) (mQi (S := SW) D classes (tysX cA) (wX cA ad F L A B) sz (wfX cA ad) (fun r u => qX [43] [62, 63, 64, 65, 66] F A u.1 u.2.2.1 ∧ rg r (-1) 19)) 0 0 (va_A (wX cA ad F L A B) sz) := by
  refine met_i (own := "ShoeingDay$Sights") (by decide +kernel) rfl (Nat.le_of_ble_eq_true rfl) ?_
  intro p e s m args below meth c Q Af ls hC hP hD hS hA hl hret
  have hx := hC.1
  have hb := hC.2.1
  have hown := hC.2.2.2.1
  have hg := hC.g
  have hK := hC.K
  have hl : lv_has ls 5 [(0, .ref (ad 61)), (1, .int p1), (2, .int p2), (3, .int p3), (4, .int p4)] := hl
  have hq : qX [43] [62, 63, 64, 65, 66] F A F A := qX.rf hT
  obtain ⟨H, hH⟩ : ∃ H, H = s.heap := ⟨_, rfl⟩
  have hP : va_P D classes (wX cA ad F L A B) H := by rw [hH]; exact hP
  have hS : va_S Af s.heap H [] := by rw [hH]; exact hS
  obtain ⟨locs, hlo⟩ : ∃ q : List Loc, q = [] := ⟨_, rfl⟩
  rw [← hH, ← hlo]
  rw [← hlo] at hS
  refine lv_aload_n hx hb dX8_tell_0 rfl (lv_at hl 0 rfl) ?_
  refine va_get (ci := 8) (v := .int (F 43)) (C := RX8) (T := TX8) (N := 9) hx hb hg inX8 hown hK hP 61 atX_61 rfl 8 (by decide) (hg _ mw_491) (fun _ h9 => h9) rfl dX8_tell_1 ?_
  refine lv_topi (fun x1 e2 => ?_)
  have r3 : rg x1 0 20 := rg_e e2 (hq.1.1 43)
  refine lv_bipush (v := 20) hx hb dX8_tell_4 (by decide) ?_
  refine lv_icmp_lt (tgt := 11) hx hb dX8_tell_6 (by decide) (fun c4 => ?_) (fun c4 => ?_)
  · skip
    have r5 : rg x1 0 19 := rg_lt1 (iL c4) (r3 : rg x1 0 20) ((rg_k (by decide)) : rg 20 20 20)
    refine lv_aload_n hx hb dX8_tell_11 rfl (lv_at hl 0 rfl) ?_
    refine va_get (ci := 8) (v := .ref (ad 62)) (C := RX8) (T := TX8) (N := 9) hx hb hg inX8 hown hK hP 61 atX_61 rfl 0 (by decide) (hg _ mw_480) (fun _ h9 => h9) rfl dX8_tell_12 ?_
    refine lv_aload_n hx hb dX8_tell_15 rfl (lv_at hl 0 rfl) ?_
    refine va_get (ci := 8) (v := .int x1) (C := RX8) (T := TX8) (N := 9) hx hb hg inX8 hown hK hP 61 atX_61 rfl 8 (by decide) (hg _ mw_491) (fun _ h9 => h9) (congrArg (fun z => some (Value.int z)) (e2.symm)) dX8_tell_16 ?_
    refine lv_iload_n hx hb dX8_tell_19 rfl (lv_at hl 1 rfl) ?_
    refine va_iast hx hb hK hP hD hS 62 47 atX_62 tyX_62 (in_rg r5 (by decide)) dX8_tell_20 (fun H locs hP hD hS => ?_)
    have hq := hq.ast 62 (x1).toNatClampNeg (x := p1) (by decide) (rg_top _)
    rw [setX_62] at hP hD
    have k7 : p1 = (va_up A 62 (upd (A 62) (x1).toNatClampNeg p1)) 62 (x1).toNatClampNeg := (rdA).symm
    refine lv_aload_n hx hb dX8_tell_21 rfl (lv_at hl 0 rfl) ?_
    refine va_get (ci := 8) (v := .ref (ad 63)) (C := RX8) (T := TX8) (N := 9) hx hb hg inX8 hown hK hP 61 atX_61 rfl 1 (by decide) (hg _ mw_481) (fun _ h9 => h9) rfl dX8_tell_22 ?_
    refine lv_aload_n hx hb dX8_tell_25 rfl (lv_at hl 0 rfl) ?_
    refine va_get (ci := 8) (v := .int x1) (C := RX8) (T := TX8) (N := 9) hx hb hg inX8 hown hK hP 61 atX_61 rfl 8 (by decide) (hg _ mw_491) (fun _ h9 => h9) (congrArg (fun z => some (Value.int z)) (e2.symm)) dX8_tell_26 ?_
    refine lv_iload_n hx hb dX8_tell_29 rfl (lv_at hl 2 rfl) ?_
    refine va_iast hx hb hK hP hD hS 63 48 atX_63 tyX_63 (in_rg r5 (by decide)) dX8_tell_30 (fun H locs hP hD hS => ?_)
    have hq := hq.ast 63 (x1).toNatClampNeg (x := p2) (by decide) hp2
    rw [setX_63] at hP hD
    have k8 : p2 = (va_up (va_up A 62 (upd (A 62) (x1).toNatClampNeg p1)) 63 (upd ((va_up A 62 (upd (A 62) (x1).toNatClampNeg p1)) 63) (x1).toNatClampNeg p2)) 63 (x1).toNatClampNeg := (rdA).symm
    refine lv_aload_n hx hb dX8_tell_31 rfl (lv_at hl 0 rfl) ?_
    refine va_get (ci := 8) (v := .ref (ad 64)) (C := RX8) (T := TX8) (N := 9) hx hb hg inX8 hown hK hP 61 atX_61 rfl 2 (by decide) (hg _ mw_482) (fun _ h9 => h9) rfl dX8_tell_32 ?_
    refine lv_aload_n hx hb dX8_tell_35 rfl (lv_at hl 0 rfl) ?_
    refine va_get (ci := 8) (v := .int x1) (C := RX8) (T := TX8) (N := 9) hx hb hg inX8 hown hK hP 61 atX_61 rfl 8 (by decide) (hg _ mw_491) (fun _ h9 => h9) (congrArg (fun z => some (Value.int z)) (e2.symm)) dX8_tell_36 ?_
    refine lv_iload_n hx hb dX8_tell_39 rfl (lv_at hl 3 rfl) ?_
    refine va_iast hx hb hK hP hD hS 64 49 atX_64 tyX_64 (in_rg r5 (by decide)) dX8_tell_40 (fun H locs hP hD hS => ?_)
    have hq := hq.ast 64 (x1).toNatClampNeg (x := p3) (by decide) hp3
    rw [setX_64] at hP hD
    have k9 : p3 = (va_up (va_up (va_up A 62 (upd (A 62) (x1).toNatClampNeg p1)) 63 (upd ((va_up A 62 (upd (A 62) (x1).toNatClampNeg p1)) 63) (x1).toNatClampNeg p2)) 64 (upd ((va_up (va_up A 62 (upd (A 62) (x1).toNatClampNeg p1)) 63 (upd ((va_up A 62 (upd (A 62) (x1).toNatClampNeg p1)) 63) (x1).toNatClampNeg p2)) 64) (x1).toNatClampNeg p3)) 64 (x1).toNatClampNeg := (rdA).symm
    refine lv_aload_n hx hb dX8_tell_41 rfl (lv_at hl 0 rfl) ?_
    refine va_get (ci := 8) (v := .ref (ad 65)) (C := RX8) (T := TX8) (N := 9) hx hb hg inX8 hown hK hP 61 atX_61 rfl 3 (by decide) (hg _ mw_483) (fun _ h9 => h9) rfl dX8_tell_42 ?_
    refine lv_aload_n hx hb dX8_tell_45 rfl (lv_at hl 0 rfl) ?_
    refine va_get (ci := 8) (v := .int x1) (C := RX8) (T := TX8) (N := 9) hx hb hg inX8 hown hK hP 61 atX_61 rfl 8 (by decide) (hg _ mw_491) (fun _ h9 => h9) (congrArg (fun z => some (Value.int z)) (e2.symm)) dX8_tell_46 ?_
    refine lv_iload hx hb dX8_tell_49 (lv_at hl 4 rfl) ?_
    refine va_iast hx hb hK hP hD hS 65 50 atX_65 tyX_65 (in_rg r5 (by decide)) dX8_tell_51 (fun H locs hP hD hS => ?_)
    have hq := hq.ast 65 (x1).toNatClampNeg (x := p4) (by decide) (rg_top _)
    rw [setX_65] at hP hD
    have k10 : p4 = (va_up (va_up (va_up (va_up A 62 (upd (A 62) (x1).toNatClampNeg p1)) 63 (upd ((va_up A 62 (upd (A 62) (x1).toNatClampNeg p1)) 63) (x1).toNatClampNeg p2)) 64 (upd ((va_up (va_up A 62 (upd (A 62) (x1).toNatClampNeg p1)) 63 (upd ((va_up A 62 (upd (A 62) (x1).toNatClampNeg p1)) 63) (x1).toNatClampNeg p2)) 64) (x1).toNatClampNeg p3)) 65 (upd ((va_up (va_up (va_up A 62 (upd (A 62) (x1).toNatClampNeg p1)) 63 (upd ((va_up A 62 (upd (A 62) (x1).toNatClampNeg p1)) 63) (x1).toNatClampNeg p2)) 64 (upd ((va_up (va_up A 62 (upd (A 62) (x1).toNatClampNeg p1)) 63 (upd ((va_up A 62 (upd (A 62) (x1).toNatClampNeg p1)) 63) (x1).toNatClampNeg p2)) 64) (x1).toNatClampNeg p3)) 65) (x1).toNatClampNeg p4)) 65 (x1).toNatClampNeg := (rdA).symm
    refine lv_aload_n hx hb dX8_tell_52 rfl (lv_at hl 0 rfl) ?_
    refine va_get (ci := 8) (v := .ref (ad 66)) (C := RX8) (T := TX8) (N := 9) hx hb hg inX8 hown hK hP 61 atX_61 rfl 4 (by decide) (hg _ mw_484) (fun _ h9 => h9) rfl dX8_tell_53 ?_
    refine lv_aload_n hx hb dX8_tell_56 rfl (lv_at hl 0 rfl) ?_
    refine va_get (ci := 8) (v := .int x1) (C := RX8) (T := TX8) (N := 9) hx hb hg inX8 hown hK hP 61 atX_61 rfl 8 (by decide) (hg _ mw_491) (fun _ h9 => h9) (congrArg (fun z => some (Value.int z)) (e2.symm)) dX8_tell_57 ?_
    refine lv_iconst (v := (-1)) hx hb dX8_tell_60 (by decide) ?_
    refine va_iast hx hb hK hP hD hS 66 51 atX_66 tyX_66 (in_rg r5 (by decide)) dX8_tell_61 (fun H locs hP hD hS => ?_)
    have hq := hq.ast 66 (x1).toNatClampNeg (x := (-1)) (by decide) (rg_k (by decide))
    rw [setX_66] at hP hD
    have k11 : ((-1) : Int32) = (va_up (va_up (va_up (va_up (va_up A 62 (upd (A 62) (x1).toNatClampNeg p1)) 63 (upd ((va_up A 62 (upd (A 62) (x1).toNatClampNeg p1)) 63) (x1).toNatClampNeg p2)) 64 (upd ((va_up (va_up A 62 (upd (A 62) (x1).toNatClampNeg p1)) 63 (upd ((va_up A 62 (upd (A 62) (x1).toNatClampNeg p1)) 63) (x1).toNatClampNeg p2)) 64) (x1).toNatClampNeg p3)) 65 (upd ((va_up (va_up (va_up A 62 (upd (A 62) (x1).toNatClampNeg p1)) 63 (upd ((va_up A 62 (upd (A 62) (x1).toNatClampNeg p1)) 63) (x1).toNatClampNeg p2)) 64 (upd ((va_up (va_up A 62 (upd (A 62) (x1).toNatClampNeg p1)) 63 (upd ((va_up A 62 (upd (A 62) (x1).toNatClampNeg p1)) 63) (x1).toNatClampNeg p2)) 64) (x1).toNatClampNeg p3)) 65) (x1).toNatClampNeg p4)) 66 (upd ((va_up (va_up (va_up (va_up A 62 (upd (A 62) (x1).toNatClampNeg p1)) 63 (upd ((va_up A 62 (upd (A 62) (x1).toNatClampNeg p1)) 63) (x1).toNatClampNeg p2)) 64 (upd ((va_up (va_up A 62 (upd (A 62) (x1).toNatClampNeg p1)) 63 (upd ((va_up A 62 (upd (A 62) (x1).toNatClampNeg p1)) 63) (x1).toNatClampNeg p2)) 64) (x1).toNatClampNeg p3)) 65 (upd ((va_up (va_up (va_up A 62 (upd (A 62) (x1).toNatClampNeg p1)) 63 (upd ((va_up A 62 (upd (A 62) (x1).toNatClampNeg p1)) 63) (x1).toNatClampNeg p2)) 64 (upd ((va_up (va_up A 62 (upd (A 62) (x1).toNatClampNeg p1)) 63 (upd ((va_up A 62 (upd (A 62) (x1).toNatClampNeg p1)) 63) (x1).toNatClampNeg p2)) 64) (x1).toNatClampNeg p3)) 65) (x1).toNatClampNeg p4)) 66) (x1).toNatClampNeg (-1))) 66 (x1).toNatClampNeg := (rdA).symm
    refine lv_aload_n hx hb dX8_tell_62 rfl (lv_at hl 0 rfl) ?_
    refine lv_dup hx hb dX8_tell_63 rfl ?_
    refine va_get (ci := 8) (v := .int x1) (C := RX8) (T := TX8) (N := 9) hx hb hg inX8 hown hK hP 61 atX_61 rfl 8 (by decide) (hg _ mw_491) (fun _ h9 => h9) (congrArg (fun z => some (Value.int z)) (e2.symm)) dX8_tell_64 ?_
    refine lv_iconst (v := 1) hx hb dX8_tell_67 (by decide) ?_
    refine lv_iadd hx hb dX8_tell_68 ?_
    refine lv_topi (fun x12 e13 => ?_)
    have r14 : rg x12 1 20 := rg_add e13 r5 ((rg_k (by decide)) : rg 1 1 1) (by decide)
    refine va_put (ci := 8) (v := .int x12) (ty := .int) (C := RX8) (T := TX8) (N := 9) hx hb hg inX8 tyX8 tyX8_ok nmX8 hown hK hP hD hS 61 atX_61 rfl 8 (by decide) (hg _ mw_491) (fun _ h9 => h9) rfl (by decide +kernel) rfl rfl (Nat.le_of_ble_eq_true rfl) dX8_tell_69 (fun H locs hP hD hS => ?_)
    have hq := hq.put 43 (x := x12) (by decide) (rg_w r14 (by decide))
    rw [setFX_43] at hP hD
    refine lv_aload_n hx hb dX8_tell_72 rfl (lv_at hl 0 rfl) ?_
    refine va_get (ci := 8) (v := .int x12) (C := RX8) (T := TX8) (N := 9) hx hb hg inX8 hown hK hP 61 atX_61 rfl 8 (by decide) (hg _ mw_491) (fun _ h9 => h9) (congrArg (fun z => some (Value.int z)) (rfl)) dX8_tell_73 ?_
    refine lv_iconst (v := 1) hx hb dX8_tell_76 (by decide) ?_
    refine lv_isub hx hb dX8_tell_77 ?_
    refine lv_topi (fun x15 e16 => ?_)
    have r17 : rg x15 0 19 := rg_sub e16 r14 ((rg_k (by decide)) : rg 1 1 1) (by decide)
    exact hret (x15) ((upd F 43 x12), L, (va_up (va_up (va_up (va_up (va_up A 62 (upd (A 62) (x1).toNatClampNeg p1)) 63 (upd ((va_up A 62 (upd (A 62) (x1).toNatClampNeg p1)) 63) (x1).toNatClampNeg p2)) 64 (upd ((va_up (va_up A 62 (upd (A 62) (x1).toNatClampNeg p1)) 63 (upd ((va_up A 62 (upd (A 62) (x1).toNatClampNeg p1)) 63) (x1).toNatClampNeg p2)) 64) (x1).toNatClampNeg p3)) 65 (upd ((va_up (va_up (va_up A 62 (upd (A 62) (x1).toNatClampNeg p1)) 63 (upd ((va_up A 62 (upd (A 62) (x1).toNatClampNeg p1)) 63) (x1).toNatClampNeg p2)) 64 (upd ((va_up (va_up A 62 (upd (A 62) (x1).toNatClampNeg p1)) 63 (upd ((va_up A 62 (upd (A 62) (x1).toNatClampNeg p1)) 63) (x1).toNatClampNeg p2)) 64) (x1).toNatClampNeg p3)) 65) (x1).toNatClampNeg p4)) 66 (upd ((va_up (va_up (va_up (va_up A 62 (upd (A 62) (x1).toNatClampNeg p1)) 63 (upd ((va_up A 62 (upd (A 62) (x1).toNatClampNeg p1)) 63) (x1).toNatClampNeg p2)) 64 (upd ((va_up (va_up A 62 (upd (A 62) (x1).toNatClampNeg p1)) 63 (upd ((va_up A 62 (upd (A 62) (x1).toNatClampNeg p1)) 63) (x1).toNatClampNeg p2)) 64) (x1).toNatClampNeg p3)) 65 (upd ((va_up (va_up (va_up A 62 (upd (A 62) (x1).toNatClampNeg p1)) 63 (upd ((va_up A 62 (upd (A 62) (x1).toNatClampNeg p1)) 63) (x1).toNatClampNeg p2)) 64 (upd ((va_up (va_up A 62 (upd (A 62) (x1).toNatClampNeg p1)) 63 (upd ((va_up A 62 (upd (A 62) (x1).toNatClampNeg p1)) 63) (x1).toNatClampNeg p2)) 64) (x1).toNatClampNeg p3)) 65) (x1).toNatClampNeg p4)) 66) (x1).toNatClampNeg (-1))), B) H locs 78 ls rfl dX8_tell_78 hP hD hS ⟨hq, (rg_w r17 (by decide))⟩
  · skip
    have r6 : rg x1 20 20 := rg_le2 (iNL c4) ((rg_k (by decide)) : rg 20 20 20) (r3 : rg x1 0 20)
    refine lv_iconst (v := (-1)) hx hb dX8_tell_9 (by decide) ?_
    exact hret ((-1)) (F, L, A, B) H locs 10 ls rfl dX8_tell_10 hP hD hS ⟨hq, (rg_k (by decide))⟩
abbrev rm_X11_sight_0 : Room := { frames := 1, cells := 0, slots := 0, locals := 24 }
set_option maxHeartbeats 4000000 in
set_option maxRecDepth 100000 in
theorem c_X11_sight_0 (l : Launch) (D : va_G) (cA : Nat → ClassId) (sz : Nat) (ad : Nat → Nat) (F : Nat → Int32) (L : Nat → Int64) (A : Nat → Nat → Int32) (B : Nat → Nat → Int64) (p1 : Int32) (p2 : Int32) (p3 : Int32) (hT : typX F A) : Met l yX11_sight (Cond.code yX11_sight cX11_sight 5 (some .int) :: GW) rm_X11_sight_0 (mPc D classes (tysX cA) (wX cA ad F L A B) sz [.ref (ad 0), .int p1, .int p2, .int p3]) (mQi (S := SW) D classes (tysX cA) (wX cA ad F L A B) sz (wfX cA ad) (fun r u => qX [43] [62, 63, 64, 65, 66] F A u.1 u.2.2.1 ∧ rg r (-1) 19)) 0 0 (va_A (wX cA ad F L A B) sz) := by
  refine met_i (own := "ShoeingDay") (by decide +kernel) rfl (Nat.le_of_ble_eq_true rfl) ?_
  intro p e s m args below meth c Q Af ls hC hP hD hS hA hl hret
  have hx := hC.1
  have hb := hC.2.1
  have hown := hC.2.2.2.1
  have hg := hC.g
  have hK := hC.K
  have hl : lv_has ls 5 [(0, .ref (ad 0)), (1, .int p1), (2, .int p2), (3, .int p3)] := hl
  have hq : qX [43] [62, 63, 64, 65, 66] F A F A := qX.rf hT
  obtain ⟨H, hH⟩ : ∃ H, H = s.heap := ⟨_, rfl⟩
  have hP : va_P D classes (wX cA ad F L A B) H := by rw [hH]; exact hP
  have hS : va_S Af s.heap H [] := by rw [hH]; exact hS
  obtain ⟨locs, hlo⟩ : ∃ q : List Loc, q = [] := ⟨_, rfl⟩
  rw [← hH, ← hlo]
  rw [← hlo] at hS
  refine lv_iload_n hx hb dX11_sight_0 rfl (lv_at hl 3 rfl) ?_
  refine lv_iconst (v := (-1)) hx hb dX11_sight_1 (by decide) ?_
  have J44 : ∀ (F1 : Nat → Int32) (L1 : Nat → Int64) (A1 : Nat → Nat → Int32) (B1 : Nat → Nat → Int64) (H : Heap) (locs : List Loc) (ls : Array Slot), qX [43] [62, 63, 64, 65, 66] F A F1 A1 → va_P D classes (wX cA ad F1 L1 A1 B1) H → va_D Af (wX cA ad F1 L1 A1 B1) → va_S Af s.heap H locs → lv_has ls 5 [] → W p l e rm_X11_sight_0 s m args below meth c H locs 0 0 Q (F0 m 44 ls []) := by
    intro F1 L1 A1 B1 H locs ls hq hP hD hS hl
    refine lv_iconst (v := (-1)) hx hb dX11_sight_44 (by decide) ?_
    exact hret ((-1)) (F1, L1, A1, B1) H locs 45 ls rfl dX11_sight_45 hP hD hS ⟨hq, (rg_k (by decide))⟩
  have J13 : ∀ (F3 : Nat → Int32) (L3 : Nat → Int64) (A3 : Nat → Nat → Int32) (B3 : Nat → Nat → Int64) (H : Heap) (locs : List Loc) (ls : Array Slot), rg p3 (-1) 9 → qX [43] [62, 63, 64, 65, 66] F A F3 A3 → va_P D classes (wX cA ad F3 L3 A3 B3) H → va_D Af (wX cA ad F3 L3 A3 B3) → va_S Af s.heap H locs → lv_has ls 5 [(0, .ref (ad 0)), (1, .int p1), (2, .int p2), (3, .int p3)] → W p l e rm_X11_sight_0 s m args below meth c H locs 0 0 Q (F0 m 13 ls []) := by
    intro F3 L3 A3 B3 H locs ls r2 hq hP hD hS hl
    refine lv_iconst (v := 1) hx hb dX11_sight_13 (by decide) ?_
    refine lv_goto (tgt := 18) hx hb dX11_sight_14 (by decide) ?_
    refine lv_istore (lv' := [(4, .int 1), (0, .ref (ad 0)), (1, .int p1), (2, .int p2), (3, .int p3)]) hx hb dX11_sight_18 hl (by decide) rfl (fun ls hl => ?_)
    refine lv_iload_n hx hb dX11_sight_20 rfl (lv_at hl 2 rfl) ?_
    refine lv_if_lt (tgt := 44) hx hb dX11_sight_21 (by decide) (fun c4 => ?_) (fun c4 => ?_)
    · skip
      have r5 : rg p1 (-2147483648) (-1) := rg_lt1 (iL c4) ((rg_top _) : rg p1 (-2147483648) 2147483647) ((rg_k (by decide)) : rg 0 0 0)
      exact J44 (F3) (L3) (A3) (B3) H locs ls hq hP hD hS (lv_sub hl [] rfl)
    · skip
      have r6 : rg p1 0 2147483647 := rg_le2 (iNL c4) ((rg_k (by decide)) : rg 0 0 0) ((rg_top _) : rg p1 (-2147483648) 2147483647)
      refine lv_iload_n hx hb dX11_sight_24 rfl (lv_at hl 2 rfl) ?_
      refine lv_sipush (v := 999) hx hb dX11_sight_25 (by decide) ?_
      refine lv_icmp_gt (tgt := 44) hx hb dX11_sight_28 (by decide) (fun c7 => ?_) (fun c7 => ?_)
      · skip
        have r8 : rg p1 1000 2147483647 := rg_lt2 (iL c7) ((rg_k (by decide)) : rg 999 999 999) (r6 : rg p1 0 2147483647)
        exact J44 (F3) (L3) (A3) (B3) H locs ls hq hP hD hS (lv_sub hl [] rfl)
      · skip
        have r9 : rg p1 0 999 := rg_le1 (iNL c7) (r6 : rg p1 0 2147483647) ((rg_k (by decide)) : rg 999 999 999)
        refine lv_aload_n hx hb dX11_sight_31 rfl (lv_at hl 1 rfl) ?_
        refine lv_iload_n hx hb dX11_sight_32 rfl (lv_at hl 3 rfl) ?_
        refine callv_i (As := [.int p2]) (rest := []) hC (c_X11_isSmith_0 l D cA H.size ad F3 L3 A3 B3 (p2) hq.1) (cwV 1 hg (g_V mw_731 mw_728 mw_730 ms_19 mw_1) rfl rfl rfl (by decide +kernel) ⟨(Nat.le_of_ble_eq_true rfl), (Nat.le_of_ble_eq_true rfl)⟩) hP hD hS hA atX_0 rfl rfl hl.1 rfl (Nat.le_of_ble_eq_true rfl) dX11_sight_33 ⟨Nat.zero_le _, Nat.zero_le _⟩ (fun x10 u H locs hw hP hD hS => ?_)
        obtain ⟨r11, g12⟩ := hw
        have hP : va_P D classes (wX cA ad F3 L3 A3 B3) H := hP
        have hD : va_D Af (wX cA ad F3 L3 A3 B3) := hD
        refine lv_if_eq (tgt := 44) hx hb dX11_sight_36 (by decide) (fun c13 => ?_) (fun c13 => ?_)
        · skip
          have r14 : rg x10 0 0 := rg_eq1 c13 (r11 : rg x10 0 1) ((rg_k (by decide)) : rg 0 0 0) (by decide)
          exact J44 (F3) (L3) (A3) (B3) H locs ls hq hP hD hS (lv_sub hl [] rfl)
        · skip
          have g15 := g12.resolve_left c13
          refine lv_iload hx hb dX11_sight_39 (lv_at hl 0 rfl) ?_
          refine lv_if_ne (tgt := 46) hx hb dX11_sight_41 (by decide) (fun c16 => ?_) (fun c16 => ?_)
          · skip
            refine lv_aload_n hx hb dX11_sight_46 rfl (lv_at hl 1 rfl) ?_
            refine va_get (ci := 11) (v := .ref (ad 61)) (C := RX11) (T := TX11) (N := 13) hx hb hg inX11 hown hK hP 0 atX_0 rfl 8 (by decide) (hg _ mw_533) (fun _ h9 => h9) rfl dX11_sight_47 ?_
            refine lv_iload_n hx hb dX11_sight_50 rfl (lv_at hl 2 rfl) ?_
            refine lv_iload_n hx hb dX11_sight_51 rfl (lv_at hl 3 rfl) ?_
            refine lv_iload_n hx hb dX11_sight_52 rfl (lv_at hl 4 rfl) ?_
            refine lv_aload_n hx hb dX11_sight_53 rfl (lv_at hl 1 rfl) ?_
            refine va_get (ci := 11) (v := .int (F3 1)) (C := RX11) (T := TX11) (N := 13) hx hb hg inX11 hown hK hP 0 atX_0 rfl 12 (by decide) (hg _ mw_537) (fun _ h9 => h9) rfl dX11_sight_54 ?_
            refine lv_topi (fun x18 e19 => ?_)
            have r20 : rg x18 0 100000 := rg_e e19 (hq.1.1 1)
            refine callv_i (As := [.int p1, .int p2, .int p3, .int x18]) (rest := []) hC (c_X8_tell_61 l D cA H.size ad F3 L3 A3 B3 (p1) (p2) (p3) (x18) hq.1 r9 g15 r2 r20) (cwV 4 hg (g_V mw_1040 mw_1037 mw_1038 mw_1039 mw_18) rfl rfl rfl (by decide +kernel) ⟨(Nat.le_of_ble_eq_true rfl), (Nat.le_of_ble_eq_true rfl)⟩) hP hD hS hA atX_61 rfl rfl hl.1 rfl (Nat.le_of_ble_eq_true rfl) dX11_sight_57 ⟨Nat.zero_le _, Nat.zero_le _⟩ (fun x21 u H locs hw hP hD hS => ?_)
            obtain ⟨F22, L22, A22, B22⟩ := u
            try dsimp only at hw
            obtain ⟨hq22, r23⟩ := hw
            have hq := hq.call hq22 (by decide)
            have hP : va_P D classes (wX cA ad F22 L22 A22 B22) H := hP
            have hD : va_D Af (wX cA ad F22 L22 A22 B22) := hD
            exact hret (x21) (F22, L22, A22, B22) H locs 60 ls rfl dX11_sight_60 hP hD hS ⟨hq, r23⟩
          · skip
            exact rg_emp (rg_eq1 c16 ((rg_k (by decide)) : rg 1 1 1) ((rg_k (by decide)) : rg 0 0 0) (by decide) : rg 1 1 0) (by decide)
  refine lv_icmp_eq (tgt := 13) hx hb dX11_sight_2 (by decide) (fun c24 => ?_) (fun c24 => ?_)
  · skip
    have r25 : rg p3 (-1) (-1) := rg_eq1 c24 ((rg_top _) : rg p3 (-2147483648) 2147483647) ((rg_k (by decide)) : rg (-1) (-1) (-1)) (by decide)
    exact J13 (F) (L) (A) (B) H locs ls (rg_w r25 (by decide)) hq hP hD hS (lv_sub hl [0, 1, 2, 3] rfl)
  · skip
    refine lv_aload_n hx hb dX11_sight_5 rfl (lv_at hl 0 rfl) ?_
    refine lv_iload_n hx hb dX11_sight_6 rfl (lv_at hl 3 rfl) ?_
    refine callv_i (As := [.int p3]) (rest := []) hC (c_X11_isHorse_0 l D cA H.size ad F L A B (p3) hq.1) (cwV 1 hg (g_V mw_735 mw_732 mw_734 ms_20 mw_1) rfl rfl rfl (by decide +kernel) ⟨(Nat.le_of_ble_eq_true rfl), (Nat.le_of_ble_eq_true rfl)⟩) hP hD hS hA atX_0 rfl rfl hl.1 rfl (Nat.le_of_ble_eq_true rfl) dX11_sight_7 ⟨Nat.zero_le _, Nat.zero_le _⟩ (fun x26 u H locs hw hP hD hS => ?_)
    obtain ⟨r27, g28⟩ := hw
    have hP : va_P D classes (wX cA ad F L A B) H := hP
    have hD : va_D Af (wX cA ad F L A B) := hD
    refine lv_if_eq (tgt := 17) hx hb dX11_sight_10 (by decide) (fun c29 => ?_) (fun c29 => ?_)
    · skip
      have r30 : rg x26 0 0 := rg_eq1 c29 (r27 : rg x26 0 1) ((rg_k (by decide)) : rg 0 0 0) (by decide)
      refine lv_iconst (v := 0) hx hb dX11_sight_17 (by decide) ?_
      refine lv_istore (lv' := [(4, .int 0), (0, .ref (ad 0)), (1, .int p1), (2, .int p2), (3, .int p3)]) hx hb dX11_sight_18 hl (by decide) rfl (fun ls hl => ?_)
      refine lv_iload_n hx hb dX11_sight_20 rfl (lv_at hl 2 rfl) ?_
      refine lv_if_lt (tgt := 44) hx hb dX11_sight_21 (by decide) (fun c32 => ?_) (fun c32 => ?_)
      · skip
        have r33 : rg p1 (-2147483648) (-1) := rg_lt1 (iL c32) ((rg_top _) : rg p1 (-2147483648) 2147483647) ((rg_k (by decide)) : rg 0 0 0)
        exact J44 (F) (L) (A) (B) H locs ls hq hP hD hS (lv_sub hl [] rfl)
      · skip
        have r34 : rg p1 0 2147483647 := rg_le2 (iNL c32) ((rg_k (by decide)) : rg 0 0 0) ((rg_top _) : rg p1 (-2147483648) 2147483647)
        refine lv_iload_n hx hb dX11_sight_24 rfl (lv_at hl 2 rfl) ?_
        refine lv_sipush (v := 999) hx hb dX11_sight_25 (by decide) ?_
        refine lv_icmp_gt (tgt := 44) hx hb dX11_sight_28 (by decide) (fun c35 => ?_) (fun c35 => ?_)
        · skip
          have r36 : rg p1 1000 2147483647 := rg_lt2 (iL c35) ((rg_k (by decide)) : rg 999 999 999) (r34 : rg p1 0 2147483647)
          exact J44 (F) (L) (A) (B) H locs ls hq hP hD hS (lv_sub hl [] rfl)
        · skip
          have r37 : rg p1 0 999 := rg_le1 (iNL c35) (r34 : rg p1 0 2147483647) ((rg_k (by decide)) : rg 999 999 999)
          refine lv_aload_n hx hb dX11_sight_31 rfl (lv_at hl 1 rfl) ?_
          refine lv_iload_n hx hb dX11_sight_32 rfl (lv_at hl 3 rfl) ?_
          refine callv_i (As := [.int p2]) (rest := []) hC (c_X11_isSmith_0 l D cA H.size ad F L A B (p2) hq.1) (cwV 1 hg (g_V mw_731 mw_728 mw_730 ms_19 mw_1) rfl rfl rfl (by decide +kernel) ⟨(Nat.le_of_ble_eq_true rfl), (Nat.le_of_ble_eq_true rfl)⟩) hP hD hS hA atX_0 rfl rfl hl.1 rfl (Nat.le_of_ble_eq_true rfl) dX11_sight_33 ⟨Nat.zero_le _, Nat.zero_le _⟩ (fun x38 u H locs hw hP hD hS => ?_)
          obtain ⟨r39, g40⟩ := hw
          have hP : va_P D classes (wX cA ad F L A B) H := hP
          have hD : va_D Af (wX cA ad F L A B) := hD
          refine lv_if_eq (tgt := 44) hx hb dX11_sight_36 (by decide) (fun c41 => ?_) (fun c41 => ?_)
          · skip
            have r42 : rg x38 0 0 := rg_eq1 c41 (r39 : rg x38 0 1) ((rg_k (by decide)) : rg 0 0 0) (by decide)
            exact J44 (F) (L) (A) (B) H locs ls hq hP hD hS (lv_sub hl [] rfl)
          · skip
            have g43 := g40.resolve_left c41
            refine lv_iload hx hb dX11_sight_39 (lv_at hl 0 rfl) ?_
            refine lv_if_ne (tgt := 46) hx hb dX11_sight_41 (by decide) (fun c44 => ?_) (fun c44 => ?_)
            · skip
              exact absurd rfl c44
            · skip
              exact J44 (F) (L) (A) (B) H locs ls hq hP hD hS (lv_sub hl [] rfl)
    · skip
      have g31 := g28.resolve_left c29
      exact J13 (F) (L) (A) (B) H locs ls (rg_w g31 (by decide)) hq hP hD hS (lv_sub hl [0, 1, 2, 3] rfl)
abbrev rm_X8_takeBack_61 : Room := { frames := 0, cells := 0, slots := 0, locals := 0 }
set_option maxHeartbeats 4000000 in
set_option maxRecDepth 100000 in
theorem c_X8_takeBack_61 (l : Launch) (D : va_G) (cA : Nat → ClassId) (sz : Nat) (ad : Nat → Nat) (F : Nat → Int32) (L : Nat → Int64) (A : Nat → Nat → Int32) (B : Nat → Nat → Int64) (p1 : Int32) (p2 : Int32) (hT : typX F A) (hp2 : rg p2 0 100000) : Met l yX8_takeBack (Cond.code yX8_takeBack cX8_takeBack 3 (some .boolean) :: GW) rm_X8_takeBack_61 (mPc D classes (tysX cA) (wX cA ad F L A B) sz [.ref (ad 61), .int p1, .int p2]) (mQi (S := SW) D classes (tysX cA) (wX cA ad F L A B) sz (wfX cA ad) (fun r u => qX [] [66] F A u.1 u.2.2.1 ∧ rg r 0 1 ∧ (r = 0 ∨ (rg p1 0 19)))) 0 0 (va_A (wX cA ad F L A B) sz) := by
  refine met_i (own := "ShoeingDay$Sights") (by decide +kernel) rfl (Nat.le_of_ble_eq_true rfl) ?_
  intro p e s m args below meth c Q Af ls hC hP hD hS hA hl hret
  have hx := hC.1
  have hb := hC.2.1
  have hown := hC.2.2.2.1
  have hg := hC.g
  have hK := hC.K
  have hl : lv_has ls 3 [(0, .ref (ad 61)), (1, .int p1), (2, .int p2)] := hl
  have hq : qX [] [66] F A F A := qX.rf hT
  obtain ⟨H, hH⟩ : ∃ H, H = s.heap := ⟨_, rfl⟩
  have hP : va_P D classes (wX cA ad F L A B) H := by rw [hH]; exact hP
  have hS : va_S Af s.heap H [] := by rw [hH]; exact hS
  obtain ⟨locs, hlo⟩ : ∃ q : List Loc, q = [] := ⟨_, rfl⟩
  rw [← hH, ← hlo]
  rw [← hlo] at hS
  refine lv_iload_n hx hb dX8_takeBack_0 rfl (lv_at hl 1 rfl) ?_
  have J22 : ∀ (F1 : Nat → Int32) (L1 : Nat → Int64) (A1 : Nat → Nat → Int32) (B1 : Nat → Nat → Int64) (H : Heap) (locs : List Loc) (ls : Array Slot), qX [] [66] F A F1 A1 → va_P D classes (wX cA ad F1 L1 A1 B1) H → va_D Af (wX cA ad F1 L1 A1 B1) → va_S Af s.heap H locs → lv_has ls 3 [] → W p l e rm_X8_takeBack_61 s m args below meth c H locs 0 0 Q (F0 m 22 ls []) := by
    intro F1 L1 A1 B1 H locs ls hq hP hD hS hl
    refine lv_iconst (v := 0) hx hb dX8_takeBack_22 (by decide) ?_
    exact hret (0) (F1, L1, A1, B1) H locs 23 ls rfl dX8_takeBack_23 hP hD hS ⟨hq, (rg_k (by decide)), Or.inl rfl⟩
  refine lv_if_lt (tgt := 22) hx hb dX8_takeBack_1 (by decide) (fun c2 => ?_) (fun c2 => ?_)
  · skip
    have r3 : rg p1 (-2147483648) (-1) := rg_lt1 (iL c2) ((rg_top _) : rg p1 (-2147483648) 2147483647) ((rg_k (by decide)) : rg 0 0 0)
    exact J22 (F) (L) (A) (B) H locs ls hq hP hD hS (lv_sub hl [] rfl)
  · skip
    have r4 : rg p1 0 2147483647 := rg_le2 (iNL c2) ((rg_k (by decide)) : rg 0 0 0) ((rg_top _) : rg p1 (-2147483648) 2147483647)
    refine lv_iload_n hx hb dX8_takeBack_4 rfl (lv_at hl 1 rfl) ?_
    refine lv_aload_n hx hb dX8_takeBack_5 rfl (lv_at hl 0 rfl) ?_
    refine va_get (ci := 8) (v := .int (F 43)) (C := RX8) (T := TX8) (N := 9) hx hb hg inX8 hown hK hP 61 atX_61 rfl 8 (by decide) (hg _ mw_491) (fun _ h9 => h9) rfl dX8_takeBack_6 ?_
    refine lv_topi (fun x5 e6 => ?_)
    have r7 : rg x5 0 20 := rg_e e6 (hq.1.1 43)
    refine lv_icmp_ge (tgt := 22) hx hb dX8_takeBack_9 (by decide) (fun c8 => ?_) (fun c8 => ?_)
    · skip
      exact J22 (F) (L) (A) (B) H locs ls hq hP hD hS (lv_sub hl [] rfl)
    · skip
      have r9 : rg p1 0 19 := rg_lt1 (iNE c8) (r4 : rg p1 0 2147483647) (r7 : rg x5 0 20)
      have r10 : rg x5 1 20 := rg_lt2 (iNE c8) (r4 : rg p1 0 2147483647) (r7 : rg x5 0 20)
      refine lv_aload_n hx hb dX8_takeBack_12 rfl (lv_at hl 0 rfl) ?_
      refine va_get (ci := 8) (v := .ref (ad 66)) (C := RX8) (T := TX8) (N := 9) hx hb hg inX8 hown hK hP 61 atX_61 rfl 4 (by decide) (hg _ mw_484) (fun _ h9 => h9) rfl dX8_takeBack_13 ?_
      refine lv_iload_n hx hb dX8_takeBack_16 rfl (lv_at hl 1 rfl) ?_
      refine va_iald hx hb hK hP 66 51 atX_66 tyX_66 (in_rg r9 (by decide)) dX8_takeBack_17 ?_
      refine lv_topi (fun x11 e12 => ?_)
      refine lv_iconst (v := (-1)) hx hb dX8_takeBack_18 (by decide) ?_
      refine lv_icmp_eq (tgt := 24) hx hb dX8_takeBack_19 (by decide) (fun c13 => ?_) (fun c13 => ?_)
      · skip
        have r14 : rg x11 (-1) (-1) := rg_eq1 c13 ((rg_top _) : rg x11 (-2147483648) 2147483647) ((rg_k (by decide)) : rg (-1) (-1) (-1)) (by decide)
        refine lv_aload_n hx hb dX8_takeBack_24 rfl (lv_at hl 0 rfl) ?_
        refine va_get (ci := 8) (v := .ref (ad 66)) (C := RX8) (T := TX8) (N := 9) hx hb hg inX8 hown hK hP 61 atX_61 rfl 4 (by decide) (hg _ mw_484) (fun _ h9 => h9) rfl dX8_takeBack_25 ?_
        refine lv_iload_n hx hb dX8_takeBack_28 rfl (lv_at hl 1 rfl) ?_
        refine lv_iload_n hx hb dX8_takeBack_29 rfl (lv_at hl 2 rfl) ?_
        refine va_iast hx hb hK hP hD hS 66 51 atX_66 tyX_66 (in_rg r9 (by decide)) dX8_takeBack_30 (fun H locs hP hD hS => ?_)
        have hq := hq.ast 66 (p1).toNatClampNeg (x := p2) (by decide) (rg_top _)
        rw [setX_66] at hP hD
        have k15 : p2 = (va_up A 66 (upd (A 66) (p1).toNatClampNeg p2)) 66 (p1).toNatClampNeg := (rdA).symm
        refine lv_iconst (v := 1) hx hb dX8_takeBack_31 (by decide) ?_
        exact hret (1) (F, L, (va_up A 66 (upd (A 66) (p1).toNatClampNeg p2)), B) H locs 32 ls rfl dX8_takeBack_32 hP hD hS ⟨hq, (rg_k (by decide)), Or.inr r9⟩
      · skip
        exact J22 (F) (L) (A) (B) H locs ls hq hP hD hS (lv_sub hl [] rfl)
abbrev rm_X11_untell_0 : Room := { frames := 1, cells := 0, slots := 0, locals := 22 }
set_option maxHeartbeats 4000000 in
set_option maxRecDepth 100000 in
theorem c_X11_untell_0 (l : Launch) (D : va_G) (cA : Nat → ClassId) (sz : Nat) (ad : Nat → Nat) (F : Nat → Int32) (L : Nat → Int64) (A : Nat → Nat → Int32) (B : Nat → Nat → Int64) (p1 : Int32) (hT : typX F A) : Met l yX11_untell (Cond.code yX11_untell cX11_untell 2 (some .boolean) :: GW) rm_X11_untell_0 (mPc D classes (tysX cA) (wX cA ad F L A B) sz [.ref (ad 0), .int p1]) (mQi (S := SW) D classes (tysX cA) (wX cA ad F L A B) sz (wfX cA ad) (fun r u => qX [] [66] F A u.1 u.2.2.1 ∧ rg r 0 1 ∧ (r = 0 ∨ (rg p1 0 19)))) 0 0 (va_A (wX cA ad F L A B) sz) := by
  refine met_i (own := "ShoeingDay") (by decide +kernel) rfl (Nat.le_of_ble_eq_true rfl) ?_
  intro p e s m args below meth c Q Af ls hC hP hD hS hA hl hret
  have hx := hC.1
  have hb := hC.2.1
  have hown := hC.2.2.2.1
  have hg := hC.g
  have hK := hC.K
  have hl : lv_has ls 2 [(0, .ref (ad 0)), (1, .int p1)] := hl
  have hq : qX [] [66] F A F A := qX.rf hT
  obtain ⟨H, hH⟩ : ∃ H, H = s.heap := ⟨_, rfl⟩
  have hP : va_P D classes (wX cA ad F L A B) H := by rw [hH]; exact hP
  have hS : va_S Af s.heap H [] := by rw [hH]; exact hS
  obtain ⟨locs, hlo⟩ : ∃ q : List Loc, q = [] := ⟨_, rfl⟩
  rw [← hH, ← hlo]
  rw [← hlo] at hS
  refine lv_aload_n hx hb dX11_untell_0 rfl (lv_at hl 0 rfl) ?_
  refine va_get (ci := 11) (v := .ref (ad 61)) (C := RX11) (T := TX11) (N := 13) hx hb hg inX11 hown hK hP 0 atX_0 rfl 8 (by decide) (hg _ mw_533) (fun _ h9 => h9) rfl dX11_untell_1 ?_
  refine lv_iload_n hx hb dX11_untell_4 rfl (lv_at hl 1 rfl) ?_
  refine lv_aload_n hx hb dX11_untell_5 rfl (lv_at hl 0 rfl) ?_
  refine va_get (ci := 11) (v := .int (F 1)) (C := RX11) (T := TX11) (N := 13) hx hb hg inX11 hown hK hP 0 atX_0 rfl 12 (by decide) (hg _ mw_537) (fun _ h9 => h9) rfl dX11_untell_6 ?_
  refine lv_topi (fun x1 e2 => ?_)
  have r3 : rg x1 0 100000 := rg_e e2 (hq.1.1 1)
  refine callv_i (As := [.int p1, .int x1]) (rest := []) hC (c_X8_takeBack_61 l D cA H.size ad F L A B (p1) (x1) hq.1 r3) (cwV 2 hg (g_V mw_1048 mw_1045 mw_1046 mw_1047 mw_18) rfl rfl rfl (by decide +kernel) ⟨(Nat.le_of_ble_eq_true rfl), (Nat.le_of_ble_eq_true rfl)⟩) hP hD hS hA atX_61 rfl rfl hl.1 rfl (Nat.le_of_ble_eq_true rfl) dX11_untell_9 ⟨Nat.zero_le _, Nat.zero_le _⟩ (fun x4 u H locs hw hP hD hS => ?_)
  obtain ⟨F5, L5, A5, B5⟩ := u
  try dsimp only at hw
  obtain ⟨hq5, r6, g7⟩ := hw
  have hq := hq.call hq5 (by decide)
  have hP : va_P D classes (wX cA ad F5 L5 A5 B5) H := hP
  have hD : va_D Af (wX cA ad F5 L5 A5 B5) := hD
  by_cases h0 : x4 = 0
  · skip
    exact hret (x4) (F5, L5, A5, B5) H locs 12 ls (nb_rg r6) dX11_untell_12 hP hD hS ⟨hq, r6, Or.inl h0⟩
  · skip
    have g8 := g7.resolve_left h0
    exact hret (x4) (F5, L5, A5, B5) H locs 12 ls (nb_rg r6) dX11_untell_12 hP hD hS ⟨hq, r6, Or.inr g8⟩
abbrev rm_X11_later_0 : Room := { frames := 0, cells := 0, slots := 0, locals := 0 }
set_option maxHeartbeats 4000000 in
set_option maxRecDepth 100000 in
theorem c_X11_later_0 (l : Launch) (D : va_G) (cA : Nat → ClassId) (sz : Nat) (ad : Nat → Nat) (F : Nat → Int32) (L : Nat → Int64) (A : Nat → Nat → Int32) (B : Nat → Nat → Int64) (p1 : Int32) (hT : typX F A) : Met l yX11_later (Cond.code yX11_later cX11_later 2 (some .int) :: GW) rm_X11_later_0 (mPc D classes (tysX cA) (wX cA ad F L A B) sz [.ref (ad 0), .int p1]) (mQi (S := SW) D classes (tysX cA) (wX cA ad F L A B) sz (wfX cA ad) (fun r u => qX [1] [] F A u.1 u.2.2.1 ∧ rg r (-1) 100000 ∧ (lat (F 1) p1 r (u.1 1)))) 0 0 (va_A (wX cA ad F L A B) sz) := by
  refine met_i (own := "ShoeingDay") (by decide +kernel) rfl (Nat.le_of_ble_eq_true rfl) ?_
  intro p e s m args below meth c Q Af ls hC hP hD hS hA hl hret
  have hx := hC.1
  have hb := hC.2.1
  have hown := hC.2.2.2.1
  have hg := hC.g
  have hK := hC.K
  have hl : lv_has ls 2 [(0, .ref (ad 0)), (1, .int p1)] := hl
  have hq : qX [1] [] F A F A := qX.rf hT
  obtain ⟨H, hH⟩ : ∃ H, H = s.heap := ⟨_, rfl⟩
  have hP : va_P D classes (wX cA ad F L A B) H := by rw [hH]; exact hP
  have hS : va_S Af s.heap H [] := by rw [hH]; exact hS
  obtain ⟨locs, hlo⟩ : ∃ q : List Loc, q = [] := ⟨_, rfl⟩
  rw [← hH, ← hlo]
  rw [← hlo] at hS
  refine lv_iload_n hx hb dX11_later_0 rfl (lv_at hl 1 rfl) ?_
  refine lv_if_lt (tgt := 22) hx hb dX11_later_1 (by decide) (fun c1 => ?_) (fun c1 => ?_)
  · skip
    have r2 : rg p1 (-2147483648) (-1) := rg_lt1 (iL c1) ((rg_top _) : rg p1 (-2147483648) 2147483647) ((rg_k (by decide)) : rg 0 0 0)
    refine lv_iconst (v := (-1)) hx hb dX11_later_22 (by decide) ?_
    exact hret ((-1)) (F, L, A, B) H locs 23 ls rfl dX11_later_23 hP hD hS ⟨hq, (rg_k (by decide)), (Or.inr ⟨by have : (0 : Int32).toInt = 0 := rfl; have : (1000 : Int32).toInt = 1000 := rfl; have : (100000 : Int32).toInt = 100000 := rfl; have := ((r2 : rg p1 (-2147483648) (-1))).1; have := ((r2 : rg p1 (-2147483648) (-1))).2; have := (iL c1); have : ((-1) : Int32).toInt = (-1) := rfl; omega, rfl, rfl⟩)⟩
  · skip
    have r3 : rg p1 0 2147483647 := rg_le2 (iNL c1) ((rg_k (by decide)) : rg 0 0 0) ((rg_top _) : rg p1 (-2147483648) 2147483647)
    refine lv_iload_n hx hb dX11_later_4 rfl (lv_at hl 1 rfl) ?_
    refine lv_sipush (v := 1000) hx hb dX11_later_5 (by decide) ?_
    refine lv_icmp_gt (tgt := 22) hx hb dX11_later_8 (by decide) (fun c4 => ?_) (fun c4 => ?_)
    · skip
      have r5 : rg p1 1001 2147483647 := rg_lt2 (iL c4) ((rg_k (by decide)) : rg 1000 1000 1000) (r3 : rg p1 0 2147483647)
      refine lv_iconst (v := (-1)) hx hb dX11_later_22 (by decide) ?_
      exact hret ((-1)) (F, L, A, B) H locs 23 ls rfl dX11_later_23 hP hD hS ⟨hq, (rg_k (by decide)), (Or.inr ⟨by have : (0 : Int32).toInt = 0 := rfl; have : (1000 : Int32).toInt = 1000 := rfl; have : (100000 : Int32).toInt = 100000 := rfl; have := ((r5 : rg p1 1001 2147483647)).1; have := ((r5 : rg p1 1001 2147483647)).2; have := (iNL c1); have := (iL c4); have : ((-1) : Int32).toInt = (-1) := rfl; omega, rfl, rfl⟩)⟩
    · skip
      have r6 : rg p1 0 1000 := rg_le1 (iNL c4) (r3 : rg p1 0 2147483647) ((rg_k (by decide)) : rg 1000 1000 1000)
      refine lv_aload_n hx hb dX11_later_11 rfl (lv_at hl 0 rfl) ?_
      refine va_get (ci := 11) (v := .int (F 1)) (C := RX11) (T := TX11) (N := 13) hx hb hg inX11 hown hK hP 0 atX_0 rfl 12 (by decide) (hg _ mw_537) (fun _ h9 => h9) rfl dX11_later_12 ?_
      refine lv_topi (fun x7 e8 => ?_)
      have r9 : rg x7 0 100000 := rg_e e8 (hq.1.1 1)
      refine lv_iload_n hx hb dX11_later_15 rfl (lv_at hl 1 rfl) ?_
      refine lv_iadd hx hb dX11_later_16 ?_
      refine lv_topi (fun x10 e11 => ?_)
      have r12 : rg x10 0 101000 := rg_add e11 r9 r6 (by decide)
      refine lv_ldc (v := 100000) hx hb hown (hg _ mw_1053) dX11_later_17 ?_
      refine lv_icmp_le (tgt := 24) hx hb dX11_later_19 (by decide) (fun c13 => ?_) (fun c13 => ?_)
      · skip
        have r14 : rg x10 0 100000 := rg_le1 (iE c13) (r12 : rg x10 0 101000) ((rg_k (by decide)) : rg 100000 100000 100000)
        refine lv_aload_n hx hb dX11_later_24 rfl (lv_at hl 0 rfl) ?_
        refine lv_dup hx hb dX11_later_25 rfl ?_
        refine va_get (ci := 11) (v := .int x7) (C := RX11) (T := TX11) (N := 13) hx hb hg inX11 hown hK hP 0 atX_0 rfl 12 (by decide) (hg _ mw_537) (fun _ h9 => h9) (congrArg (fun z => some (Value.int z)) (e8.symm)) dX11_later_26 ?_
        refine lv_iload_n hx hb dX11_later_29 rfl (lv_at hl 1 rfl) ?_
        refine lv_iadd hx hb dX11_later_30 ?_
        refine tope e11 ?_
        refine va_put (ci := 11) (v := .int x10) (ty := .int) (C := RX11) (T := TX11) (N := 13) hx hb hg inX11 tyX11 tyX11_ok nmX11 hown hK hP hD hS 0 atX_0 rfl 12 (by decide) (hg _ mw_537) (fun _ h9 => h9) rfl (by decide +kernel) rfl rfl (Nat.le_of_ble_eq_true rfl) dX11_later_31 (fun H locs hP hD hS => ?_)
        have hq := hq.put 1 (x := x10) (by decide) r14
        rw [setFX_1] at hP hD
        refine lv_aload_n hx hb dX11_later_34 rfl (lv_at hl 0 rfl) ?_
        refine va_get (ci := 11) (v := .int x10) (C := RX11) (T := TX11) (N := 13) hx hb hg inX11 hown hK hP 0 atX_0 rfl 12 (by decide) (hg _ mw_537) (fun _ h9 => h9) (congrArg (fun z => some (Value.int z)) (rfl)) dX11_later_35 ?_
        exact hret (x10) ((upd F 1 x10), L, A, B) H locs 38 ls rfl dX11_later_38 hP hD hS ⟨hq, (rg_w r14 (by decide)), (Or.inl ⟨by have := ((r14 : rg x10 0 100000)).1; have := ((r14 : rg x10 0 100000)).2; have := tiA e11 (r9 : rg x7 0 100000) (r6 : rg p1 0 1000) (by decide); have := ((r6 : rg p1 0 1000)).1; have := ((r6 : rg p1 0 1000)).2; have := ((r9 : rg x7 0 100000)).1; have := ((r9 : rg x7 0 100000)).2; have := congrArg Int32.toInt e8; have := (iNL c1); have := (iNL c4); have := (iE c13); omega, by have := ((r14 : rg x10 0 100000)).1; have := ((r14 : rg x10 0 100000)).2; have := tiA e11 (r9 : rg x7 0 100000) (r6 : rg p1 0 1000) (by decide); have := ((r6 : rg p1 0 1000)).1; have := ((r6 : rg p1 0 1000)).2; have := ((r9 : rg x7 0 100000)).1; have := ((r9 : rg x7 0 100000)).2; have := congrArg Int32.toInt e8; have := (iNL c1); have := (iNL c4); have := (iE c13); omega, by have hx9 : (F 1 + p1) = x10 := (by rw [e11, e8]); rw [hx9]; have := ((r14 : rg x10 0 100000)).1; have := ((r14 : rg x10 0 100000)).2; have := tiA e11 (r9 : rg x7 0 100000) (r6 : rg p1 0 1000) (by decide); have := ((r6 : rg p1 0 1000)).1; have := ((r6 : rg p1 0 1000)).2; have := ((r9 : rg x7 0 100000)).1; have := ((r9 : rg x7 0 100000)).2; have := congrArg Int32.toInt e8; have := (iNL c1); have := (iNL c4); have := (iE c13); omega, by rw [e11, e8], by rw [← e8, ← e11]; rfl⟩)⟩
      · skip
        have r15 : rg x10 100001 101000 := rg_lt2 (iNE c13) ((rg_k (by decide)) : rg 100000 100000 100000) (r12 : rg x10 0 101000)
        refine lv_iconst (v := (-1)) hx hb dX11_later_22 (by decide) ?_
        exact hret ((-1)) (F, L, A, B) H locs 23 ls rfl dX11_later_23 hP hD hS ⟨hq, (rg_k (by decide)), (Or.inr ⟨by have hx9 : (F 1 + p1) = x10 := (by rw [e11, e8]); have : (0 : Int32).toInt = 0 := rfl; have : (1000 : Int32).toInt = 1000 := rfl; have : (100000 : Int32).toInt = 100000 := rfl; have := ((r15 : rg x10 100001 101000)).1; have := ((r15 : rg x10 100001 101000)).2; have := tiA e11 (r9 : rg x7 0 100000) (r6 : rg p1 0 1000) (by decide); have := ((r6 : rg p1 0 1000)).1; have := ((r6 : rg p1 0 1000)).2; have := ((r9 : rg x7 0 100000)).1; have := ((r9 : rg x7 0 100000)).2; have := congrArg Int32.toInt e8; have := (iNL c1); have := (iNL c4); have := (iNE c13); have : ((-1) : Int32).toInt = (-1) := rfl; rw [hx9]; omega, rfl, rfl⟩)⟩
abbrev rm_X2_open_27_67 : Room := { frames := 2, cells := 0, slots := 0, locals := 46 }
set_option maxHeartbeats 4000000 in
set_option maxRecDepth 100000 in
theorem c_X2_open_27_67 (l : Launch) (D : va_G) (cA : Nat → ClassId) (sz : Nat) (ad : Nat → Nat) (F : Nat → Int32) (L : Nat → Int64) (A : Nat → Nat → Int32) (B : Nat → Nat → Int64) (p2 : Int32) (p3 : Int32) (hT : typX F A) (hp2 : rg p2 0 8) (hp3 : rg p3 0 10) : Met l yX2_open (Cond.code yX2_open cX2_open 7 none :: GW) rm_X2_open_27_67 (mPc D classes (tysX cA) (wX cA ad F L A B) sz [.ref (ad 27), .ref (ad 67), .int p2, .int p3]) (mQv (S := SW) D classes (tysX cA) (wX cA ad F L A B) sz (wfX cA ad) (fun u => qX [30, 33, 34] [28, 32, 33, 35, 41] F A u.1 u.2.2.1)) 0 0 (va_A (wX cA ad F L A B) sz) := by
  refine met_v (own := "ShoeingDay$Day") (by decide +kernel) rfl (Nat.le_of_ble_eq_true rfl) ?_
  intro p e s m args below meth c Q Af ls hC hP hD hS hA hl hret
  have hx := hC.1
  have hb := hC.2.1
  have hown := hC.2.2.2.1
  have hg := hC.g
  have hK := hC.K
  have hl : lv_has ls 7 [(0, .ref (ad 27)), (1, .ref (ad 67)), (2, .int p2), (3, .int p3)] := hl
  have hq : qX [30, 33, 34] [28, 32, 33, 35, 41] F A F A := qX.rf hT
  obtain ⟨H, hH⟩ : ∃ H, H = s.heap := ⟨_, rfl⟩
  have hP : va_P D classes (wX cA ad F L A B) H := by rw [hH]; exact hP
  have hS : va_S Af s.heap H [] := by rw [hH]; exact hS
  obtain ⟨locs, hlo⟩ : ∃ q : List Loc, q = [] := ⟨_, rfl⟩
  rw [← hH, ← hlo]
  rw [← hlo] at hS
  refine lv_aload_n hx hb dX2_open_0 rfl (lv_at hl 1 rfl) ?_
  refine lv_iconst (v := 0) hx hb dX2_open_1 (by decide) ?_
  refine lv_aload_n hx hb dX2_open_2 rfl (lv_at hl 0 rfl) ?_
  refine va_get (ci := 2) (v := .ref (ad 28)) (C := RX2) (T := TX2) (N := 15) hx hb hg inX2 hown hK hP 27 atX_27 rfl 0 (by decide) (hg _ mw_339) (fun _ h9 => h9) rfl dX2_open_3 ?_
  refine lv_iconst (v := 0) hx hb dX2_open_6 (by decide) ?_
  refine lv_bipush (v := 80) hx hb dX2_open_7 (by decide) ?_
  refine va_copyi hx hb (hC.2.2.1.trans hl.1.symm) hown (hg _ mw_777) (hg _ mw_524) (hg _ mw_523) (hg _ mw_19) hK hP hD hS 67 28 52 18 atX_67 atX_28 tyX_67 tyX_28 rfl (nn_rg ((rg_k (by decide)) : rg 0 0 0) (by decide)) (nn_rg ((rg_k (by decide)) : rg 0 0 0) (by decide)) (nn_rg ((rg_k (by decide)) : rg 80 80 80) (by decide)) (cp_rg ((rg_k (by decide)) : rg 0 0 0) ((rg_k (by decide)) : rg 80 80 80) (by decide)) (cp_rg ((rg_k (by decide)) : rg 0 0 0) ((rg_k (by decide)) : rg 80 80 80) (by decide)) (fun _ _ => rfl) (Nat.le_of_ble_eq_true rfl) (Nat.le_of_ble_eq_true rfl) dX2_open_9 (fun H locs hP hD hS => ?_)
  have hq := hq.cpy 28 67 (a := ((0 : Int32)).toNatClampNeg) (b := ((0 : Int32)).toNatClampNeg) (n := ((80 : Int32)).toNatClampNeg) (by decide) (by decide)
  rw [setX_28] at hP hD
  refine lv_aload_n hx hb dX2_open_12 rfl (lv_at hl 0 rfl) ?_
  refine lv_iload_n hx hb dX2_open_13 rfl (lv_at hl 2 rfl) ?_
  refine va_put (ci := 2) (v := .int p2) (ty := .int) (C := RX2) (T := TX2) (N := 15) hx hb hg inX2 tyX2 tyX2_ok nmX2 hown hK hP hD hS 27 atX_27 rfl 12 (by decide) (hg _ mw_359) (fun _ h9 => h9) rfl (by decide +kernel) rfl rfl (Nat.le_of_ble_eq_true rfl) dX2_open_14 (fun H locs hP hD hS => ?_)
  have hq := hq.put 33 (x := p2) (by decide) hp2
  rw [setFX_33] at hP hD
  refine lv_aload_n hx hb dX2_open_17 rfl (lv_at hl 0 rfl) ?_
  refine lv_iload_n hx hb dX2_open_18 rfl (lv_at hl 3 rfl) ?_
  refine va_put (ci := 2) (v := .int p3) (ty := .int) (C := RX2) (T := TX2) (N := 15) hx hb hg inX2 tyX2 tyX2_ok nmX2 hown hK hP hD hS 27 atX_27 rfl 13 (by decide) (hg _ mw_360) (fun _ h9 => h9) rfl (by decide +kernel) rfl rfl (Nat.le_of_ble_eq_true rfl) dX2_open_19 (fun H locs hP hD hS => ?_)
  have hq := hq.put 34 (x := p3) (by decide) hp3
  rw [setFX_34] at hP hD
  refine lv_aload_n hx hb dX2_open_22 rfl (lv_at hl 0 rfl) ?_
  refine va_get (ci := 2) (v := .ref (ad 32)) (C := RX2) (T := TX2) (N := 15) hx hb hg inX2 hown hK hP 27 atX_27 rfl 8 (by decide) (hg _ mw_355) (fun _ h9 => h9) rfl dX2_open_23 ?_
  refine lv_iconst (v := 0) hx hb dX2_open_26 (by decide) ?_
  refine calls_v (As := [.ref (ad 32), .int 0]) (rest := []) hC (c_fill l D (tysX cA) (wX cA ad (upd (upd F 33 p2) 34 p3) L (va_up A 28 (va_cpy (A 67) (A 28) ((0 : Int32)).toNatClampNeg ((0 : Int32)).toNatClampNeg ((80 : Int32)).toNatClampNeg)) B) 32 22 H.size (ad 32) 8 (0 : Int32) atX_32 tyX_32 (by decide)) (cwF 2 hg mw_778 mw_279 mw_13 mw_280 ⟨rfl, rfl⟩ (by decide +kernel) ⟨(Nat.le_of_ble_eq_true rfl), (Nat.le_of_ble_eq_true rfl)⟩) hP hD hS hA rfl hl.1 rfl (Nat.le_of_ble_eq_true rfl) dX2_open_27 ⟨Nat.zero_le _, Nat.zero_le _⟩ (fun u H locs _ hP hD hS => ?_)
  have hq := hq.fill 32 8 (x := (0 : Int32)) (by decide) (rg_k (by decide))
  rw [setX_32] at hP hD
  have hP : va_P D classes (wX cA ad (upd (upd F 33 p2) 34 p3) L (va_up (va_up A 28 (va_cpy (A 67) (A 28) ((0 : Int32)).toNatClampNeg ((0 : Int32)).toNatClampNeg ((80 : Int32)).toNatClampNeg)) 32 (fun j => if j < 8 then (0 : Int32) else (va_up A 28 (va_cpy (A 67) (A 28) ((0 : Int32)).toNatClampNeg ((0 : Int32)).toNatClampNeg ((80 : Int32)).toNatClampNeg)) 32 j)) B) H := hP
  have hD : va_D Af (wX cA ad (upd (upd F 33 p2) 34 p3) L (va_up (va_up A 28 (va_cpy (A 67) (A 28) ((0 : Int32)).toNatClampNeg ((0 : Int32)).toNatClampNeg ((80 : Int32)).toNatClampNeg)) 32 (fun j => if j < 8 then (0 : Int32) else (va_up A 28 (va_cpy (A 67) (A 28) ((0 : Int32)).toNatClampNeg ((0 : Int32)).toNatClampNeg ((80 : Int32)).toNatClampNeg)) 32 j)) B) := hD
  refine lv_aload_n hx hb dX2_open_30 rfl (lv_at hl 0 rfl) ?_
  refine va_get (ci := 2) (v := .ref (ad 33)) (C := RX2) (T := TX2) (N := 15) hx hb hg inX2 hown hK hP 27 atX_27 rfl 9 (by decide) (hg _ mw_356) (fun _ h9 => h9) rfl dX2_open_31 ?_
  refine lv_iconst (v := 0) hx hb dX2_open_34 (by decide) ?_
  refine calls_v (As := [.ref (ad 33), .int 0]) (rest := []) hC (c_fill l D (tysX cA) (wX cA ad (upd (upd F 33 p2) 34 p3) L (va_up (va_up A 28 (va_cpy (A 67) (A 28) ((0 : Int32)).toNatClampNeg ((0 : Int32)).toNatClampNeg ((80 : Int32)).toNatClampNeg)) 32 (fun j => if j < 8 then (0 : Int32) else (va_up A 28 (va_cpy (A 67) (A 28) ((0 : Int32)).toNatClampNeg ((0 : Int32)).toNatClampNeg ((80 : Int32)).toNatClampNeg)) 32 j)) B) 33 23 H.size (ad 33) 10 (0 : Int32) atX_33 tyX_33 (by decide)) (cwF 2 hg mw_778 mw_279 mw_13 mw_280 ⟨rfl, rfl⟩ (by decide +kernel) ⟨(Nat.le_of_ble_eq_true rfl), (Nat.le_of_ble_eq_true rfl)⟩) hP hD hS hA rfl hl.1 rfl (Nat.le_of_ble_eq_true rfl) dX2_open_35 ⟨Nat.zero_le _, Nat.zero_le _⟩ (fun u H locs _ hP hD hS => ?_)
  have hq := hq.fill 33 10 (x := (0 : Int32)) (by decide) (rg_k (by decide))
  rw [setX_33] at hP hD
  have hP : va_P D classes (wX cA ad (upd (upd F 33 p2) 34 p3) L (va_up (va_up (va_up A 28 (va_cpy (A 67) (A 28) ((0 : Int32)).toNatClampNeg ((0 : Int32)).toNatClampNeg ((80 : Int32)).toNatClampNeg)) 32 (fun j => if j < 8 then (0 : Int32) else (va_up A 28 (va_cpy (A 67) (A 28) ((0 : Int32)).toNatClampNeg ((0 : Int32)).toNatClampNeg ((80 : Int32)).toNatClampNeg)) 32 j)) 33 (fun j => if j < 10 then (0 : Int32) else (va_up (va_up A 28 (va_cpy (A 67) (A 28) ((0 : Int32)).toNatClampNeg ((0 : Int32)).toNatClampNeg ((80 : Int32)).toNatClampNeg)) 32 (fun j => if j < 8 then (0 : Int32) else (va_up A 28 (va_cpy (A 67) (A 28) ((0 : Int32)).toNatClampNeg ((0 : Int32)).toNatClampNeg ((80 : Int32)).toNatClampNeg)) 32 j)) 33 j)) B) H := hP
  have hD : va_D Af (wX cA ad (upd (upd F 33 p2) 34 p3) L (va_up (va_up (va_up A 28 (va_cpy (A 67) (A 28) ((0 : Int32)).toNatClampNeg ((0 : Int32)).toNatClampNeg ((80 : Int32)).toNatClampNeg)) 32 (fun j => if j < 8 then (0 : Int32) else (va_up A 28 (va_cpy (A 67) (A 28) ((0 : Int32)).toNatClampNeg ((0 : Int32)).toNatClampNeg ((80 : Int32)).toNatClampNeg)) 32 j)) 33 (fun j => if j < 10 then (0 : Int32) else (va_up (va_up A 28 (va_cpy (A 67) (A 28) ((0 : Int32)).toNatClampNeg ((0 : Int32)).toNatClampNeg ((80 : Int32)).toNatClampNeg)) 32 (fun j => if j < 8 then (0 : Int32) else (va_up A 28 (va_cpy (A 67) (A 28) ((0 : Int32)).toNatClampNeg ((0 : Int32)).toNatClampNeg ((80 : Int32)).toNatClampNeg)) 32 j)) 33 j)) B) := hD
  refine lv_aload_n hx hb dX2_open_38 rfl (lv_at hl 0 rfl) ?_
  refine va_get (ci := 2) (v := .ref (ad 34)) (C := RX2) (T := TX2) (N := 15) hx hb hg inX2 hown hK hP 27 atX_27 rfl 10 (by decide) (hg _ mw_357) (fun _ h9 => h9) rfl dX2_open_39 ?_
  refine va_get (ci := 1) (v := .ref (ad 35)) (C := RX1) (T := TX1) (N := 5) hx hb hg inX1 hown hK hP 34 atX_34 rfl 0 (by decide) (hg _ mw_321) (fun _ h9 => h9) rfl dX2_open_42 ?_
  refine lv_iconst (v := 0) hx hb dX2_open_45 (by decide) ?_
  refine calls_v (As := [.ref (ad 35), .int 0]) (rest := []) hC (c_fill l D (tysX cA) (wX cA ad (upd (upd F 33 p2) 34 p3) L (va_up (va_up (va_up A 28 (va_cpy (A 67) (A 28) ((0 : Int32)).toNatClampNeg ((0 : Int32)).toNatClampNeg ((80 : Int32)).toNatClampNeg)) 32 (fun j => if j < 8 then (0 : Int32) else (va_up A 28 (va_cpy (A 67) (A 28) ((0 : Int32)).toNatClampNeg ((0 : Int32)).toNatClampNeg ((80 : Int32)).toNatClampNeg)) 32 j)) 33 (fun j => if j < 10 then (0 : Int32) else (va_up (va_up A 28 (va_cpy (A 67) (A 28) ((0 : Int32)).toNatClampNeg ((0 : Int32)).toNatClampNeg ((80 : Int32)).toNatClampNeg)) 32 (fun j => if j < 8 then (0 : Int32) else (va_up A 28 (va_cpy (A 67) (A 28) ((0 : Int32)).toNatClampNeg ((0 : Int32)).toNatClampNeg ((80 : Int32)).toNatClampNeg)) 32 j)) 33 j)) B) 35 24 H.size (ad 35) 10 (0 : Int32) atX_35 tyX_35 (by decide)) (cwF 2 hg mw_778 mw_279 mw_13 mw_280 ⟨rfl, rfl⟩ (by decide +kernel) ⟨(Nat.le_of_ble_eq_true rfl), (Nat.le_of_ble_eq_true rfl)⟩) hP hD hS hA rfl hl.1 rfl (Nat.le_of_ble_eq_true rfl) dX2_open_46 ⟨Nat.zero_le _, Nat.zero_le _⟩ (fun u H locs _ hP hD hS => ?_)
  have hq := hq.fill 35 10 (x := (0 : Int32)) (by decide) (rg_k (by decide))
  rw [setX_35] at hP hD
  have hP : va_P D classes (wX cA ad (upd (upd F 33 p2) 34 p3) L (va_up (va_up (va_up (va_up A 28 (va_cpy (A 67) (A 28) ((0 : Int32)).toNatClampNeg ((0 : Int32)).toNatClampNeg ((80 : Int32)).toNatClampNeg)) 32 (fun j => if j < 8 then (0 : Int32) else (va_up A 28 (va_cpy (A 67) (A 28) ((0 : Int32)).toNatClampNeg ((0 : Int32)).toNatClampNeg ((80 : Int32)).toNatClampNeg)) 32 j)) 33 (fun j => if j < 10 then (0 : Int32) else (va_up (va_up A 28 (va_cpy (A 67) (A 28) ((0 : Int32)).toNatClampNeg ((0 : Int32)).toNatClampNeg ((80 : Int32)).toNatClampNeg)) 32 (fun j => if j < 8 then (0 : Int32) else (va_up A 28 (va_cpy (A 67) (A 28) ((0 : Int32)).toNatClampNeg ((0 : Int32)).toNatClampNeg ((80 : Int32)).toNatClampNeg)) 32 j)) 33 j)) 35 (fun j => if j < 10 then (0 : Int32) else (va_up (va_up (va_up A 28 (va_cpy (A 67) (A 28) ((0 : Int32)).toNatClampNeg ((0 : Int32)).toNatClampNeg ((80 : Int32)).toNatClampNeg)) 32 (fun j => if j < 8 then (0 : Int32) else (va_up A 28 (va_cpy (A 67) (A 28) ((0 : Int32)).toNatClampNeg ((0 : Int32)).toNatClampNeg ((80 : Int32)).toNatClampNeg)) 32 j)) 33 (fun j => if j < 10 then (0 : Int32) else (va_up (va_up A 28 (va_cpy (A 67) (A 28) ((0 : Int32)).toNatClampNeg ((0 : Int32)).toNatClampNeg ((80 : Int32)).toNatClampNeg)) 32 (fun j => if j < 8 then (0 : Int32) else (va_up A 28 (va_cpy (A 67) (A 28) ((0 : Int32)).toNatClampNeg ((0 : Int32)).toNatClampNeg ((80 : Int32)).toNatClampNeg)) 32 j)) 33 j)) 35 j)) B) H := hP
  have hD : va_D Af (wX cA ad (upd (upd F 33 p2) 34 p3) L (va_up (va_up (va_up (va_up A 28 (va_cpy (A 67) (A 28) ((0 : Int32)).toNatClampNeg ((0 : Int32)).toNatClampNeg ((80 : Int32)).toNatClampNeg)) 32 (fun j => if j < 8 then (0 : Int32) else (va_up A 28 (va_cpy (A 67) (A 28) ((0 : Int32)).toNatClampNeg ((0 : Int32)).toNatClampNeg ((80 : Int32)).toNatClampNeg)) 32 j)) 33 (fun j => if j < 10 then (0 : Int32) else (va_up (va_up A 28 (va_cpy (A 67) (A 28) ((0 : Int32)).toNatClampNeg ((0 : Int32)).toNatClampNeg ((80 : Int32)).toNatClampNeg)) 32 (fun j => if j < 8 then (0 : Int32) else (va_up A 28 (va_cpy (A 67) (A 28) ((0 : Int32)).toNatClampNeg ((0 : Int32)).toNatClampNeg ((80 : Int32)).toNatClampNeg)) 32 j)) 33 j)) 35 (fun j => if j < 10 then (0 : Int32) else (va_up (va_up (va_up A 28 (va_cpy (A 67) (A 28) ((0 : Int32)).toNatClampNeg ((0 : Int32)).toNatClampNeg ((80 : Int32)).toNatClampNeg)) 32 (fun j => if j < 8 then (0 : Int32) else (va_up A 28 (va_cpy (A 67) (A 28) ((0 : Int32)).toNatClampNeg ((0 : Int32)).toNatClampNeg ((80 : Int32)).toNatClampNeg)) 32 j)) 33 (fun j => if j < 10 then (0 : Int32) else (va_up (va_up A 28 (va_cpy (A 67) (A 28) ((0 : Int32)).toNatClampNeg ((0 : Int32)).toNatClampNeg ((80 : Int32)).toNatClampNeg)) 32 (fun j => if j < 8 then (0 : Int32) else (va_up A 28 (va_cpy (A 67) (A 28) ((0 : Int32)).toNatClampNeg ((0 : Int32)).toNatClampNeg ((80 : Int32)).toNatClampNeg)) 32 j)) 33 j)) 35 j)) B) := hD
  refine lv_aload_n hx hb dX2_open_49 rfl (lv_at hl 0 rfl) ?_
  refine va_get (ci := 2) (v := .ref (ad 40)) (C := RX2) (T := TX2) (N := 15) hx hb hg inX2 hown hK hP 27 atX_27 rfl 11 (by decide) (hg _ mw_358) (fun _ h9 => h9) rfl dX2_open_50 ?_
  refine va_get (ci := 1) (v := .ref (ad 41)) (C := RX1) (T := TX1) (N := 5) hx hb hg inX1 hown hK hP 40 atX_40 rfl 0 (by decide) (hg _ mw_321) (fun _ h9 => h9) rfl dX2_open_53 ?_
  refine lv_iconst (v := 0) hx hb dX2_open_56 (by decide) ?_
  refine calls_v (As := [.ref (ad 41), .int 0]) (rest := []) hC (c_fill l D (tysX cA) (wX cA ad (upd (upd F 33 p2) 34 p3) L (va_up (va_up (va_up (va_up A 28 (va_cpy (A 67) (A 28) ((0 : Int32)).toNatClampNeg ((0 : Int32)).toNatClampNeg ((80 : Int32)).toNatClampNeg)) 32 (fun j => if j < 8 then (0 : Int32) else (va_up A 28 (va_cpy (A 67) (A 28) ((0 : Int32)).toNatClampNeg ((0 : Int32)).toNatClampNeg ((80 : Int32)).toNatClampNeg)) 32 j)) 33 (fun j => if j < 10 then (0 : Int32) else (va_up (va_up A 28 (va_cpy (A 67) (A 28) ((0 : Int32)).toNatClampNeg ((0 : Int32)).toNatClampNeg ((80 : Int32)).toNatClampNeg)) 32 (fun j => if j < 8 then (0 : Int32) else (va_up A 28 (va_cpy (A 67) (A 28) ((0 : Int32)).toNatClampNeg ((0 : Int32)).toNatClampNeg ((80 : Int32)).toNatClampNeg)) 32 j)) 33 j)) 35 (fun j => if j < 10 then (0 : Int32) else (va_up (va_up (va_up A 28 (va_cpy (A 67) (A 28) ((0 : Int32)).toNatClampNeg ((0 : Int32)).toNatClampNeg ((80 : Int32)).toNatClampNeg)) 32 (fun j => if j < 8 then (0 : Int32) else (va_up A 28 (va_cpy (A 67) (A 28) ((0 : Int32)).toNatClampNeg ((0 : Int32)).toNatClampNeg ((80 : Int32)).toNatClampNeg)) 32 j)) 33 (fun j => if j < 10 then (0 : Int32) else (va_up (va_up A 28 (va_cpy (A 67) (A 28) ((0 : Int32)).toNatClampNeg ((0 : Int32)).toNatClampNeg ((80 : Int32)).toNatClampNeg)) 32 (fun j => if j < 8 then (0 : Int32) else (va_up A 28 (va_cpy (A 67) (A 28) ((0 : Int32)).toNatClampNeg ((0 : Int32)).toNatClampNeg ((80 : Int32)).toNatClampNeg)) 32 j)) 33 j)) 35 j)) B) 41 29 H.size (ad 41) 10 (0 : Int32) atX_41 tyX_41 (by decide)) (cwF 2 hg mw_778 mw_279 mw_13 mw_280 ⟨rfl, rfl⟩ (by decide +kernel) ⟨(Nat.le_of_ble_eq_true rfl), (Nat.le_of_ble_eq_true rfl)⟩) hP hD hS hA rfl hl.1 rfl (Nat.le_of_ble_eq_true rfl) dX2_open_57 ⟨Nat.zero_le _, Nat.zero_le _⟩ (fun u H locs _ hP hD hS => ?_)
  have hq := hq.fill 41 10 (x := (0 : Int32)) (by decide) (rg_k (by decide))
  rw [setX_41] at hP hD
  have hP : va_P D classes (wX cA ad (upd (upd F 33 p2) 34 p3) L (va_up (va_up (va_up (va_up (va_up A 28 (va_cpy (A 67) (A 28) ((0 : Int32)).toNatClampNeg ((0 : Int32)).toNatClampNeg ((80 : Int32)).toNatClampNeg)) 32 (fun j => if j < 8 then (0 : Int32) else (va_up A 28 (va_cpy (A 67) (A 28) ((0 : Int32)).toNatClampNeg ((0 : Int32)).toNatClampNeg ((80 : Int32)).toNatClampNeg)) 32 j)) 33 (fun j => if j < 10 then (0 : Int32) else (va_up (va_up A 28 (va_cpy (A 67) (A 28) ((0 : Int32)).toNatClampNeg ((0 : Int32)).toNatClampNeg ((80 : Int32)).toNatClampNeg)) 32 (fun j => if j < 8 then (0 : Int32) else (va_up A 28 (va_cpy (A 67) (A 28) ((0 : Int32)).toNatClampNeg ((0 : Int32)).toNatClampNeg ((80 : Int32)).toNatClampNeg)) 32 j)) 33 j)) 35 (fun j => if j < 10 then (0 : Int32) else (va_up (va_up (va_up A 28 (va_cpy (A 67) (A 28) ((0 : Int32)).toNatClampNeg ((0 : Int32)).toNatClampNeg ((80 : Int32)).toNatClampNeg)) 32 (fun j => if j < 8 then (0 : Int32) else (va_up A 28 (va_cpy (A 67) (A 28) ((0 : Int32)).toNatClampNeg ((0 : Int32)).toNatClampNeg ((80 : Int32)).toNatClampNeg)) 32 j)) 33 (fun j => if j < 10 then (0 : Int32) else (va_up (va_up A 28 (va_cpy (A 67) (A 28) ((0 : Int32)).toNatClampNeg ((0 : Int32)).toNatClampNeg ((80 : Int32)).toNatClampNeg)) 32 (fun j => if j < 8 then (0 : Int32) else (va_up A 28 (va_cpy (A 67) (A 28) ((0 : Int32)).toNatClampNeg ((0 : Int32)).toNatClampNeg ((80 : Int32)).toNatClampNeg)) 32 j)) 33 j)) 35 j)) 41 (fun j => if j < 10 then (0 : Int32) else (va_up (va_up (va_up (va_up A 28 (va_cpy (A 67) (A 28) ((0 : Int32)).toNatClampNeg ((0 : Int32)).toNatClampNeg ((80 : Int32)).toNatClampNeg)) 32 (fun j => if j < 8 then (0 : Int32) else (va_up A 28 (va_cpy (A 67) (A 28) ((0 : Int32)).toNatClampNeg ((0 : Int32)).toNatClampNeg ((80 : Int32)).toNatClampNeg)) 32 j)) 33 (fun j => if j < 10 then (0 : Int32) else (va_up (va_up A 28 (va_cpy (A 67) (A 28) ((0 : Int32)).toNatClampNeg ((0 : Int32)).toNatClampNeg ((80 : Int32)).toNatClampNeg)) 32 (fun j => if j < 8 then (0 : Int32) else (va_up A 28 (va_cpy (A 67) (A 28) ((0 : Int32)).toNatClampNeg ((0 : Int32)).toNatClampNeg ((80 : Int32)).toNatClampNeg)) 32 j)) 33 j)) 35 (fun j => if j < 10 then (0 : Int32) else (va_up (va_up (va_up A 28 (va_cpy (A 67) (A 28) ((0 : Int32)).toNatClampNeg ((0 : Int32)).toNatClampNeg ((80 : Int32)).toNatClampNeg)) 32 (fun j => if j < 8 then (0 : Int32) else (va_up A 28 (va_cpy (A 67) (A 28) ((0 : Int32)).toNatClampNeg ((0 : Int32)).toNatClampNeg ((80 : Int32)).toNatClampNeg)) 32 j)) 33 (fun j => if j < 10 then (0 : Int32) else (va_up (va_up A 28 (va_cpy (A 67) (A 28) ((0 : Int32)).toNatClampNeg ((0 : Int32)).toNatClampNeg ((80 : Int32)).toNatClampNeg)) 32 (fun j => if j < 8 then (0 : Int32) else (va_up A 28 (va_cpy (A 67) (A 28) ((0 : Int32)).toNatClampNeg ((0 : Int32)).toNatClampNeg ((80 : Int32)).toNatClampNeg)) 32 j)) 33 j)) 35 j)) 41 j)) B) H := hP
  have hD : va_D Af (wX cA ad (upd (upd F 33 p2) 34 p3) L (va_up (va_up (va_up (va_up (va_up A 28 (va_cpy (A 67) (A 28) ((0 : Int32)).toNatClampNeg ((0 : Int32)).toNatClampNeg ((80 : Int32)).toNatClampNeg)) 32 (fun j => if j < 8 then (0 : Int32) else (va_up A 28 (va_cpy (A 67) (A 28) ((0 : Int32)).toNatClampNeg ((0 : Int32)).toNatClampNeg ((80 : Int32)).toNatClampNeg)) 32 j)) 33 (fun j => if j < 10 then (0 : Int32) else (va_up (va_up A 28 (va_cpy (A 67) (A 28) ((0 : Int32)).toNatClampNeg ((0 : Int32)).toNatClampNeg ((80 : Int32)).toNatClampNeg)) 32 (fun j => if j < 8 then (0 : Int32) else (va_up A 28 (va_cpy (A 67) (A 28) ((0 : Int32)).toNatClampNeg ((0 : Int32)).toNatClampNeg ((80 : Int32)).toNatClampNeg)) 32 j)) 33 j)) 35 (fun j => if j < 10 then (0 : Int32) else (va_up (va_up (va_up A 28 (va_cpy (A 67) (A 28) ((0 : Int32)).toNatClampNeg ((0 : Int32)).toNatClampNeg ((80 : Int32)).toNatClampNeg)) 32 (fun j => if j < 8 then (0 : Int32) else (va_up A 28 (va_cpy (A 67) (A 28) ((0 : Int32)).toNatClampNeg ((0 : Int32)).toNatClampNeg ((80 : Int32)).toNatClampNeg)) 32 j)) 33 (fun j => if j < 10 then (0 : Int32) else (va_up (va_up A 28 (va_cpy (A 67) (A 28) ((0 : Int32)).toNatClampNeg ((0 : Int32)).toNatClampNeg ((80 : Int32)).toNatClampNeg)) 32 (fun j => if j < 8 then (0 : Int32) else (va_up A 28 (va_cpy (A 67) (A 28) ((0 : Int32)).toNatClampNeg ((0 : Int32)).toNatClampNeg ((80 : Int32)).toNatClampNeg)) 32 j)) 33 j)) 35 j)) 41 (fun j => if j < 10 then (0 : Int32) else (va_up (va_up (va_up (va_up A 28 (va_cpy (A 67) (A 28) ((0 : Int32)).toNatClampNeg ((0 : Int32)).toNatClampNeg ((80 : Int32)).toNatClampNeg)) 32 (fun j => if j < 8 then (0 : Int32) else (va_up A 28 (va_cpy (A 67) (A 28) ((0 : Int32)).toNatClampNeg ((0 : Int32)).toNatClampNeg ((80 : Int32)).toNatClampNeg)) 32 j)) 33 (fun j => if j < 10 then (0 : Int32) else (va_up (va_up A 28 (va_cpy (A 67) (A 28) ((0 : Int32)).toNatClampNeg ((0 : Int32)).toNatClampNeg ((80 : Int32)).toNatClampNeg)) 32 (fun j => if j < 8 then (0 : Int32) else (va_up A 28 (va_cpy (A 67) (A 28) ((0 : Int32)).toNatClampNeg ((0 : Int32)).toNatClampNeg ((80 : Int32)).toNatClampNeg)) 32 j)) 33 j)) 35 (fun j => if j < 10 then (0 : Int32) else (va_up (va_up (va_up A 28 (va_cpy (A 67) (A 28) ((0 : Int32)).toNatClampNeg ((0 : Int32)).toNatClampNeg ((80 : Int32)).toNatClampNeg)) 32 (fun j => if j < 8 then (0 : Int32) else (va_up A 28 (va_cpy (A 67) (A 28) ((0 : Int32)).toNatClampNeg ((0 : Int32)).toNatClampNeg ((80 : Int32)).toNatClampNeg)) 32 j)) 33 (fun j => if j < 10 then (0 : Int32) else (va_up (va_up A 28 (va_cpy (A 67) (A 28) ((0 : Int32)).toNatClampNeg ((0 : Int32)).toNatClampNeg ((80 : Int32)).toNatClampNeg)) 32 (fun j => if j < 8 then (0 : Int32) else (va_up A 28 (va_cpy (A 67) (A 28) ((0 : Int32)).toNatClampNeg ((0 : Int32)).toNatClampNeg ((80 : Int32)).toNatClampNeg)) 32 j)) 33 j)) 35 j)) 41 j)) B) := hD
  refine lv_iconst (v := 0) hx hb dX2_open_60 (by decide) ?_
  refine lv_istore (lv' := [(4, .int 0), (0, .ref (ad 27)), (1, .ref (ad 67)), (2, .int p2), (3, .int p3)]) hx hb dX2_open_61 hl (by decide) rfl (fun ls hl => ?_)
  have J63 : ∀ (n63 : Nat) (a1 : Int32) (F3 : Nat → Int32) (L3 : Nat → Int64) (A3 : Nat → Nat → Int32) (B3 : Nat → Nat → Int64) (H : Heap) (locs : List Loc) (ls : Array Slot), (8 - a1.toInt).toNat < n63 → rg a1 0 8 → qX [30, 33, 34] [28, 32, 33, 35, 41] F A F3 A3 → F3 33 = p2 → F3 34 = p3 → va_P D classes (wX cA ad F3 L3 A3 B3) H → va_D Af (wX cA ad F3 L3 A3 B3) → va_S Af s.heap H locs → lv_has ls 7 [(0, .ref (ad 27)), (4, .int a1)] → W p l e rm_X2_open_27_67 s m args below meth c H locs 0 0 Q (F0 m 63 ls []) := by
    intro n63
    induction n63 with
    | zero =>
      intro _ _ _ _ _ _ _ _ hn
      exact absurd hn (Nat.not_lt_zero _)
    | succ n63 ih63 =>
      intro a1 F3 L3 A3 B3 H locs ls hn63 r2 hq f4 f5 hP hD hS hl
      refine lv_iload hx hb dX2_open_63 (lv_at hl 1 rfl) ?_
      refine lv_aload_n hx hb dX2_open_65 rfl (lv_at hl 0 rfl) ?_
      refine va_get (ci := 2) (v := .int p2) (C := RX2) (T := TX2) (N := 15) hx hb hg inX2 hown hK hP 27 atX_27 rfl 12 (by decide) (hg _ mw_359) (fun _ h9 => h9) (congrArg (fun z => some (Value.int z)) (f4)) dX2_open_66 ?_
      refine lv_icmp_ge (tgt := 173) hx hb dX2_open_69 (by decide) (fun c6 => ?_) (fun c6 => ?_)
      · skip
        refine lv_aload_n hx hb dX2_open_173 rfl (lv_at hl 0 rfl) ?_
        refine lv_aload_n hx hb dX2_open_174 rfl (lv_at hl 0 rfl) ?_
        refine va_get (ci := 2) (v := .ref (ad 32)) (C := RX2) (T := TX2) (N := 15) hx hb hg inX2 hown hK hP 27 atX_27 rfl 8 (by decide) (hg _ mw_355) (fun _ h9 => h9) rfl dX2_open_175 ?_
        refine calls_i (As := [.ref (ad 32)]) (rest := [.ref (ad 27)]) hC (c_X2_greatestOf_32 l D cA H.size ad F3 L3 A3 B3  hq.1) (cwS 1 hg (g_S mw_782 mw_780 mw_781 mw_14) rfl rfl rfl (by decide +kernel) ⟨(Nat.le_of_ble_eq_true rfl), (Nat.le_of_ble_eq_true rfl)⟩) hP hD hS hA rfl hl.1 rfl (Nat.le_of_ble_eq_true rfl) dX2_open_178 ⟨Nat.zero_le _, Nat.zero_le _⟩ (fun x9 u H locs hw hP hD hS => ?_)
        have r10 := hw
        have hP : va_P D classes (wX cA ad F3 L3 A3 B3) H := hP
        have hD : va_D Af (wX cA ad F3 L3 A3 B3) := hD
        refine lv_aload_n hx hb dX2_open_181 rfl (lv_at hl 0 rfl) ?_
        refine va_get (ci := 2) (v := .ref (ad 33)) (C := RX2) (T := TX2) (N := 15) hx hb hg inX2 hown hK hP 27 atX_27 rfl 9 (by decide) (hg _ mw_356) (fun _ h9 => h9) rfl dX2_open_182 ?_
        refine calls_i (As := [.ref (ad 33)]) (rest := [.int x9, .ref (ad 27)]) hC (c_X2_greatestOf_33 l D cA H.size ad F3 L3 A3 B3  hq.1) (cwS 1 hg (g_S mw_782 mw_780 mw_781 mw_14) rfl rfl rfl (by decide +kernel) ⟨(Nat.le_of_ble_eq_true rfl), (Nat.le_of_ble_eq_true rfl)⟩) hP hD hS hA rfl hl.1 rfl (Nat.le_of_ble_eq_true rfl) dX2_open_185 ⟨Nat.zero_le _, Nat.zero_le _⟩ (fun x11 u H locs hw hP hD hS => ?_)
        have r12 := hw
        have hP : va_P D classes (wX cA ad F3 L3 A3 B3) H := hP
        have hD : va_D Af (wX cA ad F3 L3 A3 B3) := hD
        refine va_mmax hx hb (hC.2.2.1.trans hl.1.symm) hown (hg _ mw_783) (hg _ mw_272) (hg _ mw_12) (hg _ mw_273) (Nat.le_of_ble_eq_true rfl) (Nat.le_of_ble_eq_true rfl) (Nat.zero_le _) (Nat.zero_le _) dX2_open_188 ?_
        refine lv_topi (fun x13 e14 => ?_)
        have r15 : rg x13 0 2147483647 := rg_max e14 (r10 : rg x9 0 2147483647) (r12 : rg x11 0 2147483647) (by decide)
        refine va_put (ci := 2) (v := .int x13) (ty := .int) (C := RX2) (T := TX2) (N := 15) hx hb hg inX2 tyX2 tyX2_ok nmX2 hown hK hP hD hS 27 atX_27 rfl 3 (by decide) (hg _ mw_345) (fun _ h9 => h9) rfl (by decide +kernel) rfl rfl (Nat.le_of_ble_eq_true rfl) dX2_open_191 (fun H locs hP hD hS => ?_)
        have hq := hq.put 30 (x := x13) (by decide) (rg_top _)
        rw [setFX_30] at hP hD
        exact hret ((upd F3 30 x13), L3, A3, B3) H locs 194 ls dX2_open_194 hP hD hS hq
      · skip
        have r7 : rg a1 0 7 := rg_lt1 (iNE c6) (r2 : rg a1 0 8) (hp2 : rg p2 0 8)
        have r8 : rg p2 1 8 := rg_lt2 (iNE c6) (r2 : rg a1 0 8) (hp2 : rg p2 0 8)
        refine lv_iconst (v := 0) hx hb dX2_open_72 (by decide) ?_
        refine lv_istore (lv' := [(5, .int 0), (0, .ref (ad 27)), (4, .int a1)]) hx hb dX2_open_73 hl (by decide) rfl (fun ls hl => ?_)
        have J75 : ∀ (n75 : Nat) (a16 : Int32) (F18 : Nat → Int32) (L18 : Nat → Int64) (A18 : Nat → Nat → Int32) (B18 : Nat → Nat → Int64) (H : Heap) (locs : List Loc) (ls : Array Slot), (10 - a16.toInt).toNat < n75 → rg a16 0 10 → qX [30, 33, 34] [28, 32, 33, 35, 41] F A F18 A18 → F18 33 = p2 → F18 34 = p3 → va_P D classes (wX cA ad F18 L18 A18 B18) H → va_D Af (wX cA ad F18 L18 A18 B18) → va_S Af s.heap H locs → lv_has ls 7 [(0, .ref (ad 27)), (4, .int a1), (5, .int a16)] → W p l e rm_X2_open_27_67 s m args below meth c H locs 0 0 Q (F0 m 75 ls []) := by
          intro n75
          induction n75 with
          | zero =>
            intro _ _ _ _ _ _ _ _ hn
            exact absurd hn (Nat.not_lt_zero _)
          | succ n75 ih75 =>
            intro a16 F18 L18 A18 B18 H locs ls hn75 r17 hq f19 f20 hP hD hS hl
            refine lv_iload hx hb dX2_open_75 (lv_at hl 2 rfl) ?_
            refine lv_aload_n hx hb dX2_open_77 rfl (lv_at hl 0 rfl) ?_
            refine va_get (ci := 2) (v := .int p3) (C := RX2) (T := TX2) (N := 15) hx hb hg inX2 hown hK hP 27 atX_27 rfl 13 (by decide) (hg _ mw_360) (fun _ h9 => h9) (congrArg (fun z => some (Value.int z)) (f20)) dX2_open_78 ?_
            refine lv_icmp_ge (tgt := 167) hx hb dX2_open_81 (by decide) (fun c21 => ?_) (fun c21 => ?_)
            · skip
              obtain ⟨x24, e25⟩ : ∃ y : Int32, y = a1 + 1 := ⟨_, rfl⟩
              have r26 : rg x24 1 8 := rg_add e25 r7 (rg_k (by decide) : rg 1 1 1) (by decide)
              refine lv_iinc (v := x24) (lv' := [(4, .int x24), (0, .ref (ad 27)), (5, .int a16)]) hx hb dX2_open_167 hl (k := 1) rfl (by rw [e25]; rfl) (by decide) rfl (fun ls hl => ?_)
              refine lv_goto (tgt := 63) hx hb dX2_open_170 (by decide) ?_
              exact ih63 (x24) (F18) (L18) (A18) (B18) H locs ls (by have h0 : (1 : Int32).toInt = 1 := rfl; have h1 := ti_addk e25 r7 (by decide); have h2 : rg x24 0 8 := (rg_w r26 (by decide)); unfold rg at h2; omega) (rg_w r26 (by decide)) hq (f19) (f20) hP hD hS (lv_sub hl [1, 0] rfl)
            · skip
              have r22 : rg a16 0 9 := rg_lt1 (iNE c21) (r17 : rg a16 0 10) (hp3 : rg p3 0 10)
              have r23 : rg p3 1 10 := rg_lt2 (iNE c21) (r17 : rg a16 0 10) (hp3 : rg p3 0 10)
              refine lv_aload_n hx hb dX2_open_84 rfl (lv_at hl 0 rfl) ?_
              refine va_get (ci := 2) (v := .ref (ad 28)) (C := RX2) (T := TX2) (N := 15) hx hb hg inX2 hown hK hP 27 atX_27 rfl 0 (by decide) (hg _ mw_339) (fun _ h9 => h9) rfl dX2_open_85 ?_
              refine lv_iload hx hb dX2_open_88 (lv_at hl 1 rfl) ?_
              refine lv_iload hx hb dX2_open_90 (lv_at hl 2 rfl) ?_
              refine calln_i (As := [.int a1, .int a16]) (rest := [.ref (ad 28)]) hC (c_X11_cellOf l D (tysX cA) (wX cA ad F18 L18 A18 B18) H.size (a1) (a16)) ⟨va_cnB 2 hg (g_N mw_681) rfl rfl rfl (mn_12 hC.N) (hg _ mw_1) (by decide +kernel) ⟨(Nat.le_of_ble_eq_true rfl), (Nat.le_of_ble_eq_true rfl)⟩, (hg _ mw_680), trivial⟩ hP hD hS hA rfl hl.1 rfl (Nat.le_of_ble_eq_true rfl) dX2_open_92 ⟨Nat.zero_le _, Nat.zero_le _⟩ (fun x27 u H locs hw hP hD hS => ?_)
              have e28 := hw
              have hP : va_P D classes (wX cA ad F18 L18 A18 B18) H := hP
              have hD : va_D Af (wX cA ad F18 L18 A18 B18) := hD
              have r29 : rg x27 0 79 := rg_cell hw (r7 : rg a1 0 7) (r22 : rg a16 0 9) (by decide)
              refine va_iald hx hb hK hP 28 18 atX_28 tyX_28 (in_rg r29 (by decide)) dX2_open_95 ?_
              refine lv_topi (fun x30 e31 => ?_)
              refine lv_istore (lv' := [(6, .int x30), (0, .ref (ad 27)), (4, .int a1), (5, .int a16)]) hx hb dX2_open_96 hl (by decide) rfl (fun ls hl => ?_)
              refine lv_iload hx hb dX2_open_98 (lv_at hl 0 rfl) ?_
              have J161 : ∀ (F32 : Nat → Int32) (L32 : Nat → Int64) (A32 : Nat → Nat → Int32) (B32 : Nat → Nat → Int64) (H : Heap) (locs : List Loc) (ls : Array Slot), qX [30, 33, 34] [28, 32, 33, 35, 41] F A F32 A32 → F32 33 = p2 → F32 34 = p3 → va_P D classes (wX cA ad F32 L32 A32 B32) H → va_D Af (wX cA ad F32 L32 A32 B32) → va_S Af s.heap H locs → lv_has ls 7 [(0, .ref (ad 27)), (4, .int a1), (5, .int a16)] → W p l e rm_X2_open_27_67 s m args below meth c H locs 0 0 Q (F0 m 161 ls []) := by
                intro F32 L32 A32 B32 H locs ls hq f33 f34 hP hD hS hl
                obtain ⟨x35, e36⟩ : ∃ y : Int32, y = a16 + 1 := ⟨_, rfl⟩
                have r37 : rg x35 1 10 := rg_add e36 r22 (rg_k (by decide) : rg 1 1 1) (by decide)
                refine lv_iinc (v := x35) (lv' := [(5, .int x35), (0, .ref (ad 27)), (4, .int a1)]) hx hb dX2_open_161 hl (k := 2) rfl (by rw [e36]; rfl) (by decide) rfl (fun ls hl => ?_)
                refine lv_goto (tgt := 75) hx hb dX2_open_164 (by decide) ?_
                exact ih75 (x35) (F32) (L32) (A32) (B32) H locs ls (by have h0 : (1 : Int32).toInt = 1 := rfl; have h1 := ti_addk e36 r22 (by decide); have h2 : rg x35 0 10 := (rg_w r37 (by decide)); unfold rg at h2; omega) (rg_w r37 (by decide)) hq (f33) (f34) hP hD hS (lv_sub hl [1, 2, 0] rfl)
              refine lv_if_le (tgt := 161) hx hb dX2_open_100 (by decide) (fun c38 => ?_) (fun c38 => ?_)
              · skip
                have r39 : rg x30 (-2147483648) 0 := rg_le1 (iE c38) ((rg_top _) : rg x30 (-2147483648) 2147483647) ((rg_k (by decide)) : rg 0 0 0)
                exact J161 (F18) (L18) (A18) (B18) H locs ls hq (f19) (f20) hP hD hS (lv_sub hl [1, 2, 3] rfl)
              · skip
                have r40 : rg x30 1 2147483647 := rg_lt2 (iNE c38) ((rg_k (by decide)) : rg 0 0 0) ((rg_top _) : rg x30 (-2147483648) 2147483647)
                refine lv_aload_n hx hb dX2_open_103 rfl (lv_at hl 1 rfl) ?_
                refine va_get (ci := 2) (v := .ref (ad 32)) (C := RX2) (T := TX2) (N := 15) hx hb hg inX2 hown hK hP 27 atX_27 rfl 8 (by decide) (hg _ mw_355) (fun _ h9 => h9) rfl dX2_open_104 ?_
                refine lv_iload hx hb dX2_open_107 (lv_at hl 2 rfl) ?_
                refine lv_dup2_11 hx hb dX2_open_109 rfl rfl ?_
                refine va_iald hx hb hK hP 32 22 atX_32 tyX_32 (in_rg r7 (by decide)) dX2_open_110 ?_
                refine lv_topi (fun x41 e42 => ?_)
                refine lv_iload hx hb dX2_open_111 (lv_at hl 0 rfl) ?_
                refine lv_iadd hx hb dX2_open_113 ?_
                refine lv_topi (fun x43 e44 => ?_)
                refine va_iast hx hb hK hP hD hS 32 22 atX_32 tyX_32 (in_rg r7 (by decide)) dX2_open_114 (fun H locs hP hD hS => ?_)
                have hq := hq.ast 32 (a1).toNatClampNeg (x := x43) (by decide) (rg_top _)
                rw [setX_32] at hP hD
                have k45 : x43 = (va_up A18 32 (upd (A18 32) (a1).toNatClampNeg x43)) 32 (a1).toNatClampNeg := (rdA).symm
                refine lv_aload_n hx hb dX2_open_115 rfl (lv_at hl 1 rfl) ?_
                refine va_get (ci := 2) (v := .ref (ad 33)) (C := RX2) (T := TX2) (N := 15) hx hb hg inX2 hown hK hP 27 atX_27 rfl 9 (by decide) (hg _ mw_356) (fun _ h9 => h9) rfl dX2_open_116 ?_
                refine lv_iload hx hb dX2_open_119 (lv_at hl 3 rfl) ?_
                refine lv_dup2_11 hx hb dX2_open_121 rfl rfl ?_
                refine va_iald hx hb hK hP 33 23 atX_33 tyX_33 (in_rg r22 (by decide)) dX2_open_122 ?_
                refine lv_topi (fun x46 e47 => ?_)
                refine lv_iload hx hb dX2_open_123 (lv_at hl 0 rfl) ?_
                refine lv_iadd hx hb dX2_open_125 ?_
                refine lv_topi (fun x48 e49 => ?_)
                refine va_iast hx hb hK hP hD hS 33 23 atX_33 tyX_33 (in_rg r22 (by decide)) dX2_open_126 (fun H locs hP hD hS => ?_)
                have hq := hq.ast 33 (a16).toNatClampNeg (x := x48) (by decide) (rg_top _)
                rw [setX_33] at hP hD
                have k50 : x48 = (va_up (va_up A18 32 (upd (A18 32) (a1).toNatClampNeg x43)) 33 (upd ((va_up A18 32 (upd (A18 32) (a1).toNatClampNeg x43)) 33) (a16).toNatClampNeg x48)) 33 (a16).toNatClampNeg := (rdA).symm
                refine lv_aload_n hx hb dX2_open_127 rfl (lv_at hl 1 rfl) ?_
                refine va_get (ci := 2) (v := .ref (ad 34)) (C := RX2) (T := TX2) (N := 15) hx hb hg inX2 hown hK hP 27 atX_27 rfl 10 (by decide) (hg _ mw_357) (fun _ h9 => h9) rfl dX2_open_128 ?_
                refine va_get (ci := 1) (v := .ref (ad 35)) (C := RX1) (T := TX1) (N := 5) hx hb hg inX1 hown hK hP 34 atX_34 rfl 0 (by decide) (hg _ mw_321) (fun _ h9 => h9) rfl dX2_open_131 ?_
                refine lv_iload hx hb dX2_open_134 (lv_at hl 2 rfl) ?_
                refine lv_dup2_11 hx hb dX2_open_136 rfl rfl ?_
                refine va_iald hx hb hK hP 35 24 atX_35 tyX_35 (in_rg r7 (by decide)) dX2_open_137 ?_
                refine lv_topi (fun x51 e52 => ?_)
                have r53 : rg x51 0 1023 := rg_e e52 (hq.1.2 35 _)
                refine lv_iconst (v := 1) hx hb dX2_open_138 (by decide) ?_
                refine lv_iload hx hb dX2_open_139 (lv_at hl 3 rfl) ?_
                refine lv_ishl hx hb dX2_open_141 ?_
                refine lv_topi (fun x54 e55 => ?_)
                have r56 : rg x54 1 512 := rg_shl1 e55 r22 (by decide)
                refine lv_ior hx hb dX2_open_142 ?_
                refine lv_topi (fun x57 e58 => ?_)
                have r59 : rg x57 0 1023 := rg_or 10 e58 r53 r56 (by decide)
                refine va_iast hx hb hK hP hD hS 35 24 atX_35 tyX_35 (in_rg r7 (by decide)) dX2_open_143 (fun H locs hP hD hS => ?_)
                have hq := hq.ast 35 (a1).toNatClampNeg (x := x57) (by decide) r59
                rw [setX_35] at hP hD
                have k60 : x57 = (va_up (va_up (va_up A18 32 (upd (A18 32) (a1).toNatClampNeg x43)) 33 (upd ((va_up A18 32 (upd (A18 32) (a1).toNatClampNeg x43)) 33) (a16).toNatClampNeg x48)) 35 (upd ((va_up (va_up A18 32 (upd (A18 32) (a1).toNatClampNeg x43)) 33 (upd ((va_up A18 32 (upd (A18 32) (a1).toNatClampNeg x43)) 33) (a16).toNatClampNeg x48)) 35) (a1).toNatClampNeg x57)) 35 (a1).toNatClampNeg := (rdA).symm
                refine lv_aload_n hx hb dX2_open_144 rfl (lv_at hl 1 rfl) ?_
                refine va_get (ci := 2) (v := .ref (ad 40)) (C := RX2) (T := TX2) (N := 15) hx hb hg inX2 hown hK hP 27 atX_27 rfl 11 (by decide) (hg _ mw_358) (fun _ h9 => h9) rfl dX2_open_145 ?_
                refine va_get (ci := 1) (v := .ref (ad 41)) (C := RX1) (T := TX1) (N := 5) hx hb hg inX1 hown hK hP 40 atX_40 rfl 0 (by decide) (hg _ mw_321) (fun _ h9 => h9) rfl dX2_open_148 ?_
                refine lv_iload hx hb dX2_open_151 (lv_at hl 3 rfl) ?_
                refine lv_dup2_11 hx hb dX2_open_153 rfl rfl ?_
                refine va_iald hx hb hK hP 41 29 atX_41 tyX_41 (in_rg r22 (by decide)) dX2_open_154 ?_
                refine lv_topi (fun x61 e62 => ?_)
                have r63 : rg x61 0 1023 := rg_e e62 (hq.1.2 41 _)
                refine lv_iconst (v := 1) hx hb dX2_open_155 (by decide) ?_
                refine lv_iload hx hb dX2_open_156 (lv_at hl 2 rfl) ?_
                refine lv_ishl hx hb dX2_open_158 ?_
                refine lv_topi (fun x64 e65 => ?_)
                have r66 : rg x64 1 128 := rg_shl1 e65 r7 (by decide)
                refine lv_ior hx hb dX2_open_159 ?_
                refine lv_topi (fun x67 e68 => ?_)
                have r69 : rg x67 0 1023 := rg_or 10 e68 r63 r66 (by decide)
                refine va_iast hx hb hK hP hD hS 41 29 atX_41 tyX_41 (in_rg r22 (by decide)) dX2_open_160 (fun H locs hP hD hS => ?_)
                have hq := hq.ast 41 (a16).toNatClampNeg (x := x67) (by decide) r69
                rw [setX_41] at hP hD
                have k70 : x67 = (va_up (va_up (va_up (va_up A18 32 (upd (A18 32) (a1).toNatClampNeg x43)) 33 (upd ((va_up A18 32 (upd (A18 32) (a1).toNatClampNeg x43)) 33) (a16).toNatClampNeg x48)) 35 (upd ((va_up (va_up A18 32 (upd (A18 32) (a1).toNatClampNeg x43)) 33 (upd ((va_up A18 32 (upd (A18 32) (a1).toNatClampNeg x43)) 33) (a16).toNatClampNeg x48)) 35) (a1).toNatClampNeg x57)) 41 (upd ((va_up (va_up (va_up A18 32 (upd (A18 32) (a1).toNatClampNeg x43)) 33 (upd ((va_up A18 32 (upd (A18 32) (a1).toNatClampNeg x43)) 33) (a16).toNatClampNeg x48)) 35 (upd ((va_up (va_up A18 32 (upd (A18 32) (a1).toNatClampNeg x43)) 33 (upd ((va_up A18 32 (upd (A18 32) (a1).toNatClampNeg x43)) 33) (a16).toNatClampNeg x48)) 35) (a1).toNatClampNeg x57)) 41) (a16).toNatClampNeg x67)) 41 (a16).toNatClampNeg := (rdA).symm
                exact J161 (F18) (L18) ((va_up (va_up (va_up (va_up A18 32 (upd (A18 32) (a1).toNatClampNeg x43)) 33 (upd ((va_up A18 32 (upd (A18 32) (a1).toNatClampNeg x43)) 33) (a16).toNatClampNeg x48)) 35 (upd ((va_up (va_up A18 32 (upd (A18 32) (a1).toNatClampNeg x43)) 33 (upd ((va_up A18 32 (upd (A18 32) (a1).toNatClampNeg x43)) 33) (a16).toNatClampNeg x48)) 35) (a1).toNatClampNeg x57)) 41 (upd ((va_up (va_up (va_up A18 32 (upd (A18 32) (a1).toNatClampNeg x43)) 33 (upd ((va_up A18 32 (upd (A18 32) (a1).toNatClampNeg x43)) 33) (a16).toNatClampNeg x48)) 35 (upd ((va_up (va_up A18 32 (upd (A18 32) (a1).toNatClampNeg x43)) 33 (upd ((va_up A18 32 (upd (A18 32) (a1).toNatClampNeg x43)) 33) (a16).toNatClampNeg x48)) 35) (a1).toNatClampNeg x57)) 41) (a16).toNatClampNeg x67))) (B18) H locs ls hq (f19) (f20) hP hD hS (lv_sub hl [1, 2, 3] rfl)
        exact J75 _ (0) (F3) (L3) (A3) (B3) H locs ls (Nat.lt_succ_self _) (rg_k (by decide)) hq (f4) (f5) hP hD hS (lv_sub hl [1, 2, 0] rfl)
  exact J63 _ (0) ((upd (upd F 33 p2) 34 p3)) (L) ((va_up (va_up (va_up (va_up (va_up A 28 (va_cpy (A 67) (A 28) ((0 : Int32)).toNatClampNeg ((0 : Int32)).toNatClampNeg ((80 : Int32)).toNatClampNeg)) 32 (fun j => if j < 8 then (0 : Int32) else (va_up A 28 (va_cpy (A 67) (A 28) ((0 : Int32)).toNatClampNeg ((0 : Int32)).toNatClampNeg ((80 : Int32)).toNatClampNeg)) 32 j)) 33 (fun j => if j < 10 then (0 : Int32) else (va_up (va_up A 28 (va_cpy (A 67) (A 28) ((0 : Int32)).toNatClampNeg ((0 : Int32)).toNatClampNeg ((80 : Int32)).toNatClampNeg)) 32 (fun j => if j < 8 then (0 : Int32) else (va_up A 28 (va_cpy (A 67) (A 28) ((0 : Int32)).toNatClampNeg ((0 : Int32)).toNatClampNeg ((80 : Int32)).toNatClampNeg)) 32 j)) 33 j)) 35 (fun j => if j < 10 then (0 : Int32) else (va_up (va_up (va_up A 28 (va_cpy (A 67) (A 28) ((0 : Int32)).toNatClampNeg ((0 : Int32)).toNatClampNeg ((80 : Int32)).toNatClampNeg)) 32 (fun j => if j < 8 then (0 : Int32) else (va_up A 28 (va_cpy (A 67) (A 28) ((0 : Int32)).toNatClampNeg ((0 : Int32)).toNatClampNeg ((80 : Int32)).toNatClampNeg)) 32 j)) 33 (fun j => if j < 10 then (0 : Int32) else (va_up (va_up A 28 (va_cpy (A 67) (A 28) ((0 : Int32)).toNatClampNeg ((0 : Int32)).toNatClampNeg ((80 : Int32)).toNatClampNeg)) 32 (fun j => if j < 8 then (0 : Int32) else (va_up A 28 (va_cpy (A 67) (A 28) ((0 : Int32)).toNatClampNeg ((0 : Int32)).toNatClampNeg ((80 : Int32)).toNatClampNeg)) 32 j)) 33 j)) 35 j)) 41 (fun j => if j < 10 then (0 : Int32) else (va_up (va_up (va_up (va_up A 28 (va_cpy (A 67) (A 28) ((0 : Int32)).toNatClampNeg ((0 : Int32)).toNatClampNeg ((80 : Int32)).toNatClampNeg)) 32 (fun j => if j < 8 then (0 : Int32) else (va_up A 28 (va_cpy (A 67) (A 28) ((0 : Int32)).toNatClampNeg ((0 : Int32)).toNatClampNeg ((80 : Int32)).toNatClampNeg)) 32 j)) 33 (fun j => if j < 10 then (0 : Int32) else (va_up (va_up A 28 (va_cpy (A 67) (A 28) ((0 : Int32)).toNatClampNeg ((0 : Int32)).toNatClampNeg ((80 : Int32)).toNatClampNeg)) 32 (fun j => if j < 8 then (0 : Int32) else (va_up A 28 (va_cpy (A 67) (A 28) ((0 : Int32)).toNatClampNeg ((0 : Int32)).toNatClampNeg ((80 : Int32)).toNatClampNeg)) 32 j)) 33 j)) 35 (fun j => if j < 10 then (0 : Int32) else (va_up (va_up (va_up A 28 (va_cpy (A 67) (A 28) ((0 : Int32)).toNatClampNeg ((0 : Int32)).toNatClampNeg ((80 : Int32)).toNatClampNeg)) 32 (fun j => if j < 8 then (0 : Int32) else (va_up A 28 (va_cpy (A 67) (A 28) ((0 : Int32)).toNatClampNeg ((0 : Int32)).toNatClampNeg ((80 : Int32)).toNatClampNeg)) 32 j)) 33 (fun j => if j < 10 then (0 : Int32) else (va_up (va_up A 28 (va_cpy (A 67) (A 28) ((0 : Int32)).toNatClampNeg ((0 : Int32)).toNatClampNeg ((80 : Int32)).toNatClampNeg)) 32 (fun j => if j < 8 then (0 : Int32) else (va_up A 28 (va_cpy (A 67) (A 28) ((0 : Int32)).toNatClampNeg ((0 : Int32)).toNatClampNeg ((80 : Int32)).toNatClampNeg)) 32 j)) 33 j)) 35 j)) 41 j))) (B) H locs ls (Nat.lt_succ_self _) (rg_k (by decide)) hq (rfl) (rfl) hP hD hS (lv_sub hl [1, 0] rfl)
abbrev rm_X11_openLost_0 : Room := { frames := 3, cells := 0, slots := 0, locals := 72 }
set_option maxHeartbeats 4000000 in
set_option maxRecDepth 100000 in
theorem c_X11_openLost_0 (l : Launch) (D : va_G) (cA : Nat → ClassId) (sz : Nat) (ad : Nat → Nat) (F : Nat → Int32) (L : Nat → Int64) (A : Nat → Nat → Int32) (B : Nat → Nat → Int64) (p1 : Int32) (p2 : Int32) (hT : typX F A) (hp1 : rg p1 0 79) (hp2 : rg p2 0 40) : Met l yX11_openLost (Cond.code yX11_openLost cX11_openLost 4 none :: GW) rm_X11_openLost_0 (mPc D classes (tysX cA) (wX cA ad F L A B) sz [.ref (ad 0), .int p1, .int p2]) (mQv (S := SW) D classes (tysX cA) (wX cA ad F L A B) sz (wfX cA ad) (fun u => qX [30, 33, 34] [28, 32, 33, 35, 41, 67] F A u.1 u.2.2.1)) 0 0 (va_A (wX cA ad F L A B) sz) := by
  refine met_v (own := "ShoeingDay") (by decide +kernel) rfl (Nat.le_of_ble_eq_true rfl) ?_
  intro p e s m args below meth c Q Af ls hC hP hD hS hA hl hret
  have hx := hC.1
  have hb := hC.2.1
  have hown := hC.2.2.2.1
  have hg := hC.g
  have hK := hC.K
  have hl : lv_has ls 4 [(0, .ref (ad 0)), (1, .int p1), (2, .int p2)] := hl
  have hq : qX [30, 33, 34] [28, 32, 33, 35, 41, 67] F A F A := qX.rf hT
  obtain ⟨H, hH⟩ : ∃ H, H = s.heap := ⟨_, rfl⟩
  have hP : va_P D classes (wX cA ad F L A B) H := by rw [hH]; exact hP
  have hS : va_S Af s.heap H [] := by rw [hH]; exact hS
  obtain ⟨locs, hlo⟩ : ∃ q : List Loc, q = [] := ⟨_, rfl⟩
  rw [← hH, ← hlo]
  rw [← hlo] at hS
  refine lv_aload_n hx hb dX11_openLost_0 rfl (lv_at hl 0 rfl) ?_
  refine va_get (ci := 11) (v := .ref (ad 61)) (C := RX11) (T := TX11) (N := 13) hx hb hg inX11 hown hK hP 0 atX_0 rfl 8 (by decide) (hg _ mw_533) (fun _ h9 => h9) rfl dX11_openLost_1 ?_
  refine va_get (ci := 8) (v := .ref (ad 67)) (C := RX8) (T := TX8) (N := 9) hx hb hg inX8 hown hK hP 61 atX_61 rfl 5 (by decide) (hg _ mw_486) (fun _ h9 => h9) rfl dX11_openLost_4 ?_
  refine lv_astore_n (lv' := [(3, .ref (ad 67)), (0, .ref (ad 0)), (1, .int p1), (2, .int p2)]) hx hb dX11_openLost_7 rfl hl (by decide) rfl (fun ls hl => ?_)
  refine lv_aload_n hx hb dX11_openLost_8 rfl (lv_at hl 1 rfl) ?_
  refine va_get (ci := 11) (v := .ref (ad 11)) (C := RX11) (T := TX11) (N := 13) hx hb hg inX11 hown hK hP 0 atX_0 rfl 10 (by decide) (hg _ mw_535) (fun _ h9 => h9) rfl dX11_openLost_9 ?_
  refine va_get (ci := 10) (v := .ref (ad 17)) (C := RX10) (T := TX10) (N := 12) hx hb hg inX10 hown hK hP 11 atX_11 rfl 5 (by decide) (hg _ mw_165) (fun _ h9 => h9) rfl dX11_openLost_12 ?_
  refine lv_iconst (v := 0) hx hb dX11_openLost_15 (by decide) ?_
  refine lv_aload_n hx hb dX11_openLost_16 rfl (lv_at hl 0 rfl) ?_
  refine lv_iconst (v := 0) hx hb dX11_openLost_17 (by decide) ?_
  refine lv_bipush (v := 80) hx hb dX11_openLost_18 (by decide) ?_
  refine va_copyi hx hb (hC.2.2.1.trans hl.1.symm) hown (hg _ mw_947) (hg _ mw_524) (hg _ mw_523) (hg _ mw_19) hK hP hD hS 17 67 12 52 atX_17 atX_67 tyX_17 tyX_67 rfl (nn_rg ((rg_k (by decide)) : rg 0 0 0) (by decide)) (nn_rg ((rg_k (by decide)) : rg 0 0 0) (by decide)) (nn_rg ((rg_k (by decide)) : rg 80 80 80) (by decide)) (cp_rg ((rg_k (by decide)) : rg 0 0 0) ((rg_k (by decide)) : rg 80 80 80) (by decide)) (cp_rg ((rg_k (by decide)) : rg 0 0 0) ((rg_k (by decide)) : rg 80 80 80) (by decide)) (fun _ _ => rfl) (Nat.le_of_ble_eq_true rfl) (Nat.le_of_ble_eq_true rfl) dX11_openLost_20 (fun H locs hP hD hS => ?_)
  have hq := hq.cpy 67 17 (a := ((0 : Int32)).toNatClampNeg) (b := ((0 : Int32)).toNatClampNeg) (n := ((80 : Int32)).toNatClampNeg) (by decide) (by decide)
  rw [setX_67] at hP hD
  refine lv_aload_n hx hb dX11_openLost_23 rfl (lv_at hl 0 rfl) ?_
  refine lv_iload_n hx hb dX11_openLost_24 rfl (lv_at hl 2 rfl) ?_
  refine lv_iload_n hx hb dX11_openLost_25 rfl (lv_at hl 3 rfl) ?_
  refine va_iast hx hb hK hP hD hS 67 52 atX_67 tyX_67 (in_rg hp1 (by decide)) dX11_openLost_26 (fun H locs hP hD hS => ?_)
  have hq := hq.ast 67 (p1).toNatClampNeg (x := p2) (by decide) (rg_top _)
  rw [setX_67] at hP hD
  have k1 : p2 = (va_up (va_up A 67 (va_cpy (A 17) (A 67) ((0 : Int32)).toNatClampNeg ((0 : Int32)).toNatClampNeg ((80 : Int32)).toNatClampNeg)) 67 (upd ((va_up A 67 (va_cpy (A 17) (A 67) ((0 : Int32)).toNatClampNeg ((0 : Int32)).toNatClampNeg ((80 : Int32)).toNatClampNeg)) 67) (p1).toNatClampNeg p2)) 67 (p1).toNatClampNeg := (rdA).symm
  refine lv_aload_n hx hb dX11_openLost_27 rfl (lv_at hl 1 rfl) ?_
  refine va_get (ci := 11) (v := .ref (ad 27)) (C := RX11) (T := TX11) (N := 13) hx hb hg inX11 hown hK hP 0 atX_0 rfl 5 (by decide) (hg _ mw_530) (fun _ h9 => h9) rfl dX11_openLost_28 ?_
  refine lv_aload_n hx hb dX11_openLost_31 rfl (lv_at hl 0 rfl) ?_
  refine lv_aload_n hx hb dX11_openLost_32 rfl (lv_at hl 1 rfl) ?_
  refine va_get (ci := 11) (v := .ref (ad 11)) (C := RX11) (T := TX11) (N := 13) hx hb hg inX11 hown hK hP 0 atX_0 rfl 10 (by decide) (hg _ mw_535) (fun _ h9 => h9) rfl dX11_openLost_33 ?_
  refine va_get (ci := 10) (v := .int (F 15)) (C := RX10) (T := TX10) (N := 12) hx hb hg inX10 hown hK hP 11 atX_11 rfl 6 (by decide) (hg _ mw_169) (fun _ h9 => h9) rfl dX11_openLost_36 ?_
  refine lv_topi (fun x2 e3 => ?_)
  have r4 : rg x2 0 8 := rg_e e3 (hq.1.1 15)
  refine lv_aload_n hx hb dX11_openLost_39 rfl (lv_at hl 1 rfl) ?_
  refine va_get (ci := 11) (v := .ref (ad 11)) (C := RX11) (T := TX11) (N := 13) hx hb hg inX11 hown hK hP 0 atX_0 rfl 10 (by decide) (hg _ mw_535) (fun _ h9 => h9) rfl dX11_openLost_40 ?_
  refine va_get (ci := 10) (v := .int (F 16)) (C := RX10) (T := TX10) (N := 12) hx hb hg inX10 hown hK hP 11 atX_11 rfl 7 (by decide) (hg _ mw_174) (fun _ h9 => h9) rfl dX11_openLost_43 ?_
  refine lv_topi (fun x5 e6 => ?_)
  have r7 : rg x5 0 10 := rg_e e6 (hq.1.1 16)
  refine callv_v (As := [.ref (ad 67), .int x2, .int x5]) (rest := []) hC (c_X2_open_27_67 l D cA H.size ad F L (va_up (va_up A 67 (va_cpy (A 17) (A 67) ((0 : Int32)).toNatClampNeg ((0 : Int32)).toNatClampNeg ((80 : Int32)).toNatClampNeg)) 67 (upd ((va_up A 67 (va_cpy (A 17) (A 67) ((0 : Int32)).toNatClampNeg ((0 : Int32)).toNatClampNeg ((80 : Int32)).toNatClampNeg)) 67) (p1).toNatClampNeg p2)) B (x2) (x5) hq.1 r4 r7) (cwV 3 hg (g_V mw_776 mw_942 mw_774 mw_775 mw_14) rfl rfl rfl (by decide +kernel) ⟨(Nat.le_of_ble_eq_true rfl), (Nat.le_of_ble_eq_true rfl)⟩) hP hD hS hA atX_27 rfl rfl hl.1 rfl (Nat.le_of_ble_eq_true rfl) dX11_openLost_46 ⟨Nat.zero_le _, Nat.zero_le _⟩ (fun  u H locs hw hP hD hS => ?_)
  obtain ⟨F8, L8, A8, B8⟩ := u
  try dsimp only at hw
  have hq8 := hw
  have hq := hq.call hq8 (by decide)
  have hP : va_P D classes (wX cA ad F8 L8 A8 B8) H := hP
  have hD : va_D Af (wX cA ad F8 L8 A8 B8) := hD
  exact hret (F8, L8, A8, B8) H locs 49 ls dX11_openLost_49 hP hD hS hq
abbrev rm_X8_standSo_61_29 : Room := { frames := 2, cells := 0, slots := 0, locals := 40 }
set_option maxHeartbeats 4000000 in
set_option maxRecDepth 100000 in
theorem c_X8_standSo_61_29 (l : Launch) (D : va_G) (cA : Nat → ClassId) (sz : Nat) (ad : Nat → Nat) (F : Nat → Int32) (L : Nat → Int64) (A : Nat → Nat → Int32) (B : Nat → Nat → Int64) (p1 : Int32) (p2 : Int32) (p3 : Int32) (hT : typX F A) (hp1 : rg p1 0 1048575) (hp2 : rg p2 (-2147483648) 2147483646) : Met l yX8_standSo (Cond.code yX8_standSo cX8_standSo 8 (some .boolean) :: GW) rm_X8_standSo_61_29 (mPc D classes (tysX cA) (wX cA ad F L A B) sz [.ref (ad 61), .int p1, .int p2, .int p3, .ref (ad 29)]) (mQi (S := Unit) D classes (tysX cA) (wX cA ad F L A B) sz (fun _ : Unit => wX cA ad F L A B) (fun r u => rg r 0 1)) 0 0 (va_A (wX cA ad F L A B) sz) := by
  refine met_i (own := "ShoeingDay$Sights") (by decide +kernel) rfl (Nat.le_of_ble_eq_true rfl) ?_
  intro p e s m args below meth c Q Af ls hC hP hD hS hA hl hret
  have hx := hC.1
  have hb := hC.2.1
  have hown := hC.2.2.2.1
  have hg := hC.g
  have hK := hC.K
  have hl : lv_has ls 8 [(0, .ref (ad 61)), (1, .int p1), (2, .int p2), (3, .int p3), (4, .ref (ad 29))] := hl
  have hq : qX [] [] F A F A := qX.rf hT
  obtain ⟨H, hH⟩ : ∃ H, H = s.heap := ⟨_, rfl⟩
  have hP : va_P D classes (wX cA ad F L A B) H := by rw [hH]; exact hP
  have hS : va_S Af s.heap H [] := by rw [hH]; exact hS
  obtain ⟨locs, hlo⟩ : ∃ q : List Loc, q = [] := ⟨_, rfl⟩
  rw [← hH, ← hlo]
  rw [← hlo] at hS
  refine lv_iload_n hx hb dX8_standSo_0 rfl (lv_at hl 1 rfl) ?_
  refine lv_istore (lv' := [(5, .int p1), (0, .ref (ad 61)), (1, .int p1), (2, .int p2), (3, .int p3), (4, .ref (ad 29))]) hx hb dX8_standSo_1 hl (by decide) rfl (fun ls hl => ?_)
  have J3 : ∀ (n3 : Nat) (a1 : Int32) (H : Heap) (locs : List Loc) (ls : Array Slot), a1.toInt.toNat < n3 → rg a1 0 1048575 → va_P D classes (wX cA ad F L A B) H → va_D Af (wX cA ad F L A B) → va_S Af s.heap H locs → lv_has ls 8 [(0, .ref (ad 61)), (2, .int p2), (3, .int p3), (4, .ref (ad 29)), (5, .int a1)] → W p l e rm_X8_standSo_61_29 s m args below meth c H locs 0 0 Q (F0 m 3 ls []) := by
    intro n3
    induction n3 with
    | zero =>
      intro _ _ _ _ hn
      exact absurd hn (Nat.not_lt_zero _)
    | succ n3 ih3 =>
      intro a1 H locs ls hn3 r2 hP hD hS hl
      refine lv_iload hx hb dX8_standSo_3 (lv_at hl 4 rfl) ?_
      refine lv_if_eq (tgt := 83) hx hb dX8_standSo_5 (by decide) (fun c3 => ?_) (fun c3 => ?_)
      · skip
        have r4 : rg a1 0 0 := rg_eq1 c3 (r2 : rg a1 0 1048575) ((rg_k (by decide)) : rg 0 0 0) (by decide)
        refine lv_iconst (v := 1) hx hb dX8_standSo_83 (by decide) ?_
        exact hret (1) () H locs 84 ls rfl dX8_standSo_84 hP hD hS (rg_k (by decide))
      · skip
        have r5 : rg a1 1 1048575 := (rg_ne1 c3 (r2 : rg a1 0 1048575) ((rg_k (by decide)) : rg 0 0 0)).1 rfl
        refine lv_iload hx hb dX8_standSo_8 (lv_at hl 4 rfl) ?_
        refine calln_i (As := [.int a1]) (rest := []) hC (c_X11_lowest l D (tysX cA) (wX cA ad F L A B) H.size (a1)) ⟨va_cnB 1 hg (g_N mw_799) rfl rfl rfl (mn_17 hC.N) (hg _ mw_1) (by decide +kernel) ⟨(Nat.le_of_ble_eq_true rfl), (Nat.le_of_ble_eq_true rfl)⟩, (hg _ mw_798), trivial⟩ hP hD hS hA rfl hl.1 rfl (Nat.le_of_ble_eq_true rfl) dX8_standSo_10 ⟨Nat.zero_le _, Nat.zero_le _⟩ (fun x6 u H locs hw hP hD hS => ?_)
        have e7 := hw
        have hP : va_P D classes (wX cA ad F L A B) H := hP
        have hD : va_D Af (wX cA ad F L A B) := hD
        have r8 : rg x6 0 19 := rg_low hw r5 (k := 20) (by decide)
        refine lv_istore (lv' := [(6, .int x6), (0, .ref (ad 61)), (2, .int p2), (3, .int p3), (4, .ref (ad 29)), (5, .int a1)]) hx hb dX8_standSo_13 hl (by decide) rfl (fun ls hl => ?_)
        refine lv_aload_n hx hb dX8_standSo_15 rfl (lv_at hl 1 rfl) ?_
        refine va_get (ci := 8) (v := .ref (ad 62)) (C := RX8) (T := TX8) (N := 9) hx hb hg inX8 hown hK hP 61 atX_61 rfl 0 (by decide) (hg _ mw_480) (fun _ h9 => h9) rfl dX8_standSo_16 ?_
        refine lv_iload hx hb dX8_standSo_19 (lv_at hl 0 rfl) ?_
        refine va_iald hx hb hK hP 62 47 atX_62 tyX_62 (in_rg r8 (by decide)) dX8_standSo_21 ?_
        refine lv_topi (fun x9 e10 => ?_)
        refine lv_iload_n hx hb dX8_standSo_22 rfl (lv_at hl 2 rfl) ?_
        have J42 : ∀ (a11 : Int32) (H : Heap) (locs : List Loc) (ls : Array Slot), rg a11 0 1 → va_P D classes (wX cA ad F L A B) H → va_D Af (wX cA ad F L A B) → va_S Af s.heap H locs → lv_has ls 8 [(0, .ref (ad 61)), (2, .int p2), (3, .int p3), (4, .ref (ad 29)), (5, .int a1), (6, .int x6)] → W p l e rm_X8_standSo_61_29 s m args below meth c H locs 0 0 Q (F0 m 42 ls [.int a11]) := by
          intro a11 H locs ls r12 hP hD hS hl
          refine lv_istore (lv' := [(7, .int a11), (0, .ref (ad 61)), (2, .int p2), (3, .int p3), (4, .ref (ad 29)), (5, .int a1), (6, .int x6)]) hx hb dX8_standSo_42 hl (by decide) rfl (fun ls hl => ?_)
          refine lv_iload hx hb dX8_standSo_44 (lv_at hl 0 rfl) ?_
          have J71 : ∀ (H : Heap) (locs : List Loc) (ls : Array Slot), va_P D classes (wX cA ad F L A B) H → va_D Af (wX cA ad F L A B) → va_S Af s.heap H locs → lv_has ls 8 [(0, .ref (ad 61)), (2, .int p2), (3, .int p3), (4, .ref (ad 29)), (5, .int a1)] → W p l e rm_X8_standSo_61_29 s m args below meth c H locs 0 0 Q (F0 m 71 ls []) := by
            intro H locs ls hP hD hS hl
            refine lv_iload hx hb dX8_standSo_71 (lv_at hl 4 rfl) ?_
            refine lv_iload hx hb dX8_standSo_73 (lv_at hl 4 rfl) ?_
            refine lv_iconst (v := 1) hx hb dX8_standSo_75 (by decide) ?_
            refine lv_isub hx hb dX8_standSo_76 ?_
            refine lv_topi (fun x13 e14 => ?_)
            have r15 : rg x13 0 1048574 := rg_sub e14 r5 ((rg_k (by decide)) : rg 1 1 1) (by decide)
            refine lv_iand hx hb dX8_standSo_77 ?_
            refine lv_topi (fun x16 e17 => ?_)
            have r18 : rg x16 0 1048574 := rg_andr e17 r15 (by decide)
            refine lv_istore (lv' := [(5, .int x16), (0, .ref (ad 61)), (2, .int p2), (3, .int p3), (4, .ref (ad 29))]) hx hb dX8_standSo_78 hl (by decide) rfl (fun ls hl => ?_)
            refine lv_goto (tgt := 3) hx hb dX8_standSo_80 (by decide) ?_
            exact ih3 (x16) H locs ls (by have h1 := mask_less (show x16 = a1 &&& (a1 - 1) by rw [← e14]; exact e17) r5 (by decide); omega) (rg_w r18 (by decide)) hP hD hS (lv_sub hl [1, 2, 3, 4, 0] rfl)
          refine lv_if_eq (tgt := 71) hx hb dX8_standSo_46 (by decide) (fun c19 => ?_) (fun c19 => ?_)
          · skip
            have r20 : rg a11 0 0 := rg_eq1 c19 (r12 : rg a11 0 1) ((rg_k (by decide)) : rg 0 0 0) (by decide)
            exact J71  H locs ls  hP hD hS (lv_sub hl [1, 2, 3, 4, 5] rfl)
          · skip
            have r21 : rg a11 1 1 := (rg_ne1 c19 (r12 : rg a11 0 1) ((rg_k (by decide)) : rg 0 0 0)).1 rfl
            refine lv_aload hx hb dX8_standSo_49 (lv_at hl 4 rfl) ?_
            refine lv_aload_n hx hb dX8_standSo_51 rfl (lv_at hl 1 rfl) ?_
            refine va_get (ci := 8) (v := .ref (ad 63)) (C := RX8) (T := TX8) (N := 9) hx hb hg inX8 hown hK hP 61 atX_61 rfl 1 (by decide) (hg _ mw_481) (fun _ h9 => h9) rfl dX8_standSo_52 ?_
            refine lv_iload hx hb dX8_standSo_55 (lv_at hl 6 rfl) ?_
            refine va_iald hx hb hK hP 63 48 atX_63 tyX_63 (in_rg r8 (by decide)) dX8_standSo_57 ?_
            refine lv_topi (fun x22 e23 => ?_)
            have r24 : rg x22 0 7 := rg_e e23 (hq.1.2 63 _)
            refine va_iald hx hb hK hP 29 19 atX_29 tyX_29 (in_rg r24 (by decide)) dX8_standSo_58 ?_
            refine lv_topi (fun x25 e26 => ?_)
            have r27 : rg x25 (-1) 9 := rg_e e26 (hq.1.2 29 _)
            refine lv_aload_n hx hb dX8_standSo_59 rfl (lv_at hl 1 rfl) ?_
            refine va_get (ci := 8) (v := .ref (ad 64)) (C := RX8) (T := TX8) (N := 9) hx hb hg inX8 hown hK hP 61 atX_61 rfl 2 (by decide) (hg _ mw_482) (fun _ h9 => h9) rfl dX8_standSo_60 ?_
            refine lv_iload hx hb dX8_standSo_63 (lv_at hl 6 rfl) ?_
            refine va_iald hx hb hK hP 64 49 atX_64 tyX_64 (in_rg r8 (by decide)) dX8_standSo_65 ?_
            refine lv_topi (fun x28 e29 => ?_)
            have r30 : rg x28 (-1) 9 := rg_e e29 (hq.1.2 64 _)
            refine lv_icmp_eq (tgt := 71) hx hb dX8_standSo_66 (by decide) (fun c31 => ?_) (fun c31 => ?_)
            · skip
              exact J71  H locs ls  hP hD hS (lv_sub hl [1, 2, 3, 4, 5] rfl)
            · skip
              refine lv_iconst (v := 0) hx hb dX8_standSo_69 (by decide) ?_
              exact hret (0) () H locs 70 ls rfl dX8_standSo_70 hP hD hS (rg_k (by decide))
        have J41 : ∀ (H : Heap) (locs : List Loc) (ls : Array Slot), va_P D classes (wX cA ad F L A B) H → va_D Af (wX cA ad F L A B) → va_S Af s.heap H locs → lv_has ls 8 [(0, .ref (ad 61)), (2, .int p2), (3, .int p3), (4, .ref (ad 29)), (5, .int a1), (6, .int x6)] → W p l e rm_X8_standSo_61_29 s m args below meth c H locs 0 0 Q (F0 m 41 ls []) := by
          intro H locs ls hP hD hS hl
          refine lv_iconst (v := 0) hx hb dX8_standSo_41 (by decide) ?_
          exact J42 (0) H locs ls (rg_k (by decide)) hP hD hS (lv_sub hl [0, 1, 2, 3, 4, 5] rfl)
        refine lv_icmp_lt (tgt := 41) hx hb dX8_standSo_23 (by decide) (fun c32 => ?_) (fun c32 => ?_)
        · skip
          have r33 : rg x9 (-2147483648) 2147483645 := rg_lt1 (iL c32) ((rg_top _) : rg x9 (-2147483648) 2147483647) (hp2 : rg p2 (-2147483648) 2147483646)
          have r34 : rg p2 (-2147483647) 2147483646 := rg_lt2 (iL c32) ((rg_top _) : rg x9 (-2147483648) 2147483647) (hp2 : rg p2 (-2147483648) 2147483646)
          exact J41  H locs ls  hP hD hS (lv_sub hl [1, 2, 3, 4, 5, 0] rfl)
        · skip
          refine lv_aload_n hx hb dX8_standSo_26 rfl (lv_at hl 1 rfl) ?_
          refine va_get (ci := 8) (v := .ref (ad 62)) (C := RX8) (T := TX8) (N := 9) hx hb hg inX8 hown hK hP 61 atX_61 rfl 0 (by decide) (hg _ mw_480) (fun _ h9 => h9) rfl dX8_standSo_27 ?_
          refine lv_iload hx hb dX8_standSo_30 (lv_at hl 0 rfl) ?_
          refine va_iald hx hb hK hP 62 47 atX_62 tyX_62 (in_rg r8 (by decide)) dX8_standSo_32 ?_
          refine tope (e10) ?_
          refine lv_iload_n hx hb dX8_standSo_33 rfl (lv_at hl 3 rfl) ?_
          refine lv_icmp_ge (tgt := 41) hx hb dX8_standSo_34 (by decide) (fun c35 => ?_) (fun c35 => ?_)
          · skip
            exact J41  H locs ls  hP hD hS (lv_sub hl [1, 2, 3, 4, 5, 0] rfl)
          · skip
            have r36 : rg x9 (-2147483648) 2147483646 := rg_lt1 (iNE c35) ((rg_top _) : rg x9 (-2147483648) 2147483647) ((rg_top _) : rg p3 (-2147483648) 2147483647)
            have r37 : rg p3 (-2147483647) 2147483647 := rg_lt2 (iNE c35) ((rg_top _) : rg x9 (-2147483648) 2147483647) ((rg_top _) : rg p3 (-2147483648) 2147483647)
            refine lv_iconst (v := 1) hx hb dX8_standSo_37 (by decide) ?_
            refine lv_goto (tgt := 42) hx hb dX8_standSo_38 (by decide) ?_
            exact J42 (1) H locs ls (rg_k (by decide)) hP hD hS (lv_sub hl [1, 2, 3, 4, 5, 0] rfl)
  exact J3 _ (p1) H locs ls (Nat.lt_succ_self _) hp1 hP hD hS (lv_sub hl [1, 3, 4, 5, 0] rfl)
abbrev rm_X8_areSo_61_27 : Room := { frames := 6, cells := 0, slots := 0, locals := 149 }
set_option maxHeartbeats 4000000 in
set_option maxRecDepth 100000 in
theorem c_X8_areSo_61_27 (l : Launch) (D : va_G) (cA : Nat → ClassId) (sz : Nat) (ad : Nat → Nat) (F : Nat → Int32) (L : Nat → Int64) (A : Nat → Nat → Int32) (B : Nat → Nat → Int64) (p1 : Int32) (hT : typX F A) (hp1 : rg p1 0 1048575) : Met l yX8_areSo (Cond.code yX8_areSo cX8_areSo 7 (some .boolean) :: GW) rm_X8_areSo_61_27 (mPc D classes (tysX cA) (wX cA ad F L A B) sz [.ref (ad 61), .int p1, .ref (ad 27)]) (mQi (S := SW) D classes (tysX cA) (wX cA ad F L A B) sz (wfX cA ad) (fun r u => qX [29, 30, 35] [28, 29, 32, 33, 35, 36, 37, 38, 39, 41, 42, 43, 44, 45] F A u.1 u.2.2.1 ∧ rg r 0 1)) 0 0 (va_A (wX cA ad F L A B) sz) := by
  refine met_i (own := "ShoeingDay$Sights") (by decide +kernel) rfl (Nat.le_of_ble_eq_true rfl) ?_
  intro p e s m args below meth c Q Af ls hC hP hD hS hA hl hret
  have hx := hC.1
  have hb := hC.2.1
  have hown := hC.2.2.2.1
  have hg := hC.g
  have hK := hC.K
  have hl : lv_has ls 7 [(0, .ref (ad 61)), (1, .int p1), (2, .ref (ad 27))] := hl
  have hq : qX [29, 30, 35] [28, 29, 32, 33, 35, 36, 37, 38, 39, 41, 42, 43, 44, 45] F A F A := qX.rf hT
  obtain ⟨H, hH⟩ : ∃ H, H = s.heap := ⟨_, rfl⟩
  have hP : va_P D classes (wX cA ad F L A B) H := by rw [hH]; exact hP
  have hS : va_S Af s.heap H [] := by rw [hH]; exact hS
  obtain ⟨locs, hlo⟩ : ∃ q : List Loc, q = [] := ⟨_, rfl⟩
  rw [← hH, ← hlo]
  rw [← hlo] at hS
  refine lv_iconst (v := (-1)) hx hb dX8_areSo_0 (by decide) ?_
  refine lv_istore_n (lv' := [(3, .int (-1)), (0, .ref (ad 61)), (1, .int p1), (2, .ref (ad 27))]) hx hb dX8_areSo_1 rfl hl (by decide) rfl (fun ls hl => ?_)
  refine lv_iload_n hx hb dX8_areSo_2 rfl (lv_at hl 2 rfl) ?_
  refine lv_istore (lv' := [(4, .int p1), (3, .int (-1)), (0, .ref (ad 61)), (1, .int p1), (2, .ref (ad 27))]) hx hb dX8_areSo_3 hl (by decide) rfl (fun ls hl => ?_)
  have J5 : ∀ (n5 : Nat) (a1 : Int32) (a3 : Int32) (F5 : Nat → Int32) (L5 : Nat → Int64) (A5 : Nat → Nat → Int32) (B5 : Nat → Nat → Int64) (H : Heap) (locs : List Loc) (ls : Array Slot), a3.toInt.toNat < n5 → rg a1 (-1) 2147483646 → rg a3 0 1048575 → qX [29, 30, 35] [28, 29, 32, 33, 35, 36, 37, 38, 39, 41, 42, 43, 44, 45] F A F5 A5 → va_P D classes (wX cA ad F5 L5 A5 B5) H → va_D Af (wX cA ad F5 L5 A5 B5) → va_S Af s.heap H locs → lv_has ls 7 [(0, .ref (ad 61)), (1, .int p1), (2, .ref (ad 27)), (3, .int a1), (4, .int a3)] → W p l e rm_X8_areSo_61_27 s m args below meth c H locs 0 0 Q (F0 m 5 ls []) := by
    intro n5
    induction n5 with
    | zero =>
      intro _ _ _ _ _ _ _ _ _ hn
      exact absurd hn (Nat.not_lt_zero _)
    | succ n5 ih5 =>
      intro a1 a3 F5 L5 A5 B5 H locs ls hn5 r2 r4 hq hP hD hS hl
      refine lv_iload hx hb dX8_areSo_5 (lv_at hl 4 rfl) ?_
      refine lv_if_eq (tgt := 71) hx hb dX8_areSo_7 (by decide) (fun c6 => ?_) (fun c6 => ?_)
      · skip
        have r7 : rg a3 0 0 := rg_eq1 c6 (r4 : rg a3 0 1048575) ((rg_k (by decide)) : rg 0 0 0) (by decide)
        refine lv_iconst (v := 0) hx hb dX8_areSo_71 (by decide) ?_
        refine lv_istore (lv' := [(4, .int 0), (0, .ref (ad 61)), (1, .int p1), (2, .ref (ad 27)), (3, .int a1)]) hx hb dX8_areSo_72 hl (by decide) rfl (fun ls hl => ?_)
        refine lv_iconst (v := 0) hx hb dX8_areSo_74 (by decide) ?_
        refine lv_istore (lv' := [(5, .int 0), (4, .int 0), (0, .ref (ad 61)), (1, .int p1), (2, .ref (ad 27)), (3, .int a1)]) hx hb dX8_areSo_75 hl (by decide) rfl (fun ls hl => ?_)
        have J77 : ∀ (n77 : Nat) (a9 : Int32) (a10 : Int32) (F12 : Nat → Int32) (L12 : Nat → Int64) (A12 : Nat → Nat → Int32) (B12 : Nat → Nat → Int64) (H : Heap) (locs : List Loc) (ls : Array Slot), (100 - a10.toInt).toNat < n77 → rg a10 0 100 → qX [29, 30, 35] [28, 29, 32, 33, 35, 36, 37, 38, 39, 41, 42, 43, 44, 45] F A F12 A12 → va_P D classes (wX cA ad F12 L12 A12 B12) H → va_D Af (wX cA ad F12 L12 A12 B12) → va_S Af s.heap H locs → lv_has ls 7 [(0, .ref (ad 61)), (1, .int p1), (2, .ref (ad 27)), (3, .int a1), (4, .int a9), (5, .int a10)] → W p l e rm_X8_areSo_61_27 s m args below meth c H locs 0 0 Q (F0 m 77 ls []) := by
          intro n77
          induction n77 with
          | zero =>
            intro _ _ _ _ _ _ _ _ _ hn
            exact absurd hn (Nat.not_lt_zero _)
          | succ n77 ih77 =>
            intro a9 a10 F12 L12 A12 B12 H locs ls hn77 r11 hq hP hD hS hl
            refine lv_iload hx hb dX8_areSo_77 (lv_at hl 5 rfl) ?_
            refine lv_bipush (v := 100) hx hb dX8_areSo_79 (by decide) ?_
            have J142 : ∀ (F13 : Nat → Int32) (L13 : Nat → Int64) (A13 : Nat → Nat → Int32) (B13 : Nat → Nat → Int64) (H : Heap) (locs : List Loc) (ls : Array Slot), qX [29, 30, 35] [28, 29, 32, 33, 35, 36, 37, 38, 39, 41, 42, 43, 44, 45] F A F13 A13 → va_P D classes (wX cA ad F13 L13 A13 B13) H → va_D Af (wX cA ad F13 L13 A13 B13) → va_S Af s.heap H locs → lv_has ls 7 [] → W p l e rm_X8_areSo_61_27 s m args below meth c H locs 0 0 Q (F0 m 142 ls []) := by
              intro F13 L13 A13 B13 H locs ls hq hP hD hS hl
              refine lv_iconst (v := 1) hx hb dX8_areSo_142 (by decide) ?_
              exact hret (1) (F13, L13, A13, B13) H locs 143 ls rfl dX8_areSo_143 hP hD hS ⟨hq, (rg_k (by decide))⟩
            refine lv_icmp_ge (tgt := 142) hx hb dX8_areSo_81 (by decide) (fun c14 => ?_) (fun c14 => ?_)
            · skip
              have r15 : rg a10 100 100 := rg_le2 (iE c14) ((rg_k (by decide)) : rg 100 100 100) (r11 : rg a10 0 100)
              exact J142 (F12) (L12) (A12) (B12) H locs ls hq hP hD hS (lv_sub hl [] rfl)
            · skip
              have r16 : rg a10 0 99 := rg_lt1 (iNE c14) (r11 : rg a10 0 100) ((rg_k (by decide)) : rg 100 100 100)
              refine lv_iload hx hb dX8_areSo_84 (lv_at hl 4 rfl) ?_
              refine lv_iload_n hx hb dX8_areSo_86 rfl (lv_at hl 3 rfl) ?_
              refine lv_icmp_gt (tgt := 142) hx hb dX8_areSo_87 (by decide) (fun c17 => ?_) (fun c17 => ?_)
              · skip
                have r18 : rg a9 0 2147483647 := rg_lt2 (iL c17) (r2 : rg a1 (-1) 2147483646) ((rg_top _) : rg a9 (-2147483648) 2147483647)
                exact J142 (F12) (L12) (A12) (B12) H locs ls hq hP hD hS (lv_sub hl [] rfl)
              · skip
                have r19 : rg a9 (-2147483648) 2147483646 := rg_le1 (iNL c17) ((rg_top _) : rg a9 (-2147483648) 2147483647) (r2 : rg a1 (-1) 2147483646)
                refine lv_aload_n hx hb dX8_areSo_90 rfl (lv_at hl 2 rfl) ?_
                refine callv_i (As := []) (rest := []) hC (c_X2_findRound_27 l D cA H.size ad F12 L12 A12 B12  hq.1) (cwV 0 hg (g_V mw_787 mw_1073 mw_785 mw_786 mw_14) rfl rfl rfl (by decide +kernel) ⟨(Nat.le_of_ble_eq_true rfl), (Nat.le_of_ble_eq_true rfl)⟩) hP hD hS hA atX_27 rfl rfl hl.1 rfl (Nat.le_of_ble_eq_true rfl) dX8_areSo_91 ⟨Nat.zero_le _, Nat.zero_le _⟩ (fun x20 u H locs hw hP hD hS => ?_)
                obtain ⟨F21, L21, A21, B21⟩ := u
                try dsimp only at hw
                obtain ⟨hq21, r22⟩ := hw
                have hq := hq.call hq21 (by decide)
                have hP : va_P D classes (wX cA ad F21 L21 A21 B21) H := hP
                have hD : va_D Af (wX cA ad F21 L21 A21 B21) := hD
                refine lv_if_eq (tgt := 142) hx hb dX8_areSo_94 (by decide) (fun c23 => ?_) (fun c23 => ?_)
                · skip
                  have r24 : rg x20 0 0 := rg_eq1 c23 (r22 : rg x20 0 1) ((rg_k (by decide)) : rg 0 0 0) (by decide)
                  exact J142 (F21) (L21) (A21) (B21) H locs ls hq hP hD hS (lv_sub hl [] rfl)
                · skip
                  have r25 : rg x20 1 1 := (rg_ne1 c23 (r22 : rg x20 0 1) ((rg_k (by decide)) : rg 0 0 0)).1 rfl
                  refine lv_iload hx hb dX8_areSo_97 (lv_at hl 4 rfl) ?_
                  refine lv_aload_n hx hb dX8_areSo_99 rfl (lv_at hl 2 rfl) ?_
                  refine va_get (ci := 2) (v := .int (F21 29)) (C := RX2) (T := TX2) (N := 15) hx hb hg inX2 hown hK hP 27 atX_27 rfl 2 (by decide) (hg _ mw_344) (fun _ h9 => h9) rfl dX8_areSo_100 ?_
                  refine lv_topi (fun x26 e27 => ?_)
                  refine lv_iadd hx hb dX8_areSo_103 ?_
                  refine lv_topi (fun x28 e29 => ?_)
                  refine lv_istore (lv' := [(6, .int x28), (0, .ref (ad 61)), (1, .int p1), (2, .ref (ad 27)), (3, .int a1), (4, .int a9), (5, .int a10)]) hx hb dX8_areSo_104 hl (by decide) rfl (fun ls hl => ?_)
                  refine lv_aload_n hx hb dX8_areSo_106 rfl (lv_at hl 1 rfl) ?_
                  refine lv_iload_n hx hb dX8_areSo_107 rfl (lv_at hl 2 rfl) ?_
                  refine lv_iload hx hb dX8_areSo_108 (lv_at hl 5 rfl) ?_
                  refine lv_iload hx hb dX8_areSo_110 (lv_at hl 0 rfl) ?_
                  refine lv_aload_n hx hb dX8_areSo_112 rfl (lv_at hl 3 rfl) ?_
                  refine va_get (ci := 2) (v := .ref (ad 29)) (C := RX2) (T := TX2) (N := 15) hx hb hg inX2 hown hK hP 27 atX_27 rfl 1 (by decide) (hg _ mw_342) (fun _ h9 => h9) rfl dX8_areSo_113 ?_
                  refine callv_i (As := [.int p1, .int a9, .int x28, .ref (ad 29)]) (rest := []) hC (c_X8_standSo_61_29 l D cA H.size ad F21 L21 A21 B21 (p1) (a9) (x28) hq.1 hp1 r19) (cwV 4 hg (g_V mw_1077 mw_1074 mw_1076 ms_45 mw_18) rfl rfl rfl (by decide +kernel) ⟨(Nat.le_of_ble_eq_true rfl), (Nat.le_of_ble_eq_true rfl)⟩) hP hD hS hA atX_61 rfl rfl hl.1 rfl (Nat.le_of_ble_eq_true rfl) dX8_areSo_116 ⟨Nat.zero_le _, Nat.zero_le _⟩ (fun x30 u H locs hw hP hD hS => ?_)
                  have r31 := hw
                  have hP : va_P D classes (wX cA ad F21 L21 A21 B21) H := hP
                  have hD : va_D Af (wX cA ad F21 L21 A21 B21) := hD
                  refine lv_if_ne (tgt := 124) hx hb dX8_areSo_119 (by decide) (fun c32 => ?_) (fun c32 => ?_)
                  · skip
                    have r33 : rg x30 1 1 := (rg_ne1 c32 (r31 : rg x30 0 1) ((rg_k (by decide)) : rg 0 0 0)).1 rfl
                    refine lv_aload_n hx hb dX8_areSo_124 rfl (lv_at hl 3 rfl) ?_
                    refine lv_aload_n hx hb dX8_areSo_125 rfl (lv_at hl 3 rfl) ?_
                    refine va_get (ci := 2) (v := .int x26) (C := RX2) (T := TX2) (N := 15) hx hb hg inX2 hown hK hP 27 atX_27 rfl 2 (by decide) (hg _ mw_344) (fun _ h9 => h9) (congrArg (fun z => some (Value.int z)) (e27.symm)) dX8_areSo_126 ?_
                    refine callv_v (As := [.int x26]) (rest := []) hC (c_X2_pass_27 l D cA H.size ad F21 L21 A21 B21 (x26) hq.1) (cwV 1 hg (g_V mw_832 mw_1078 mw_830 mw_831 mw_14) rfl rfl rfl (by decide +kernel) ⟨(Nat.le_of_ble_eq_true rfl), (Nat.le_of_ble_eq_true rfl)⟩) hP hD hS hA atX_27 rfl rfl hl.1 rfl (Nat.le_of_ble_eq_true rfl) dX8_areSo_129 ⟨Nat.zero_le _, Nat.zero_le _⟩ (fun  u H locs hw hP hD hS => ?_)
                    obtain ⟨F35, L35, A35, B35⟩ := u
                    try dsimp only at hw
                    have hq35 := hw
                    have hq := hq.call hq35 (by decide)
                    have hP : va_P D classes (wX cA ad F35 L35 A35 B35) H := hP
                    have hD : va_D Af (wX cA ad F35 L35 A35 B35) := hD
                    refine lv_iload hx hb dX8_areSo_132 (lv_at hl 0 rfl) ?_
                    refine lv_istore (lv' := [(4, .int x28), (6, .int x28), (0, .ref (ad 61)), (1, .int p1), (2, .ref (ad 27)), (3, .int a1), (5, .int a10)]) hx hb dX8_areSo_134 hl (by decide) rfl (fun ls hl => ?_)
                    obtain ⟨x36, e37⟩ : ∃ y : Int32, y = a10 + 1 := ⟨_, rfl⟩
                    have r38 : rg x36 1 100 := rg_add e37 r16 (rg_k (by decide) : rg 1 1 1) (by decide)
                    refine lv_iinc (v := x36) (lv' := [(5, .int x36), (4, .int x28), (6, .int x28), (0, .ref (ad 61)), (1, .int p1), (2, .ref (ad 27)), (3, .int a1)]) hx hb dX8_areSo_136 hl (k := 6) rfl (by rw [e37]; rfl) (by decide) rfl (fun ls hl => ?_)
                    refine lv_goto (tgt := 77) hx hb dX8_areSo_139 (by decide) ?_
                    exact ih77 (x28) (x36) (F35) (L35) (A35) (B35) H locs ls (by have h0 : (1 : Int32).toInt = 1 := rfl; have h1 := ti_addk e37 r16 (by decide); have h2 : rg x36 0 100 := (rg_w r38 (by decide)); unfold rg at h2; omega) (rg_w r38 (by decide)) hq hP hD hS (lv_sub hl [3, 4, 5, 6, 1, 0] rfl)
                  · skip
                    have r34 : rg x30 0 0 := rg_eq1 c32 (r31 : rg x30 0 1) ((rg_k (by decide)) : rg 0 0 0) (by decide)
                    refine lv_iconst (v := 0) hx hb dX8_areSo_122 (by decide) ?_
                    exact hret (0) (F21, L21, A21, B21) H locs 123 ls rfl dX8_areSo_123 hP hD hS ⟨hq, (rg_k (by decide))⟩
        exact J77 _ (0) (0) (F5) (L5) (A5) (B5) H locs ls (Nat.lt_succ_self _) (rg_k (by decide)) hq hP hD hS (lv_sub hl [2, 3, 4, 5, 1, 0] rfl)
      · skip
        have r8 : rg a3 1 1048575 := (rg_ne1 c6 (r4 : rg a3 0 1048575) ((rg_k (by decide)) : rg 0 0 0)).1 rfl
        refine lv_iload hx hb dX8_areSo_10 (lv_at hl 4 rfl) ?_
        refine calln_i (As := [.int a3]) (rest := []) hC (c_X11_lowest l D (tysX cA) (wX cA ad F5 L5 A5 B5) H.size (a3)) ⟨va_cnB 1 hg (g_N mw_799) rfl rfl rfl (mn_17 hC.N) (hg _ mw_1) (by decide +kernel) ⟨(Nat.le_of_ble_eq_true rfl), (Nat.le_of_ble_eq_true rfl)⟩, (hg _ mw_798), trivial⟩ hP hD hS hA rfl hl.1 rfl (Nat.le_of_ble_eq_true rfl) dX8_areSo_12 ⟨Nat.zero_le _, Nat.zero_le _⟩ (fun x39 u H locs hw hP hD hS => ?_)
        have e40 := hw
        have hP : va_P D classes (wX cA ad F5 L5 A5 B5) H := hP
        have hD : va_D Af (wX cA ad F5 L5 A5 B5) := hD
        have r41 : rg x39 0 19 := rg_low hw r8 (k := 20) (by decide)
        refine lv_istore (lv' := [(5, .int x39), (0, .ref (ad 61)), (1, .int p1), (2, .ref (ad 27)), (3, .int a1), (4, .int a3)]) hx hb dX8_areSo_15 hl (by decide) rfl (fun ls hl => ?_)
        refine lv_aload_n hx hb dX8_areSo_17 rfl (lv_at hl 1 rfl) ?_
        refine va_get (ci := 8) (v := .ref (ad 62)) (C := RX8) (T := TX8) (N := 9) hx hb hg inX8 hown hK hP 61 atX_61 rfl 0 (by decide) (hg _ mw_480) (fun _ h9 => h9) rfl dX8_areSo_18 ?_
        refine lv_iload hx hb dX8_areSo_21 (lv_at hl 0 rfl) ?_
        refine va_iald hx hb hK hP 62 47 atX_62 tyX_62 (in_rg r41 (by decide)) dX8_areSo_23 ?_
        refine lv_topi (fun x42 e43 => ?_)
        refine lv_aload_n hx hb dX8_areSo_24 rfl (lv_at hl 3 rfl) ?_
        refine va_get (ci := 2) (v := .int (F5 30)) (C := RX2) (T := TX2) (N := 15) hx hb hg inX2 hown hK hP 27 atX_27 rfl 3 (by decide) (hg _ mw_346) (fun _ h9 => h9) rfl dX8_areSo_25 ?_
        refine lv_topi (fun x44 e45 => ?_)
        have J59 : ∀ (a46 : Int32) (F48 : Nat → Int32) (L48 : Nat → Int64) (A48 : Nat → Nat → Int32) (B48 : Nat → Nat → Int64) (H : Heap) (locs : List Loc) (ls : Array Slot), rg a46 (-1) 2147483646 → qX [29, 30, 35] [28, 29, 32, 33, 35, 36, 37, 38, 39, 41, 42, 43, 44, 45] F A F48 A48 → F48 30 = x44 → va_P D classes (wX cA ad F48 L48 A48 B48) H → va_D Af (wX cA ad F48 L48 A48 B48) → va_S Af s.heap H locs → lv_has ls 7 [(0, .ref (ad 61)), (1, .int p1), (2, .ref (ad 27)), (3, .int a46), (4, .int a3)] → W p l e rm_X8_areSo_61_27 s m args below meth c H locs 0 0 Q (F0 m 59 ls []) := by
          intro a46 F48 L48 A48 B48 H locs ls r47 hq f49 hP hD hS hl
          refine lv_iload hx hb dX8_areSo_59 (lv_at hl 4 rfl) ?_
          refine lv_iload hx hb dX8_areSo_61 (lv_at hl 4 rfl) ?_
          refine lv_iconst (v := 1) hx hb dX8_areSo_63 (by decide) ?_
          refine lv_isub hx hb dX8_areSo_64 ?_
          refine lv_topi (fun x50 e51 => ?_)
          have r52 : rg x50 0 1048574 := rg_sub e51 r8 ((rg_k (by decide)) : rg 1 1 1) (by decide)
          refine lv_iand hx hb dX8_areSo_65 ?_
          refine lv_topi (fun x53 e54 => ?_)
          have r55 : rg x53 0 1048574 := rg_andr e54 r52 (by decide)
          refine lv_istore (lv' := [(4, .int x53), (0, .ref (ad 61)), (1, .int p1), (2, .ref (ad 27)), (3, .int a46)]) hx hb dX8_areSo_66 hl (by decide) rfl (fun ls hl => ?_)
          refine lv_goto (tgt := 5) hx hb dX8_areSo_68 (by decide) ?_
          exact ih5 (a46) (x53) (F48) (L48) (A48) (B48) H locs ls (by have h1 := mask_less (show x53 = a3 &&& (a3 - 1) by rw [← e51]; exact e54) r8 (by decide); omega) r47 (rg_w r55 (by decide)) hq hP hD hS (lv_sub hl [1, 2, 3, 4, 0] rfl)
        refine lv_icmp_ge (tgt := 46) hx hb dX8_areSo_28 (by decide) (fun c56 => ?_) (fun c56 => ?_)
        · skip
          refine lv_aload_n hx hb dX8_areSo_46 rfl (lv_at hl 1 rfl) ?_
          refine va_get (ci := 8) (v := .ref (ad 64)) (C := RX8) (T := TX8) (N := 9) hx hb hg inX8 hown hK hP 61 atX_61 rfl 2 (by decide) (hg _ mw_482) (fun _ h9 => h9) rfl dX8_areSo_47 ?_
          refine lv_iload hx hb dX8_areSo_50 (lv_at hl 0 rfl) ?_
          refine va_iald hx hb hK hP 64 49 atX_64 tyX_64 (in_rg r41 (by decide)) dX8_areSo_52 ?_
          refine lv_topi (fun x59 e60 => ?_)
          have r61 : rg x59 (-1) 9 := rg_e e60 (hq.1.2 64 _)
          refine lv_iconst (v := (-1)) hx hb dX8_areSo_53 (by decide) ?_
          refine lv_icmp_eq (tgt := 59) hx hb dX8_areSo_54 (by decide) (fun c62 => ?_) (fun c62 => ?_)
          · skip
            have r63 : rg x59 (-1) (-1) := rg_eq1 c62 (r61 : rg x59 (-1) 9) ((rg_k (by decide)) : rg (-1) (-1) (-1)) (by decide)
            exact J59 (a1) (F5) (L5) (A5) (B5) H locs ls r2 hq (e45.symm) hP hD hS (lv_sub hl [1, 2, 3, 4, 5] rfl)
          · skip
            have r64 : rg x59 0 9 := (rg_ne1 c62 (r61 : rg x59 (-1) 9) ((rg_k (by decide)) : rg (-1) (-1) (-1))).1 rfl
            refine lv_iconst (v := 0) hx hb dX8_areSo_57 (by decide) ?_
            exact hret (0) (F5, L5, A5, B5) H locs 58 ls rfl dX8_areSo_58 hP hD hS ⟨hq, (rg_k (by decide))⟩
        · skip
          have r57 : rg x42 (-2147483648) 2147483646 := rg_lt1 (iNE c56) ((rg_top _) : rg x42 (-2147483648) 2147483647) ((rg_top _) : rg x44 (-2147483648) 2147483647)
          have r58 : rg x44 (-2147483647) 2147483647 := rg_lt2 (iNE c56) ((rg_top _) : rg x42 (-2147483648) 2147483647) ((rg_top _) : rg x44 (-2147483648) 2147483647)
          refine lv_iload_n hx hb dX8_areSo_31 rfl (lv_at hl 4 rfl) ?_
          refine lv_aload_n hx hb dX8_areSo_32 rfl (lv_at hl 1 rfl) ?_
          refine va_get (ci := 8) (v := .ref (ad 62)) (C := RX8) (T := TX8) (N := 9) hx hb hg inX8 hown hK hP 61 atX_61 rfl 0 (by decide) (hg _ mw_480) (fun _ h9 => h9) rfl dX8_areSo_33 ?_
          refine lv_iload hx hb dX8_areSo_36 (lv_at hl 0 rfl) ?_
          refine va_iald hx hb hK hP 62 47 atX_62 tyX_62 (in_rg r41 (by decide)) dX8_areSo_38 ?_
          refine tope (e43) ?_
          refine va_mmax hx hb (hC.2.2.1.trans hl.1.symm) hown (hg _ mw_1072) (hg _ mw_272) (hg _ mw_12) (hg _ mw_273) (Nat.le_of_ble_eq_true rfl) (Nat.le_of_ble_eq_true rfl) (Nat.zero_le _) (Nat.zero_le _) dX8_areSo_39 ?_
          refine lv_topi (fun x65 e66 => ?_)
          have r67 : rg x65 (-1) 2147483646 := rg_max e66 (r2 : rg a1 (-1) 2147483646) (r57 : rg x42 (-2147483648) 2147483646) (by decide)
          refine lv_istore_n (lv' := [(3, .int x65), (5, .int x39), (0, .ref (ad 61)), (1, .int p1), (2, .ref (ad 27)), (4, .int a3)]) hx hb dX8_areSo_42 rfl hl (by decide) rfl (fun ls hl => ?_)
          refine lv_goto (tgt := 59) hx hb dX8_areSo_43 (by decide) ?_
          exact J59 (x65) (F5) (L5) (A5) (B5) H locs ls r67 hq (e45.symm) hP hD hS (lv_sub hl [2, 3, 4, 0, 5] rfl)
  exact J5 _ ((-1)) (p1) (F) (L) (A) (B) H locs ls (Nat.lt_succ_self _) (rg_k (by decide)) hp1 hq hP hD hS (lv_sub hl [2, 3, 4, 1, 0] rfl)
