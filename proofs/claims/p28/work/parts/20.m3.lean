abbrev rm_X12_busy_0_v1 : Room := { frames := 3, cells := 0, slots := 0, locals := 68 }
set_option maxHeartbeats 4000000 in
set_option maxRecDepth 100000 in
theorem c_X12_busy_0_v1 (l : Launch) (D : va_G) (cA : Nat → ClassId) (sz : Nat) (ad : Nat → Nat) (F : Nat → Int32) (L : Nat → Int64) (A : Nat → Nat → Int32) (B : Nat → Nat → Int64) (p1 : Int32) (hT : typM F A) (hp1 : rg p1 1 1) : Met l yX12_busy (Cond.code yX12_busy cX12_busy 2 (some .int) :: GW) rm_X12_busy_0_v1 (mPc D classes (tysM cA) (wM cA ad F L A B) sz [.ref (ad 0), .int p1]) (mQi (S := SW) D classes (tysM cA) (wM cA ad F L A B) sz (wfM cA ad) (fun r u => qM [] [16] F A u.1 u.2.2.1 ∧ rg r 0 1023)) 0 0 (va_A (wM cA ad F L A B) sz) := by
  refine met_i (own := "ShoeingDayModel") (by decide +kernel) rfl (Nat.le_of_ble_eq_true rfl) ?_
  intro p e s m args below meth c Q Af ls hC hP hD hS hA hl hret
  have hx := hC.1
  have hb := hC.2.1
  have hown := hC.2.2.2.1
  have hg := hC.g
  have hK := hC.K
  have hl : lv_has ls 2 [(0, .ref (ad 0)), (1, .int p1)] := hl
  have hq : qM [] [16] F A F A := qM.rf hT
  obtain ⟨H, hH⟩ : ∃ H, H = s.heap := ⟨_, rfl⟩
  have hP : va_P D classes (wM cA ad F L A B) H := by rw [hH]; exact hP
  have hS : va_S Af s.heap H [] := by rw [hH]; exact hS
  obtain ⟨locs, hlo⟩ : ∃ q : List Loc, q = [] := ⟨_, rfl⟩
  rw [← hH, ← hlo]
  rw [← hlo] at hS
  refine lv_aload_n hx hb dX12_busy_0 rfl (lv_at hl 0 rfl) ?_
  refine callv_v (As := []) (rest := []) hC (c_X12_layNow_0 l D cA H.size ad F L A B  hq.1) (cwV 0 hg (g_V mw_1407 mw_1404 mw_1406 ms_70 mw_20) rfl rfl rfl (by decide +kernel) ⟨(Nat.le_of_ble_eq_true rfl), (Nat.le_of_ble_eq_true rfl)⟩) hP hD hS hA atM_0 rfl rfl hl.1 rfl (Nat.le_of_ble_eq_true rfl) dX12_busy_1 ⟨Nat.zero_le _, Nat.zero_le _⟩ (fun  u H locs hw hP hD hS => ?_)
  obtain ⟨F1, L1, A1, B1⟩ := u
  try dsimp only at hw
  obtain ⟨hq1, g2⟩ := hw
  have hq := hq.call hq1 (by decide)
  have hP : va_P D classes (wM cA ad F1 L1 A1 B1) H := hP
  have hD : va_D Af (wM cA ad F1 L1 A1 B1) := hD
  refine lv_iload_n hx hb dX12_busy_4 rfl (lv_at hl 1 rfl) ?_
  refine lv_if_eq (tgt := 15) hx hb dX12_busy_5 (by decide) (fun c3 => ?_) (fun c3 => ?_)
  · skip
    exact rg_emp (rg_eq1 c3 (hp1 : rg p1 1 1) ((rg_k (by decide)) : rg 0 0 0) (by decide) : rg p1 1 0) (by decide)
  · skip
    refine lv_aload_n hx hb dX12_busy_8 rfl (lv_at hl 0 rfl) ?_
    refine callv_i (As := []) (rest := []) hC (c_X12_busyHorses_0 l D cA H.size ad F1 L1 A1 B1  hq.1) (cwV 0 hg (g_V mw_1431 mw_1428 mw_1430 ms_74 mw_20) rfl rfl rfl (by decide +kernel) ⟨(Nat.le_of_ble_eq_true rfl), (Nat.le_of_ble_eq_true rfl)⟩) hP hD hS hA atM_0 rfl rfl hl.1 rfl (Nat.le_of_ble_eq_true rfl) dX12_busy_9 ⟨Nat.zero_le _, Nat.zero_le _⟩ (fun x5 u H locs hw hP hD hS => ?_)
    have r6 := hw
    have hP : va_P D classes (wM cA ad F1 L1 A1 B1) H := hP
    have hD : va_D Af (wM cA ad F1 L1 A1 B1) := hD
    refine lv_goto (tgt := 19) hx hb dX12_busy_12 (by decide) ?_
    exact hret (x5) (F1, L1, A1, B1) H locs 19 ls rfl dX12_busy_19 hP hD hS ⟨hq, r6⟩
abbrev rm_X12_horseSum_0_e : Room := { frames := 0, cells := 0, slots := 0, locals := 0 }
set_option maxHeartbeats 4000000 in
set_option maxRecDepth 100000 in
theorem c_X12_horseSum_0_e (l : Launch) (D : va_G) (cA : Nat → ClassId) (sz : Nat) (ad : Nat → Nat) (F : Nat → Int32) (L : Nat → Int64) (A : Nat → Nat → Int32) (B : Nat → Nat → Int64) (p1 : Int32) (hT : typM F A) (hp1 : rg p1 0 9) (hL99 : ok99 (A 16)) : Met l yX12_horseSum (Cond.code yX12_horseSum cX12_horseSum 4 (some .int) :: GW) rm_X12_horseSum_0_e (mPc D classes (tysM cA) (wM cA ad F L A B) sz [.ref (ad 0), .int p1]) (mQi (S := Unit) D classes (tysM cA) (wM cA ad F L A B) sz (fun _ : Unit => wM cA ad F L A B) (fun r u => rg r 0 990 ∧ (r.toInt = (colS (A 16) p1.toNatClampNeg : Nat)))) 0 0 (va_A (wM cA ad F L A B) sz) := by
  refine met_i (own := "ShoeingDayModel") (by decide +kernel) rfl (Nat.le_of_ble_eq_true rfl) ?_
  intro p e s m args below meth c Q Af ls hC hP hD hS hA hl hret
  have hx := hC.1
  have hb := hC.2.1
  have hown := hC.2.2.2.1
  have hg := hC.g
  have hK := hC.K
  have hl : lv_has ls 4 [(0, .ref (ad 0)), (1, .int p1)] := hl
  have hq : qM [] [] F A F A := qM.rf hT
  obtain ⟨H, hH⟩ : ∃ H, H = s.heap := ⟨_, rfl⟩
  have hP : va_P D classes (wM cA ad F L A B) H := by rw [hH]; exact hP
  have hS : va_S Af s.heap H [] := by rw [hH]; exact hS
  obtain ⟨locs, hlo⟩ : ∃ q : List Loc, q = [] := ⟨_, rfl⟩
  rw [← hH, ← hlo]
  rw [← hlo] at hS
  refine lv_iconst (v := 0) hx hb dX12_horseSum_0 (by decide) ?_
  refine lv_istore_n (lv' := [(2, .int 0), (0, .ref (ad 0)), (1, .int p1)]) hx hb dX12_horseSum_1 rfl hl (by decide) rfl (fun ls hl => ?_)
  refine lv_iconst (v := 0) hx hb dX12_horseSum_2 (by decide) ?_
  refine lv_istore_n (lv' := [(3, .int 0), (2, .int 0), (0, .ref (ad 0)), (1, .int p1)]) hx hb dX12_horseSum_3 rfl hl (by decide) rfl (fun ls hl => ?_)
  have J4 : ∀ (n4 : Nat) (a1 : Int32) (a3 : Int32) (H : Heap) (locs : List Loc) (ls : Array Slot), (8 - a3.toInt).toNat < n4 → rg a1 0 990 → rg a3 0 8 → (a1.toInt = (sm (fun i => lk (A 16) i p1.toNatClampNeg) (a3).toNatClampNeg : Nat)) → va_P D classes (wM cA ad F L A B) H → va_D Af (wM cA ad F L A B) → va_S Af s.heap H locs → lv_has ls 4 [(0, .ref (ad 0)), (1, .int p1), (2, .int a1), (3, .int a3)] → W p l e rm_X12_horseSum_0_e s m args below meth c H locs 0 0 Q (F0 m 4 ls []) := by
    intro n4
    induction n4 with
    | zero =>
      intro _ _ _ _ _ hn
      exact absurd hn (Nat.not_lt_zero _)
    | succ n4 ih4 =>
      intro a1 a3 H locs ls hn4 r2 r4 v5 hP hD hS hl
      refine lv_iload_n hx hb dX12_horseSum_4 rfl (lv_at hl 3 rfl) ?_
      refine lv_bipush (v := 8) hx hb dX12_horseSum_5 (by decide) ?_
      refine lv_icmp_ge (tgt := 30) hx hb dX12_horseSum_7 (by decide) (fun c6 => ?_) (fun c6 => ?_)
      · skip
        have r7 : rg a3 8 8 := rg_le2 (iE c6) ((rg_k (by decide)) : rg 8 8 8) (r4 : rg a3 0 8)
        refine lv_iload_n hx hb dX12_horseSum_30 rfl (lv_at hl 2 rfl) ?_
        exact hret (a1) () H locs 31 ls rfl dX12_horseSum_31 hP hD hS ⟨r2, (ss_end (n := 8) v5 (by have := (r7 : rg a3 8 8).1; omega) (by have := (r7 : rg a3 8 8).2; omega))⟩
      · skip
        have r8 : rg a3 0 7 := rg_lt1 (iNE c6) (r4 : rg a3 0 8) ((rg_k (by decide)) : rg 8 8 8)
        refine lv_iload_n hx hb dX12_horseSum_10 rfl (lv_at hl 2 rfl) ?_
        refine lv_aload_n hx hb dX12_horseSum_11 rfl (lv_at hl 0 rfl) ?_
        refine va_get (ci := 12) (v := .ref (ad 16)) (C := RX12) (T := TX12) (N := 57) hx hb hg inX12 hown hK hP 0 atM_0 rfl 26 (by decide) (hg _ mw_1134) (fun _ h9 => h9) rfl dX12_horseSum_12 ?_
        refine lv_bipush (v := 10) hx hb dX12_horseSum_15 (by decide) ?_
        refine lv_iload_n hx hb dX12_horseSum_17 rfl (lv_at hl 3 rfl) ?_
        refine lv_imul hx hb dX12_horseSum_18 ?_
        refine lv_topi (fun x9 e10 => ?_)
        have r11 : rg x9 0 70 := rg_mul e10 ((rg_k (by decide)) : rg 10 10 10) r8 (by decide)
        refine lv_iload_n hx hb dX12_horseSum_19 rfl (lv_at hl 1 rfl) ?_
        refine lv_iadd hx hb dX12_horseSum_20 ?_
        refine lv_topi (fun x12 e13 => ?_)
        have r14 : rg x12 0 79 := rg_add e13 r11 hp1 (by decide)
        refine va_iald hx hb hK hP 16 15 atM_16 tyM_16 (in_rg r14 (by decide)) dX12_horseSum_21 ?_
        refine lv_topi (fun x15 e16 => ?_)
        refine lv_iadd hx hb dX12_horseSum_22 ?_
        refine lv_topi (fun x17 e18 => ?_)
        have r19 : rg x17 0 990 := (hs_step hL99 hp1 (r8 : rg a3 0 7) v5 e10 e13 e16 e18).1
        refine lv_istore_n (lv' := [(2, .int x17), (0, .ref (ad 0)), (1, .int p1), (3, .int a3)]) hx hb dX12_horseSum_23 rfl hl (by decide) rfl (fun ls hl => ?_)
        obtain ⟨x20, e21⟩ : ∃ y : Int32, y = a3 + 1 := ⟨_, rfl⟩
        have r22 : rg x20 1 8 := rg_add e21 r8 (rg_k (by decide) : rg 1 1 1) (by decide)
        refine lv_iinc (v := x20) (lv' := [(3, .int x20), (2, .int x17), (0, .ref (ad 0)), (1, .int p1)]) hx hb dX12_horseSum_24 hl (k := 3) rfl (by rw [e21]; rfl) (by decide) rfl (fun ls hl => ?_)
        refine lv_goto (tgt := 4) hx hb dX12_horseSum_27 (by decide) ?_
        exact ih4 (x17) (x20) H locs ls (by have h0 : (1 : Int32).toInt = 1 := rfl; have h1 := ti_addk e21 r8 (by decide); have h2 : rg x20 0 8 := (rg_w r22 (by decide)); unfold rg at h2; omega) r19 (rg_w r22 (by decide)) ((hs_step hL99 hp1 (r8 : rg a3 0 7) v5 e10 e13 e16 e18).2 _ e21) hP hD hS (lv_sub hl [2, 3, 1, 0] rfl)
  exact J4 _ (0) (0) H locs ls (Nat.lt_succ_self _) (rg_k (by decide)) (rg_k (by decide)) rfl hP hD hS (lv_sub hl [2, 3, 1, 0] rfl)
abbrev rm_X12_smithSum_0_e : Room := { frames := 0, cells := 0, slots := 0, locals := 0 }
set_option maxHeartbeats 4000000 in
set_option maxRecDepth 100000 in
theorem c_X12_smithSum_0_e (l : Launch) (D : va_G) (cA : Nat → ClassId) (sz : Nat) (ad : Nat → Nat) (F : Nat → Int32) (L : Nat → Int64) (A : Nat → Nat → Int32) (B : Nat → Nat → Int64) (p1 : Int32) (hT : typM F A) (hp1 : rg p1 0 7) (hL99 : ok99 (A 16)) : Met l yX12_smithSum (Cond.code yX12_smithSum cX12_smithSum 4 (some .int) :: GW) rm_X12_smithSum_0_e (mPc D classes (tysM cA) (wM cA ad F L A B) sz [.ref (ad 0), .int p1]) (mQi (S := Unit) D classes (tysM cA) (wM cA ad F L A B) sz (fun _ : Unit => wM cA ad F L A B) (fun r u => rg r 0 990 ∧ (r.toInt = (rowS (A 16) p1.toNatClampNeg : Nat)))) 0 0 (va_A (wM cA ad F L A B) sz) := by
  refine met_i (own := "ShoeingDayModel") (by decide +kernel) rfl (Nat.le_of_ble_eq_true rfl) ?_
  intro p e s m args below meth c Q Af ls hC hP hD hS hA hl hret
  have hx := hC.1
  have hb := hC.2.1
  have hown := hC.2.2.2.1
  have hg := hC.g
  have hK := hC.K
  have hl : lv_has ls 4 [(0, .ref (ad 0)), (1, .int p1)] := hl
  have hq : qM [] [] F A F A := qM.rf hT
  obtain ⟨H, hH⟩ : ∃ H, H = s.heap := ⟨_, rfl⟩
  have hP : va_P D classes (wM cA ad F L A B) H := by rw [hH]; exact hP
  have hS : va_S Af s.heap H [] := by rw [hH]; exact hS
  obtain ⟨locs, hlo⟩ : ∃ q : List Loc, q = [] := ⟨_, rfl⟩
  rw [← hH, ← hlo]
  rw [← hlo] at hS
  refine lv_iconst (v := 0) hx hb dX12_smithSum_0 (by decide) ?_
  refine lv_istore_n (lv' := [(2, .int 0), (0, .ref (ad 0)), (1, .int p1)]) hx hb dX12_smithSum_1 rfl hl (by decide) rfl (fun ls hl => ?_)
  refine lv_iconst (v := 0) hx hb dX12_smithSum_2 (by decide) ?_
  refine lv_istore_n (lv' := [(3, .int 0), (2, .int 0), (0, .ref (ad 0)), (1, .int p1)]) hx hb dX12_smithSum_3 rfl hl (by decide) rfl (fun ls hl => ?_)
  have J4 : ∀ (n4 : Nat) (a1 : Int32) (a3 : Int32) (H : Heap) (locs : List Loc) (ls : Array Slot), (10 - a3.toInt).toNat < n4 → rg a1 0 990 → rg a3 0 10 → (a1.toInt = (sm (lk (A 16) p1.toNatClampNeg) (a3).toNatClampNeg : Nat)) → va_P D classes (wM cA ad F L A B) H → va_D Af (wM cA ad F L A B) → va_S Af s.heap H locs → lv_has ls 4 [(0, .ref (ad 0)), (1, .int p1), (2, .int a1), (3, .int a3)] → W p l e rm_X12_smithSum_0_e s m args below meth c H locs 0 0 Q (F0 m 4 ls []) := by
    intro n4
    induction n4 with
    | zero =>
      intro _ _ _ _ _ hn
      exact absurd hn (Nat.not_lt_zero _)
    | succ n4 ih4 =>
      intro a1 a3 H locs ls hn4 r2 r4 v5 hP hD hS hl
      refine lv_iload_n hx hb dX12_smithSum_4 rfl (lv_at hl 3 rfl) ?_
      refine lv_bipush (v := 10) hx hb dX12_smithSum_5 (by decide) ?_
      refine lv_icmp_ge (tgt := 30) hx hb dX12_smithSum_7 (by decide) (fun c6 => ?_) (fun c6 => ?_)
      · skip
        have r7 : rg a3 10 10 := rg_le2 (iE c6) ((rg_k (by decide)) : rg 10 10 10) (r4 : rg a3 0 10)
        refine lv_iload_n hx hb dX12_smithSum_30 rfl (lv_at hl 2 rfl) ?_
        exact hret (a1) () H locs 31 ls rfl dX12_smithSum_31 hP hD hS ⟨r2, (ss_end (n := 10) v5 (by have := (r7 : rg a3 10 10).1; omega) (by have := (r7 : rg a3 10 10).2; omega))⟩
      · skip
        have r8 : rg a3 0 9 := rg_lt1 (iNE c6) (r4 : rg a3 0 10) ((rg_k (by decide)) : rg 10 10 10)
        refine lv_iload_n hx hb dX12_smithSum_10 rfl (lv_at hl 2 rfl) ?_
        refine lv_aload_n hx hb dX12_smithSum_11 rfl (lv_at hl 0 rfl) ?_
        refine va_get (ci := 12) (v := .ref (ad 16)) (C := RX12) (T := TX12) (N := 57) hx hb hg inX12 hown hK hP 0 atM_0 rfl 26 (by decide) (hg _ mw_1134) (fun _ h9 => h9) rfl dX12_smithSum_12 ?_
        refine lv_bipush (v := 10) hx hb dX12_smithSum_15 (by decide) ?_
        refine lv_iload_n hx hb dX12_smithSum_17 rfl (lv_at hl 1 rfl) ?_
        refine lv_imul hx hb dX12_smithSum_18 ?_
        refine lv_topi (fun x9 e10 => ?_)
        have r11 : rg x9 0 70 := rg_mul e10 ((rg_k (by decide)) : rg 10 10 10) hp1 (by decide)
        refine lv_iload_n hx hb dX12_smithSum_19 rfl (lv_at hl 3 rfl) ?_
        refine lv_iadd hx hb dX12_smithSum_20 ?_
        refine lv_topi (fun x12 e13 => ?_)
        have r14 : rg x12 0 79 := rg_add e13 r11 r8 (by decide)
        refine va_iald hx hb hK hP 16 15 atM_16 tyM_16 (in_rg r14 (by decide)) dX12_smithSum_21 ?_
        refine lv_topi (fun x15 e16 => ?_)
        refine lv_iadd hx hb dX12_smithSum_22 ?_
        refine lv_topi (fun x17 e18 => ?_)
        have r19 : rg x17 0 990 := (ss_step hL99 hp1 (r8 : rg a3 0 9) v5 e10 e13 e16 e18).1
        refine lv_istore_n (lv' := [(2, .int x17), (0, .ref (ad 0)), (1, .int p1), (3, .int a3)]) hx hb dX12_smithSum_23 rfl hl (by decide) rfl (fun ls hl => ?_)
        obtain ⟨x20, e21⟩ : ∃ y : Int32, y = a3 + 1 := ⟨_, rfl⟩
        have r22 : rg x20 1 10 := rg_add e21 r8 (rg_k (by decide) : rg 1 1 1) (by decide)
        refine lv_iinc (v := x20) (lv' := [(3, .int x20), (2, .int x17), (0, .ref (ad 0)), (1, .int p1)]) hx hb dX12_smithSum_24 hl (k := 3) rfl (by rw [e21]; rfl) (by decide) rfl (fun ls hl => ?_)
        refine lv_goto (tgt := 4) hx hb dX12_smithSum_27 (by decide) ?_
        exact ih4 (x17) (x20) H locs ls (by have h0 : (1 : Int32).toInt = 1 := rfl; have h1 := ti_addk e21 r8 (by decide); have h2 : rg x20 0 10 := (rg_w r22 (by decide)); unfold rg at h2; omega) r19 (rg_w r22 (by decide)) ((ss_step hL99 hp1 (r8 : rg a3 0 9) v5 e10 e13 e16 e18).2 _ e21) hP hD hS (lv_sub hl [2, 3, 1, 0] rfl)
  exact J4 _ (0) (0) H locs ls (Nat.lt_succ_self _) (rg_k (by decide)) (rg_k (by decide)) rfl hP hD hS (lv_sub hl [2, 3, 1, 0] rfl)
abbrev rm_X12_leastOf_0_e : Room := { frames := 1, cells := 0, slots := 0, locals := 23 }
set_option maxHeartbeats 4000000 in
set_option maxRecDepth 100000 in
theorem c_X12_leastOf_0_e (l : Launch) (D : va_G) (cA : Nat → ClassId) (sz : Nat) (ad : Nat → Nat) (F : Nat → Int32) (L : Nat → Int64) (A : Nat → Nat → Int32) (B : Nat → Nat → Int64)  (hT : typM F A) (hL99 : ok99 (A 16)) : Met l yX12_leastOf (Cond.code yX12_leastOf cX12_leastOf 3 (some .int) :: GW) rm_X12_leastOf_0_e (mPc D classes (tysM cA) (wM cA ad F L A B) sz [.ref (ad 0)]) (mQi (S := Unit) D classes (tysM cA) (wM cA ad F L A B) sz (fun _ : Unit => wM cA ad F L A B) (fun r u => rg r 0 990 ∧ (isL (A 16) r.toInt.toNat))) 0 0 (va_A (wM cA ad F L A B) sz) := by
  refine met_i (own := "ShoeingDayModel") (by decide +kernel) rfl (Nat.le_of_ble_eq_true rfl) ?_
  intro p e s m args below meth c Q Af ls hC hP hD hS hA hl hret
  have hx := hC.1
  have hb := hC.2.1
  have hown := hC.2.2.2.1
  have hg := hC.g
  have hK := hC.K
  have hl : lv_has ls 3 [(0, .ref (ad 0))] := hl
  have hq : qM [] [] F A F A := qM.rf hT
  obtain ⟨H, hH⟩ : ∃ H, H = s.heap := ⟨_, rfl⟩
  have hP : va_P D classes (wM cA ad F L A B) H := by rw [hH]; exact hP
  have hS : va_S Af s.heap H [] := by rw [hH]; exact hS
  obtain ⟨locs, hlo⟩ : ∃ q : List Loc, q = [] := ⟨_, rfl⟩
  rw [← hH, ← hlo]
  rw [← hlo] at hS
  refine lv_iconst (v := 0) hx hb dX12_leastOf_0 (by decide) ?_
  refine lv_istore_n (lv' := [(1, .int 0), (0, .ref (ad 0))]) hx hb dX12_leastOf_1 rfl hl (by decide) rfl (fun ls hl => ?_)
  refine lv_iconst (v := 0) hx hb dX12_leastOf_2 (by decide) ?_
  refine lv_istore_n (lv' := [(2, .int 0), (1, .int 0), (0, .ref (ad 0))]) hx hb dX12_leastOf_3 rfl hl (by decide) rfl (fun ls hl => ?_)
  have J4 : ∀ (n4 : Nat) (a1 : Int32) (a3 : Int32) (H : Heap) (locs : List Loc) (ls : Array Slot), (8 - a3.toInt).toNat < n4 → rg a1 0 990 → rg a3 0 8 → (lsA (A 16) a1 a3.toInt 0) → va_P D classes (wM cA ad F L A B) H → va_D Af (wM cA ad F L A B) → va_S Af s.heap H locs → lv_has ls 3 [(0, .ref (ad 0)), (1, .int a1), (2, .int a3)] → W p l e rm_X12_leastOf_0_e s m args below meth c H locs 0 0 Q (F0 m 4 ls []) := by
    intro n4
    induction n4 with
    | zero =>
      intro _ _ _ _ _ hn
      exact absurd hn (Nat.not_lt_zero _)
    | succ n4 ih4 =>
      intro a1 a3 H locs ls hn4 r2 r4 v5 hP hD hS hl
      refine lv_iload_n hx hb dX12_leastOf_4 rfl (lv_at hl 2 rfl) ?_
      refine lv_bipush (v := 8) hx hb dX12_leastOf_5 (by decide) ?_
      refine lv_icmp_ge (tgt := 31) hx hb dX12_leastOf_7 (by decide) (fun c6 => ?_) (fun c6 => ?_)
      · skip
        have r7 : rg a3 8 8 := rg_le2 (iE c6) ((rg_k (by decide)) : rg 8 8 8) (r4 : rg a3 0 8)
        refine lv_iconst (v := 0) hx hb dX12_leastOf_31 (by decide) ?_
        refine lv_istore_n (lv' := [(2, .int 0), (0, .ref (ad 0)), (1, .int a1)]) hx hb dX12_leastOf_32 rfl hl (by decide) rfl (fun ls hl => ?_)
        have J33 : ∀ (n33 : Nat) (a9 : Int32) (a11 : Int32) (H : Heap) (locs : List Loc) (ls : Array Slot), (10 - a11.toInt).toNat < n33 → rg a9 0 990 → rg a11 0 10 → (lsA (A 16) a9 8 a11.toInt) → va_P D classes (wM cA ad F L A B) H → va_D Af (wM cA ad F L A B) → va_S Af s.heap H locs → lv_has ls 3 [(0, .ref (ad 0)), (1, .int a9), (2, .int a11)] → W p l e rm_X12_leastOf_0_e s m args below meth c H locs 0 0 Q (F0 m 33 ls []) := by
          intro n33
          induction n33 with
          | zero =>
            intro _ _ _ _ _ hn
            exact absurd hn (Nat.not_lt_zero _)
          | succ n33 ih33 =>
            intro a9 a11 H locs ls hn33 r10 r12 v13 hP hD hS hl
            refine lv_iload_n hx hb dX12_leastOf_33 rfl (lv_at hl 2 rfl) ?_
            refine lv_bipush (v := 10) hx hb dX12_leastOf_34 (by decide) ?_
            refine lv_icmp_ge (tgt := 60) hx hb dX12_leastOf_36 (by decide) (fun c14 => ?_) (fun c14 => ?_)
            · skip
              have r15 : rg a11 10 10 := rg_le2 (iE c14) ((rg_k (by decide)) : rg 10 10 10) (r12 : rg a11 0 10)
              refine lv_iload_n hx hb dX12_leastOf_60 rfl (lv_at hl 1 rfl) ?_
              exact hret (a9) () H locs 61 ls rfl dX12_leastOf_61 hP hD hS ⟨r10, (ls_end v13 (by have := (r15 : rg a11 10 10).1; omega) (r10 : rg a9 0 990).1)⟩
            · skip
              have r16 : rg a11 0 9 := rg_lt1 (iNE c14) (r12 : rg a11 0 10) ((rg_k (by decide)) : rg 10 10 10)
              refine lv_aload_n hx hb dX12_leastOf_39 rfl (lv_at hl 0 rfl) ?_
              refine lv_iload_n hx hb dX12_leastOf_40 rfl (lv_at hl 2 rfl) ?_
              refine callv_i (As := [.int a11]) (rest := []) hC (c_X12_horseSum_0_e l D cA H.size ad F L A B (a11) hq.1 r16 hL99) (cwV 1 hg (g_V mw_1411 mw_1408 mw_1410 ms_71 mw_20) rfl rfl rfl (by decide +kernel) ⟨(Nat.le_of_ble_eq_true rfl), (Nat.le_of_ble_eq_true rfl)⟩) hP hD hS hA atM_0 rfl rfl hl.1 rfl (Nat.le_of_ble_eq_true rfl) dX12_leastOf_41 ⟨Nat.zero_le _, Nat.zero_le _⟩ (fun x17 u H locs hw hP hD hS => ?_)
              obtain ⟨r18, g19⟩ := hw
              have hP : va_P D classes (wM cA ad F L A B) H := hP
              have hD : va_D Af (wM cA ad F L A B) := hD
              refine lv_iload_n hx hb dX12_leastOf_44 rfl (lv_at hl 1 rfl) ?_
              have J54 : ∀ (a20 : Int32) (H : Heap) (locs : List Loc) (ls : Array Slot), rg a20 0 990 → (lsA (A 16) a20 8 (a11.toInt + 1)) → va_P D classes (wM cA ad F L A B) H → va_D Af (wM cA ad F L A B) → va_S Af s.heap H locs → lv_has ls 3 [(0, .ref (ad 0)), (1, .int a20), (2, .int a11)] → W p l e rm_X12_leastOf_0_e s m args below meth c H locs 0 0 Q (F0 m 54 ls []) := by
                intro a20 H locs ls r21 v22 hP hD hS hl
                obtain ⟨x23, e24⟩ : ∃ y : Int32, y = a11 + 1 := ⟨_, rfl⟩
                have r25 : rg x23 1 10 := rg_add e24 r16 (rg_k (by decide) : rg 1 1 1) (by decide)
                refine lv_iinc (v := x23) (lv' := [(2, .int x23), (0, .ref (ad 0)), (1, .int a20)]) hx hb dX12_leastOf_54 hl (k := 2) rfl (by rw [e24]; rfl) (by decide) rfl (fun ls hl => ?_)
                refine lv_goto (tgt := 33) hx hb dX12_leastOf_57 (by decide) ?_
                exact ih33 (a20) (x23) H locs ls (by have h0 : (1 : Int32).toInt = 1 := rfl; have h1 := ti_addk e24 r16 (by decide); have h2 : rg x23 0 10 := (rg_w r25 (by decide)); unfold rg at h2; omega) r21 (rg_w r25 (by decide)) (by rw [(inc_nat (r16 : rg a11 0 9) (by decide) e24).2]; exact v22) hP hD hS (lv_sub hl [1, 2, 0] rfl)
              refine lv_icmp_le (tgt := 54) hx hb dX12_leastOf_45 (by decide) (fun c26 => ?_) (fun c26 => ?_)
              · skip
                exact J54 (a9) H locs ls r10 (ls_c0 v13 (r16 : rg a11 0 9) g19 (iE c26)) hP hD hS (lv_sub hl [0, 1, 2] rfl)
              · skip
                have r27 : rg a9 0 989 := rg_lt1 (iNE c26) (r10 : rg a9 0 990) (r18 : rg x17 0 990)
                have r28 : rg x17 1 990 := rg_lt2 (iNE c26) (r10 : rg a9 0 990) (r18 : rg x17 0 990)
                refine lv_aload_n hx hb dX12_leastOf_48 rfl (lv_at hl 0 rfl) ?_
                refine lv_iload_n hx hb dX12_leastOf_49 rfl (lv_at hl 2 rfl) ?_
                refine callv_i (As := [.int a11]) (rest := []) hC (c_X12_horseSum_0_e l D cA H.size ad F L A B (a11) hq.1 r16 hL99) (cwV 1 hg (g_V mw_1411 mw_1408 mw_1410 ms_71 mw_20) rfl rfl rfl (by decide +kernel) ⟨(Nat.le_of_ble_eq_true rfl), (Nat.le_of_ble_eq_true rfl)⟩) hP hD hS hA atM_0 rfl rfl hl.1 rfl (Nat.le_of_ble_eq_true rfl) dX12_leastOf_50 ⟨Nat.zero_le _, Nat.zero_le _⟩ (fun x29 u H locs hw hP hD hS => ?_)
                obtain ⟨r30, g31⟩ := hw
                have hP : va_P D classes (wM cA ad F L A B) H := hP
                have hD : va_D Af (wM cA ad F L A B) := hD
                refine lv_istore_n (lv' := [(1, .int x29), (0, .ref (ad 0)), (2, .int a11)]) hx hb dX12_leastOf_53 rfl hl (by decide) rfl (fun ls hl => ?_)
                exact J54 (x29) H locs ls r30 (ls_c1 v13 (r16 : rg a11 0 9) g19 g31 (iNE c26)) hP hD hS (lv_sub hl [1, 0, 2] rfl)
        exact J33 _ (a1) (0) H locs ls (Nat.lt_succ_self _) r2 (rg_k (by decide)) (ls_mid v5 (by have := (r7 : rg a3 8 8).1; omega)) hP hD hS (lv_sub hl [1, 2, 0] rfl)
      · skip
        have r8 : rg a3 0 7 := rg_lt1 (iNE c6) (r4 : rg a3 0 8) ((rg_k (by decide)) : rg 8 8 8)
        refine lv_aload_n hx hb dX12_leastOf_10 rfl (lv_at hl 0 rfl) ?_
        refine lv_iload_n hx hb dX12_leastOf_11 rfl (lv_at hl 2 rfl) ?_
        refine callv_i (As := [.int a3]) (rest := []) hC (c_X12_smithSum_0_e l D cA H.size ad F L A B (a3) hq.1 r8 hL99) (cwV 1 hg (g_V mw_1415 mw_1412 mw_1414 ms_72 mw_20) rfl rfl rfl (by decide +kernel) ⟨(Nat.le_of_ble_eq_true rfl), (Nat.le_of_ble_eq_true rfl)⟩) hP hD hS hA atM_0 rfl rfl hl.1 rfl (Nat.le_of_ble_eq_true rfl) dX12_leastOf_12 ⟨Nat.zero_le _, Nat.zero_le _⟩ (fun x32 u H locs hw hP hD hS => ?_)
        obtain ⟨r33, g34⟩ := hw
        have hP : va_P D classes (wM cA ad F L A B) H := hP
        have hD : va_D Af (wM cA ad F L A B) := hD
        refine lv_iload_n hx hb dX12_leastOf_15 rfl (lv_at hl 1 rfl) ?_
        have J25 : ∀ (a35 : Int32) (H : Heap) (locs : List Loc) (ls : Array Slot), rg a35 0 990 → (lsA (A 16) a35 (a3.toInt + 1) 0) → va_P D classes (wM cA ad F L A B) H → va_D Af (wM cA ad F L A B) → va_S Af s.heap H locs → lv_has ls 3 [(0, .ref (ad 0)), (1, .int a35), (2, .int a3)] → W p l e rm_X12_leastOf_0_e s m args below meth c H locs 0 0 Q (F0 m 25 ls []) := by
          intro a35 H locs ls r36 v37 hP hD hS hl
          obtain ⟨x38, e39⟩ : ∃ y : Int32, y = a3 + 1 := ⟨_, rfl⟩
          have r40 : rg x38 1 8 := rg_add e39 r8 (rg_k (by decide) : rg 1 1 1) (by decide)
          refine lv_iinc (v := x38) (lv' := [(2, .int x38), (0, .ref (ad 0)), (1, .int a35)]) hx hb dX12_leastOf_25 hl (k := 2) rfl (by rw [e39]; rfl) (by decide) rfl (fun ls hl => ?_)
          refine lv_goto (tgt := 4) hx hb dX12_leastOf_28 (by decide) ?_
          exact ih4 (a35) (x38) H locs ls (by have h0 : (1 : Int32).toInt = 1 := rfl; have h1 := ti_addk e39 r8 (by decide); have h2 : rg x38 0 8 := (rg_w r40 (by decide)); unfold rg at h2; omega) r36 (rg_w r40 (by decide)) (by rw [(inc_nat (r8 : rg a3 0 7) (by decide) e39).2]; exact v37) hP hD hS (lv_sub hl [1, 2, 0] rfl)
        refine lv_icmp_le (tgt := 25) hx hb dX12_leastOf_16 (by decide) (fun c41 => ?_) (fun c41 => ?_)
        · skip
          exact J25 (a1) H locs ls r2 (ls_r0 v5 (r8 : rg a3 0 7) g34 (iE c41)) hP hD hS (lv_sub hl [0, 1, 2] rfl)
        · skip
          have r42 : rg a1 0 989 := rg_lt1 (iNE c41) (r2 : rg a1 0 990) (r33 : rg x32 0 990)
          have r43 : rg x32 1 990 := rg_lt2 (iNE c41) (r2 : rg a1 0 990) (r33 : rg x32 0 990)
          refine lv_aload_n hx hb dX12_leastOf_19 rfl (lv_at hl 0 rfl) ?_
          refine lv_iload_n hx hb dX12_leastOf_20 rfl (lv_at hl 2 rfl) ?_
          refine callv_i (As := [.int a3]) (rest := []) hC (c_X12_smithSum_0_e l D cA H.size ad F L A B (a3) hq.1 r8 hL99) (cwV 1 hg (g_V mw_1415 mw_1412 mw_1414 ms_72 mw_20) rfl rfl rfl (by decide +kernel) ⟨(Nat.le_of_ble_eq_true rfl), (Nat.le_of_ble_eq_true rfl)⟩) hP hD hS hA atM_0 rfl rfl hl.1 rfl (Nat.le_of_ble_eq_true rfl) dX12_leastOf_21 ⟨Nat.zero_le _, Nat.zero_le _⟩ (fun x44 u H locs hw hP hD hS => ?_)
          obtain ⟨r45, g46⟩ := hw
          have hP : va_P D classes (wM cA ad F L A B) H := hP
          have hD : va_D Af (wM cA ad F L A B) := hD
          refine lv_istore_n (lv' := [(1, .int x44), (0, .ref (ad 0)), (2, .int a3)]) hx hb dX12_leastOf_24 rfl hl (by decide) rfl (fun ls hl => ?_)
          exact J25 (x44) H locs ls r45 (ls_r1 v5 (r8 : rg a3 0 7) g34 g46 (iNE c41)) hP hD hS (lv_sub hl [1, 0, 2] rfl)
  exact J4 _ (0) (0) H locs ls (Nat.lt_succ_self _) (rg_k (by decide)) (rg_k (by decide)) ls_0 hP hD hS (lv_sub hl [2, 1, 0] rfl)
abbrev rm_X12_busyHorses_0_e : Room := { frames := 2, cells := 0, slots := 0, locals := 45 }
set_option maxHeartbeats 4000000 in
set_option maxRecDepth 100000 in
theorem c_X12_busyHorses_0_e (l : Launch) (D : va_G) (cA : Nat → ClassId) (sz : Nat) (ad : Nat → Nat) (F : Nat → Int32) (L : Nat → Int64) (A : Nat → Nat → Int32) (B : Nat → Nat → Int64)  (hT : typM F A) (hL99 : ok99 (A 16)) : Met l yX12_busyHorses (Cond.code yX12_busyHorses cX12_busyHorses 4 (some .int) :: GW) rm_X12_busyHorses_0_e (mPc D classes (tysM cA) (wM cA ad F L A B) sz [.ref (ad 0)]) (mQi (S := Unit) D classes (tysM cA) (wM cA ad F L A B) sz (fun _ : Unit => wM cA ad F L A B) (fun r u => rg r 0 1023 ∧ (∃ m : Int32, isL (A 16) m.toInt.toNat ∧ 0 ≤ m.toInt ∧ bM (colS (A 16)) r m (A 4 (F 8).toNatClampNeg).toInt))) 0 0 (va_A (wM cA ad F L A B) sz) := by
  refine met_i (own := "ShoeingDayModel") (by decide +kernel) rfl (Nat.le_of_ble_eq_true rfl) ?_
  intro p e s m args below meth c Q Af ls hC hP hD hS hA hl hret
  have hx := hC.1
  have hb := hC.2.1
  have hown := hC.2.2.2.1
  have hg := hC.g
  have hK := hC.K
  have hl : lv_has ls 4 [(0, .ref (ad 0))] := hl
  have hq : qM [] [] F A F A := qM.rf hT
  obtain ⟨H, hH⟩ : ∃ H, H = s.heap := ⟨_, rfl⟩
  have hP : va_P D classes (wM cA ad F L A B) H := by rw [hH]; exact hP
  have hS : va_S Af s.heap H [] := by rw [hH]; exact hS
  obtain ⟨locs, hlo⟩ : ∃ q : List Loc, q = [] := ⟨_, rfl⟩
  rw [← hH, ← hlo]
  rw [← hlo] at hS
  refine lv_iconst (v := 0) hx hb dX12_busyHorses_0 (by decide) ?_
  refine lv_istore_n (lv' := [(1, .int 0), (0, .ref (ad 0))]) hx hb dX12_busyHorses_1 rfl hl (by decide) rfl (fun ls hl => ?_)
  refine lv_aload_n hx hb dX12_busyHorses_2 rfl (lv_at hl 1 rfl) ?_
  refine callv_i (As := []) (rest := []) hC (c_X12_leastOf_0_e l D cA H.size ad F L A B  hq.1 hL99) (cwV 0 hg (g_V mw_1423 mw_1420 mw_1422 ms_73 mw_20) rfl rfl rfl (by decide +kernel) ⟨(Nat.le_of_ble_eq_true rfl), (Nat.le_of_ble_eq_true rfl)⟩) hP hD hS hA atM_0 rfl rfl hl.1 rfl (Nat.le_of_ble_eq_true rfl) dX12_busyHorses_3 ⟨Nat.zero_le _, Nat.zero_le _⟩ (fun x1 u H locs hw hP hD hS => ?_)
  obtain ⟨r2, g3⟩ := hw
  have hP : va_P D classes (wM cA ad F L A B) H := hP
  have hD : va_D Af (wM cA ad F L A B) := hD
  refine lv_istore_n (lv' := [(2, .int x1), (1, .int 0), (0, .ref (ad 0))]) hx hb dX12_busyHorses_6 rfl hl (by decide) rfl (fun ls hl => ?_)
  refine lv_iconst (v := 0) hx hb dX12_busyHorses_7 (by decide) ?_
  refine lv_istore_n (lv' := [(3, .int 0), (2, .int x1), (1, .int 0), (0, .ref (ad 0))]) hx hb dX12_busyHorses_8 rfl hl (by decide) rfl (fun ls hl => ?_)
  have J9 : ∀ (n9 : Nat) (a4 : Int32) (a6 : Int32) (H : Heap) (locs : List Loc) (ls : Array Slot), (10 - a6.toInt).toNat < n9 → rg a4 0 1023 → rg a6 0 10 → (bM (colS (A 16)) a4 x1 a6.toInt ∧ a6.toInt ≤ (A 4 (F 8).toNatClampNeg).toInt) → va_P D classes (wM cA ad F L A B) H → va_D Af (wM cA ad F L A B) → va_S Af s.heap H locs → lv_has ls 4 [(0, .ref (ad 0)), (1, .int a4), (2, .int x1), (3, .int a6)] → W p l e rm_X12_busyHorses_0_e s m args below meth c H locs 0 0 Q (F0 m 9 ls []) := by
    intro n9
    induction n9 with
    | zero =>
      intro _ _ _ _ _ hn
      exact absurd hn (Nat.not_lt_zero _)
    | succ n9 ih9 =>
      intro a4 a6 H locs ls hn9 r5 r7 v8 hP hD hS hl
      refine lv_iload_n hx hb dX12_busyHorses_9 rfl (lv_at hl 3 rfl) ?_
      refine lv_aload_n hx hb dX12_busyHorses_10 rfl (lv_at hl 0 rfl) ?_
      refine callv_i (As := []) (rest := [.int a6]) hC (c_X12_horseMany_0 l D cA H.size ad F L A B  hq.1) (cwV 0 hg (g_V mw_1399 mw_1396 mw_1398 ms_69 mw_20) rfl rfl rfl (by decide +kernel) ⟨(Nat.le_of_ble_eq_true rfl), (Nat.le_of_ble_eq_true rfl)⟩) hP hD hS hA atM_0 rfl rfl hl.1 rfl (Nat.le_of_ble_eq_true rfl) dX12_busyHorses_11 ⟨Nat.zero_le _, Nat.zero_le _⟩ (fun x9 u H locs hw hP hD hS => ?_)
      obtain ⟨r10, g11⟩ := hw
      have hP : va_P D classes (wM cA ad F L A B) H := hP
      have hD : va_D Af (wM cA ad F L A B) := hD
      refine lv_icmp_ge (tgt := 42) hx hb dX12_busyHorses_14 (by decide) (fun c12 => ?_) (fun c12 => ?_)
      · skip
        refine lv_iload_n hx hb dX12_busyHorses_42 rfl (lv_at hl 1 rfl) ?_
        exact hret (a4) () H locs 43 ls rfl dX12_busyHorses_43 hP hD hS ⟨r5, ⟨_, g3, (r2 : rg x1 0 990).1, bM_end v8.1 v8.2 (by have := congrArg Int32.toInt g11; have := (iE c12); omega)⟩⟩
      · skip
        have r13 : rg a6 0 9 := rg_lt1 (iNE c12) (r7 : rg a6 0 10) (r10 : rg x9 0 10)
        have r14 : rg x9 1 10 := rg_lt2 (iNE c12) (r7 : rg a6 0 10) (r10 : rg x9 0 10)
        refine lv_iload_n hx hb dX12_busyHorses_17 rfl (lv_at hl 1 rfl) ?_
        refine lv_aload_n hx hb dX12_busyHorses_18 rfl (lv_at hl 0 rfl) ?_
        refine lv_iload_n hx hb dX12_busyHorses_19 rfl (lv_at hl 3 rfl) ?_
        refine callv_i (As := [.int a6]) (rest := [.int a4]) hC (c_X12_horseSum_0_e l D cA H.size ad F L A B (a6) hq.1 r13 hL99) (cwV 1 hg (g_V mw_1411 mw_1408 mw_1410 ms_71 mw_20) rfl rfl rfl (by decide +kernel) ⟨(Nat.le_of_ble_eq_true rfl), (Nat.le_of_ble_eq_true rfl)⟩) hP hD hS hA atM_0 rfl rfl hl.1 rfl (Nat.le_of_ble_eq_true rfl) dX12_busyHorses_20 ⟨Nat.zero_le _, Nat.zero_le _⟩ (fun x15 u H locs hw hP hD hS => ?_)
        obtain ⟨r16, g17⟩ := hw
        have hP : va_P D classes (wM cA ad F L A B) H := hP
        have hD : va_D Af (wM cA ad F L A B) := hD
        refine lv_iload_n hx hb dX12_busyHorses_23 rfl (lv_at hl 2 rfl) ?_
        have J34 : ∀ (a18 : Int32) (H : Heap) (locs : List Loc) (ls : Array Slot), rg a18 0 512 → ((a18 = 1 <<< (a6 &&& 31) ∧ ((colS (A 16)) a6.toNatClampNeg : Int) = x1.toInt) ∨ (a18 = 0 ∧ ¬ ((colS (A 16)) a6.toNatClampNeg : Int) = x1.toInt)) → va_P D classes (wM cA ad F L A B) H → va_D Af (wM cA ad F L A B) → va_S Af s.heap H locs → lv_has ls 4 [(0, .ref (ad 0)), (2, .int x1), (3, .int a6)] → W p l e rm_X12_busyHorses_0_e s m args below meth c H locs 0 0 Q (F0 m 34 ls [.int a18, .int a4]) := by
          intro a18 H locs ls r19 v20 hP hD hS hl
          refine lv_ior hx hb dX12_busyHorses_34 ?_
          refine lv_topi (fun x21 e22 => ?_)
          have r23 : rg x21 0 1023 := rg_or 10 e22 r5 r19 (by decide)
          refine lv_istore_n (lv' := [(1, .int x21), (0, .ref (ad 0)), (2, .int x1), (3, .int a6)]) hx hb dX12_busyHorses_35 rfl hl (by decide) rfl (fun ls hl => ?_)
          obtain ⟨x24, e25⟩ : ∃ y : Int32, y = a6 + 1 := ⟨_, rfl⟩
          have r26 : rg x24 1 10 := rg_add e25 r13 (rg_k (by decide) : rg 1 1 1) (by decide)
          refine lv_iinc (v := x24) (lv' := [(3, .int x24), (1, .int x21), (0, .ref (ad 0)), (2, .int x1)]) hx hb dX12_busyHorses_36 hl (k := 3) rfl (by rw [e25]; rfl) (by decide) rfl (fun ls hl => ?_)
          refine lv_goto (tgt := 9) hx hb dX12_busyHorses_39 (by decide) ?_
          exact ih9 (x21) (x24) H locs ls (by have h0 : (1 : Int32).toInt = 1 := rfl; have h1 := ti_addk e25 r13 (by decide); have h2 : rg x24 0 10 := (rg_w r26 (by decide)); unfold rg at h2; omega) r23 (rg_w r26 (by decide)) ⟨bM_step v8.1 (r13 : rg a6 0 9) v20 e22 e25, (by have := (inc_nat (r13 : rg a6 0 9) (by decide) e25).2; have := congrArg Int32.toInt g11; have := (iNE c12); omega)⟩ hP hD hS (lv_sub hl [2, 1, 3, 0] rfl)
        refine lv_icmp_ne (tgt := 33) hx hb dX12_busyHorses_24 (by decide) (fun c27 => ?_) (fun c27 => ?_)
        · skip
          refine lv_iconst (v := 0) hx hb dX12_busyHorses_33 (by decide) ?_
          exact J34 (0) H locs ls (rg_k (by decide)) (Or.inr ⟨rfl, fun h9 => c27 (Int32.toInt_inj.mp ((g17).trans h9))⟩) hP hD hS (lv_sub hl [0, 2, 3] rfl)
        · skip
          refine lv_iconst (v := 1) hx hb dX12_busyHorses_27 (by decide) ?_
          refine lv_iload_n hx hb dX12_busyHorses_28 rfl (lv_at hl 3 rfl) ?_
          refine lv_ishl hx hb dX12_busyHorses_29 ?_
          refine lv_topi (fun x28 e29 => ?_)
          have r30 : rg x28 1 512 := rg_shl1 e29 r13 (by decide)
          refine lv_goto (tgt := 34) hx hb dX12_busyHorses_30 (by decide) ?_
          exact J34 (x28) H locs ls (rg_w r30 (by decide)) (Or.inl ⟨e29, (g17).symm.trans (congrArg Int32.toInt c27)⟩) hP hD hS (lv_sub hl [0, 2, 3] rfl)
  exact J9 _ (0) (0) H locs ls (Nat.lt_succ_self _) (rg_k (by decide)) (rg_k (by decide)) ⟨bM_0, (hq.1.2 4 _ : rg _ 0 10).1⟩ hP hD hS (lv_sub hl [3, 2, 1, 0] rfl)
abbrev rm_X12_busySmiths_0_e : Room := { frames := 2, cells := 0, slots := 0, locals := 45 }
set_option maxHeartbeats 4000000 in
set_option maxRecDepth 100000 in
theorem c_X12_busySmiths_0_e (l : Launch) (D : va_G) (cA : Nat → ClassId) (sz : Nat) (ad : Nat → Nat) (F : Nat → Int32) (L : Nat → Int64) (A : Nat → Nat → Int32) (B : Nat → Nat → Int64)  (hT : typM F A) (hL99 : ok99 (A 16)) : Met l yX12_busySmiths (Cond.code yX12_busySmiths cX12_busySmiths 4 (some .int) :: GW) rm_X12_busySmiths_0_e (mPc D classes (tysM cA) (wM cA ad F L A B) sz [.ref (ad 0)]) (mQi (S := Unit) D classes (tysM cA) (wM cA ad F L A B) sz (fun _ : Unit => wM cA ad F L A B) (fun r u => rg r 0 255 ∧ (∃ m : Int32, isL (A 16) m.toInt.toNat ∧ 0 ≤ m.toInt ∧ bM (rowS (A 16)) r m (A 3 (F 8).toNatClampNeg).toInt))) 0 0 (va_A (wM cA ad F L A B) sz) := by
  refine met_i (own := "ShoeingDayModel") (by decide +kernel) rfl (Nat.le_of_ble_eq_true rfl) ?_
  intro p e s m args below meth c Q Af ls hC hP hD hS hA hl hret
  have hx := hC.1
  have hb := hC.2.1
  have hown := hC.2.2.2.1
  have hg := hC.g
  have hK := hC.K
  have hl : lv_has ls 4 [(0, .ref (ad 0))] := hl
  have hq : qM [] [] F A F A := qM.rf hT
  obtain ⟨H, hH⟩ : ∃ H, H = s.heap := ⟨_, rfl⟩
  have hP : va_P D classes (wM cA ad F L A B) H := by rw [hH]; exact hP
  have hS : va_S Af s.heap H [] := by rw [hH]; exact hS
  obtain ⟨locs, hlo⟩ : ∃ q : List Loc, q = [] := ⟨_, rfl⟩
  rw [← hH, ← hlo]
  rw [← hlo] at hS
  refine lv_iconst (v := 0) hx hb dX12_busySmiths_0 (by decide) ?_
  refine lv_istore_n (lv' := [(1, .int 0), (0, .ref (ad 0))]) hx hb dX12_busySmiths_1 rfl hl (by decide) rfl (fun ls hl => ?_)
  refine lv_aload_n hx hb dX12_busySmiths_2 rfl (lv_at hl 1 rfl) ?_
  refine callv_i (As := []) (rest := []) hC (c_X12_leastOf_0_e l D cA H.size ad F L A B  hq.1 hL99) (cwV 0 hg (g_V mw_1423 mw_1420 mw_1422 ms_73 mw_20) rfl rfl rfl (by decide +kernel) ⟨(Nat.le_of_ble_eq_true rfl), (Nat.le_of_ble_eq_true rfl)⟩) hP hD hS hA atM_0 rfl rfl hl.1 rfl (Nat.le_of_ble_eq_true rfl) dX12_busySmiths_3 ⟨Nat.zero_le _, Nat.zero_le _⟩ (fun x1 u H locs hw hP hD hS => ?_)
  obtain ⟨r2, g3⟩ := hw
  have hP : va_P D classes (wM cA ad F L A B) H := hP
  have hD : va_D Af (wM cA ad F L A B) := hD
  refine lv_istore_n (lv' := [(2, .int x1), (1, .int 0), (0, .ref (ad 0))]) hx hb dX12_busySmiths_6 rfl hl (by decide) rfl (fun ls hl => ?_)
  refine lv_iconst (v := 0) hx hb dX12_busySmiths_7 (by decide) ?_
  refine lv_istore_n (lv' := [(3, .int 0), (2, .int x1), (1, .int 0), (0, .ref (ad 0))]) hx hb dX12_busySmiths_8 rfl hl (by decide) rfl (fun ls hl => ?_)
  have J9 : ∀ (n9 : Nat) (a4 : Int32) (a6 : Int32) (H : Heap) (locs : List Loc) (ls : Array Slot), (8 - a6.toInt).toNat < n9 → rg a4 0 255 → rg a6 0 8 → (bM (rowS (A 16)) a4 x1 a6.toInt ∧ a6.toInt ≤ (A 3 (F 8).toNatClampNeg).toInt) → va_P D classes (wM cA ad F L A B) H → va_D Af (wM cA ad F L A B) → va_S Af s.heap H locs → lv_has ls 4 [(0, .ref (ad 0)), (1, .int a4), (2, .int x1), (3, .int a6)] → W p l e rm_X12_busySmiths_0_e s m args below meth c H locs 0 0 Q (F0 m 9 ls []) := by
    intro n9
    induction n9 with
    | zero =>
      intro _ _ _ _ _ hn
      exact absurd hn (Nat.not_lt_zero _)
    | succ n9 ih9 =>
      intro a4 a6 H locs ls hn9 r5 r7 v8 hP hD hS hl
      refine lv_iload_n hx hb dX12_busySmiths_9 rfl (lv_at hl 3 rfl) ?_
      refine lv_aload_n hx hb dX12_busySmiths_10 rfl (lv_at hl 0 rfl) ?_
      refine callv_i (As := []) (rest := [.int a6]) hC (c_X12_smithMany_0 l D cA H.size ad F L A B  hq.1) (cwV 0 hg (g_V mw_1388 mw_1385 mw_1387 ms_67 mw_20) rfl rfl rfl (by decide +kernel) ⟨(Nat.le_of_ble_eq_true rfl), (Nat.le_of_ble_eq_true rfl)⟩) hP hD hS hA atM_0 rfl rfl hl.1 rfl (Nat.le_of_ble_eq_true rfl) dX12_busySmiths_11 ⟨Nat.zero_le _, Nat.zero_le _⟩ (fun x9 u H locs hw hP hD hS => ?_)
      obtain ⟨r10, g11⟩ := hw
      have hP : va_P D classes (wM cA ad F L A B) H := hP
      have hD : va_D Af (wM cA ad F L A B) := hD
      refine lv_icmp_ge (tgt := 42) hx hb dX12_busySmiths_14 (by decide) (fun c12 => ?_) (fun c12 => ?_)
      · skip
        refine lv_iload_n hx hb dX12_busySmiths_42 rfl (lv_at hl 1 rfl) ?_
        exact hret (a4) () H locs 43 ls rfl dX12_busySmiths_43 hP hD hS ⟨r5, ⟨_, g3, (r2 : rg x1 0 990).1, bM_end v8.1 v8.2 (by have := congrArg Int32.toInt g11; have := (iE c12); omega)⟩⟩
      · skip
        have r13 : rg a6 0 7 := rg_lt1 (iNE c12) (r7 : rg a6 0 8) (r10 : rg x9 0 8)
        have r14 : rg x9 1 8 := rg_lt2 (iNE c12) (r7 : rg a6 0 8) (r10 : rg x9 0 8)
        refine lv_iload_n hx hb dX12_busySmiths_17 rfl (lv_at hl 1 rfl) ?_
        refine lv_aload_n hx hb dX12_busySmiths_18 rfl (lv_at hl 0 rfl) ?_
        refine lv_iload_n hx hb dX12_busySmiths_19 rfl (lv_at hl 3 rfl) ?_
        refine callv_i (As := [.int a6]) (rest := [.int a4]) hC (c_X12_smithSum_0_e l D cA H.size ad F L A B (a6) hq.1 r13 hL99) (cwV 1 hg (g_V mw_1415 mw_1412 mw_1414 ms_72 mw_20) rfl rfl rfl (by decide +kernel) ⟨(Nat.le_of_ble_eq_true rfl), (Nat.le_of_ble_eq_true rfl)⟩) hP hD hS hA atM_0 rfl rfl hl.1 rfl (Nat.le_of_ble_eq_true rfl) dX12_busySmiths_20 ⟨Nat.zero_le _, Nat.zero_le _⟩ (fun x15 u H locs hw hP hD hS => ?_)
        obtain ⟨r16, g17⟩ := hw
        have hP : va_P D classes (wM cA ad F L A B) H := hP
        have hD : va_D Af (wM cA ad F L A B) := hD
        refine lv_iload_n hx hb dX12_busySmiths_23 rfl (lv_at hl 2 rfl) ?_
        have J34 : ∀ (a18 : Int32) (H : Heap) (locs : List Loc) (ls : Array Slot), rg a18 0 128 → ((a18 = 1 <<< (a6 &&& 31) ∧ ((rowS (A 16)) a6.toNatClampNeg : Int) = x1.toInt) ∨ (a18 = 0 ∧ ¬ ((rowS (A 16)) a6.toNatClampNeg : Int) = x1.toInt)) → va_P D classes (wM cA ad F L A B) H → va_D Af (wM cA ad F L A B) → va_S Af s.heap H locs → lv_has ls 4 [(0, .ref (ad 0)), (2, .int x1), (3, .int a6)] → W p l e rm_X12_busySmiths_0_e s m args below meth c H locs 0 0 Q (F0 m 34 ls [.int a18, .int a4]) := by
          intro a18 H locs ls r19 v20 hP hD hS hl
          refine lv_ior hx hb dX12_busySmiths_34 ?_
          refine lv_topi (fun x21 e22 => ?_)
          have r23 : rg x21 0 255 := rg_or 8 e22 r5 r19 (by decide)
          refine lv_istore_n (lv' := [(1, .int x21), (0, .ref (ad 0)), (2, .int x1), (3, .int a6)]) hx hb dX12_busySmiths_35 rfl hl (by decide) rfl (fun ls hl => ?_)
          obtain ⟨x24, e25⟩ : ∃ y : Int32, y = a6 + 1 := ⟨_, rfl⟩
          have r26 : rg x24 1 8 := rg_add e25 r13 (rg_k (by decide) : rg 1 1 1) (by decide)
          refine lv_iinc (v := x24) (lv' := [(3, .int x24), (1, .int x21), (0, .ref (ad 0)), (2, .int x1)]) hx hb dX12_busySmiths_36 hl (k := 3) rfl (by rw [e25]; rfl) (by decide) rfl (fun ls hl => ?_)
          refine lv_goto (tgt := 9) hx hb dX12_busySmiths_39 (by decide) ?_
          exact ih9 (x21) (x24) H locs ls (by have h0 : (1 : Int32).toInt = 1 := rfl; have h1 := ti_addk e25 r13 (by decide); have h2 : rg x24 0 8 := (rg_w r26 (by decide)); unfold rg at h2; omega) r23 (rg_w r26 (by decide)) ⟨bM_step v8.1 ((rg_w r13 (by decide)) : rg a6 0 9) v20 e22 e25, (by have := (inc_nat ((rg_w r13 (by decide)) : rg a6 0 9) (by decide) e25).2; have := congrArg Int32.toInt g11; have := (iNE c12); omega)⟩ hP hD hS (lv_sub hl [2, 1, 3, 0] rfl)
        refine lv_icmp_ne (tgt := 33) hx hb dX12_busySmiths_24 (by decide) (fun c27 => ?_) (fun c27 => ?_)
        · skip
          refine lv_iconst (v := 0) hx hb dX12_busySmiths_33 (by decide) ?_
          exact J34 (0) H locs ls (rg_k (by decide)) (Or.inr ⟨rfl, fun h9 => c27 (Int32.toInt_inj.mp ((g17).trans h9))⟩) hP hD hS (lv_sub hl [0, 2, 3] rfl)
        · skip
          refine lv_iconst (v := 1) hx hb dX12_busySmiths_27 (by decide) ?_
          refine lv_iload_n hx hb dX12_busySmiths_28 rfl (lv_at hl 3 rfl) ?_
          refine lv_ishl hx hb dX12_busySmiths_29 ?_
          refine lv_topi (fun x28 e29 => ?_)
          have r30 : rg x28 1 128 := rg_shl1 e29 r13 (by decide)
          refine lv_goto (tgt := 34) hx hb dX12_busySmiths_30 (by decide) ?_
          exact J34 (x28) H locs ls (rg_w r30 (by decide)) (Or.inl ⟨e29, (g17).symm.trans (congrArg Int32.toInt c27)⟩) hP hD hS (lv_sub hl [0, 2, 3] rfl)
  exact J9 _ (0) (0) H locs ls (Nat.lt_succ_self _) (rg_k (by decide)) (rg_k (by decide)) ⟨bM_0, (hq.1.2 3 _ : rg _ 0 8).1⟩ hP hD hS (lv_sub hl [3, 2, 1, 0] rfl)
abbrev rm_X12_isCovered_0 : Room := { frames := 1, cells := 0, slots := 0, locals := 22 }
set_option maxHeartbeats 4000000 in
set_option maxRecDepth 100000 in
theorem c_X12_isCovered_0 (l : Launch) (D : va_G) (cA : Nat → ClassId) (sz : Nat) (ad : Nat → Nat) (F : Nat → Int32) (L : Nat → Int64) (A : Nat → Nat → Int32) (B : Nat → Nat → Int64) (p1 : Int32) (hT : typM F A) (hp1 : rg p1 0 1023) : Met l yX12_isCovered (Cond.code yX12_isCovered cX12_isCovered 4 (some .boolean) :: GW) rm_X12_isCovered_0 (mPc D classes (tysM cA) (wM cA ad F L A B) sz [.ref (ad 0), .int p1]) (mQi (S := SW) D classes (tysM cA) (wM cA ad F L A B) sz (wfM cA ad) (fun r u => qM [] [20] F A u.1 u.2.2.1 ∧ rg r 0 1 ∧ ((r = 0 ∨ cvI (A 19) (u.2.2.1 20) p1 (p1.toInt + 1)) ∧ (r ≠ 0 ∨ cvN (A 19) p1)))) 0 0 (va_A (wM cA ad F L A B) sz) := by
  refine met_i (own := "ShoeingDayModel") (by decide +kernel) rfl (Nat.le_of_ble_eq_true rfl) ?_
  intro p e s m args below meth c Q Af ls hC hP hD hS hA hl hret
  have hx := hC.1
  have hb := hC.2.1
  have hown := hC.2.2.2.1
  have hg := hC.g
  have hK := hC.K
  have hl : lv_has ls 4 [(0, .ref (ad 0)), (1, .int p1)] := hl
  have hq : qM [] [20] F A F A := qM.rf hT
  obtain ⟨H, hH⟩ : ∃ H, H = s.heap := ⟨_, rfl⟩
  have hP : va_P D classes (wM cA ad F L A B) H := by rw [hH]; exact hP
  have hS : va_S Af s.heap H [] := by rw [hH]; exact hS
  obtain ⟨locs, hlo⟩ : ∃ q : List Loc, q = [] := ⟨_, rfl⟩
  rw [← hH, ← hlo]
  rw [← hlo] at hS
  refine lv_aload_n hx hb dX12_isCovered_0 rfl (lv_at hl 0 rfl) ?_
  refine va_get (ci := 12) (v := .ref (ad 20)) (C := RX12) (T := TX12) (N := 57) hx hb hg inX12 hown hK hP 0 atM_0 rfl 31 (by decide) (hg _ mw_1139) (fun _ h9 => h9) rfl dX12_isCovered_1 ?_
  refine lv_iconst (v := 0) hx hb dX12_isCovered_4 (by decide) ?_
  refine lv_iconst (v := 0) hx hb dX12_isCovered_5 (by decide) ?_
  refine va_iast hx hb hK hP hD hS 20 19 atM_20 tyM_20 (in_rg ((rg_k (by decide)) : rg 0 0 0) (by decide)) dX12_isCovered_6 (fun H locs hP hD hS => ?_)
  have hq := hq.ast 20 ((0 : Int32)).toNatClampNeg (x := 0) (by decide) (rg_k (by decide))
  rw [setM_20] at hP hD
  have k1 : (0 : Int32) = (va_up A 20 (upd (A 20) ((0 : Int32)).toNatClampNeg 0)) 20 ((0 : Int32)).toNatClampNeg := (rdA).symm
  refine lv_iconst (v := 1) hx hb dX12_isCovered_7 (by decide) ?_
  refine lv_istore_n (lv' := [(2, .int 1), (0, .ref (ad 0)), (1, .int p1)]) hx hb dX12_isCovered_8 rfl hl (by decide) rfl (fun ls hl => ?_)
  have J9 : ∀ (n9 : Nat) (a2 : Int32) (F4 : Nat → Int32) (L4 : Nat → Int64) (A4 : Nat → Nat → Int32) (B4 : Nat → Nat → Int64) (H : Heap) (locs : List Loc) (ls : Array Slot), (1024 - a2.toInt).toNat < n9 → rg a2 1 1024 → qM [] [20] F A F4 A4 → A4 19 = A 19 → (cvI (A 19) (A4 20) p1 (a2 : Int32).toInt) → va_P D classes (wM cA ad F4 L4 A4 B4) H → va_D Af (wM cA ad F4 L4 A4 B4) → va_S Af s.heap H locs → lv_has ls 4 [(0, .ref (ad 0)), (1, .int p1), (2, .int a2)] → W p l e rm_X12_isCovered_0 s m args below meth c H locs 0 0 Q (F0 m 9 ls []) := by
    intro n9
    induction n9 with
    | zero =>
      intro _ _ _ _ _ _ _ _ hn
      exact absurd hn (Nat.not_lt_zero _)
    | succ n9 ih9 =>
      intro a2 F4 L4 A4 B4 H locs ls hn9 r3 hq k5 v6 hP hD hS hl
      refine lv_iload_n hx hb dX12_isCovered_9 rfl (lv_at hl 2 rfl) ?_
      refine lv_iload_n hx hb dX12_isCovered_10 rfl (lv_at hl 1 rfl) ?_
      refine lv_icmp_gt (tgt := 88) hx hb dX12_isCovered_11 (by decide) (fun c7 => ?_) (fun c7 => ?_)
      · skip
        refine lv_iconst (v := 1) hx hb dX12_isCovered_88 (by decide) ?_
        exact hret (1) (F4, L4, A4, B4) H locs 89 ls rfl dX12_isCovered_89 hP hD hS ⟨hq, (rg_k (by decide)), ⟨Or.inr (fun k hk hs => v6 k (by have := (iL c7); omega) hs), Or.inl (by decide)⟩⟩
      · skip
        have r8 : rg a2 1 1023 := rg_le1 (iNL c7) (r3 : rg a2 1 1024) (hp1 : rg p1 0 1023)
        have r9 : rg p1 1 1023 := rg_le2 (iNL c7) (r3 : rg a2 1 1024) (hp1 : rg p1 0 1023)
        refine lv_iload_n hx hb dX12_isCovered_14 rfl (lv_at hl 2 rfl) ?_
        refine lv_iload_n hx hb dX12_isCovered_15 rfl (lv_at hl 1 rfl) ?_
        refine lv_iconst (v := (-1)) hx hb dX12_isCovered_16 (by decide) ?_
        refine lv_ixor hx hb dX12_isCovered_17 ?_
        refine lv_topi (fun x10 e11 => ?_)
        refine lv_iand hx hb dX12_isCovered_18 ?_
        refine lv_topi (fun x12 e13 => ?_)
        have r14 : rg x12 0 1023 := rg_andl e13 r8 (by decide)
        have J82 : ∀ (F15 : Nat → Int32) (L15 : Nat → Int64) (A15 : Nat → Nat → Int32) (B15 : Nat → Nat → Int64) (H : Heap) (locs : List Loc) (ls : Array Slot), qM [] [20] F A F15 A15 → A15 19 = A 19 → (cvI (A 19) (A15 20) p1 (a2.toInt + 1)) → va_P D classes (wM cA ad F15 L15 A15 B15) H → va_D Af (wM cA ad F15 L15 A15 B15) → va_S Af s.heap H locs → lv_has ls 4 [(0, .ref (ad 0)), (1, .int p1), (2, .int a2)] → W p l e rm_X12_isCovered_0 s m args below meth c H locs 0 0 Q (F0 m 82 ls []) := by
          intro F15 L15 A15 B15 H locs ls hq k16 v17 hP hD hS hl
          obtain ⟨x18, e19⟩ : ∃ y : Int32, y = a2 + 1 := ⟨_, rfl⟩
          have r20 : rg x18 2 1024 := rg_add e19 r8 (rg_k (by decide) : rg 1 1 1) (by decide)
          refine lv_iinc (v := x18) (lv' := [(2, .int x18), (0, .ref (ad 0)), (1, .int p1)]) hx hb dX12_isCovered_82 hl (k := 2) rfl (by rw [e19]; rfl) (by decide) rfl (fun ls hl => ?_)
          refine lv_goto (tgt := 9) hx hb dX12_isCovered_85 (by decide) ?_
          exact ih9 (x18) (F15) (L15) (A15) (B15) H locs ls (by have h0 : (1 : Int32).toInt = 1 := rfl; have h1 := ti_addk e19 r8 (by decide); have h2 : rg x18 1 1024 := (rg_w r20 (by decide)); unfold rg at h2; omega) (rg_w r20 (by decide)) hq (k16) (by have h1 := tiA e19 (r8 : rg a2 1 1023) (rg_k (by decide) : rg 1 1 1) (by decide); rw [h1]; exact v17) hP hD hS (lv_sub hl [1, 2, 0] rfl)
        refine lv_if_eq (tgt := 25) hx hb dX12_isCovered_19 (by decide) (fun c21 => ?_) (fun c21 => ?_)
        · skip
          have r22 : rg x12 0 0 := rg_eq1 c21 (r14 : rg x12 0 1023) ((rg_k (by decide)) : rg 0 0 0) (by decide)
          refine lv_iconst (v := 0) hx hb dX12_isCovered_25 (by decide) ?_
          refine lv_istore_n (lv' := [(3, .int 0), (0, .ref (ad 0)), (1, .int p1), (2, .int a2)]) hx hb dX12_isCovered_26 rfl hl (by decide) rfl (fun ls hl => ?_)
          have J27 : ∀ (n27 : Nat) (a24 : Int32) (F26 : Nat → Int32) (L26 : Nat → Int64) (A26 : Nat → Nat → Int32) (B26 : Nat → Nat → Int64) (H : Heap) (locs : List Loc) (ls : Array Slot), (9 - a24.toInt).toNat < n27 → rg a24 0 9 → qM [] [20] F A F26 A26 → A26 19 = A 19 → ((∀ i : Nat, (i : Int) < (a24 : Int32).toInt → a2.toBitVec.getLsbD i = false) ∧ cvI (A 19) (A26 20) p1 a2.toInt) → va_P D classes (wM cA ad F26 L26 A26 B26) H → va_D Af (wM cA ad F26 L26 A26 B26) → va_S Af s.heap H locs → lv_has ls 4 [(0, .ref (ad 0)), (1, .int p1), (2, .int a2), (3, .int a24)] → W p l e rm_X12_isCovered_0 s m args below meth c H locs 0 0 Q (F0 m 27 ls []) := by
            intro n27
            induction n27 with
            | zero =>
              intro _ _ _ _ _ _ _ _ hn
              exact absurd hn (Nat.not_lt_zero _)
            | succ n27 ih27 =>
              intro a24 F26 L26 A26 B26 H locs ls hn27 r25 hq k27 v28 hP hD hS hl
              refine lv_iload_n hx hb dX12_isCovered_27 rfl (lv_at hl 2 rfl) ?_
              refine lv_iload_n hx hb dX12_isCovered_28 rfl (lv_at hl 3 rfl) ?_
              refine lv_ishr hx hb dX12_isCovered_29 ?_
              refine lv_topi (fun x29 e30 => ?_)
              have r31 : rg x29 0 1023 := rg_shrk _ e30 r8 rfl (by decide)
              refine lv_iconst (v := 1) hx hb dX12_isCovered_30 (by decide) ?_
              refine lv_iand hx hb dX12_isCovered_31 ?_
              refine lv_topi (fun x32 e33 => ?_)
              have r34 : rg x32 0 1 := rg_andr e33 ((rg_k (by decide)) : rg 1 1 1) (by decide)
              refine lv_if_ne (tgt := 41) hx hb dX12_isCovered_32 (by decide) (fun c35 => ?_) (fun c35 => ?_)
              · skip
                have r36 : rg x32 1 1 := (rg_ne1 c35 (r34 : rg x32 0 1) ((rg_k (by decide)) : rg 0 0 0)).1 rfl
                refine lv_aload_n hx hb dX12_isCovered_41 rfl (lv_at hl 0 rfl) ?_
                refine va_get (ci := 12) (v := .ref (ad 20)) (C := RX12) (T := TX12) (N := 57) hx hb hg inX12 hown hK hP 0 atM_0 rfl 31 (by decide) (hg _ mw_1139) (fun _ h9 => h9) rfl dX12_isCovered_42 ?_
                refine lv_iload_n hx hb dX12_isCovered_45 rfl (lv_at hl 2 rfl) ?_
                refine lv_aload_n hx hb dX12_isCovered_46 rfl (lv_at hl 0 rfl) ?_
                refine va_get (ci := 12) (v := .ref (ad 20)) (C := RX12) (T := TX12) (N := 57) hx hb hg inX12 hown hK hP 0 atM_0 rfl 31 (by decide) (hg _ mw_1139) (fun _ h9 => h9) rfl dX12_isCovered_47 ?_
                refine lv_iload_n hx hb dX12_isCovered_50 rfl (lv_at hl 2 rfl) ?_
                refine lv_iload_n hx hb dX12_isCovered_51 rfl (lv_at hl 2 rfl) ?_
                refine lv_iconst (v := 1) hx hb dX12_isCovered_52 (by decide) ?_
                refine lv_isub hx hb dX12_isCovered_53 ?_
                refine lv_topi (fun x38 e39 => ?_)
                have r40 : rg x38 0 1022 := rg_sub e39 r8 ((rg_k (by decide)) : rg 1 1 1) (by decide)
                refine lv_iand hx hb dX12_isCovered_54 ?_
                refine lv_topi (fun x41 e42 => ?_)
                have r43 : rg x41 0 1022 := rg_andr e42 r40 (by decide)
                refine va_iald hx hb hK hP 20 19 atM_20 tyM_20 (in_rg r43 (by decide)) dX12_isCovered_55 ?_
                refine lv_topi (fun x44 e45 => ?_)
                have r46 : rg x44 0 1023 := rg_e e45 (hq.1.2 20 _)
                refine lv_aload_n hx hb dX12_isCovered_56 rfl (lv_at hl 0 rfl) ?_
                refine va_get (ci := 12) (v := .ref (ad 19)) (C := RX12) (T := TX12) (N := 57) hx hb hg inX12 hown hK hP 0 atM_0 rfl 30 (by decide) (hg _ mw_1138) (fun _ h9 => h9) rfl dX12_isCovered_57 ?_
                refine lv_iload_n hx hb dX12_isCovered_60 rfl (lv_at hl 3 rfl) ?_
                refine va_iald hx hb hK hP 19 18 atM_19 tyM_19 (in_rg r25 (by decide)) dX12_isCovered_61 ?_
                refine lv_topi (fun x47 e48 => ?_)
                have r49 : rg x47 0 1023 := rg_e e48 (hq.1.2 19 _)
                refine lv_ior hx hb dX12_isCovered_62 ?_
                refine lv_topi (fun x50 e51 => ?_)
                have r52 : rg x50 0 1023 := rg_or 10 e51 r46 r49 (by decide)
                refine va_iast hx hb hK hP hD hS 20 19 atM_20 tyM_20 (in_rg r8 (by decide)) dX12_isCovered_63 (fun H locs hP hD hS => ?_)
                have hq := hq.ast 20 (a2).toNatClampNeg (x := x50) (by decide) r52
                rw [setM_20] at hP hD
                have k53 : x50 = (va_up A26 20 (upd (A26 20) (a2).toNatClampNeg x50)) 20 (a2).toNatClampNeg := (rdA).symm
                refine lv_aload_n hx hb dX12_isCovered_64 rfl (lv_at hl 0 rfl) ?_
                refine va_get (ci := 12) (v := .ref (ad 20)) (C := RX12) (T := TX12) (N := 57) hx hb hg inX12 hown hK hP 0 atM_0 rfl 31 (by decide) (hg _ mw_1139) (fun _ h9 => h9) rfl dX12_isCovered_65 ?_
                refine lv_iload_n hx hb dX12_isCovered_68 rfl (lv_at hl 2 rfl) ?_
                refine va_iald hx hb hK hP 20 19 atM_20 tyM_20 (in_rg r8 (by decide)) dX12_isCovered_69 ?_
                refine tope (k53) ?_
                refine calls_i (As := [.int x50]) (rest := []) hC (c_X12_bitsOf l D (tysM cA) (wM cA ad F26 L26 (va_up A26 20 (upd (A26 20) (a2).toNatClampNeg x50)) B26) H.size (x50)) (cwS 1 hg (g_S mw_1462 mw_1460 mw_1461 mw_20) rfl rfl rfl (by decide +kernel) ⟨(Nat.le_of_ble_eq_true rfl), (Nat.le_of_ble_eq_true rfl)⟩) hP hD hS hA rfl hl.1 rfl (Nat.le_of_ble_eq_true rfl) dX12_isCovered_70 ⟨Nat.zero_le _, Nat.zero_le _⟩ (fun x54 u H locs hw hP hD hS => ?_)
                have e55 := hw
                have hP : va_P D classes (wM cA ad F26 L26 (va_up A26 20 (upd (A26 20) (a2).toNatClampNeg x50)) B26) H := hP
                have hD : va_D Af (wM cA ad F26 L26 (va_up A26 20 (upd (A26 20) (a2).toNatClampNeg x50)) B26) := hD
                have r56 : rg x54 0 31 := rg_bits hw
                refine lv_iload_n hx hb dX12_isCovered_73 rfl (lv_at hl 2 rfl) ?_
                refine calls_i (As := [.int a2]) (rest := [.int x54]) hC (c_X12_bitsOf l D (tysM cA) (wM cA ad F26 L26 (va_up A26 20 (upd (A26 20) (a2).toNatClampNeg x50)) B26) H.size (a2)) (cwS 1 hg (g_S mw_1462 mw_1460 mw_1461 mw_20) rfl rfl rfl (by decide +kernel) ⟨(Nat.le_of_ble_eq_true rfl), (Nat.le_of_ble_eq_true rfl)⟩) hP hD hS hA rfl hl.1 rfl (Nat.le_of_ble_eq_true rfl) dX12_isCovered_74 ⟨Nat.zero_le _, Nat.zero_le _⟩ (fun x57 u H locs hw hP hD hS => ?_)
                have e58 := hw
                have hP : va_P D classes (wM cA ad F26 L26 (va_up A26 20 (upd (A26 20) (a2).toNatClampNeg x50)) B26) H := hP
                have hD : va_D Af (wM cA ad F26 L26 (va_up A26 20 (upd (A26 20) (a2).toNatClampNeg x50)) B26) := hD
                have r59 : rg x57 1 31 := rg_bits1 hw r8 (by decide)
                refine lv_icmp_ge (tgt := 82) hx hb dX12_isCovered_77 (by decide) (fun c60 => ?_) (fun c60 => ?_)
                · skip
                  have r61 : rg x54 1 31 := rg_le2 (iE c60) (r59 : rg x57 1 31) (r56 : rg x54 0 31)
                  exact J82 (F26) (L26) ((va_up A26 20 (upd (A26 20) (a2).toNatClampNeg x50))) (B26) H locs ls hq (k27) (cv_up v28.2 (r8 : rg a2 1 1023) (fun hs => cv_new v28.2 (r8 : rg a2 1 1023) (r25 : rg a24 0 9) v28.1 (cv_hit (r25 : rg a24 0 9) e30 e33 c35) hs (by rw [← e39]; exact e42) e45 (e48.trans (congrFun k27 _)) e51) (cv_le (r8 : rg a2 1 1023) (by decide) e55 e58 (iE c60))) hP hD hS (lv_sub hl [0, 1, 2] rfl)
                · skip
                  have r62 : rg x54 0 30 := rg_lt1 (iNE c60) (r56 : rg x54 0 31) (r59 : rg x57 1 31)
                  refine lv_iconst (v := 0) hx hb dX12_isCovered_80 (by decide) ?_
                  exact hret (0) (F26, L26, (va_up A26 20 (upd (A26 20) (a2).toNatClampNeg x50)), B26) H locs 81 ls rfl dX12_isCovered_81 hP hD hS ⟨hq, (rg_k (by decide)), ⟨Or.inl rfl, Or.inr ⟨a2.toNatClampNeg, x50, (by have := (iNL c7); have := ((r8 : rg a2 1 1023)).1; show ((a2.toInt.toNat : Nat) : Int) ≤ p1.toInt; omega), (cv_sub (r8 : rg a2 1 1023) (by decide) e11 e13 c21), cv_new v28.2 (r8 : rg a2 1 1023) (r25 : rg a24 0 9) v28.1 (cv_hit (r25 : rg a24 0 9) e30 e33 c35) (cv_sub (r8 : rg a2 1 1023) (by decide) e11 e13 c21) (by rw [← e39]; exact e42) e45 (e48.trans (congrFun k27 _)) e51, cv_lt (r8 : rg a2 1 1023) (by decide) e55 e58 (iNE c60)⟩⟩⟩
              · skip
                have r37 : rg x32 0 0 := rg_eq1 c35 (r34 : rg x32 0 1) ((rg_k (by decide)) : rg 0 0 0) (by decide)
                obtain ⟨x63, e64⟩ : ∃ y : Int32, y = a24 + 1 := ⟨_, rfl⟩
                have r65 : rg x63 1 9 := (cv_inc (r8 : rg a2 1 1023) (r25 : rg a24 0 9) v28.1 e30 e33 c35 e64).1
                refine lv_iinc (v := x63) (lv' := [(3, .int x63), (0, .ref (ad 0)), (1, .int p1), (2, .int a2)]) hx hb dX12_isCovered_35 hl (k := 3) rfl (by rw [e64]; rfl) (by decide) rfl (fun ls hl => ?_)
                refine lv_goto (tgt := 27) hx hb dX12_isCovered_38 (by decide) ?_
                exact ih27 (x63) (F26) (L26) (A26) (B26) H locs ls (by have h0 : (1 : Int32).toInt = 1 := rfl; have h1 := ti_addk e64 r25 (by decide); have h2 : rg x63 0 9 := (rg_w r65 (by decide)); unfold rg at h2; omega) (rg_w r65 (by decide)) hq (k27) ⟨(cv_inc (r8 : rg a2 1 1023) (r25 : rg a24 0 9) v28.1 e30 e33 c35 e64).2, v28.2⟩ hP hD hS (lv_sub hl [1, 2, 3, 0] rfl)
          exact J27 _ (0) (F4) (L4) (A4) (B4) H locs ls (Nat.lt_succ_self _) (rg_k (by decide)) hq (k5) ⟨fun i hi => absurd hi (by have : (0 : Int32).toInt = 0 := rfl; omega), v6⟩ hP hD hS (lv_sub hl [1, 2, 3, 0] rfl)
        · skip
          have r23 : rg x12 1 1023 := (rg_ne1 c21 (r14 : rg x12 0 1023) ((rg_k (by decide)) : rg 0 0 0)).1 rfl
          refine lv_goto (tgt := 82) hx hb dX12_isCovered_22 (by decide) ?_
          exact J82 (F4) (L4) (A4) (B4) H locs ls hq (k5) (cv_skip v6 (r8 : rg a2 1 1023) (by decide) e11 e13 c21) hP hD hS (lv_sub hl [0, 1, 2] rfl)
  exact J9 _ (1) (F) (L) ((va_up A 20 (upd (A 20) ((0 : Int32)).toNatClampNeg 0))) (B) H locs ls (Nat.lt_succ_self _) (rg_k (by decide)) hq (rfl) cv_0 hP hD hS (lv_sub hl [1, 2, 0] rfl)
abbrev rm_X12_canGoOn_0 : Room := { frames := 2, cells := 0, slots := 0, locals := 45 }
set_option maxHeartbeats 4000000 in
set_option maxRecDepth 100000 in
theorem c_X12_canGoOn_0 (l : Launch) (D : va_G) (cA : Nat → ClassId) (sz : Nat) (ad : Nat → Nat) (F : Nat → Int32) (L : Nat → Int64) (A : Nat → Nat → Int32) (B : Nat → Nat → Int64) (p1 : Int32) (p2 : Int32) (p3 : Int32) (p4 : Int32) (hT : typM F A) (hp1 : rg p1 1 8) (hp2 : rg p2 0 1023) (hp3 : rg p3 0 255) (hp4 : rg p4 0 1023) (hLow : ∀ i : Nat, bt p3 i → p1.toInt ≤ (i : Int)) : Met l yX12_canGoOn (Cond.code yX12_canGoOn cX12_canGoOn 7 (some .boolean) :: GW) rm_X12_canGoOn_0 (mPc D classes (tysM cA) (wM cA ad F L A B) sz [.ref (ad 0), .int p1, .int p2, .int p3, .int p4]) (mQi (S := SW) D classes (tysM cA) (wM cA ad F L A B) sz (wfM cA ad) (fun r u => qM [] [19, 20] F A u.1 u.2.2.1 ∧ rg r 0 1 ∧ ((r = 0 ∨ (gHL (A 16) p1 p2 p3 ∧ gHR (A 16) p1 p4)) ∧ (r ≠ 0 ∨ ¬ (gHL (A 16) p1 p2 p3 ∧ gHR (A 16) p1 p4))))) 0 0 (va_A (wM cA ad F L A B) sz) := by
  refine met_i (own := "ShoeingDayModel") (by decide +kernel) rfl (Nat.le_of_ble_eq_true rfl) ?_
  intro p e s m args below meth c Q Af ls hC hP hD hS hA hl hret
  have hx := hC.1
  have hb := hC.2.1
  have hown := hC.2.2.2.1
  have hg := hC.g
  have hK := hC.K
  have hl : lv_has ls 7 [(0, .ref (ad 0)), (1, .int p1), (2, .int p2), (3, .int p3), (4, .int p4)] := hl
  have hq : qM [] [19, 20] F A F A := qM.rf hT
  obtain ⟨H, hH⟩ : ∃ H, H = s.heap := ⟨_, rfl⟩
  have hP : va_P D classes (wM cA ad F L A B) H := by rw [hH]; exact hP
  have hS : va_S Af s.heap H [] := by rw [hH]; exact hS
  obtain ⟨locs, hlo⟩ : ∃ q : List Loc, q = [] := ⟨_, rfl⟩
  rw [← hH, ← hlo]
  rw [← hlo] at hS
  refine lv_iconst (v := 0) hx hb dX12_canGoOn_0 (by decide) ?_
  refine lv_istore (lv' := [(5, .int 0), (0, .ref (ad 0)), (1, .int p1), (2, .int p2), (3, .int p3), (4, .int p4)]) hx hb dX12_canGoOn_1 hl (by decide) rfl (fun ls hl => ?_)
  have J3 : ∀ (n3 : Nat) (a1 : Int32) (F3 : Nat → Int32) (L3 : Nat → Int64) (A3 : Nat → Nat → Int32) (B3 : Nat → Nat → Int64) (H : Heap) (locs : List Loc) (ls : Array Slot), (8 - a1.toInt).toNat < n3 → rg a1 0 8 → qM [] [19, 20] F A F3 A3 → (gA (A3 19) (A 16) p1 p2 a1) → va_P D classes (wM cA ad F3 L3 A3 B3) H → va_D Af (wM cA ad F3 L3 A3 B3) → va_S Af s.heap H locs → lv_has ls 7 [(0, .ref (ad 0)), (1, .int p1), (2, .int p2), (3, .int p3), (4, .int p4), (5, .int a1)] → W p l e rm_X12_canGoOn_0 s m args below meth c H locs 0 0 Q (F0 m 3 ls []) := by
    intro n3
    induction n3 with
    | zero =>
      intro _ _ _ _ _ _ _ _ hn
      exact absurd hn (Nat.not_lt_zero _)
    | succ n3 ih3 =>
      intro a1 F3 L3 A3 B3 H locs ls hn3 r2 hq v4 hP hD hS hl
      refine lv_iload hx hb dX12_canGoOn_3 (lv_at hl 5 rfl) ?_
      refine lv_bipush (v := 8) hx hb dX12_canGoOn_5 (by decide) ?_
      refine lv_icmp_ge (tgt := 90) hx hb dX12_canGoOn_7 (by decide) (fun c5 => ?_) (fun c5 => ?_)
      · skip
        have r6 : rg a1 8 8 := rg_le2 (iE c5) ((rg_k (by decide)) : rg 8 8 8) (r2 : rg a1 0 8)
        refine lv_aload_n hx hb dX12_canGoOn_90 rfl (lv_at hl 0 rfl) ?_
        refine lv_iload_n hx hb dX12_canGoOn_91 rfl (lv_at hl 3 rfl) ?_
        refine callv_i (As := [.int p3]) (rest := []) hC (c_X12_isCovered_0 l D cA H.size ad F3 L3 A3 B3 (p3) hq.1 (rg_w hp3 (by decide))) (cwV 1 hg (g_V mw_1459 mw_1456 mw_1458 ms_80 mw_20) rfl rfl rfl (by decide +kernel) ⟨(Nat.le_of_ble_eq_true rfl), (Nat.le_of_ble_eq_true rfl)⟩) hP hD hS hA atM_0 rfl rfl hl.1 rfl (Nat.le_of_ble_eq_true rfl) dX12_canGoOn_92 ⟨Nat.zero_le _, Nat.zero_le _⟩ (fun x8 u H locs hw hP hD hS => ?_)
        obtain ⟨F9, L9, A9, B9⟩ := u
        try dsimp only at hw
        obtain ⟨hq9, r10, g11⟩ := hw
        have hq := hq.call hq9 (by decide)
        have hP : va_P D classes (wM cA ad F9 L9 A9 B9) H := hP
        have hD : va_D Af (wM cA ad F9 L9 A9 B9) := hD
        have gol := go_L ((rg_w hp1 (by decide)) : rg p1 0 8) (hp3 : rg p3 0 255) (gA_all v4 (by have := (r6 : rg a1 8 8).1; omega)) hLow
        refine lv_if_ne (tgt := 100) hx hb dX12_canGoOn_95 (by decide) (fun c12 => ?_) (fun c12 => ?_)
        · skip
          have r13 : rg x8 1 1 := (rg_ne1 c12 (r10 : rg x8 0 1) ((rg_k (by decide)) : rg 0 0 0)).1 rfl
          have gl1 := gol.1 _ ((g11).1.resolve_left c12)
          refine lv_iconst (v := 0) hx hb dX12_canGoOn_100 (by decide) ?_
          refine lv_istore (lv' := [(5, .int 0), (0, .ref (ad 0)), (1, .int p1), (2, .int p2), (3, .int p3), (4, .int p4)]) hx hb dX12_canGoOn_101 hl (by decide) rfl (fun ls hl => ?_)
          have J103 : ∀ (n103 : Nat) (a15 : Int32) (F17 : Nat → Int32) (L17 : Nat → Int64) (A17 : Nat → Nat → Int32) (B17 : Nat → Nat → Int64) (H : Heap) (locs : List Loc) (ls : Array Slot), (10 - a15.toInt).toNat < n103 → rg a15 0 10 → qM [] [19, 20] F A F17 A17 → (hA_ (A17 19) (A 16) p1 a15) → va_P D classes (wM cA ad F17 L17 A17 B17) H → va_D Af (wM cA ad F17 L17 A17 B17) → va_S Af s.heap H locs → lv_has ls 7 [(0, .ref (ad 0)), (1, .int p1), (4, .int p4), (5, .int a15)] → W p l e rm_X12_canGoOn_0 s m args below meth c H locs 0 0 Q (F0 m 103 ls []) := by
            intro n103
            induction n103 with
            | zero =>
              intro _ _ _ _ _ _ _ _ hn
              exact absurd hn (Nat.not_lt_zero _)
            | succ n103 ih103 =>
              intro a15 F17 L17 A17 B17 H locs ls hn103 r16 hq v18 hP hD hS hl
              refine lv_iload hx hb dX12_canGoOn_103 (lv_at hl 3 rfl) ?_
              refine lv_bipush (v := 10) hx hb dX12_canGoOn_105 (by decide) ?_
              refine lv_icmp_ge (tgt := 174) hx hb dX12_canGoOn_107 (by decide) (fun c19 => ?_) (fun c19 => ?_)
              · skip
                have r20 : rg a15 10 10 := rg_le2 (iE c19) ((rg_k (by decide)) : rg 10 10 10) (r16 : rg a15 0 10)
                refine lv_aload_n hx hb dX12_canGoOn_174 rfl (lv_at hl 0 rfl) ?_
                refine lv_iload hx hb dX12_canGoOn_175 (lv_at hl 2 rfl) ?_
                refine callv_i (As := [.int p4]) (rest := []) hC (c_X12_isCovered_0 l D cA H.size ad F17 L17 A17 B17 (p4) hq.1 hp4) (cwV 1 hg (g_V mw_1459 mw_1456 mw_1458 ms_80 mw_20) rfl rfl rfl (by decide +kernel) ⟨(Nat.le_of_ble_eq_true rfl), (Nat.le_of_ble_eq_true rfl)⟩) hP hD hS hA atM_0 rfl rfl hl.1 rfl (Nat.le_of_ble_eq_true rfl) dX12_canGoOn_177 ⟨Nat.zero_le _, Nat.zero_le _⟩ (fun x22 u H locs hw hP hD hS => ?_)
                obtain ⟨F23, L23, A23, B23⟩ := u
                try dsimp only at hw
                obtain ⟨hq23, r24, g25⟩ := hw
                have hq := hq.call hq23 (by decide)
                have hP : va_P D classes (wM cA ad F23 L23 A23 B23) H := hP
                have hD : va_D Af (wM cA ad F23 L23 A23 B23) := hD
                have gor := go_R ((rg_w hp1 (by decide)) : rg p1 0 8) (hp4 : rg p4 0 1023) (hA_all v18 (by have := (r20 : rg a15 10 10).1; omega))
                exact hret (x22) (F23, L23, A23, B23) H locs 180 ls (nb_rg r24) dX12_canGoOn_180 hP hD hS ⟨hq, r24, ⟨(g25).1.imp id (fun h9 => ⟨gl1, gor.1 _ h9⟩), (g25).2.imp id (fun h9 h8 => gor.2 h9 h8.2)⟩⟩
              · skip
                have r21 : rg a15 0 9 := rg_lt1 (iNE c19) (r16 : rg a15 0 10) ((rg_k (by decide)) : rg 10 10 10)
                refine lv_aload_n hx hb dX12_canGoOn_110 rfl (lv_at hl 0 rfl) ?_
                refine va_get (ci := 12) (v := .ref (ad 19)) (C := RX12) (T := TX12) (N := 57) hx hb hg inX12 hown hK hP 0 atM_0 rfl 30 (by decide) (hg _ mw_1138) (fun _ h9 => h9) rfl dX12_canGoOn_111 ?_
                refine lv_iload hx hb dX12_canGoOn_114 (lv_at hl 3 rfl) ?_
                refine lv_iconst (v := 0) hx hb dX12_canGoOn_116 (by decide) ?_
                refine va_iast hx hb hK hP hD hS 19 18 atM_19 tyM_19 (in_rg r21 (by decide)) dX12_canGoOn_117 (fun H locs hP hD hS => ?_)
                have hq := hq.ast 19 (a15).toNatClampNeg (x := 0) (by decide) (rg_k (by decide))
                rw [setM_19] at hP hD
                have k26 : (0 : Int32) = (va_up A17 19 (upd (A17 19) (a15).toNatClampNeg 0)) 19 (a15).toNatClampNeg := (rdA).symm
                refine lv_iload_n hx hb dX12_canGoOn_118 rfl (lv_at hl 1 rfl) ?_
                refine lv_istore (lv' := [(6, .int p1), (0, .ref (ad 0)), (1, .int p1), (4, .int p4), (5, .int a15)]) hx hb dX12_canGoOn_119 hl (by decide) rfl (fun ls hl => ?_)
                have J121 : ∀ (n121 : Nat) (a27 : Int32) (F29 : Nat → Int32) (L29 : Nat → Int64) (A29 : Nat → Nat → Int32) (B29 : Nat → Nat → Int64) (H : Heap) (locs : List Loc) (ls : Array Slot), (8 - a27.toInt).toNat < n121 → rg a27 1 8 → qM [] [19, 20] F A F29 A29 → (hB_ (A29 19) (A 16) p1 a15 a27) → va_P D classes (wM cA ad F29 L29 A29 B29) H → va_D Af (wM cA ad F29 L29 A29 B29) → va_S Af s.heap H locs → lv_has ls 7 [(0, .ref (ad 0)), (1, .int p1), (4, .int p4), (5, .int a15), (6, .int a27)] → W p l e rm_X12_canGoOn_0 s m args below meth c H locs 0 0 Q (F0 m 121 ls []) := by
                  intro n121
                  induction n121 with
                  | zero =>
                    intro _ _ _ _ _ _ _ _ hn
                    exact absurd hn (Nat.not_lt_zero _)
                  | succ n121 ih121 =>
                    intro a27 F29 L29 A29 B29 H locs ls hn121 r28 hq v30 hP hD hS hl
                    refine lv_iload hx hb dX12_canGoOn_121 (lv_at hl 4 rfl) ?_
                    refine lv_bipush (v := 8) hx hb dX12_canGoOn_123 (by decide) ?_
                    refine lv_icmp_ge (tgt := 168) hx hb dX12_canGoOn_125 (by decide) (fun c31 => ?_) (fun c31 => ?_)
                    · skip
                      have r32 : rg a27 8 8 := rg_le2 (iE c31) ((rg_k (by decide)) : rg 8 8 8) (r28 : rg a27 1 8)
                      obtain ⟨x34, e35⟩ : ∃ y : Int32, y = a15 + 1 := ⟨_, rfl⟩
                      have r36 : rg x34 1 10 := rg_add e35 r21 (rg_k (by decide) : rg 1 1 1) (by decide)
                      refine lv_iinc (v := x34) (lv' := [(5, .int x34), (0, .ref (ad 0)), (1, .int p1), (4, .int p4), (6, .int a27)]) hx hb dX12_canGoOn_168 hl (k := 3) rfl (by rw [e35]; rfl) (by decide) rfl (fun ls hl => ?_)
                      refine lv_goto (tgt := 103) hx hb dX12_canGoOn_171 (by decide) ?_
                      exact ih103 (x34) (F29) (L29) (A29) (B29) H locs ls (by have h0 : (1 : Int32).toInt = 1 := rfl; have h1 := ti_addk e35 r21 (by decide); have h2 : rg x34 0 10 := (rg_w r36 (by decide)); unfold rg at h2; omega) (rg_w r36 (by decide)) hq (hB_done v30 (r21 : rg a15 0 9) (by have := (r32 : rg a27 8 8).1; omega) e35) hP hD hS (lv_sub hl [1, 2, 3, 0] rfl)
                    · skip
                      have r33 : rg a27 1 7 := rg_lt1 (iNE c31) (r28 : rg a27 1 8) ((rg_k (by decide)) : rg 8 8 8)
                      refine lv_aload_n hx hb dX12_canGoOn_128 rfl (lv_at hl 0 rfl) ?_
                      refine va_get (ci := 12) (v := .ref (ad 19)) (C := RX12) (T := TX12) (N := 57) hx hb hg inX12 hown hK hP 0 atM_0 rfl 30 (by decide) (hg _ mw_1138) (fun _ h9 => h9) rfl dX12_canGoOn_129 ?_
                      refine lv_iload hx hb dX12_canGoOn_132 (lv_at hl 3 rfl) ?_
                      refine lv_dup2_11 hx hb dX12_canGoOn_134 rfl rfl ?_
                      refine va_iald hx hb hK hP 19 18 atM_19 tyM_19 (in_rg r21 (by decide)) dX12_canGoOn_135 ?_
                      refine lv_topi (fun x37 e38 => ?_)
                      have r39 : rg x37 0 1023 := rg_e e38 (hq.1.2 19 _)
                      refine lv_aload_n hx hb dX12_canGoOn_136 rfl (lv_at hl 0 rfl) ?_
                      refine va_get (ci := 12) (v := .ref (ad 16)) (C := RX12) (T := TX12) (N := 57) hx hb hg inX12 hown hK hP 0 atM_0 rfl 26 (by decide) (hg _ mw_1134) (fun _ h9 => h9) rfl dX12_canGoOn_137 ?_
                      refine lv_bipush (v := 10) hx hb dX12_canGoOn_140 (by decide) ?_
                      refine lv_iload hx hb dX12_canGoOn_142 (lv_at hl 4 rfl) ?_
                      refine lv_imul hx hb dX12_canGoOn_144 ?_
                      refine lv_topi (fun x40 e41 => ?_)
                      have r42 : rg x40 10 70 := rg_mul e41 ((rg_k (by decide)) : rg 10 10 10) r33 (by decide)
                      refine lv_iload hx hb dX12_canGoOn_145 (lv_at hl 3 rfl) ?_
                      refine lv_iadd hx hb dX12_canGoOn_147 ?_
                      refine lv_topi (fun x43 e44 => ?_)
                      have r45 : rg x43 10 79 := rg_add e44 r42 r21 (by decide)
                      refine va_iald hx hb hK hP 16 15 atM_16 tyM_16 (in_rg r45 (by decide)) dX12_canGoOn_148 ?_
                      refine lv_topi (fun x46 e47 => ?_)
                      have J160 : ∀ (a48 : Int32) (F50 : Nat → Int32) (L50 : Nat → Int64) (A50 : Nat → Nat → Int32) (B50 : Nat → Nat → Int64) (H : Heap) (locs : List Loc) (ls : Array Slot), rg a48 0 128 → qM [] [19, 20] F A F50 A50 → (hB_ (A50 19) (A 16) p1 a15 a27 ∧ hV_ (A 16) a15 a27 a48 ∧ x37 = (A50 19) a15.toNatClampNeg) → va_P D classes (wM cA ad F50 L50 A50 B50) H → va_D Af (wM cA ad F50 L50 A50 B50) → va_S Af s.heap H locs → lv_has ls 7 [(0, .ref (ad 0)), (1, .int p1), (4, .int p4), (5, .int a15), (6, .int a27)] → W p l e rm_X12_canGoOn_0 s m args below meth c H locs 0 0 Q (F0 m 160 ls [.int a48, .int x37, .int a15, .ref (ad 19)]) := by
                        intro a48 F50 L50 A50 B50 H locs ls r49 hq v51 hP hD hS hl
                        refine lv_ior hx hb dX12_canGoOn_160 ?_
                        refine lv_topi (fun x52 e53 => ?_)
                        have r54 : rg x52 0 1023 := rg_or 10 e53 r39 r49 (by decide)
                        refine va_iast hx hb hK hP hD hS 19 18 atM_19 tyM_19 (in_rg r21 (by decide)) dX12_canGoOn_161 (fun H locs hP hD hS => ?_)
                        have hq := hq.ast 19 (a15).toNatClampNeg (x := x52) (by decide) r54
                        rw [setM_19] at hP hD
                        have k55 : x52 = (va_up A50 19 (upd (A50 19) (a15).toNatClampNeg x52)) 19 (a15).toNatClampNeg := (rdA).symm
                        obtain ⟨x56, e57⟩ : ∃ y : Int32, y = a27 + 1 := ⟨_, rfl⟩
                        have r58 : rg x56 2 8 := rg_add e57 r33 (rg_k (by decide) : rg 1 1 1) (by decide)
                        refine lv_iinc (v := x56) (lv' := [(6, .int x56), (0, .ref (ad 0)), (1, .int p1), (4, .int p4), (5, .int a15)]) hx hb dX12_canGoOn_162 hl (k := 4) rfl (by rw [e57]; rfl) (by decide) rfl (fun ls hl => ?_)
                        refine lv_goto (tgt := 121) hx hb dX12_canGoOn_165 (by decide) ?_
                        exact ih121 (x56) (F50) (L50) ((va_up A50 19 (upd (A50 19) (a15).toNatClampNeg x52))) (B50) H locs ls (by have h0 : (1 : Int32).toInt = 1 := rfl; have h1 := ti_addk e57 r33 (by decide); have h2 : rg x56 1 8 := (rg_w r58 (by decide)); unfold rg at h2; omega) (rg_w r58 (by decide)) hq (by rw [va_us]; exact hB_step v51.1 (r21 : rg a15 0 9) ((rg_w r33 (by decide)) : rg a27 0 7) v51.2.1 v51.2.2 e53 e57) hP hD hS (lv_sub hl [1, 2, 3, 4, 0] rfl)
                      refine lv_if_le (tgt := 159) hx hb dX12_canGoOn_149 (by decide) (fun c59 => ?_) (fun c59 => ?_)
                      · skip
                        have r60 : rg x46 (-2147483648) 0 := rg_le1 (iE c59) ((rg_top _) : rg x46 (-2147483648) 2147483647) ((rg_k (by decide)) : rg 0 0 0)
                        refine lv_iconst (v := 0) hx hb dX12_canGoOn_159 (by decide) ?_
                        exact J160 (0) (F29) (L29) (A29) (B29) H locs ls (rg_k (by decide)) hq ⟨v30, Or.inr ⟨rfl, by rw [← (ad_cell ((rg_w r33 (by decide)) : rg a27 0 7) (r21 : rg a15 0 9) e41 e44).1, ← (congrFun (hq.2.2 16 (by decide)) _), ← e47]; have : (0 : Int32).toInt = 0 := rfl; have := (iE c59); omega⟩, e38⟩ hP hD hS (lv_sub hl [0, 1, 2, 3, 4] rfl)
                      · skip
                        have r61 : rg x46 1 2147483647 := rg_lt2 (iNE c59) ((rg_k (by decide)) : rg 0 0 0) ((rg_top _) : rg x46 (-2147483648) 2147483647)
                        refine lv_iconst (v := 1) hx hb dX12_canGoOn_152 (by decide) ?_
                        refine lv_iload hx hb dX12_canGoOn_153 (lv_at hl 4 rfl) ?_
                        refine lv_ishl hx hb dX12_canGoOn_155 ?_
                        refine lv_topi (fun x62 e63 => ?_)
                        have r64 : rg x62 2 128 := rg_shl1 e63 r33 (by decide)
                        refine lv_goto (tgt := 160) hx hb dX12_canGoOn_156 (by decide) ?_
                        exact J160 (x62) (F29) (L29) (A29) (B29) H locs ls (rg_w r64 (by decide)) hq ⟨v30, Or.inl ⟨e63, by rw [← (ad_cell ((rg_w r33 (by decide)) : rg a27 0 7) (r21 : rg a15 0 9) e41 e44).1, ← (congrFun (hq.2.2 16 (by decide)) _), ← e47]; have : (0 : Int32).toInt = 0 := rfl; have := (iNE c59); omega⟩, e38⟩ hP hD hS (lv_sub hl [0, 1, 2, 3, 4] rfl)
                exact J121 _ (p1) (F17) (L17) ((va_up A17 19 (upd (A17 19) (a15).toNatClampNeg 0))) (B17) H locs ls (Nat.lt_succ_self _) hp1 hq (by rw [va_us]; exact hB_0 v18 (r21 : rg a15 0 9)) hP hD hS (lv_sub hl [1, 2, 3, 4, 0] rfl)
          exact J103 _ (0) (F9) (L9) (A9) (B9) H locs ls (Nat.lt_succ_self _) (rg_k (by decide)) hq hA_0 hP hD hS (lv_sub hl [1, 2, 5, 0] rfl)
        · skip
          have r14 : rg x8 0 0 := rg_eq1 c12 (r10 : rg x8 0 1) ((rg_k (by decide)) : rg 0 0 0) (by decide)
          refine lv_iconst (v := 0) hx hb dX12_canGoOn_98 (by decide) ?_
          exact hret (0) (F9, L9, A9, B9) H locs 99 ls rfl dX12_canGoOn_99 hP hD hS ⟨hq, (rg_k (by decide)), ⟨Or.inl rfl, Or.inr (fun h9 => gol.2 ((g11).2.resolve_left (fun z => z c12)) h9.1)⟩⟩
      · skip
        have r7 : rg a1 0 7 := rg_lt1 (iNE c5) (r2 : rg a1 0 8) ((rg_k (by decide)) : rg 8 8 8)
        refine lv_aload_n hx hb dX12_canGoOn_10 rfl (lv_at hl 0 rfl) ?_
        refine va_get (ci := 12) (v := .ref (ad 19)) (C := RX12) (T := TX12) (N := 57) hx hb hg inX12 hown hK hP 0 atM_0 rfl 30 (by decide) (hg _ mw_1138) (fun _ h9 => h9) rfl dX12_canGoOn_11 ?_
        refine lv_iload hx hb dX12_canGoOn_14 (lv_at hl 5 rfl) ?_
        refine lv_iconst (v := 0) hx hb dX12_canGoOn_16 (by decide) ?_
        refine va_iast hx hb hK hP hD hS 19 18 atM_19 tyM_19 (in_rg r7 (by decide)) dX12_canGoOn_17 (fun H locs hP hD hS => ?_)
        have hq := hq.ast 19 (a1).toNatClampNeg (x := 0) (by decide) (rg_k (by decide))
        rw [setM_19] at hP hD
        have k65 : (0 : Int32) = (va_up A3 19 (upd (A3 19) (a1).toNatClampNeg 0)) 19 (a1).toNatClampNeg := (rdA).symm
        refine lv_iconst (v := 0) hx hb dX12_canGoOn_18 (by decide) ?_
        refine lv_istore (lv' := [(6, .int 0), (0, .ref (ad 0)), (1, .int p1), (2, .int p2), (3, .int p3), (4, .int p4), (5, .int a1)]) hx hb dX12_canGoOn_19 hl (by decide) rfl (fun ls hl => ?_)
        have J21 : ∀ (n21 : Nat) (a66 : Int32) (F68 : Nat → Int32) (L68 : Nat → Int64) (A68 : Nat → Nat → Int32) (B68 : Nat → Nat → Int64) (H : Heap) (locs : List Loc) (ls : Array Slot), (10 - a66.toInt).toNat < n21 → rg a66 0 10 → qM [] [19, 20] F A F68 A68 → (gB (A68 19) (A 16) p1 p2 a1 a66) → va_P D classes (wM cA ad F68 L68 A68 B68) H → va_D Af (wM cA ad F68 L68 A68 B68) → va_S Af s.heap H locs → lv_has ls 7 [(0, .ref (ad 0)), (1, .int p1), (2, .int p2), (3, .int p3), (4, .int p4), (5, .int a1), (6, .int a66)] → W p l e rm_X12_canGoOn_0 s m args below meth c H locs 0 0 Q (F0 m 21 ls []) := by
          intro n21
          induction n21 with
          | zero =>
            intro _ _ _ _ _ _ _ _ hn
            exact absurd hn (Nat.not_lt_zero _)
          | succ n21 ih21 =>
            intro a66 F68 L68 A68 B68 H locs ls hn21 r67 hq v69 hP hD hS hl
            refine lv_iload hx hb dX12_canGoOn_21 (lv_at hl 6 rfl) ?_
            refine lv_bipush (v := 10) hx hb dX12_canGoOn_23 (by decide) ?_
            have J84 : ∀ (F70 : Nat → Int32) (L70 : Nat → Int64) (A70 : Nat → Nat → Int32) (B70 : Nat → Nat → Int64) (H : Heap) (locs : List Loc) (ls : Array Slot), qM [] [19, 20] F A F70 A70 → (∃ h9 : Int32, gB (A70 19) (A 16) p1 p2 a1 h9 ∧ (10 ≤ h9.toInt ∨ a1.toInt < p1.toInt)) → va_P D classes (wM cA ad F70 L70 A70 B70) H → va_D Af (wM cA ad F70 L70 A70 B70) → va_S Af s.heap H locs → lv_has ls 7 [(0, .ref (ad 0)), (1, .int p1), (2, .int p2), (3, .int p3), (4, .int p4), (5, .int a1)] → W p l e rm_X12_canGoOn_0 s m args below meth c H locs 0 0 Q (F0 m 84 ls []) := by
              intro F70 L70 A70 B70 H locs ls hq v71 hP hD hS hl
              obtain ⟨x72, e73⟩ : ∃ y : Int32, y = a1 + 1 := ⟨_, rfl⟩
              have r74 : rg x72 1 8 := rg_add e73 r7 (rg_k (by decide) : rg 1 1 1) (by decide)
              refine lv_iinc (v := x72) (lv' := [(5, .int x72), (0, .ref (ad 0)), (1, .int p1), (2, .int p2), (3, .int p3), (4, .int p4)]) hx hb dX12_canGoOn_84 hl (k := 5) rfl (by rw [e73]; rfl) (by decide) rfl (fun ls hl => ?_)
              refine lv_goto (tgt := 3) hx hb dX12_canGoOn_87 (by decide) ?_
              exact ih3 (x72) (F70) (L70) (A70) (B70) H locs ls (by have h0 : (1 : Int32).toInt = 1 := rfl; have h1 := ti_addk e73 r7 (by decide); have h2 : rg x72 0 8 := (rg_w r74 (by decide)); unfold rg at h2; omega) (rg_w r74 (by decide)) hq (by obtain ⟨h9, g1, g2⟩ := v71; exact gB_done g1 (r7 : rg a1 0 7) g2 e73) hP hD hS (lv_sub hl [1, 2, 3, 4, 5, 0] rfl)
            refine lv_icmp_ge (tgt := 84) hx hb dX12_canGoOn_25 (by decide) (fun c75 => ?_) (fun c75 => ?_)
            · skip
              have r76 : rg a66 10 10 := rg_le2 (iE c75) ((rg_k (by decide)) : rg 10 10 10) (r67 : rg a66 0 10)
              exact J84 (F68) (L68) (A68) (B68) H locs ls hq ⟨_, v69, Or.inl (by have := (r76 : rg a66 10 10).1; omega)⟩ hP hD hS (lv_sub hl [0, 1, 2, 3, 4, 5] rfl)
            · skip
              have r77 : rg a66 0 9 := rg_lt1 (iNE c75) (r67 : rg a66 0 10) ((rg_k (by decide)) : rg 10 10 10)
              refine lv_iload hx hb dX12_canGoOn_28 (lv_at hl 5 rfl) ?_
              refine lv_iload_n hx hb dX12_canGoOn_30 rfl (lv_at hl 1 rfl) ?_
              refine lv_icmp_lt (tgt := 84) hx hb dX12_canGoOn_31 (by decide) (fun c78 => ?_) (fun c78 => ?_)
              · skip
                exact J84 (F68) (L68) (A68) (B68) H locs ls hq ⟨_, v69, Or.inr (iL c78)⟩ hP hD hS (lv_sub hl [0, 1, 2, 3, 4, 5] rfl)
              · skip
                have r79 : rg p1 1 7 := rg_le1 (iNL c78) (hp1 : rg p1 1 8) (r7 : rg a1 0 7)
                have r80 : rg a1 1 7 := rg_le2 (iNL c78) (hp1 : rg p1 1 8) (r7 : rg a1 0 7)
                refine lv_aload_n hx hb dX12_canGoOn_34 rfl (lv_at hl 0 rfl) ?_
                refine va_get (ci := 12) (v := .ref (ad 19)) (C := RX12) (T := TX12) (N := 57) hx hb hg inX12 hown hK hP 0 atM_0 rfl 30 (by decide) (hg _ mw_1138) (fun _ h9 => h9) rfl dX12_canGoOn_35 ?_
                refine lv_iload hx hb dX12_canGoOn_38 (lv_at hl 5 rfl) ?_
                refine lv_dup2_11 hx hb dX12_canGoOn_40 rfl rfl ?_
                refine va_iald hx hb hK hP 19 18 atM_19 tyM_19 (in_rg r80 (by decide)) dX12_canGoOn_41 ?_
                refine lv_topi (fun x81 e82 => ?_)
                have r83 : rg x81 0 1023 := rg_e e82 (hq.1.2 19 _)
                refine lv_iload_n hx hb dX12_canGoOn_42 rfl (lv_at hl 2 rfl) ?_
                refine lv_iload hx hb dX12_canGoOn_43 (lv_at hl 6 rfl) ?_
                refine lv_ishr hx hb dX12_canGoOn_45 ?_
                refine lv_topi (fun x84 e85 => ?_)
                have r86 : rg x84 0 1023 := rg_shrk _ e85 hp2 rfl (by decide)
                refine lv_iconst (v := 1) hx hb dX12_canGoOn_46 (by decide) ?_
                refine lv_iand hx hb dX12_canGoOn_47 ?_
                refine lv_topi (fun x87 e88 => ?_)
                have r89 : rg x87 0 1 := rg_andr e88 ((rg_k (by decide)) : rg 1 1 1) (by decide)
                refine lv_iconst (v := 1) hx hb dX12_canGoOn_48 (by decide) ?_
                have J76 : ∀ (a90 : Int32) (F92 : Nat → Int32) (L92 : Nat → Int64) (A92 : Nat → Nat → Int32) (B92 : Nat → Nat → Int64) (H : Heap) (locs : List Loc) (ls : Array Slot), rg a90 0 512 → qM [] [19, 20] F A F92 A92 → (gB (A92 19) (A 16) p1 p2 a1 a66 ∧ gV (A 16) p2 a1 a66 a90 ∧ x81 = (A92 19) a1.toNatClampNeg) → va_P D classes (wM cA ad F92 L92 A92 B92) H → va_D Af (wM cA ad F92 L92 A92 B92) → va_S Af s.heap H locs → lv_has ls 7 [(0, .ref (ad 0)), (1, .int p1), (2, .int p2), (3, .int p3), (4, .int p4), (5, .int a1), (6, .int a66)] → W p l e rm_X12_canGoOn_0 s m args below meth c H locs 0 0 Q (F0 m 76 ls [.int a90, .int x81, .int a1, .ref (ad 19)]) := by
                  intro a90 F92 L92 A92 B92 H locs ls r91 hq v93 hP hD hS hl
                  refine lv_ior hx hb dX12_canGoOn_76 ?_
                  refine lv_topi (fun x94 e95 => ?_)
                  have r96 : rg x94 0 1023 := rg_or 10 e95 r83 r91 (by decide)
                  refine va_iast hx hb hK hP hD hS 19 18 atM_19 tyM_19 (in_rg r80 (by decide)) dX12_canGoOn_77 (fun H locs hP hD hS => ?_)
                  have hq := hq.ast 19 (a1).toNatClampNeg (x := x94) (by decide) r96
                  rw [setM_19] at hP hD
                  have k97 : x94 = (va_up A92 19 (upd (A92 19) (a1).toNatClampNeg x94)) 19 (a1).toNatClampNeg := (rdA).symm
                  obtain ⟨x98, e99⟩ : ∃ y : Int32, y = a66 + 1 := ⟨_, rfl⟩
                  have r100 : rg x98 1 10 := rg_add e99 r77 (rg_k (by decide) : rg 1 1 1) (by decide)
                  refine lv_iinc (v := x98) (lv' := [(6, .int x98), (0, .ref (ad 0)), (1, .int p1), (2, .int p2), (3, .int p3), (4, .int p4), (5, .int a1)]) hx hb dX12_canGoOn_78 hl (k := 6) rfl (by rw [e99]; rfl) (by decide) rfl (fun ls hl => ?_)
                  refine lv_goto (tgt := 21) hx hb dX12_canGoOn_81 (by decide) ?_
                  exact ih21 (x98) (F92) (L92) ((va_up A92 19 (upd (A92 19) (a1).toNatClampNeg x94))) (B92) H locs ls (by have h0 : (1 : Int32).toInt = 1 := rfl; have h1 := ti_addk e99 r77 (by decide); have h2 : rg x98 0 10 := (rg_w r100 (by decide)); unfold rg at h2; omega) (rg_w r100 (by decide)) hq (by rw [va_us]; exact gB_step v93.1 ((rg_w r80 (by decide)) : rg a1 0 7) (r77 : rg a66 0 9) (iNL c78) v93.2.1 v93.2.2 e95 e99) hP hD hS (lv_sub hl [1, 2, 3, 4, 5, 6, 0] rfl)
                have J75 : ∀ (F101 : Nat → Int32) (L101 : Nat → Int64) (A101 : Nat → Nat → Int32) (B101 : Nat → Nat → Int64) (H : Heap) (locs : List Loc) (ls : Array Slot), qM [] [19, 20] F A F101 A101 → (gB (A101 19) (A 16) p1 p2 a1 a66 ∧ ¬ (bt p2 a66.toNatClampNeg ∧ 0 < ((A 16) (10 * a1.toNatClampNeg + a66.toNatClampNeg)).toInt) ∧ x81 = (A101 19) a1.toNatClampNeg) → va_P D classes (wM cA ad F101 L101 A101 B101) H → va_D Af (wM cA ad F101 L101 A101 B101) → va_S Af s.heap H locs → lv_has ls 7 [(0, .ref (ad 0)), (1, .int p1), (2, .int p2), (3, .int p3), (4, .int p4), (5, .int a1), (6, .int a66)] → W p l e rm_X12_canGoOn_0 s m args below meth c H locs 0 0 Q (F0 m 75 ls [.int x81, .int a1, .ref (ad 19)]) := by
                  intro F101 L101 A101 B101 H locs ls hq v102 hP hD hS hl
                  refine lv_iconst (v := 0) hx hb dX12_canGoOn_75 (by decide) ?_
                  exact J76 (0) (F101) (L101) (A101) (B101) H locs ls (rg_k (by decide)) hq ⟨v102.1, Or.inr ⟨rfl, v102.2.1⟩, v102.2.2⟩ hP hD hS (lv_sub hl [0, 1, 2, 3, 4, 5, 6] rfl)
                refine lv_icmp_ne (tgt := 75) hx hb dX12_canGoOn_49 (by decide) (fun c103 => ?_) (fun c103 => ?_)
                · skip
                  have r104 : rg x87 0 0 := (rg_ne1 c103 (r89 : rg x87 0 1) ((rg_k (by decide)) : rg 1 1 1)).2 rfl
                  exact J75 (F68) (L68) (A68) (B68) H locs ls hq ⟨v69, (fun h9 => bit_no (r77 : rg a66 0 9) e85 e88 c103 h9.1), e82⟩ hP hD hS (lv_sub hl [0, 1, 2, 3, 4, 5, 6] rfl)
                · skip
                  have r105 : rg x87 1 1 := rg_eq1 c103 (r89 : rg x87 0 1) ((rg_k (by decide)) : rg 1 1 1) (by decide)
                  refine lv_aload_n hx hb dX12_canGoOn_52 rfl (lv_at hl 0 rfl) ?_
                  refine va_get (ci := 12) (v := .ref (ad 16)) (C := RX12) (T := TX12) (N := 57) hx hb hg inX12 hown hK hP 0 atM_0 rfl 26 (by decide) (hg _ mw_1134) (fun _ h9 => h9) rfl dX12_canGoOn_53 ?_
                  refine lv_bipush (v := 10) hx hb dX12_canGoOn_56 (by decide) ?_
                  refine lv_iload hx hb dX12_canGoOn_58 (lv_at hl 5 rfl) ?_
                  refine lv_imul hx hb dX12_canGoOn_60 ?_
                  refine lv_topi (fun x106 e107 => ?_)
                  have r108 : rg x106 10 70 := rg_mul e107 ((rg_k (by decide)) : rg 10 10 10) r80 (by decide)
                  refine lv_iload hx hb dX12_canGoOn_61 (lv_at hl 6 rfl) ?_
                  refine lv_iadd hx hb dX12_canGoOn_63 ?_
                  refine lv_topi (fun x109 e110 => ?_)
                  have r111 : rg x109 10 79 := rg_add e110 r108 r77 (by decide)
                  refine va_iald hx hb hK hP 16 15 atM_16 tyM_16 (in_rg r111 (by decide)) dX12_canGoOn_64 ?_
                  refine lv_topi (fun x112 e113 => ?_)
                  refine lv_if_le (tgt := 75) hx hb dX12_canGoOn_65 (by decide) (fun c114 => ?_) (fun c114 => ?_)
                  · skip
                    have r115 : rg x112 (-2147483648) 0 := rg_le1 (iE c114) ((rg_top _) : rg x112 (-2147483648) 2147483647) ((rg_k (by decide)) : rg 0 0 0)
                    exact J75 (F68) (L68) (A68) (B68) H locs ls hq ⟨v69, (fun h9 => absurd h9.2 (by rw [← (ad_cell ((rg_w r80 (by decide)) : rg a1 0 7) (r77 : rg a66 0 9) e107 e110).1, ← (congrFun (hq.2.2 16 (by decide)) _), ← e113]; have := (iE c114); have : (0 : Int32).toInt = 0 := rfl; omega)), e82⟩ hP hD hS (lv_sub hl [0, 1, 2, 3, 4, 5, 6] rfl)
                  · skip
                    have r116 : rg x112 1 2147483647 := rg_lt2 (iNE c114) ((rg_k (by decide)) : rg 0 0 0) ((rg_top _) : rg x112 (-2147483648) 2147483647)
                    refine lv_iconst (v := 1) hx hb dX12_canGoOn_68 (by decide) ?_
                    refine lv_iload hx hb dX12_canGoOn_69 (lv_at hl 6 rfl) ?_
                    refine lv_ishl hx hb dX12_canGoOn_71 ?_
                    refine lv_topi (fun x117 e118 => ?_)
                    have r119 : rg x117 1 512 := rg_shl1 e118 r77 (by decide)
                    refine lv_goto (tgt := 76) hx hb dX12_canGoOn_72 (by decide) ?_
                    exact J76 (x117) (F68) (L68) (A68) (B68) H locs ls (rg_w r119 (by decide)) hq ⟨v69, Or.inl ⟨e118, bit_hit (r77 : rg a66 0 9) e85 e88 c103, (by rw [← (ad_cell ((rg_w r80 (by decide)) : rg a1 0 7) (r77 : rg a66 0 9) e107 e110).1, ← (congrFun (hq.2.2 16 (by decide)) _), ← e113]; have := (iNE c114); have : (0 : Int32).toInt = 0 := rfl; omega)⟩, e82⟩ hP hD hS (lv_sub hl [0, 1, 2, 3, 4, 5, 6] rfl)
        exact J21 _ (0) (F3) (L3) ((va_up A3 19 (upd (A3 19) (a1).toNatClampNeg 0))) (B3) H locs ls (Nat.lt_succ_self _) (rg_k (by decide)) hq (by rw [va_us]; exact gB_0 v4 (r7 : rg a1 0 7)) hP hD hS (lv_sub hl [1, 2, 3, 4, 5, 6, 0] rfl)
  exact J3 _ (0) (F) (L) (A) (B) H locs ls (Nat.lt_succ_self _) (rg_k (by decide)) hq gA_0 hP hD hS (lv_sub hl [1, 2, 3, 4, 5, 0] rfl)
abbrev rm_X12_layRound_0 : Room := { frames := 3, cells := 0, slots := 0, locals := 71 }
set_option maxHeartbeats 4000000 in
set_option maxRecDepth 100000 in
theorem c_X12_layRound_0 (l : Launch) (D : va_G) (cA : Nat → ClassId) (sz : Nat) (ad : Nat → Nat) (F : Nat → Int32) (L : Nat → Int64) (A : Nat → Nat → Int32) (B : Nat → Nat → Int64)  (hT : typM F A) (hL99 : ok99 (A 16)) (hzo : zo (A 16) (A 3 (F 8).toNatClampNeg).toInt (A 4 (F 8).toNatClampNeg).toInt) (hpos : ∀ k : Nat, isL (A 16) k → 0 < k) : Met l yX12_layRound (Cond.code yX12_layRound cX12_layRound 8 (some .int) :: GW) rm_X12_layRound_0 (mPc D classes (tysM cA) (wM cA ad F L A B) sz [.ref (ad 0)]) (mQi (S := SW) D classes (tysM cA) (wM cA ad F L A B) sz (wfM cA ad) (fun r u => qM [] [18, 19, 20] F A u.1 u.2.2.1 ∧ rg r (-2147483648) 990 ∧ (∃ Lm : Nat, rnd (A 16) (u.2.2.1 18) r.toInt.toNat Lm ∧ 1 ≤ r.toInt))) 0 0 (va_A (wM cA ad F L A B) sz) := by
  refine met_i (own := "ShoeingDayModel") (by decide +kernel) rfl (Nat.le_of_ble_eq_true rfl) ?_
  intro p e s m args below meth c Q Af ls hC hP hD hS hA hl hret
  have hx := hC.1
  have hb := hC.2.1
  have hown := hC.2.2.2.1
  have hg := hC.g
  have hK := hC.K
  have hl : lv_has ls 8 [(0, .ref (ad 0))] := hl
  have hq : qM [] [18, 19, 20] F A F A := qM.rf hT
  obtain ⟨H, hH⟩ : ∃ H, H = s.heap := ⟨_, rfl⟩
  have hP : va_P D classes (wM cA ad F L A B) H := by rw [hH]; exact hP
  have hS : va_S Af s.heap H [] := by rw [hH]; exact hS
  obtain ⟨locs, hlo⟩ : ∃ q : List Loc, q = [] := ⟨_, rfl⟩
  rw [← hH, ← hlo]
  rw [← hlo] at hS
  refine lv_aload_n hx hb dX12_layRound_0 rfl (lv_at hl 0 rfl) ?_
  refine callv_i (As := []) (rest := []) hC (c_X12_busySmiths_0_e l D cA H.size ad F L A B  hq.1 hL99) (cwV 0 hg (g_V mw_1435 mw_1432 mw_1434 ms_75 mw_20) rfl rfl rfl (by decide +kernel) ⟨(Nat.le_of_ble_eq_true rfl), (Nat.le_of_ble_eq_true rfl)⟩) hP hD hS hA atM_0 rfl rfl hl.1 rfl (Nat.le_of_ble_eq_true rfl) dX12_layRound_1 ⟨Nat.zero_le _, Nat.zero_le _⟩ (fun x1 u H locs hw hP hD hS => ?_)
  obtain ⟨r2, g3⟩ := hw
  have hP : va_P D classes (wM cA ad F L A B) H := hP
  have hD : va_D Af (wM cA ad F L A B) := hD
  refine lv_istore_n (lv' := [(1, .int x1), (0, .ref (ad 0))]) hx hb dX12_layRound_4 rfl hl (by decide) rfl (fun ls hl => ?_)
  refine lv_aload_n hx hb dX12_layRound_5 rfl (lv_at hl 1 rfl) ?_
  refine callv_i (As := []) (rest := []) hC (c_X12_busyHorses_0_e l D cA H.size ad F L A B  hq.1 hL99) (cwV 0 hg (g_V mw_1431 mw_1428 mw_1430 ms_74 mw_20) rfl rfl rfl (by decide +kernel) ⟨(Nat.le_of_ble_eq_true rfl), (Nat.le_of_ble_eq_true rfl)⟩) hP hD hS hA atM_0 rfl rfl hl.1 rfl (Nat.le_of_ble_eq_true rfl) dX12_layRound_6 ⟨Nat.zero_le _, Nat.zero_le _⟩ (fun x4 u H locs hw hP hD hS => ?_)
  obtain ⟨r5, g6⟩ := hw
  have hP : va_P D classes (wM cA ad F L A B) H := hP
  have hD : va_D Af (wM cA ad F L A B) := hD
  refine lv_istore_n (lv' := [(2, .int x4), (1, .int x1), (0, .ref (ad 0))]) hx hb dX12_layRound_9 rfl hl (by decide) rfl (fun ls hl => ?_)
  obtain ⟨mS, hmS⟩ := g3
  obtain ⟨mH, hmH⟩ := g6
  refine lv_sipush (v := 1023) hx hb dX12_layRound_10 (by decide) ?_
  refine lv_istore_n (lv' := [(3, .int 1023), (2, .int x4), (1, .int x1), (0, .ref (ad 0))]) hx hb dX12_layRound_13 rfl hl (by decide) rfl (fun ls hl => ?_)
  refine lv_iconst (v := 0) hx hb dX12_layRound_14 (by decide) ?_
  refine lv_istore (lv' := [(4, .int 0), (3, .int 1023), (2, .int x4), (1, .int x1), (0, .ref (ad 0))]) hx hb dX12_layRound_15 hl (by decide) rfl (fun ls hl => ?_)
  have J17 : ∀ (n17 : Nat) (a7 : Int32) (a9 : Int32) (a11 : Int32) (F13 : Nat → Int32) (L13 : Nat → Int64) (A13 : Nat → Nat → Int32) (B13 : Nat → Nat → Int64) (H : Heap) (locs : List Loc) (ls : Array Slot), (8 - a11.toInt).toNat < n17 → rg a7 0 1023 → rg a9 0 1023 → rg a11 0 8 → qM [] [18, 19, 20] F A F13 A13 → (lrI (A 16) (A13 18) x1 x4 a7 a9 a11.toNatClampNeg) → va_P D classes (wM cA ad F13 L13 A13 B13) H → va_D Af (wM cA ad F13 L13 A13 B13) → va_S Af s.heap H locs → lv_has ls 8 [(0, .ref (ad 0)), (1, .int x1), (2, .int a7), (3, .int a9), (4, .int a11)] → W p l e rm_X12_layRound_0 s m args below meth c H locs 0 0 Q (F0 m 17 ls []) := by
    intro n17
    induction n17 with
    | zero =>
      intro _ _ _ _ _ _ _ _ _ _ hn
      exact absurd hn (Nat.not_lt_zero _)
    | succ n17 ih17 =>
      intro a7 a9 a11 F13 L13 A13 B13 H locs ls hn17 r8 r10 r12 hq v14 hP hD hS hl
      refine lv_iload hx hb dX12_layRound_17 (lv_at hl 4 rfl) ?_
      refine lv_bipush (v := 8) hx hb dX12_layRound_19 (by decide) ?_
      refine lv_icmp_ge (tgt := 159) hx hb dX12_layRound_21 (by decide) (fun c15 => ?_) (fun c15 => ?_)
      · skip
        have r16 : rg a11 8 8 := rg_le2 (iE c15) ((rg_k (by decide)) : rg 8 8 8) (r12 : rg a11 0 8)
        have hwi : ∀ i : Nat, rg (A13 18 i) (-1) 9 := fun i => (hq.1.2 18 i : rg _ (-1) 9)
        refine lv_aload_n hx hb dX12_layRound_159 rfl (lv_at hl 0 rfl) ?_
        refine callv_i (As := []) (rest := []) hC (c_X12_leastOf_0_e l D cA H.size ad F13 L13 A13 B13  hq.1 (by rw [hq.2.2 16 (by decide)]; exact hL99)) (cwV 0 hg (g_V mw_1423 mw_1420 mw_1422 ms_73 mw_20) rfl rfl rfl (by decide +kernel) ⟨(Nat.le_of_ble_eq_true rfl), (Nat.le_of_ble_eq_true rfl)⟩) hP hD hS hA atM_0 rfl rfl hl.1 rfl (Nat.le_of_ble_eq_true rfl) dX12_layRound_160 ⟨Nat.zero_le _, Nat.zero_le _⟩ (fun x18 u H locs hw hP hD hS => ?_)
        obtain ⟨r19, g20⟩ := hw
        have hP : va_P D classes (wM cA ad F13 L13 A13 B13) H := hP
        have hD : va_D Af (wM cA ad F13 L13 A13 B13) := hD
        have hL1 : isL (A 16) x18.toInt.toNat := by have h9 := g20; rw [hq.2.2 16 (by decide)] at h9; exact h9
        refine lv_istore (lv' := [(4, .int x18), (0, .ref (ad 0)), (1, .int x1), (2, .int a7), (3, .int a9)]) hx hb dX12_layRound_163 hl (by decide) rfl (fun ls hl => ?_)
        refine lv_iload hx hb dX12_layRound_165 (lv_at hl 0 rfl) ?_
        refine lv_istore (lv' := [(5, .int x18), (4, .int x18), (0, .ref (ad 0)), (1, .int x1), (2, .int a7), (3, .int a9)]) hx hb dX12_layRound_167 hl (by decide) rfl (fun ls hl => ?_)
        refine lv_iconst (v := 0) hx hb dX12_layRound_169 (by decide) ?_
        refine lv_istore (lv' := [(6, .int 0), (5, .int x18), (4, .int x18), (0, .ref (ad 0)), (1, .int x1), (2, .int a7), (3, .int a9)]) hx hb dX12_layRound_170 hl (by decide) rfl (fun ls hl => ?_)
        have J172 : ∀ (n172 : Nat) (a21 : Int32) (a23 : Int32) (F25 : Nat → Int32) (L25 : Nat → Int64) (A25 : Nat → Nat → Int32) (B25 : Nat → Nat → Int64) (H : Heap) (locs : List Loc) (ls : Array Slot), (8 - a23.toInt).toNat < n172 → rg a21 (-2147483648) 990 → rg a23 0 8 → qM [] [18, 19, 20] F A F25 A25 → (mnI (A 16) (A13 18) a9 x18 a21 a23.toInt 0 ∧ (A25 18) = (A13 18)) → va_P D classes (wM cA ad F25 L25 A25 B25) H → va_D Af (wM cA ad F25 L25 A25 B25) → va_S Af s.heap H locs → lv_has ls 8 [(0, .ref (ad 0)), (3, .int a9), (4, .int x18), (5, .int a21), (6, .int a23)] → W p l e rm_X12_layRound_0 s m args below meth c H locs 0 0 Q (F0 m 172 ls []) := by
          intro n172
          induction n172 with
          | zero =>
            intro _ _ _ _ _ _ _ _ _ hn
            exact absurd hn (Nat.not_lt_zero _)
          | succ n172 ih172 =>
            intro a21 a23 F25 L25 A25 B25 H locs ls hn172 r22 r24 hq v26 hP hD hS hl
            refine lv_iload hx hb dX12_layRound_172 (lv_at hl 4 rfl) ?_
            refine lv_bipush (v := 8) hx hb dX12_layRound_174 (by decide) ?_
            refine lv_icmp_ge (tgt := 243) hx hb dX12_layRound_176 (by decide) (fun c27 => ?_) (fun c27 => ?_)
            · skip
              have r28 : rg a23 8 8 := rg_le2 (iE c27) ((rg_k (by decide)) : rg 8 8 8) (r24 : rg a23 0 8)
              refine lv_iconst (v := 0) hx hb dX12_layRound_243 (by decide) ?_
              refine lv_istore (lv' := [(6, .int 0), (0, .ref (ad 0)), (3, .int a9), (4, .int x18), (5, .int a21)]) hx hb dX12_layRound_244 hl (by decide) rfl (fun ls hl => ?_)
              have J246 : ∀ (n246 : Nat) (a30 : Int32) (a32 : Int32) (F34 : Nat → Int32) (L34 : Nat → Int64) (A34 : Nat → Nat → Int32) (B34 : Nat → Nat → Int64) (H : Heap) (locs : List Loc) (ls : Array Slot), (10 - a32.toInt).toNat < n246 → rg a30 (-2147483648) 990 → rg a32 0 10 → qM [] [18, 19, 20] F A F34 A34 → (mnI (A 16) (A13 18) a9 x18 a30 8 a32.toInt ∧ (A34 18) = (A13 18)) → va_P D classes (wM cA ad F34 L34 A34 B34) H → va_D Af (wM cA ad F34 L34 A34 B34) → va_S Af s.heap H locs → lv_has ls 8 [(0, .ref (ad 0)), (3, .int a9), (4, .int x18), (5, .int a30), (6, .int a32)] → W p l e rm_X12_layRound_0 s m args below meth c H locs 0 0 Q (F0 m 246 ls []) := by
                intro n246
                induction n246 with
                | zero =>
                  intro _ _ _ _ _ _ _ _ _ hn
                  exact absurd hn (Nat.not_lt_zero _)
                | succ n246 ih246 =>
                  intro a30 a32 F34 L34 A34 B34 H locs ls hn246 r31 r33 hq v35 hP hD hS hl
                  refine lv_iload hx hb dX12_layRound_246 (lv_at hl 4 rfl) ?_
                  refine lv_bipush (v := 10) hx hb dX12_layRound_248 (by decide) ?_
                  refine lv_icmp_ge (tgt := 294) hx hb dX12_layRound_250 (by decide) (fun c36 => ?_) (fun c36 => ?_)
                  · skip
                    have r37 : rg a32 10 10 := rg_le2 (iE c36) ((rg_k (by decide)) : rg 10 10 10) (r33 : rg a32 0 10)
                    refine lv_iload hx hb dX12_layRound_294 (lv_at hl 3 rfl) ?_
                    exact hret (a30) (F34, L34, A34, B34) H locs 296 ls rfl dX12_layRound_296 hP hD hS ⟨hq, r31, ⟨_, by dsimp only; rw [show (A34 18) = _ from v35.2]; exact lr_rnd hwi hpos hzo hmS hmH v14 (r16 : rg a11 8 8) hL1 (r19 : rg x18 0 990).1 v35.1 (by have := (r37 : rg a32 10 10).1; omega)⟩⟩
                  · skip
                    have r38 : rg a32 0 9 := rg_lt1 (iNE c36) (r33 : rg a32 0 10) ((rg_k (by decide)) : rg 10 10 10)
                    refine lv_iload_n hx hb dX12_layRound_253 rfl (lv_at hl 1 rfl) ?_
                    refine lv_iload hx hb dX12_layRound_254 (lv_at hl 4 rfl) ?_
                    refine lv_ishr hx hb dX12_layRound_256 ?_
                    refine lv_topi (fun x39 e40 => ?_)
                    have r41 : rg x39 0 1023 := rg_shrk _ e40 r10 rfl (by decide)
                    refine lv_iconst (v := 1) hx hb dX12_layRound_257 (by decide) ?_
                    refine lv_iand hx hb dX12_layRound_258 ?_
                    refine lv_topi (fun x42 e43 => ?_)
                    have r44 : rg x42 0 1 := rg_andr e43 ((rg_k (by decide)) : rg 1 1 1) (by decide)
                    refine lv_iconst (v := 1) hx hb dX12_layRound_259 (by decide) ?_
                    have J288 : ∀ (a45 : Int32) (F47 : Nat → Int32) (L47 : Nat → Int64) (A47 : Nat → Nat → Int32) (B47 : Nat → Nat → Int64) (H : Heap) (locs : List Loc) (ls : Array Slot), rg a45 (-2147483648) 990 → qM [] [18, 19, 20] F A F47 A47 → (mnI (A 16) (A13 18) a9 x18 a45 8 (a32.toInt + 1) ∧ (A47 18) = (A13 18)) → va_P D classes (wM cA ad F47 L47 A47 B47) H → va_D Af (wM cA ad F47 L47 A47 B47) → va_S Af s.heap H locs → lv_has ls 8 [(0, .ref (ad 0)), (3, .int a9), (4, .int x18), (5, .int a45), (6, .int a32)] → W p l e rm_X12_layRound_0 s m args below meth c H locs 0 0 Q (F0 m 288 ls []) := by
                      intro a45 F47 L47 A47 B47 H locs ls r46 hq v48 hP hD hS hl
                      obtain ⟨x49, e50⟩ : ∃ y : Int32, y = a32 + 1 := ⟨_, rfl⟩
                      have r51 : rg x49 1 10 := rg_add e50 r38 (rg_k (by decide) : rg 1 1 1) (by decide)
                      refine lv_iinc (v := x49) (lv' := [(6, .int x49), (0, .ref (ad 0)), (3, .int a9), (4, .int x18), (5, .int a45)]) hx hb dX12_layRound_288 hl (k := 4) rfl (by rw [e50]; rfl) (by decide) rfl (fun ls hl => ?_)
                      refine lv_goto (tgt := 246) hx hb dX12_layRound_291 (by decide) ?_
                      exact ih246 (a45) (x49) (F47) (L47) (A47) (B47) H locs ls (by have h0 : (1 : Int32).toInt = 1 := rfl; have h1 := ti_addk e50 r38 (by decide); have h2 : rg x49 0 10 := (rg_w r51 (by decide)); unfold rg at h2; omega) r46 (rg_w r51 (by decide)) hq ⟨by rw [(inc_nat (r38 : rg a32 0 9) (by decide) e50).2]; exact v48.1, v48.2⟩ hP hD hS (lv_sub hl [1, 2, 3, 4, 0] rfl)
                    refine lv_icmp_ne (tgt := 288) hx hb dX12_layRound_260 (by decide) (fun c52 => ?_) (fun c52 => ?_)
                    · skip
                      have r53 : rg x42 0 0 := (rg_ne1 c52 (r44 : rg x42 0 1) ((rg_k (by decide)) : rg 1 1 1)).2 rfl
                      exact J288 (a30) (F34) (L34) (A34) (B34) H locs ls r31 hq ⟨mn_c0 v35.1 (r38 : rg a32 0 9) (fun z => absurd z (bit_no (r38 : rg a32 0 9) e40 e43 c52)), v35.2⟩ hP hD hS (lv_sub hl [0, 1, 2, 3, 4] rfl)
                    · skip
                      have r54 : rg x42 1 1 := rg_eq1 c52 (r44 : rg x42 0 1) ((rg_k (by decide)) : rg 1 1 1) (by decide)
                      refine lv_iload hx hb dX12_layRound_263 (lv_at hl 2 rfl) ?_
                      refine lv_aload_n hx hb dX12_layRound_265 rfl (lv_at hl 0 rfl) ?_
                      refine lv_iload hx hb dX12_layRound_266 (lv_at hl 4 rfl) ?_
                      refine callv_i (As := [.int a32]) (rest := [.int x18]) hC (c_X12_horseSum_0_e l D cA H.size ad F34 L34 A34 B34 (a32) hq.1 r38 (by rw [hq.2.2 16 (by decide)]; exact hL99)) (cwV 1 hg (g_V mw_1411 mw_1408 mw_1410 ms_71 mw_20) rfl rfl rfl (by decide +kernel) ⟨(Nat.le_of_ble_eq_true rfl), (Nat.le_of_ble_eq_true rfl)⟩) hP hD hS hA atM_0 rfl rfl hl.1 rfl (Nat.le_of_ble_eq_true rfl) dX12_layRound_268 ⟨Nat.zero_le _, Nat.zero_le _⟩ (fun x55 u H locs hw hP hD hS => ?_)
                      obtain ⟨r56, g57⟩ := hw
                      have hP : va_P D classes (wM cA ad F34 L34 A34 B34) H := hP
                      have hD : va_D Af (wM cA ad F34 L34 A34 B34) := hD
                      refine lv_isub hx hb dX12_layRound_271 ?_
                      refine lv_topi (fun x58 e59 => ?_)
                      have r60 : rg x58 (-990) 990 := rg_sub e59 r19 r56 (by decide)
                      refine lv_iload hx hb dX12_layRound_272 (lv_at hl 3 rfl) ?_
                      refine lv_icmp_ge (tgt := 288) hx hb dX12_layRound_274 (by decide) (fun c61 => ?_) (fun c61 => ?_)
                      · skip
                        exact J288 (a30) (F34) (L34) (A34) (B34) H locs ls r31 hq ⟨mn_c0 v35.1 (r38 : rg a32 0 9) (fun _ => by have := tiS e59 (r19 : rg x18 0 990) (r56 : rg x55 0 990) (by decide); have := (show _ = _ by rw [← hq.2.2 16 (by decide)]; exact g57 : x55.toInt = (colS (A 16) a32.toNatClampNeg : Nat)); have := (iE c61); omega), v35.2⟩ hP hD hS (lv_sub hl [0, 1, 2, 3, 4] rfl)
                      · skip
                        have r62 : rg x58 (-990) 989 := rg_lt1 (iNE c61) (r60 : rg x58 (-990) 990) (r31 : rg a30 (-2147483648) 990)
                        have r63 : rg a30 (-989) 990 := rg_lt2 (iNE c61) (r60 : rg x58 (-990) 990) (r31 : rg a30 (-2147483648) 990)
                        refine lv_iload hx hb dX12_layRound_277 (lv_at hl 2 rfl) ?_
                        refine lv_aload_n hx hb dX12_layRound_279 rfl (lv_at hl 0 rfl) ?_
                        refine lv_iload hx hb dX12_layRound_280 (lv_at hl 4 rfl) ?_
                        refine callv_i (As := [.int a32]) (rest := [.int x18]) hC (c_X12_horseSum_0_e l D cA H.size ad F34 L34 A34 B34 (a32) hq.1 r38 (by rw [hq.2.2 16 (by decide)]; exact hL99)) (cwV 1 hg (g_V mw_1411 mw_1408 mw_1410 ms_71 mw_20) rfl rfl rfl (by decide +kernel) ⟨(Nat.le_of_ble_eq_true rfl), (Nat.le_of_ble_eq_true rfl)⟩) hP hD hS hA atM_0 rfl rfl hl.1 rfl (Nat.le_of_ble_eq_true rfl) dX12_layRound_282 ⟨Nat.zero_le _, Nat.zero_le _⟩ (fun x64 u H locs hw hP hD hS => ?_)
                        obtain ⟨r65, g66⟩ := hw
                        have hP : va_P D classes (wM cA ad F34 L34 A34 B34) H := hP
                        have hD : va_D Af (wM cA ad F34 L34 A34 B34) := hD
                        refine lv_isub hx hb dX12_layRound_285 ?_
                        refine lv_topi (fun x67 e68 => ?_)
                        have r69 : rg x67 (-990) 990 := rg_sub e68 r19 r65 (by decide)
                        refine lv_istore (lv' := [(5, .int x67), (0, .ref (ad 0)), (3, .int a9), (4, .int x18), (6, .int a32)]) hx hb dX12_layRound_286 hl (by decide) rfl (fun ls hl => ?_)
                        exact J288 (x67) (F34) (L34) (A34) (B34) H locs ls (rg_w r69 (by decide)) hq ⟨mn_c1 v35.1 (r38 : rg a32 0 9) (bit_hit (r38 : rg a32 0 9) e40 e43 c52) (by have := tiS e68 (r19 : rg x18 0 990) (r65 : rg x64 0 990) (by decide); have := (show _ = _ by rw [← hq.2.2 16 (by decide)]; exact g66 : x64.toInt = (colS (A 16) a32.toNatClampNeg : Nat)); omega) (by have := tiS e59 (r19 : rg x18 0 990) (r56 : rg x55 0 990) (by decide); have := tiS e68 (r19 : rg x18 0 990) (r65 : rg x64 0 990) (by decide); have := (show _ = _ by rw [← hq.2.2 16 (by decide)]; exact g57 : x55.toInt = (colS (A 16) a32.toNatClampNeg : Nat)); have := (show _ = _ by rw [← hq.2.2 16 (by decide)]; exact g66 : x64.toInt = (colS (A 16) a32.toNatClampNeg : Nat)); have := (iNE c61); omega), v35.2⟩ hP hD hS (lv_sub hl [1, 2, 3, 0, 4] rfl)
              exact J246 _ (a21) (0) (F25) (L25) (A25) (B25) H locs ls (Nat.lt_succ_self _) r22 (rg_k (by decide)) hq ⟨mn_mid v26.1 (by have := (r28 : rg a23 8 8).1; omega), v26.2⟩ hP hD hS (lv_sub hl [1, 2, 3, 4, 0] rfl)
            · skip
              have r29 : rg a23 0 7 := rg_lt1 (iNE c27) (r24 : rg a23 0 8) ((rg_k (by decide)) : rg 8 8 8)
              refine lv_aload_n hx hb dX12_layRound_179 rfl (lv_at hl 0 rfl) ?_
              refine va_get (ci := 12) (v := .ref (ad 18)) (C := RX12) (T := TX12) (N := 57) hx hb hg inX12 hown hK hP 0 atM_0 rfl 29 (by decide) (hg _ mw_1137) (fun _ h9 => h9) rfl dX12_layRound_180 ?_
              refine lv_iload hx hb dX12_layRound_183 (lv_at hl 4 rfl) ?_
              refine va_iald hx hb hK hP 18 17 atM_18 tyM_18 (in_rg r29 (by decide)) dX12_layRound_185 ?_
              refine lv_topi (fun x70 e71 => ?_)
              have r72 : rg x70 (-1) 9 := rg_e e71 (hq.1.2 18 _)
              have J219 : ∀ (a73 : Int32) (F74 : Nat → Int32) (L74 : Nat → Int64) (A74 : Nat → Nat → Int32) (B74 : Nat → Nat → Int64) (H : Heap) (locs : List Loc) (ls : Array Slot), qM [] [18, 19, 20] F A F74 A74 → (a73.toInt = lim (A 16) (A13 18) x18 a23.toNatClampNeg ∧ (A74 18) = (A13 18)) → va_P D classes (wM cA ad F74 L74 A74 B74) H → va_D Af (wM cA ad F74 L74 A74 B74) → va_S Af s.heap H locs → lv_has ls 8 [(0, .ref (ad 0)), (3, .int a9), (4, .int x18), (5, .int a21), (6, .int a23)] → W p l e rm_X12_layRound_0 s m args below meth c H locs 0 0 Q (F0 m 219 ls [.int a73]) := by
                intro a73 F74 L74 A74 B74 H locs ls hq v75 hP hD hS hl
                refine lv_istore (lv' := [(7, .int a73), (0, .ref (ad 0)), (3, .int a9), (4, .int x18), (5, .int a21), (6, .int a23)]) hx hb dX12_layRound_219 hl (by decide) rfl (fun ls hl => ?_)
                refine lv_iload hx hb dX12_layRound_221 (lv_at hl 0 rfl) ?_
                refine lv_iload hx hb dX12_layRound_223 (lv_at hl 4 rfl) ?_
                have J235 : ∀ (a76 : Int32) (F78 : Nat → Int32) (L78 : Nat → Int64) (A78 : Nat → Nat → Int32) (B78 : Nat → Nat → Int64) (H : Heap) (locs : List Loc) (ls : Array Slot), rg a76 (-2147483648) 990 → qM [] [18, 19, 20] F A F78 A78 → (mnI (A 16) (A13 18) a9 x18 a76 (a23.toInt + 1) 0 ∧ (A78 18) = (A13 18)) → va_P D classes (wM cA ad F78 L78 A78 B78) H → va_D Af (wM cA ad F78 L78 A78 B78) → va_S Af s.heap H locs → lv_has ls 8 [(0, .ref (ad 0)), (3, .int a9), (4, .int x18), (6, .int a23)] → W p l e rm_X12_layRound_0 s m args below meth c H locs 0 0 Q (F0 m 235 ls [.int a76]) := by
                  intro a76 F78 L78 A78 B78 H locs ls r77 hq v79 hP hD hS hl
                  refine lv_istore (lv' := [(5, .int a76), (0, .ref (ad 0)), (3, .int a9), (4, .int x18), (6, .int a23)]) hx hb dX12_layRound_235 hl (by decide) rfl (fun ls hl => ?_)
                  obtain ⟨x80, e81⟩ : ∃ y : Int32, y = a23 + 1 := ⟨_, rfl⟩
                  have r82 : rg x80 1 8 := rg_add e81 r29 (rg_k (by decide) : rg 1 1 1) (by decide)
                  refine lv_iinc (v := x80) (lv' := [(6, .int x80), (5, .int a76), (0, .ref (ad 0)), (3, .int a9), (4, .int x18)]) hx hb dX12_layRound_237 hl (k := 4) rfl (by rw [e81]; rfl) (by decide) rfl (fun ls hl => ?_)
                  refine lv_goto (tgt := 172) hx hb dX12_layRound_240 (by decide) ?_
                  exact ih172 (a76) (x80) (F78) (L78) (A78) (B78) H locs ls (by have h0 : (1 : Int32).toInt = 1 := rfl; have h1 := ti_addk e81 r29 (by decide); have h2 : rg x80 0 8 := (rg_w r82 (by decide)); unfold rg at h2; omega) r77 (rg_w r82 (by decide)) hq ⟨by rw [(inc_nat (r29 : rg a23 0 7) (by decide) e81).2]; exact v79.1, v79.2⟩ hP hD hS (lv_sub hl [2, 3, 4, 1, 0] rfl)
                refine lv_icmp_ge (tgt := 233) hx hb dX12_layRound_225 (by decide) (fun c83 => ?_) (fun c83 => ?_)
                · skip
                  refine lv_iload hx hb dX12_layRound_233 (lv_at hl 4 rfl) ?_
                  exact J235 (a21) (F74) (L74) (A74) (B74) H locs ls r22 hq ⟨mn_row v26.1 (r29 : rg a23 0 7) v75.1 (Or.inr ⟨rfl, (iE c83)⟩), v75.2⟩ hP hD hS (lv_sub hl [1, 2, 3, 5] rfl)
                · skip
                  have r84 : rg a73 (-2147483648) 989 := rg_lt1 (iNE c83) ((rg_top _) : rg a73 (-2147483648) 2147483647) (r22 : rg a21 (-2147483648) 990)
                  have r85 : rg a21 (-2147483647) 990 := rg_lt2 (iNE c83) ((rg_top _) : rg a73 (-2147483648) 2147483647) (r22 : rg a21 (-2147483648) 990)
                  refine lv_iload hx hb dX12_layRound_228 (lv_at hl 0 rfl) ?_
                  refine lv_goto (tgt := 235) hx hb dX12_layRound_230 (by decide) ?_
                  exact J235 (a73) (F74) (L74) (A74) (B74) H locs ls (rg_w r84 (by decide)) hq ⟨mn_row v26.1 (r29 : rg a23 0 7) v75.1 (Or.inl ⟨rfl, (iNE c83)⟩), v75.2⟩ hP hD hS (lv_sub hl [1, 2, 3, 5] rfl)
              refine lv_if_ge (tgt := 201) hx hb dX12_layRound_186 (by decide) (fun c86 => ?_) (fun c86 => ?_)
              · skip
                have r87 : rg x70 0 9 := rg_le2 (iE c86) ((rg_k (by decide)) : rg 0 0 0) (r72 : rg x70 (-1) 9)
                refine lv_aload_n hx hb dX12_layRound_201 rfl (lv_at hl 0 rfl) ?_
                refine va_get (ci := 12) (v := .ref (ad 16)) (C := RX12) (T := TX12) (N := 57) hx hb hg inX12 hown hK hP 0 atM_0 rfl 26 (by decide) (hg _ mw_1134) (fun _ h9 => h9) rfl dX12_layRound_202 ?_
                refine lv_bipush (v := 10) hx hb dX12_layRound_205 (by decide) ?_
                refine lv_iload hx hb dX12_layRound_207 (lv_at hl 4 rfl) ?_
                refine lv_imul hx hb dX12_layRound_209 ?_
                refine lv_topi (fun x89 e90 => ?_)
                have r91 : rg x89 0 70 := rg_mul e90 ((rg_k (by decide)) : rg 10 10 10) r29 (by decide)
                refine lv_aload_n hx hb dX12_layRound_210 rfl (lv_at hl 0 rfl) ?_
                refine va_get (ci := 12) (v := .ref (ad 18)) (C := RX12) (T := TX12) (N := 57) hx hb hg inX12 hown hK hP 0 atM_0 rfl 29 (by decide) (hg _ mw_1137) (fun _ h9 => h9) rfl dX12_layRound_211 ?_
                refine lv_iload hx hb dX12_layRound_214 (lv_at hl 4 rfl) ?_
                refine va_iald hx hb hK hP 18 17 atM_18 tyM_18 (in_rg r29 (by decide)) dX12_layRound_216 ?_
                refine tope (e71) ?_
                refine lv_iadd hx hb dX12_layRound_217 ?_
                refine lv_topi (fun x92 e93 => ?_)
                have r94 : rg x92 0 79 := rg_add e93 r91 r87 (by decide)
                refine va_iald hx hb hK hP 16 15 atM_16 tyM_16 (in_rg r94 (by decide)) dX12_layRound_218 ?_
                refine lv_topi (fun x95 e96 => ?_)
                exact J219 (x95) (F25) (L25) (A25) (B25) H locs ls hq ⟨lim_pos hL99 (e71.trans (congrFun v26.2 _)) (r29 : rg a23 0 7) (r87 : rg x70 0 9) e90 e93 (e96.trans (congrFun (hq.2.2 16 (by decide)) _)), v26.2⟩ hP hD hS (lv_sub hl [0, 1, 2, 3, 4] rfl)
              · skip
                have r88 : rg x70 (-1) (-1) := rg_lt1 (iNE c86) (r72 : rg x70 (-1) 9) ((rg_k (by decide)) : rg 0 0 0)
                refine lv_iload hx hb dX12_layRound_189 (lv_at hl 2 rfl) ?_
                refine lv_aload_n hx hb dX12_layRound_191 rfl (lv_at hl 0 rfl) ?_
                refine lv_iload hx hb dX12_layRound_192 (lv_at hl 4 rfl) ?_
                refine callv_i (As := [.int a23]) (rest := [.int x18]) hC (c_X12_smithSum_0_e l D cA H.size ad F25 L25 A25 B25 (a23) hq.1 r29 (by rw [hq.2.2 16 (by decide)]; exact hL99)) (cwV 1 hg (g_V mw_1415 mw_1412 mw_1414 ms_72 mw_20) rfl rfl rfl (by decide +kernel) ⟨(Nat.le_of_ble_eq_true rfl), (Nat.le_of_ble_eq_true rfl)⟩) hP hD hS hA atM_0 rfl rfl hl.1 rfl (Nat.le_of_ble_eq_true rfl) dX12_layRound_194 ⟨Nat.zero_le _, Nat.zero_le _⟩ (fun x97 u H locs hw hP hD hS => ?_)
                obtain ⟨r98, g99⟩ := hw
                have hP : va_P D classes (wM cA ad F25 L25 A25 B25) H := hP
                have hD : va_D Af (wM cA ad F25 L25 A25 B25) := hD
                refine lv_isub hx hb dX12_layRound_197 ?_
                refine lv_topi (fun x100 e101 => ?_)
                have r102 : rg x100 (-990) 990 := rg_sub e101 r19 r98 (by decide)
                refine lv_goto (tgt := 219) hx hb dX12_layRound_198 (by decide) ?_
                exact J219 (x100) (F25) (L25) (A25) (B25) H locs ls hq ⟨lim_neg (e71.trans (congrFun v26.2 _)) (iNE c86) e101 (r19 : rg x18 0 990) (r98 : rg x97 0 990) (by rw [← hq.2.2 16 (by decide)]; exact g99), v26.2⟩ hP hD hS (lv_sub hl [0, 1, 2, 3, 4] rfl)
        exact J172 _ (x18) (0) (F13) (L13) (A13) (B13) H locs ls (Nat.lt_succ_self _) (rg_w r19 (by decide)) (rg_k (by decide)) hq ⟨mnI_0, rfl⟩ hP hD hS (lv_sub hl [3, 6, 2, 1, 0] rfl)
      · skip
        have r17 : rg a11 0 7 := rg_lt1 (iNE c15) (r12 : rg a11 0 8) ((rg_k (by decide)) : rg 8 8 8)
        refine lv_aload_n hx hb dX12_layRound_24 rfl (lv_at hl 0 rfl) ?_
        refine va_get (ci := 12) (v := .ref (ad 18)) (C := RX12) (T := TX12) (N := 57) hx hb hg inX12 hown hK hP 0 atM_0 rfl 29 (by decide) (hg _ mw_1137) (fun _ h9 => h9) rfl dX12_layRound_25 ?_
        refine lv_iload hx hb dX12_layRound_28 (lv_at hl 4 rfl) ?_
        refine lv_iconst (v := (-1)) hx hb dX12_layRound_30 (by decide) ?_
        refine va_iast hx hb hK hP hD hS 18 17 atM_18 tyM_18 (in_rg r17 (by decide)) dX12_layRound_31 (fun H locs hP hD hS => ?_)
        have hq := hq.ast 18 (a11).toNatClampNeg (x := (-1)) (by decide) (rg_k (by decide))
        rw [setM_18] at hP hD
        have k103 : ((-1) : Int32) = (va_up A13 18 (upd (A13 18) (a11).toNatClampNeg (-1))) 18 (a11).toNatClampNeg := (rdA).symm
        refine lv_iload_n hx hb dX12_layRound_32 rfl (lv_at hl 1 rfl) ?_
        refine lv_iconst (v := 1) hx hb dX12_layRound_33 (by decide) ?_
        refine lv_iload hx hb dX12_layRound_34 (lv_at hl 4 rfl) ?_
        refine lv_iconst (v := 1) hx hb dX12_layRound_36 (by decide) ?_
        refine lv_iadd hx hb dX12_layRound_37 ?_
        refine lv_topi (fun x104 e105 => ?_)
        have r106 : rg x104 1 8 := rg_add e105 r17 ((rg_k (by decide)) : rg 1 1 1) (by decide)
        refine lv_ishl hx hb dX12_layRound_38 ?_
        refine lv_topi (fun x107 e108 => ?_)
        have r109 : rg x107 2 256 := rg_shl1 e108 r106 (by decide)
        refine lv_iconst (v := 1) hx hb dX12_layRound_39 (by decide) ?_
        refine lv_isub hx hb dX12_layRound_40 ?_
        refine lv_topi (fun x110 e111 => ?_)
        have r112 : rg x110 1 255 := rg_sub e111 r109 ((rg_k (by decide)) : rg 1 1 1) (by decide)
        refine lv_iconst (v := (-1)) hx hb dX12_layRound_41 (by decide) ?_
        refine lv_ixor hx hb dX12_layRound_42 ?_
        refine lv_topi (fun x113 e114 => ?_)
        refine lv_iand hx hb dX12_layRound_43 ?_
        refine lv_topi (fun x115 e116 => ?_)
        have r117 : rg x115 0 255 := rg_andl e116 r2 (by decide)
        refine lv_istore (lv' := [(5, .int x115), (0, .ref (ad 0)), (1, .int x1), (2, .int a7), (3, .int a9), (4, .int a11)]) hx hb dX12_layRound_44 hl (by decide) rfl (fun ls hl => ?_)
        refine lv_iconst (v := 0) hx hb dX12_layRound_46 (by decide) ?_
        refine lv_istore (lv' := [(6, .int 0), (5, .int x115), (0, .ref (ad 0)), (1, .int x1), (2, .int a7), (3, .int a9), (4, .int a11)]) hx hb dX12_layRound_47 hl (by decide) rfl (fun ls hl => ?_)
        have J49 : ∀ (n49 : Nat) (a118 : Int32) (F120 : Nat → Int32) (L120 : Nat → Int64) (A120 : Nat → Nat → Int32) (B120 : Nat → Nat → Int64) (H : Heap) (locs : List Loc) (ls : Array Slot), (10 - a118.toInt).toNat < n49 → rg a118 0 10 → qM [] [18, 19, 20] F A F120 A120 → (lrH (A 16) (A120 18) x1 x4 a7 a9 a11 a118.toInt) → va_P D classes (wM cA ad F120 L120 A120 B120) H → va_D Af (wM cA ad F120 L120 A120 B120) → va_S Af s.heap H locs → lv_has ls 8 [(0, .ref (ad 0)), (1, .int x1), (2, .int a7), (3, .int a9), (4, .int a11), (5, .int x115), (6, .int a118)] → W p l e rm_X12_layRound_0 s m args below meth c H locs 0 0 Q (F0 m 49 ls []) := by
          intro n49
          induction n49 with
          | zero =>
            intro _ _ _ _ _ _ _ _ hn
            exact absurd hn (Nat.not_lt_zero _)
          | succ n49 ih49 =>
            intro a118 F120 L120 A120 B120 H locs ls hn49 r119 hq v121 hP hD hS hl
            refine lv_iload hx hb dX12_layRound_49 (lv_at hl 6 rfl) ?_
            refine lv_bipush (v := 10) hx hb dX12_layRound_51 (by decide) ?_
            have J116 : ∀ (F122 : Nat → Int32) (L122 : Nat → Int64) (A122 : Nat → Nat → Int32) (B122 : Nat → Nat → Int64) (H : Heap) (locs : List Loc) (ls : Array Slot), qM [] [18, 19, 20] F A F122 A122 → (lrX (A 16) (A122 18) x1 x4 a7 a9 a11 a118) → va_P D classes (wM cA ad F122 L122 A122 B122) H → va_D Af (wM cA ad F122 L122 A122 B122) → va_S Af s.heap H locs → lv_has ls 8 [(0, .ref (ad 0)), (1, .int x1), (2, .int a7), (3, .int a9), (4, .int a11), (6, .int a118)] → W p l e rm_X12_layRound_0 s m args below meth c H locs 0 0 Q (F0 m 116 ls []) := by
              intro F122 L122 A122 B122 H locs ls hq v123 hP hD hS hl
              refine lv_iload hx hb dX12_layRound_116 (lv_at hl 5 rfl) ?_
              refine lv_bipush (v := 10) hx hb dX12_layRound_118 (by decide) ?_
              have J153 : ∀ (a124 : Int32) (a126 : Int32) (F128 : Nat → Int32) (L128 : Nat → Int64) (A128 : Nat → Nat → Int32) (B128 : Nat → Nat → Int64) (H : Heap) (locs : List Loc) (ls : Array Slot), rg a124 0 1023 → rg a126 0 1023 → qM [] [18, 19, 20] F A F128 A128 → (lrI (A 16) (A128 18) x1 x4 a124 a126 (a11.toNatClampNeg + 1)) → va_P D classes (wM cA ad F128 L128 A128 B128) H → va_D Af (wM cA ad F128 L128 A128 B128) → va_S Af s.heap H locs → lv_has ls 8 [(0, .ref (ad 0)), (1, .int x1), (2, .int a124), (3, .int a126), (4, .int a11)] → W p l e rm_X12_layRound_0 s m args below meth c H locs 0 0 Q (F0 m 153 ls []) := by
                intro a124 a126 F128 L128 A128 B128 H locs ls r125 r127 hq v129 hP hD hS hl
                obtain ⟨x130, e131⟩ : ∃ y : Int32, y = a11 + 1 := ⟨_, rfl⟩
                have r132 : rg x130 1 8 := rg_add e131 r17 (rg_k (by decide) : rg 1 1 1) (by decide)
                refine lv_iinc (v := x130) (lv' := [(4, .int x130), (0, .ref (ad 0)), (1, .int x1), (2, .int a124), (3, .int a126)]) hx hb dX12_layRound_153 hl (k := 4) rfl (by rw [e131]; rfl) (by decide) rfl (fun ls hl => ?_)
                refine lv_goto (tgt := 17) hx hb dX12_layRound_156 (by decide) ?_
                exact ih17 (a124) (a126) (x130) (F128) (L128) (A128) (B128) H locs ls (by have h0 : (1 : Int32).toInt = 1 := rfl; have h1 := ti_addk e131 r17 (by decide); have h2 : rg x130 0 8 := (rg_w r132 (by decide)); unfold rg at h2; omega) r125 r127 (rg_w r132 (by decide)) hq (by rw [(inc_nat (r17 : rg a11 0 7) (by decide) e131).1]; exact v129) hP hD hS (lv_sub hl [1, 2, 3, 4, 0] rfl)
              refine lv_icmp_ne (tgt := 126) hx hb dX12_layRound_120 (by decide) (fun c133 => ?_) (fun c133 => ?_)
              · skip
                have r134 : rg a118 0 9 := (rg_ne1 c133 (r119 : rg a118 0 10) ((rg_k (by decide)) : rg 10 10 10)).2 rfl
                refine lv_aload_n hx hb dX12_layRound_126 rfl (lv_at hl 0 rfl) ?_
                refine va_get (ci := 12) (v := .ref (ad 18)) (C := RX12) (T := TX12) (N := 57) hx hb hg inX12 hown hK hP 0 atM_0 rfl 29 (by decide) (hg _ mw_1137) (fun _ h9 => h9) rfl dX12_layRound_127 ?_
                refine lv_iload hx hb dX12_layRound_130 (lv_at hl 4 rfl) ?_
                refine lv_iload hx hb dX12_layRound_132 (lv_at hl 5 rfl) ?_
                refine va_iast hx hb hK hP hD hS 18 17 atM_18 tyM_18 (in_rg r17 (by decide)) dX12_layRound_134 (fun H locs hP hD hS => ?_)
                have hq := hq.ast 18 (a11).toNatClampNeg (x := a118) (by decide) (rg_w r134 (by decide))
                rw [setM_18] at hP hD
                have k136 : a118 = (va_up A122 18 (upd (A122 18) (a11).toNatClampNeg a118)) 18 (a11).toNatClampNeg := (rdA).symm
                refine lv_iload_n hx hb dX12_layRound_135 rfl (lv_at hl 3 rfl) ?_
                refine lv_iconst (v := 1) hx hb dX12_layRound_136 (by decide) ?_
                refine lv_iload hx hb dX12_layRound_137 (lv_at hl 5 rfl) ?_
                refine lv_ishl hx hb dX12_layRound_139 ?_
                refine lv_topi (fun x137 e138 => ?_)
                have r139 : rg x137 1 512 := rg_shl1 e138 r134 (by decide)
                refine lv_iconst (v := (-1)) hx hb dX12_layRound_140 (by decide) ?_
                refine lv_ixor hx hb dX12_layRound_141 ?_
                refine lv_topi (fun x140 e141 => ?_)
                refine lv_iand hx hb dX12_layRound_142 ?_
                refine lv_topi (fun x142 e143 => ?_)
                have r144 : rg x142 0 1023 := rg_andl e143 r10 (by decide)
                refine lv_istore_n (lv' := [(3, .int x142), (0, .ref (ad 0)), (1, .int x1), (2, .int a7), (4, .int a11), (6, .int a118)]) hx hb dX12_layRound_143 rfl hl (by decide) rfl (fun ls hl => ?_)
                refine lv_iload_n hx hb dX12_layRound_144 rfl (lv_at hl 3 rfl) ?_
                refine lv_iconst (v := 1) hx hb dX12_layRound_145 (by decide) ?_
                refine lv_iload hx hb dX12_layRound_146 (lv_at hl 5 rfl) ?_
                refine lv_ishl hx hb dX12_layRound_148 ?_
                refine tope e138 ?_
                refine lv_iconst (v := (-1)) hx hb dX12_layRound_149 (by decide) ?_
                refine lv_ixor hx hb dX12_layRound_150 ?_
                refine tope e141 ?_
                refine lv_iand hx hb dX12_layRound_151 ?_
                refine lv_topi (fun x145 e146 => ?_)
                have r147 : rg x145 0 1023 := rg_andl e146 r8 (by decide)
                refine lv_istore_n (lv' := [(2, .int x145), (3, .int x142), (0, .ref (ad 0)), (1, .int x1), (4, .int a11), (6, .int a118)]) hx hb dX12_layRound_152 rfl hl (by decide) rfl (fun ls hl => ?_)
                exact J153 (x145) (x142) (F122) (L122) ((va_up A122 18 (upd (A122 18) (a11).toNatClampNeg a118))) (B122) H locs ls r147 r144 hq (by rw [va_us]; exact lr_take v123 (r134 : rg a118 0 9) (bt_clr (r134 : rg a118 0 9) e138 e141 e143) (bt_clr (r134 : rg a118 0 9) e138 e141 e146)) hP hD hS (lv_sub hl [2, 3, 0, 1, 4] rfl)
              · skip
                have r135 : rg a118 10 10 := rg_eq1 c133 (r119 : rg a118 0 10) ((rg_k (by decide)) : rg 10 10 10) (by decide)
                refine lv_goto (tgt := 153) hx hb dX12_layRound_123 (by decide) ?_
                exact J153 (a7) (a9) (F122) (L122) (A122) (B122) H locs ls r8 r10 hq (lr_skip v123 c133) hP hD hS (lv_sub hl [0, 1, 2, 3, 4] rfl)
            refine lv_icmp_ge (tgt := 116) hx hb dX12_layRound_53 (by decide) (fun c148 => ?_) (fun c148 => ?_)
            · skip
              have r149 : rg a118 10 10 := rg_le2 (iE c148) ((rg_k (by decide)) : rg 10 10 10) (r119 : rg a118 0 10)
              exact J116 (F120) (L120) (A120) (B120) H locs ls hq (lrX_none v121 (r17 : rg a11 0 7) (r149 : rg a118 10 10)) hP hD hS (lv_sub hl [0, 1, 2, 3, 4, 6] rfl)
            · skip
              have r150 : rg a118 0 9 := rg_lt1 (iNE c148) (r119 : rg a118 0 10) ((rg_k (by decide)) : rg 10 10 10)
              refine lv_iload_n hx hb dX12_layRound_56 rfl (lv_at hl 3 rfl) ?_
              refine lv_iload hx hb dX12_layRound_57 (lv_at hl 6 rfl) ?_
              refine lv_ishr hx hb dX12_layRound_59 ?_
              refine lv_topi (fun x151 e152 => ?_)
              have r153 : rg x151 0 1023 := rg_shrk _ e152 r10 rfl (by decide)
              refine lv_iconst (v := 1) hx hb dX12_layRound_60 (by decide) ?_
              refine lv_iand hx hb dX12_layRound_61 ?_
              refine lv_topi (fun x154 e155 => ?_)
              have r156 : rg x154 0 1 := rg_andr e155 ((rg_k (by decide)) : rg 1 1 1) (by decide)
              have J110 : ∀ (F157 : Nat → Int32) (L157 : Nat → Int64) (A157 : Nat → Nat → Int32) (B157 : Nat → Nat → Int64) (H : Heap) (locs : List Loc) (ls : Array Slot), qM [] [18, 19, 20] F A F157 A157 → (lrH (A 16) (A157 18) x1 x4 a7 a9 a11 (a118.toInt + 1)) → va_P D classes (wM cA ad F157 L157 A157 B157) H → va_D Af (wM cA ad F157 L157 A157 B157) → va_S Af s.heap H locs → lv_has ls 8 [(0, .ref (ad 0)), (1, .int x1), (2, .int a7), (3, .int a9), (4, .int a11), (5, .int x115), (6, .int a118)] → W p l e rm_X12_layRound_0 s m args below meth c H locs 0 0 Q (F0 m 110 ls []) := by
                intro F157 L157 A157 B157 H locs ls hq v158 hP hD hS hl
                obtain ⟨x159, e160⟩ : ∃ y : Int32, y = a118 + 1 := ⟨_, rfl⟩
                have r161 : rg x159 1 10 := rg_add e160 r150 (rg_k (by decide) : rg 1 1 1) (by decide)
                refine lv_iinc (v := x159) (lv' := [(6, .int x159), (0, .ref (ad 0)), (1, .int x1), (2, .int a7), (3, .int a9), (4, .int a11), (5, .int x115)]) hx hb dX12_layRound_110 hl (k := 6) rfl (by rw [e160]; rfl) (by decide) rfl (fun ls hl => ?_)
                refine lv_goto (tgt := 49) hx hb dX12_layRound_113 (by decide) ?_
                exact ih49 (x159) (F157) (L157) (A157) (B157) H locs ls (by have h0 : (1 : Int32).toInt = 1 := rfl; have h1 := ti_addk e160 r150 (by decide); have h2 : rg x159 0 10 := (rg_w r161 (by decide)); unfold rg at h2; omega) (rg_w r161 (by decide)) hq (by rw [(inc_nat (r150 : rg a118 0 9) (by decide) e160).2]; exact v158) hP hD hS (lv_sub hl [1, 2, 3, 4, 5, 6, 0] rfl)
              refine lv_if_eq (tgt := 110) hx hb dX12_layRound_62 (by decide) (fun c162 => ?_) (fun c162 => ?_)
              · skip
                have r163 : rg x154 0 0 := rg_eq1 c162 (r156 : rg x154 0 1) ((rg_k (by decide)) : rg 0 0 0) (by decide)
                exact J110 (F120) (L120) (A120) (B120) H locs ls hq (lrH_no v121 (r150 : rg a118 0 9) (fun z => bit_0 (r150 : rg a118 0 9) e152 e155 c162 z.1)) hP hD hS (lv_sub hl [0, 1, 2, 3, 4, 5, 6] rfl)
              · skip
                have r164 : rg x154 1 1 := (rg_ne1 c162 (r156 : rg x154 0 1) ((rg_k (by decide)) : rg 0 0 0)).1 rfl
                refine lv_aload_n hx hb dX12_layRound_65 rfl (lv_at hl 0 rfl) ?_
                refine va_get (ci := 12) (v := .ref (ad 16)) (C := RX12) (T := TX12) (N := 57) hx hb hg inX12 hown hK hP 0 atM_0 rfl 26 (by decide) (hg _ mw_1134) (fun _ h9 => h9) rfl dX12_layRound_66 ?_
                refine lv_bipush (v := 10) hx hb dX12_layRound_69 (by decide) ?_
                refine lv_iload hx hb dX12_layRound_71 (lv_at hl 4 rfl) ?_
                refine lv_imul hx hb dX12_layRound_73 ?_
                refine lv_topi (fun x165 e166 => ?_)
                have r167 : rg x165 0 70 := rg_mul e166 ((rg_k (by decide)) : rg 10 10 10) r17 (by decide)
                refine lv_iload hx hb dX12_layRound_74 (lv_at hl 6 rfl) ?_
                refine lv_iadd hx hb dX12_layRound_76 ?_
                refine lv_topi (fun x168 e169 => ?_)
                have r170 : rg x168 0 79 := rg_add e169 r167 r150 (by decide)
                refine va_iald hx hb hK hP 16 15 atM_16 tyM_16 (in_rg r170 (by decide)) dX12_layRound_77 ?_
                refine lv_topi (fun x171 e172 => ?_)
                have l77 := e172.trans (congrFun (hq.2.2 16 (by decide)) _)
                refine lv_if_eq (tgt := 110) hx hb dX12_layRound_78 (by decide) (fun c173 => ?_) (fun c173 => ?_)
                · skip
                  have r174 : rg x171 0 0 := rg_eq1 c173 ((rg_top _) : rg x171 (-2147483648) 2147483647) ((rg_k (by decide)) : rg 0 0 0) (by decide)
                  exact J110 (F120) (L120) (A120) (B120) H locs ls hq (lrH_no v121 (r150 : rg a118 0 9) (fun z => (eg_no hL99 (r17 : rg a11 0 7) (r150 : rg a118 0 9) e166 e169 l77 c173) z.2.1)) hP hD hS (lv_sub hl [0, 1, 2, 3, 4, 5, 6] rfl)
                · skip
                  refine lv_aload_n hx hb dX12_layRound_81 rfl (lv_at hl 0 rfl) ?_
                  refine lv_iload hx hb dX12_layRound_82 (lv_at hl 4 rfl) ?_
                  refine lv_iconst (v := 1) hx hb dX12_layRound_84 (by decide) ?_
                  refine lv_iadd hx hb dX12_layRound_85 ?_
                  refine tope e105 ?_
                  refine lv_iload_n hx hb dX12_layRound_86 rfl (lv_at hl 3 rfl) ?_
                  refine lv_iconst (v := 1) hx hb dX12_layRound_87 (by decide) ?_
                  refine lv_iload hx hb dX12_layRound_88 (lv_at hl 6 rfl) ?_
                  refine lv_ishl hx hb dX12_layRound_90 ?_
                  refine lv_topi (fun x175 e176 => ?_)
                  have r177 : rg x175 1 512 := rg_shl1 e176 r150 (by decide)
                  refine lv_iconst (v := (-1)) hx hb dX12_layRound_91 (by decide) ?_
                  refine lv_ixor hx hb dX12_layRound_92 ?_
                  refine lv_topi (fun x178 e179 => ?_)
                  refine lv_iand hx hb dX12_layRound_93 ?_
                  refine lv_topi (fun x180 e181 => ?_)
                  have r182 : rg x180 0 1023 := rg_andl e181 r10 (by decide)
                  refine lv_iload hx hb dX12_layRound_94 (lv_at hl 5 rfl) ?_
                  refine lv_iload_n hx hb dX12_layRound_96 rfl (lv_at hl 2 rfl) ?_
                  refine lv_iconst (v := 1) hx hb dX12_layRound_97 (by decide) ?_
                  refine lv_iload hx hb dX12_layRound_98 (lv_at hl 6 rfl) ?_
                  refine lv_ishl hx hb dX12_layRound_100 ?_
                  refine tope e176 ?_
                  refine lv_iconst (v := (-1)) hx hb dX12_layRound_101 (by decide) ?_
                  refine lv_ixor hx hb dX12_layRound_102 ?_
                  refine tope e179 ?_
                  refine lv_iand hx hb dX12_layRound_103 ?_
                  refine lv_topi (fun x183 e184 => ?_)
                  have r185 : rg x183 0 1023 := rg_andl e184 r8 (by decide)
                  have hq0 := hq
                  refine callv_i (As := [.int x104, .int x180, .int x115, .int x183]) (rest := []) hC (c_X12_canGoOn_0 l D cA H.size ad F120 L120 A120 B120 (x104) (x180) (x115) (x183) hq.1 r106 r182 r117 r185 (fun i hi => by have := (((bt_left (r17 : rg a11 0 7) e105 e108 e111 e114 e116) i).mp hi).2; have := (inc_nat (r17 : rg a11 0 7) (by decide) e105).2; have := cl_ti (r17 : rg a11 0 7) (by decide); omega)) (cwV 4 hg (g_V mw_1455 mw_1452 mw_1454 ms_79 mw_20) rfl rfl rfl (by decide +kernel) ⟨(Nat.le_of_ble_eq_true rfl), (Nat.le_of_ble_eq_true rfl)⟩) hP hD hS hA atM_0 rfl rfl hl.1 rfl (Nat.le_of_ble_eq_true rfl) dX12_layRound_104 ⟨Nat.zero_le _, Nat.zero_le _⟩ (fun x186 u H locs hw hP hD hS => ?_)
                  obtain ⟨F187, L187, A187, B187⟩ := u
                  try dsimp only at hw
                  obtain ⟨hq187, r188, g189⟩ := hw
                  have hq := hq.call hq187 (by decide)
                  have hP : va_P D classes (wM cA ad F187 L187 A187 B187) H := hP
                  have hD : va_D Af (wM cA ad F187 L187 A187 B187) := hD
                  have wE := hq187.2.2 18 (by decide)
                  have lE := hq187.2.2 16 (by decide)
                  have g104 : _ := g189
                  rw [show _ = (A 16) from hq0.2.2 16 (by decide)] at g104
                  refine lv_if_ne (tgt := 116) hx hb dX12_layRound_107 (by decide) (fun c190 => ?_) (fun c190 => ?_)
                  · skip
                    have r191 : rg x186 1 1 := (rg_ne1 c190 (r188 : rg x186 0 1) ((rg_k (by decide)) : rg 0 0 0)).1 rfl
                    exact J116 (F187) (L187) (A187) (B187) H locs ls hq (by rw [wE]; exact lrX_one v121 (r150 : rg a118 0 9) (cv_hit (r150 : rg a118 0 9) e152 e155 c162) (eg_ne hL99 (r17 : rg a11 0 7) (r150 : rg a118 0 9) e166 e169 l77 c173) ((go_sets (r17 : rg a11 0 7) e105 (bt_left (r17 : rg a11 0 7) e105 e108 e111 e114 e116) (bt_clr (r150 : rg a118 0 9) e176 e179 e181) (bt_clr (r150 : rg a118 0 9) e176 e179 e184)).mp (g104.1.resolve_left c190))) hP hD hS (lv_sub hl [0, 1, 2, 3, 4, 6] rfl)
                  · skip
                    have r192 : rg x186 0 0 := rg_eq1 c190 (r188 : rg x186 0 1) ((rg_k (by decide)) : rg 0 0 0) (by decide)
                    exact J110 (F187) (L187) (A187) (B187) H locs ls hq (by rw [wE]; exact lrH_no v121 (r150 : rg a118 0 9) (fun z => (g104.2.resolve_left (fun y => y c190)) ((go_sets (r17 : rg a11 0 7) e105 (bt_left (r17 : rg a11 0 7) e105 e108 e111 e114 e116) (bt_clr (r150 : rg a118 0 9) e176 e179 e181) (bt_clr (r150 : rg a118 0 9) e176 e179 e184)).mpr z.2.2))) hP hD hS (lv_sub hl [0, 1, 2, 3, 4, 5, 6] rfl)
        exact J49 _ (0) (F13) (L13) ((va_up A13 18 (upd (A13 18) (a11).toNatClampNeg (-1)))) (B13) H locs ls (Nat.lt_succ_self _) (rg_k (by decide)) hq (by rw [va_us]; exact lrH_0 v14) hP hD hS (lv_sub hl [2, 3, 4, 5, 6, 1, 0] rfl)
  exact J17 _ (x4) (1023) (0) (F) (L) (A) (B) H locs ls (Nat.lt_succ_self _) r5 (rg_k (by decide)) (rg_k (by decide)) hq (lr_0 hpos hmS hmH (r5 : rg x4 0 1023)) hP hD hS (lv_sub hl [4, 3, 2, 1, 0] rfl)
abbrev rm_X12_works_0 : Room := { frames := 0, cells := 0, slots := 0, locals := 0 }
set_option maxHeartbeats 4000000 in
set_option maxRecDepth 100000 in
theorem c_X12_works_0 (l : Launch) (D : va_G) (cA : Nat → ClassId) (sz : Nat) (ad : Nat → Nat) (F : Nat → Int32) (L : Nat → Int64) (A : Nat → Nat → Int32) (B : Nat → Nat → Int64) (p1 : Int32) (hT : typM F A) : Met l yX12_works (Cond.code yX12_works cX12_works 3 none :: GW) rm_X12_works_0 (mPc D classes (tysM cA) (wM cA ad F L A B) sz [.ref (ad 0), .int p1]) (mQv (S := SW) D classes (tysM cA) (wM cA ad F L A B) sz (wfM cA ad) (fun u => qM [] [16] F A u.1 u.2.2.1 ∧ (wkI (A 16) (u.2.2.1 16) (A 18) p1 8))) 0 0 (va_A (wM cA ad F L A B) sz) := by
  refine met_v (own := "ShoeingDayModel") (by decide +kernel) rfl (Nat.le_of_ble_eq_true rfl) ?_
  intro p e s m args below meth c Q Af ls hC hP hD hS hA hl hret
  have hx := hC.1
  have hb := hC.2.1
  have hown := hC.2.2.2.1
  have hg := hC.g
  have hK := hC.K
  have hl : lv_has ls 3 [(0, .ref (ad 0)), (1, .int p1)] := hl
  have hq : qM [] [16] F A F A := qM.rf hT
  obtain ⟨H, hH⟩ : ∃ H, H = s.heap := ⟨_, rfl⟩
  have hP : va_P D classes (wM cA ad F L A B) H := by rw [hH]; exact hP
  have hS : va_S Af s.heap H [] := by rw [hH]; exact hS
  obtain ⟨locs, hlo⟩ : ∃ q : List Loc, q = [] := ⟨_, rfl⟩
  rw [← hH, ← hlo]
  rw [← hlo] at hS
  refine lv_iconst (v := 0) hx hb dX12_works_0 (by decide) ?_
  refine lv_istore_n (lv' := [(2, .int 0), (0, .ref (ad 0)), (1, .int p1)]) hx hb dX12_works_1 rfl hl (by decide) rfl (fun ls hl => ?_)
  have J2 : ∀ (n2 : Nat) (a1 : Int32) (F3 : Nat → Int32) (L3 : Nat → Int64) (A3 : Nat → Nat → Int32) (B3 : Nat → Nat → Int64) (H : Heap) (locs : List Loc) (ls : Array Slot), (8 - a1.toInt).toNat < n2 → rg a1 0 8 → qM [] [16] F A F3 A3 → (wkI (A 16) (A3 16) (A 18) p1 a1.toInt) → va_P D classes (wM cA ad F3 L3 A3 B3) H → va_D Af (wM cA ad F3 L3 A3 B3) → va_S Af s.heap H locs → lv_has ls 3 [(0, .ref (ad 0)), (1, .int p1), (2, .int a1)] → W p l e rm_X12_works_0 s m args below meth c H locs 0 0 Q (F0 m 2 ls []) := by
    intro n2
    induction n2 with
    | zero =>
      intro _ _ _ _ _ _ _ _ hn
      exact absurd hn (Nat.not_lt_zero _)
    | succ n2 ih2 =>
      intro a1 F3 L3 A3 B3 H locs ls hn2 r2 hq v4 hP hD hS hl
      refine lv_iload_n hx hb dX12_works_2 rfl (lv_at hl 2 rfl) ?_
      refine lv_bipush (v := 8) hx hb dX12_works_3 (by decide) ?_
      refine lv_icmp_ge (tgt := 43) hx hb dX12_works_5 (by decide) (fun c5 => ?_) (fun c5 => ?_)
      · skip
        have r6 : rg a1 8 8 := rg_le2 (iE c5) ((rg_k (by decide)) : rg 8 8 8) (r2 : rg a1 0 8)
        exact hret (F3, L3, A3, B3) H locs 43 ls dX12_works_43 hP hD hS ⟨hq, (wkI_end v4 (by have := (r6 : rg a1 8 8).1; omega))⟩
      · skip
        have r7 : rg a1 0 7 := rg_lt1 (iNE c5) (r2 : rg a1 0 8) ((rg_k (by decide)) : rg 8 8 8)
        refine lv_aload_n hx hb dX12_works_8 rfl (lv_at hl 0 rfl) ?_
        refine va_get (ci := 12) (v := .ref (ad 18)) (C := RX12) (T := TX12) (N := 57) hx hb hg inX12 hown hK hP 0 atM_0 rfl 29 (by decide) (hg _ mw_1137) (fun _ h9 => h9) rfl dX12_works_9 ?_
        refine lv_iload_n hx hb dX12_works_12 rfl (lv_at hl 2 rfl) ?_
        refine va_iald hx hb hK hP 18 17 atM_18 tyM_18 (in_rg r7 (by decide)) dX12_works_13 ?_
        refine lv_topi (fun x8 e9 => ?_)
        have r10 : rg x8 (-1) 9 := rg_e e9 (hq.1.2 18 _)
        have J37 : ∀ (F11 : Nat → Int32) (L11 : Nat → Int64) (A11 : Nat → Nat → Int32) (B11 : Nat → Nat → Int64) (H : Heap) (locs : List Loc) (ls : Array Slot), qM [] [16] F A F11 A11 → (wkI (A 16) (A11 16) (A 18) p1 (a1.toInt + 1)) → va_P D classes (wM cA ad F11 L11 A11 B11) H → va_D Af (wM cA ad F11 L11 A11 B11) → va_S Af s.heap H locs → lv_has ls 3 [(0, .ref (ad 0)), (1, .int p1), (2, .int a1)] → W p l e rm_X12_works_0 s m args below meth c H locs 0 0 Q (F0 m 37 ls []) := by
          intro F11 L11 A11 B11 H locs ls hq v12 hP hD hS hl
          obtain ⟨x13, e14⟩ : ∃ y : Int32, y = a1 + 1 := ⟨_, rfl⟩
          have r15 : rg x13 1 8 := rg_add e14 r7 (rg_k (by decide) : rg 1 1 1) (by decide)
          refine lv_iinc (v := x13) (lv' := [(2, .int x13), (0, .ref (ad 0)), (1, .int p1)]) hx hb dX12_works_37 hl (k := 2) rfl (by rw [e14]; rfl) (by decide) rfl (fun ls hl => ?_)
          refine lv_goto (tgt := 2) hx hb dX12_works_40 (by decide) ?_
          exact ih2 (x13) (F11) (L11) (A11) (B11) H locs ls (by have h0 : (1 : Int32).toInt = 1 := rfl; have h1 := ti_addk e14 r7 (by decide); have h2 : rg x13 0 8 := (rg_w r15 (by decide)); unfold rg at h2; omega) (rg_w r15 (by decide)) hq (by rw [(inc_nat (r7 : rg a1 0 7) (by decide) e14).2]; exact v12) hP hD hS (lv_sub hl [1, 2, 0] rfl)
        have w13 := e9.trans (congrFun (hq.2.2 18 (by decide)) _)
        refine lv_if_lt (tgt := 37) hx hb dX12_works_14 (by decide) (fun c16 => ?_) (fun c16 => ?_)
        · skip
          have r17 : rg x8 (-1) (-1) := rg_lt1 (iL c16) (r10 : rg x8 (-1) 9) ((rg_k (by decide)) : rg 0 0 0)
          exact J37 (F3) (L3) (A3) (B3) H locs ls hq (wkI_no v4 (r7 : rg a1 0 7) w13 (by have := (iL c16); have : (0 : Int32).toInt = 0 := rfl; omega)) hP hD hS (lv_sub hl [0, 1, 2] rfl)
        · skip
          have r18 : rg x8 0 9 := rg_le2 (iNL c16) ((rg_k (by decide)) : rg 0 0 0) (r10 : rg x8 (-1) 9)
          refine lv_aload_n hx hb dX12_works_17 rfl (lv_at hl 0 rfl) ?_
          refine va_get (ci := 12) (v := .ref (ad 16)) (C := RX12) (T := TX12) (N := 57) hx hb hg inX12 hown hK hP 0 atM_0 rfl 26 (by decide) (hg _ mw_1134) (fun _ h9 => h9) rfl dX12_works_18 ?_
          refine lv_bipush (v := 10) hx hb dX12_works_21 (by decide) ?_
          refine lv_iload_n hx hb dX12_works_23 rfl (lv_at hl 2 rfl) ?_
          refine lv_imul hx hb dX12_works_24 ?_
          refine lv_topi (fun x19 e20 => ?_)
          have r21 : rg x19 0 70 := rg_mul e20 ((rg_k (by decide)) : rg 10 10 10) r7 (by decide)
          refine lv_aload_n hx hb dX12_works_25 rfl (lv_at hl 0 rfl) ?_
          refine va_get (ci := 12) (v := .ref (ad 18)) (C := RX12) (T := TX12) (N := 57) hx hb hg inX12 hown hK hP 0 atM_0 rfl 29 (by decide) (hg _ mw_1137) (fun _ h9 => h9) rfl dX12_works_26 ?_
          refine lv_iload_n hx hb dX12_works_29 rfl (lv_at hl 2 rfl) ?_
          refine va_iald hx hb hK hP 18 17 atM_18 tyM_18 (in_rg r7 (by decide)) dX12_works_30 ?_
          refine tope (e9) ?_
          refine lv_iadd hx hb dX12_works_31 ?_
          refine lv_topi (fun x22 e23 => ?_)
          have r24 : rg x22 0 79 := rg_add e23 r21 r18 (by decide)
          refine lv_dup2_11 hx hb dX12_works_32 rfl rfl ?_
          refine va_iald hx hb hK hP 16 15 atM_16 tyM_16 (in_rg r24 (by decide)) dX12_works_33 ?_
          refine lv_topi (fun x25 e26 => ?_)
          refine lv_iload_n hx hb dX12_works_34 rfl (lv_at hl 1 rfl) ?_
          refine lv_isub hx hb dX12_works_35 ?_
          refine lv_topi (fun x27 e28 => ?_)
          refine va_iast hx hb hK hP hD hS 16 15 atM_16 tyM_16 (in_rg r24 (by decide)) dX12_works_36 (fun H locs hP hD hS => ?_)
          have hq := hq.ast 16 (x22).toNatClampNeg (x := x27) (by decide) (rg_top _)
          rw [setM_16] at hP hD
          have k29 : x27 = (va_up A3 16 (upd (A3 16) (x22).toNatClampNeg x27)) 16 (x22).toNatClampNeg := (rdA).symm
          exact J37 (F3) (L3) ((va_up A3 16 (upd (A3 16) (x22).toNatClampNeg x27))) (B3) H locs ls hq (by rw [va_us]; exact wkI_one v4 (r7 : rg a1 0 7) w13 (r18 : rg x8 0 9) e20 e23 e26 e28) hP hD hS (lv_sub hl [0, 1, 2] rfl)
  exact J2 _ (0) (F) (L) (A) (B) H locs ls (Nat.lt_succ_self _) (rg_k (by decide)) hq wkI_0 hP hD hS (lv_sub hl [1, 2, 0] rfl)
abbrev rm_X12_layDay_0 : Room := { frames := 4, cells := 0, slots := 0, locals := 98 }
set_option maxHeartbeats 4000000 in
set_option maxRecDepth 100000 in
theorem c_X12_layDay_0 (l : Launch) (D : va_G) (cA : Nat → ClassId) (sz : Nat) (ad : Nat → Nat) (F : Nat → Int32) (L : Nat → Int64) (A : Nat → Nat → Int32) (B : Nat → Nat → Int64)  (hT : typM F A) (hL99 : ok99 (A 16)) (hzo : zo (A 16) (A 3 (F 8).toNatClampNeg).toInt (A 4 (F 8).toNatClampNeg).toInt) : Met l yX12_layDay (Cond.code yX12_layDay cX12_layDay 2 none :: GW) rm_X12_layDay_0 (mPc D classes (tysM cA) (wM cA ad F L A B) sz [.ref (ad 0)]) (mQv (S := SW) D classes (tysM cA) (wM cA ad F L A B) sz (wfM cA ad) (fun u => qM [11] [16, 18, 19, 20, 21, 22] F A u.1 u.2.2.1)) 0 0 (va_A (wM cA ad F L A B) sz) := by
  refine met_v (own := "ShoeingDayModel") (by decide +kernel) rfl (Nat.le_of_ble_eq_true rfl) ?_
  intro p e s m args below meth c Q Af ls hC hP hD hS hA hl hret
  have hx := hC.1
  have hb := hC.2.1
  have hown := hC.2.2.2.1
  have hg := hC.g
  have hK := hC.K
  have hl : lv_has ls 2 [(0, .ref (ad 0))] := hl
  have hq : qM [11] [16, 18, 19, 20, 21, 22] F A F A := qM.rf hT
  obtain ⟨H, hH⟩ : ∃ H, H = s.heap := ⟨_, rfl⟩
  have hP : va_P D classes (wM cA ad F L A B) H := by rw [hH]; exact hP
  have hS : va_S Af s.heap H [] := by rw [hH]; exact hS
  obtain ⟨locs, hlo⟩ : ∃ q : List Loc, q = [] := ⟨_, rfl⟩
  rw [← hH, ← hlo]
  rw [← hlo] at hS
  refine lv_aload_n hx hb dX12_layDay_0 rfl (lv_at hl 0 rfl) ?_
  refine lv_iconst (v := 0) hx hb dX12_layDay_1 (by decide) ?_
  refine va_put (ci := 12) (v := .int 0) (ty := .int) (C := RX12) (T := TX12) (N := 57) hx hb hg inX12 tyX12 tyX12_ok nmX12 hown hK hP hD hS 0 atM_0 rfl 34 (by decide) (hg _ mw_1142) (fun _ h9 => h9) rfl (by decide +kernel) rfl rfl (Nat.le_of_ble_eq_true rfl) dX12_layDay_2 (fun H locs hP hD hS => ?_)
  have hq := hq.put 11 (x := 0) (by decide) (rg_k (by decide))
  rw [setFM_11] at hP hD
  have J5 : ∀ (n5 : Nat) (F1 : Nat → Int32) (L1 : Nat → Int64) (A1 : Nat → Nat → Int32) (B1 : Nat → Nat → Int64) (H : Heap) (locs : List Loc) (ls : Array Slot), (240 - (F1 11).toInt).toNat < n5 → qM [11] [16, 18, 19, 20, 21, 22] F A F1 A1 → (ok99 (A1 16) ∧ zo (A1 16) (A 3 (F 8).toNatClampNeg).toInt (A 4 (F 8).toNatClampNeg).toInt ∧ dayM (A1 16) (F1 11)) → va_P D classes (wM cA ad F1 L1 A1 B1) H → va_D Af (wM cA ad F1 L1 A1 B1) → va_S Af s.heap H locs → lv_has ls 2 [(0, .ref (ad 0))] → W p l e rm_X12_layDay_0 s m args below meth c H locs 0 0 Q (F0 m 5 ls []) := by
    intro n5
    induction n5 with
    | zero =>
      intro _ _ _ _ _ _ _ hn
      exact absurd hn (Nat.not_lt_zero _)
    | succ n5 ih5 =>
      intro F1 L1 A1 B1 H locs ls hn5 hq v2 hP hD hS hl
      refine lv_aload_n hx hb dX12_layDay_5 rfl (lv_at hl 0 rfl) ?_
      refine callv_i (As := []) (rest := []) hC (c_X12_leastOf_0_e l D cA H.size ad F1 L1 A1 B1  hq.1 v2.1) (cwV 0 hg (g_V mw_1423 mw_1420 mw_1422 ms_73 mw_20) rfl rfl rfl (by decide +kernel) ⟨(Nat.le_of_ble_eq_true rfl), (Nat.le_of_ble_eq_true rfl)⟩) hP hD hS hA atM_0 rfl rfl hl.1 rfl (Nat.le_of_ble_eq_true rfl) dX12_layDay_6 ⟨Nat.zero_le _, Nat.zero_le _⟩ (fun x3 u H locs hw hP hD hS => ?_)
      obtain ⟨r4, g5⟩ := hw
      have hP : va_P D classes (wM cA ad F1 L1 A1 B1) H := hP
      have hD : va_D Af (wM cA ad F1 L1 A1 B1) := hD
      refine lv_if_le (tgt := 85) hx hb dX12_layDay_9 (by decide) (fun c6 => ?_) (fun c6 => ?_)
      · skip
        have r7 : rg x3 0 0 := rg_le1 (iE c6) (r4 : rg x3 0 990) ((rg_k (by decide)) : rg 0 0 0)
        exact hret (F1, L1, A1, B1) H locs 85 ls dX12_layDay_85 hP hD hS hq
      · skip
        have r8 : rg x3 1 990 := rg_lt2 (iNE c6) ((rg_k (by decide)) : rg 0 0 0) (r4 : rg x3 0 990)
        refine lv_aload_n hx hb dX12_layDay_12 rfl (lv_at hl 0 rfl) ?_
        refine va_get (ci := 12) (v := .ref (ad 21)) (C := RX12) (T := TX12) (N := 57) hx hb hg inX12 hown hK hP 0 atM_0 rfl 32 (by decide) (hg _ mw_1140) (fun _ h9 => h9) rfl dX12_layDay_13 ?_
        refine lv_aload_n hx hb dX12_layDay_16 rfl (lv_at hl 0 rfl) ?_
        refine va_get (ci := 12) (v := .int (F1 11)) (C := RX12) (T := TX12) (N := 57) hx hb hg inX12 hown hK hP 0 atM_0 rfl 34 (by decide) (hg _ mw_1142) (fun _ h9 => h9) rfl dX12_layDay_17 ?_
        refine lv_topi (fun x9 e10 => ?_)
        have r11 : rg x9 0 98 := (by have h1 := dayM_n v2.2.2 g5 (by have := (iNE c6); have : (0 : Int32).toInt = 0 := rfl; omega); have h2 := (hq.1.1 11 : rg _ 0 240).1; rw [e10]; exact ⟨h2, h1⟩)
        refine lv_aload_n hx hb dX12_layDay_20 rfl (lv_at hl 0 rfl) ?_
        refine callv_i (As := []) (rest := [.int x9, .ref (ad 21)]) hC (c_X12_layRound_0 l D cA H.size ad F1 L1 A1 B1  hq.1 v2.1 (by rw [hq.2.2 3 (by decide), hq.2.2 4 (by decide), hq.2.1 8 (by decide)]; exact v2.2.1) (pos_of g5 (by have := (iNE c6); have : (0 : Int32).toInt = 0 := rfl; omega))) (cwV 0 hg (g_V mw_1451 mw_1448 mw_1450 ms_78 mw_20) rfl rfl rfl (by decide +kernel) ⟨(Nat.le_of_ble_eq_true rfl), (Nat.le_of_ble_eq_true rfl)⟩) hP hD hS hA atM_0 rfl rfl hl.1 rfl (Nat.le_of_ble_eq_true rfl) dX12_layDay_21 ⟨Nat.zero_le _, Nat.zero_le _⟩ (fun x12 u H locs hw hP hD hS => ?_)
        obtain ⟨F13, L13, A13, B13⟩ := u
        try dsimp only at hw
        obtain ⟨hq13, r14, g15⟩ := hw
        have hq := hq.call hq13 (by decide)
        have hP : va_P D classes (wM cA ad F13 L13 A13 B13) H := hP
        have hD : va_D Af (wM cA ad F13 L13 A13 B13) := hD
        obtain ⟨Lm, hrn, hr1⟩ := g15
        rw [← hq13.2.2 16 (by decide)] at hrn
        have hk99 : ok99 (A13 16) := by rw [hq13.2.2 16 (by decide)]; exact v2.1
        have hzo2 : zo (A13 16) (A 3 (F 8).toNatClampNeg).toInt (A 4 (F 8).toNatClampNeg).toInt := by rw [hq13.2.2 16 (by decide)]; exact v2.2.1
        have hdm : dayM (A13 16) x9 := by rw [hq13.2.2 16 (by decide), e10]; exact v2.2.2
        have hwi : ∀ i : Nat, rg (A13 18 i) (-1) 9 := fun i => (hq.1.2 18 i : rg _ (-1) 9)
        refine va_iast hx hb hK hP hD hS 21 20 atM_21 tyM_21 (in_rg r11 (by decide)) dX12_layDay_24 (fun H locs hP hD hS => ?_)
        have hq := hq.ast 21 (x9).toNatClampNeg (x := x12) (by decide) (rg_top _)
        rw [setM_21] at hP hD
        have k16 : x12 = (va_up A13 21 (upd (A13 21) (x9).toNatClampNeg x12)) 21 (x9).toNatClampNeg := (rdA).symm
        refine lv_iconst (v := 0) hx hb dX12_layDay_25 (by decide) ?_
        refine lv_istore_n (lv' := [(1, .int 0), (0, .ref (ad 0))]) hx hb dX12_layDay_26 rfl hl (by decide) rfl (fun ls hl => ?_)
        have J27 : ∀ (n27 : Nat) (a17 : Int32) (F19 : Nat → Int32) (L19 : Nat → Int64) (A19 : Nat → Nat → Int32) (B19 : Nat → Nat → Int64) (H : Heap) (locs : List Loc) (ls : Array Slot), (8 - a17.toInt).toNat < n27 → rg a17 0 8 → qM [11] [16, 18, 19, 20, 21, 22] F A F19 A19 → F19 11 = x9 → (A19 16 = A13 16 ∧ A19 18 = A13 18 ∧ A19 21 x9.toNatClampNeg = x12) → va_P D classes (wM cA ad F19 L19 A19 B19) H → va_D Af (wM cA ad F19 L19 A19 B19) → va_S Af s.heap H locs → lv_has ls 2 [(0, .ref (ad 0)), (1, .int a17)] → W p l e rm_X12_layDay_0 s m args below meth c H locs 0 0 Q (F0 m 27 ls []) := by
          intro n27
          induction n27 with
          | zero =>
            intro _ _ _ _ _ _ _ _ hn
            exact absurd hn (Nat.not_lt_zero _)
          | succ n27 ih27 =>
            intro a17 F19 L19 A19 B19 H locs ls hn27 r18 hq f20 v21 hP hD hS hl
            refine lv_iload_n hx hb dX12_layDay_27 rfl (lv_at hl 1 rfl) ?_
            refine lv_bipush (v := 8) hx hb dX12_layDay_28 (by decide) ?_
            refine lv_icmp_ge (tgt := 59) hx hb dX12_layDay_30 (by decide) (fun c22 => ?_) (fun c22 => ?_)
            · skip
              have r23 : rg a17 8 8 := rg_le2 (iE c22) ((rg_k (by decide)) : rg 8 8 8) (r18 : rg a17 0 8)
              refine lv_aload_n hx hb dX12_layDay_59 rfl (lv_at hl 0 rfl) ?_
              refine lv_aload_n hx hb dX12_layDay_60 rfl (lv_at hl 0 rfl) ?_
              refine va_get (ci := 12) (v := .ref (ad 21)) (C := RX12) (T := TX12) (N := 57) hx hb hg inX12 hown hK hP 0 atM_0 rfl 32 (by decide) (hg _ mw_1140) (fun _ h9 => h9) rfl dX12_layDay_61 ?_
              refine lv_aload_n hx hb dX12_layDay_64 rfl (lv_at hl 0 rfl) ?_
              refine va_get (ci := 12) (v := .int x9) (C := RX12) (T := TX12) (N := 57) hx hb hg inX12 hown hK hP 0 atM_0 rfl 34 (by decide) (hg _ mw_1142) (fun _ h9 => h9) (congrArg (fun z => some (Value.int z)) (f20)) dX12_layDay_65 ?_
              refine va_iald hx hb hK hP 21 20 atM_21 tyM_21 (in_rg r11 (by decide)) dX12_layDay_68 ?_
              refine lv_topi (fun x25 e26 => ?_)
              refine callv_v (As := [.int x25]) (rest := []) hC (c_X12_works_0 l D cA H.size ad F19 L19 A19 B19 (x25) hq.1) (cwV 1 hg (g_V mw_1466 mw_1463 mw_1465 ms_81 mw_20) rfl rfl rfl (by decide +kernel) ⟨(Nat.le_of_ble_eq_true rfl), (Nat.le_of_ble_eq_true rfl)⟩) hP hD hS hA atM_0 rfl rfl hl.1 rfl (Nat.le_of_ble_eq_true rfl) dX12_layDay_69 ⟨Nat.zero_le _, Nat.zero_le _⟩ (fun  u H locs hw hP hD hS => ?_)
              obtain ⟨F27, L27, A27, B27⟩ := u
              try dsimp only at hw
              obtain ⟨hq27, g28⟩ := hw
              have hq := hq.call hq27 (by decide)
              have hP : va_P D classes (wM cA ad F27 L27 A27 B27) H := hP
              have hD : va_D Af (wM cA ad F27 L27 A27 B27) := hD
              have e68 : x25 = x12 := e26.trans v21.2.2
              have h69 := g28
              rw [v21.1, v21.2.1, e68] at h69
              have hwk := wk_of h69 hk99 hrn (by omega) (by omega) hwi
              refine lv_aload_n hx hb dX12_layDay_72 rfl (lv_at hl 0 rfl) ?_
              refine lv_dup hx hb dX12_layDay_73 rfl ?_
              refine va_get (ci := 12) (v := .int x9) (C := RX12) (T := TX12) (N := 57) hx hb hg inX12 hown hK hP 0 atM_0 rfl 34 (by decide) (hg _ mw_1142) (fun _ h9 => h9) (congrArg (fun z => some (Value.int z)) ((hq27.2.1 11 (by decide)).trans (f20))) dX12_layDay_74 ?_
              refine lv_iconst (v := 1) hx hb dX12_layDay_77 (by decide) ?_
              refine lv_iadd hx hb dX12_layDay_78 ?_
              refine lv_topi (fun x29 e30 => ?_)
              have r31 : rg x29 1 99 := rg_add e30 r11 ((rg_k (by decide)) : rg 1 1 1) (by decide)
              refine va_put (ci := 12) (v := .int x29) (ty := .int) (C := RX12) (T := TX12) (N := 57) hx hb hg inX12 tyX12 tyX12_ok nmX12 hown hK hP hD hS 0 atM_0 rfl 34 (by decide) (hg _ mw_1142) (fun _ h9 => h9) rfl (by decide +kernel) rfl rfl (Nat.le_of_ble_eq_true rfl) dX12_layDay_79 (fun H locs hP hD hS => ?_)
              have hq := hq.put 11 (x := x29) (by decide) (rg_w r31 (by decide))
              rw [setFM_11] at hP hD
              refine lv_goto (tgt := 5) hx hb dX12_layDay_82 (by decide) ?_
              exact ih5 ((upd F27 11 x29)) (L27) (A27) (B27) H locs ls (by have h0 : (1 : Int32).toInt = 1 := rfl; have h1 := ti_addk e30 r11 (by decide); have h2 := ((rg_w r31 (by decide)) : rg x29 0 240); have h3 : (upd F27 11 x29) 11 = x29 := rfl; have h4 := hn5; have h5 := (e10).symm; rw [h3]; rw [h5] at h4; unfold rg at h2; omega) hq ⟨hwk.2, wk_ok hwk.1 hzo2, dayM_step hdm (r11 : rg x9 0 98) e30 hrn hwk.1 hwi⟩ hP hD hS (lv_sub hl [0] rfl)
            · skip
              have r24 : rg a17 0 7 := rg_lt1 (iNE c22) (r18 : rg a17 0 8) ((rg_k (by decide)) : rg 8 8 8)
              refine lv_aload_n hx hb dX12_layDay_33 rfl (lv_at hl 0 rfl) ?_
              refine va_get (ci := 12) (v := .ref (ad 22)) (C := RX12) (T := TX12) (N := 57) hx hb hg inX12 hown hK hP 0 atM_0 rfl 33 (by decide) (hg _ mw_1141) (fun _ h9 => h9) rfl dX12_layDay_34 ?_
              refine lv_bipush (v := 8) hx hb dX12_layDay_37 (by decide) ?_
              refine lv_aload_n hx hb dX12_layDay_39 rfl (lv_at hl 0 rfl) ?_
              refine va_get (ci := 12) (v := .int x9) (C := RX12) (T := TX12) (N := 57) hx hb hg inX12 hown hK hP 0 atM_0 rfl 34 (by decide) (hg _ mw_1142) (fun _ h9 => h9) (congrArg (fun z => some (Value.int z)) (f20)) dX12_layDay_40 ?_
              refine lv_imul hx hb dX12_layDay_43 ?_
              refine lv_topi (fun x32 e33 => ?_)
              have r34 : rg x32 0 784 := rg_mul e33 ((rg_k (by decide)) : rg 8 8 8) r11 (by decide)
              refine lv_iload_n hx hb dX12_layDay_44 rfl (lv_at hl 1 rfl) ?_
              refine lv_iadd hx hb dX12_layDay_45 ?_
              refine lv_topi (fun x35 e36 => ?_)
              have r37 : rg x35 0 791 := rg_add e36 r34 r24 (by decide)
              refine lv_aload_n hx hb dX12_layDay_46 rfl (lv_at hl 0 rfl) ?_
              refine va_get (ci := 12) (v := .ref (ad 18)) (C := RX12) (T := TX12) (N := 57) hx hb hg inX12 hown hK hP 0 atM_0 rfl 29 (by decide) (hg _ mw_1137) (fun _ h9 => h9) rfl dX12_layDay_47 ?_
              refine lv_iload_n hx hb dX12_layDay_50 rfl (lv_at hl 1 rfl) ?_
              refine va_iald hx hb hK hP 18 17 atM_18 tyM_18 (in_rg r24 (by decide)) dX12_layDay_51 ?_
              refine lv_topi (fun x38 e39 => ?_)
              have r40 : rg x38 (-1) 9 := rg_e e39 (hq.1.2 18 _)
              refine va_iast hx hb hK hP hD hS 22 21 atM_22 tyM_22 (in_rg r37 (by decide)) dX12_layDay_52 (fun H locs hP hD hS => ?_)
              have hq := hq.ast 22 (x35).toNatClampNeg (x := x38) (by decide) r40
              rw [setM_22] at hP hD
              have k41 : x38 = (va_up A19 22 (upd (A19 22) (x35).toNatClampNeg x38)) 22 (x35).toNatClampNeg := (rdA).symm
              obtain ⟨x42, e43⟩ : ∃ y : Int32, y = a17 + 1 := ⟨_, rfl⟩
              have r44 : rg x42 1 8 := rg_add e43 r24 (rg_k (by decide) : rg 1 1 1) (by decide)
              refine lv_iinc (v := x42) (lv' := [(1, .int x42), (0, .ref (ad 0))]) hx hb dX12_layDay_53 hl (k := 1) rfl (by rw [e43]; rfl) (by decide) rfl (fun ls hl => ?_)
              refine lv_goto (tgt := 27) hx hb dX12_layDay_56 (by decide) ?_
              exact ih27 (x42) (F19) (L19) ((va_up A19 22 (upd (A19 22) (x35).toNatClampNeg x38))) (B19) H locs ls (by have h0 : (1 : Int32).toInt = 1 := rfl; have h1 := ti_addk e43 r24 (by decide); have h2 : rg x42 0 8 := (rg_w r44 (by decide)); unfold rg at h2; omega) (rg_w r44 (by decide)) hq (f20) ⟨v21.1, v21.2.1, v21.2.2⟩ hP hD hS (lv_sub hl [1, 0] rfl)
        exact J27 _ (0) (F13) (L13) ((va_up A13 21 (upd (A13 21) (x9).toNatClampNeg x12))) (B13) H locs ls (Nat.lt_succ_self _) (rg_k (by decide)) hq ((hq13.2.1 11 (by decide)).trans (e10.symm)) ⟨rfl, rfl, rdA⟩ hP hD hS (lv_sub hl [1, 0] rfl)
  exact J5 _ ((upd F 11 (0 : Int32))) (L) (A) (B) H locs ls (Nat.lt_succ_self _) hq ⟨hL99, hzo, dayM_0⟩ hP hD hS (lv_sub hl [0] rfl)
