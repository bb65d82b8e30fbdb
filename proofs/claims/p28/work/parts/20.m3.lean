abbrev rm_X12_busy_0_v1 : Room := { frames := 3, cells := 0, slots := 0, locals := 68 }
set_option maxHeartbeats 4000000 in
set_option maxRecDepth 100000 in
theorem c_X12_busy_0_v1 (l : Launch) (D : va_G) (cA : Nat → ClassId) (sz : Nat) (ad : Nat → Nat) (F : Nat → Int32) (L : Nat → Int64) (A : Nat → Nat → Int32) (B : Nat → Nat → Int64) (p1 : Int32) (hT : typM F A) (hp1 : rg p1 1 1) : Met l yX12_busy (Cond.code yX12_busy cX12_busy 2 (some .int) :: GW) rm_X12_busy_0_v1 (mPc D classes (tysM cA) (wM cA ad F L A B) sz [.ref (ad 0), .int p1]) (mQi (S := SW) D classes (tysM cA) (wM cA ad F L A B) sz (wfM cA ad) (fun r u => qM [] [16] F A u.1 u.2.2.1 ∧ rg r 0 1023)) 0 0 (va_A (wM cA ad F L A B) sz) := by
  refine met_i (own := "ShoeingDayModel") (by decide +kernel) rfl (Nat.le_of_ble_eq_true rfl) ?_
  intro p e s m args below meth c Q Af ls hC hP hD hS hA hl hret
  have hx := hC.1
  have hb := hC.2.1
  have hown := hC.2.2.2.1
  have hg := hC.g
  have hK := hC.K
  have hl : lv_has ls 2 [(0, .ref (ad 0)), (1, .int p1)] := hl
  have hq : qM [] [16] F A F A := qM.rf hT
  obtain ⟨H, hH⟩ : ∃ H, H = s.heap := ⟨_, rfl⟩
  have hP : va_P D classes (wM cA ad F L A B) H := by rw [hH]; exact hP
  have hS : va_S Af s.heap H [] := by rw [hH]; exact hS
  obtain ⟨locs, hlo⟩ : ∃ q : List Loc, q = [] := ⟨_, rfl⟩
  rw [← hH, ← hlo]
  rw [← hlo] at hS
  refine lv_aload_n hx hb dX12_busy_0 rfl (lv_at hl 0 rfl) ?_
  refine callv_v (As := []) (rest := []) hC (c_X12_layNow_0 l D cA H.size ad F L A B  hq.1) (cwV 0 hg (g_V mw_1407 mw_1404 mw_1406 ms_70 mw_20) rfl rfl rfl (by decide +kernel) ⟨(Nat.le_of_ble_eq_true rfl), (Nat.le_of_ble_eq_true rfl)⟩) hP hD hS hA atM_0 rfl rfl hl.1 rfl (Nat.le_of_ble_eq_true rfl) dX12_busy_1 ⟨Nat.zero_le _, Nat.zero_le _⟩ (fun  u H locs hw hP hD hS => ?_)
  obtain ⟨F1, L1, A1, B1⟩ := u
  try dsimp only at hw
  have hq1 := hw
  have hq := hq.call hq1 (by decide)
  have hP : va_P D classes (wM cA ad F1 L1 A1 B1) H := hP
  have hD : va_D Af (wM cA ad F1 L1 A1 B1) := hD
  refine lv_iload_n hx hb dX12_busy_4 rfl (lv_at hl 1 rfl) ?_
  refine lv_if_eq (tgt := 15) hx hb dX12_busy_5 (by decide) (fun c2 => ?_) (fun c2 => ?_)
  · skip
    exact rg_emp (rg_eq1 c2 (hp1 : rg p1 1 1) ((rg_k (by decide)) : rg 0 0 0) (by decide) : rg p1 1 0) (by decide)
  · skip
    refine lv_aload_n hx hb dX12_busy_8 rfl (lv_at hl 0 rfl) ?_
    refine callv_i (As := []) (rest := []) hC (c_X12_busyHorses_0 l D cA H.size ad F1 L1 A1 B1  hq.1) (cwV 0 hg (g_V mw_1431 mw_1428 mw_1430 ms_74 mw_20) rfl rfl rfl (by decide +kernel) ⟨(Nat.le_of_ble_eq_true rfl), (Nat.le_of_ble_eq_true rfl)⟩) hP hD hS hA atM_0 rfl rfl hl.1 rfl (Nat.le_of_ble_eq_true rfl) dX12_busy_9 ⟨Nat.zero_le _, Nat.zero_le _⟩ (fun x4 u H locs hw hP hD hS => ?_)
    have r5 := hw
    have hP : va_P D classes (wM cA ad F1 L1 A1 B1) H := hP
    have hD : va_D Af (wM cA ad F1 L1 A1 B1) := hD
    refine lv_goto (tgt := 19) hx hb dX12_busy_12 (by decide) ?_
    exact hret (x4) (F1, L1, A1, B1) H locs 19 ls rfl dX12_busy_19 hP hD hS ⟨hq, r5⟩
abbrev rm_X12_isCovered_0 : Room := { frames := 1, cells := 0, slots := 0, locals := 22 }
set_option maxHeartbeats 4000000 in
set_option maxRecDepth 100000 in
theorem c_X12_isCovered_0 (l : Launch) (D : va_G) (cA : Nat → ClassId) (sz : Nat) (ad : Nat → Nat) (F : Nat → Int32) (L : Nat → Int64) (A : Nat → Nat → Int32) (B : Nat → Nat → Int64) (p1 : Int32) (hT : typM F A) (hp1 : rg p1 0 1023) : Met l yX12_isCovered (Cond.code yX12_isCovered cX12_isCovered 4 (some .boolean) :: GW) rm_X12_isCovered_0 (mPc D classes (tysM cA) (wM cA ad F L A B) sz [.ref (ad 0), .int p1]) (mQi (S := SW) D classes (tysM cA) (wM cA ad F L A B) sz (wfM cA ad) (fun r u => qM [] [20] F A u.1 u.2.2.1 ∧ rg r 0 1 ∧ ((r = 0 ∨ cvI (A 19) (u.2.2.1 20) p1 (p1.toInt + 1)) ∧ (r ≠ 0 ∨ cvN (A 19) p1)))) 0 0 (va_A (wM cA ad F L A B) sz) := by
  refine met_i (own := "ShoeingDayModel") (by decide +kernel) rfl (Nat.le_of_ble_eq_true rfl) ?_
  intro p e s m args below meth c Q Af ls hC hP hD hS hA hl hret
  have hx := hC.1
  have hb := hC.2.1
  have hown := hC.2.2.2.1
  have hg := hC.g
  have hK := hC.K
  have hl : lv_has ls 4 [(0, .ref (ad 0)), (1, .int p1)] := hl
  have hq : qM [] [20] F A F A := qM.rf hT
  obtain ⟨H, hH⟩ : ∃ H, H = s.heap := ⟨_, rfl⟩
  have hP : va_P D classes (wM cA ad F L A B) H := by rw [hH]; exact hP
  have hS : va_S Af s.heap H [] := by rw [hH]; exact hS
  obtain ⟨locs, hlo⟩ : ∃ q : List Loc, q = [] := ⟨_, rfl⟩
  rw [← hH, ← hlo]
  rw [← hlo] at hS
  refine lv_aload_n hx hb dX12_isCovered_0 rfl (lv_at hl 0 rfl) ?_
  refine va_get (ci := 12) (v := .ref (ad 20)) (C := RX12) (T := TX12) (N := 57) hx hb hg inX12 hown hK hP 0 atM_0 rfl 31 (by decide) (hg _ mw_1139) (fun _ h9 => h9) rfl dX12_isCovered_1 ?_
  refine lv_iconst (v := 0) hx hb dX12_isCovered_4 (by decide) ?_
  refine lv_iconst (v := 0) hx hb dX12_isCovered_5 (by decide) ?_
  refine va_iast hx hb hK hP hD hS 20 19 atM_20 tyM_20 (in_rg ((rg_k (by decide)) : rg 0 0 0) (by decide)) dX12_isCovered_6 (fun H locs hP hD hS => ?_)
  have hq := hq.ast 20 ((0 : Int32)).toNatClampNeg (x := 0) (by decide) (rg_k (by decide))
  rw [setM_20] at hP hD
  have k1 : (0 : Int32) = (va_up A 20 (upd (A 20) ((0 : Int32)).toNatClampNeg 0)) 20 ((0 : Int32)).toNatClampNeg := (rdA).symm
  refine lv_iconst (v := 1) hx hb dX12_isCovered_7 (by decide) ?_
  refine lv_istore_n (lv' := [(2, .int 1), (0, .ref (ad 0)), (1, .int p1)]) hx hb dX12_isCovered_8 rfl hl (by decide) rfl (fun ls hl => ?_)
  have J9 : ∀ (n9 : Nat) (a2 : Int32) (F4 : Nat → Int32) (L4 : Nat → Int64) (A4 : Nat → Nat → Int32) (B4 : Nat → Nat → Int64) (H : Heap) (locs : List Loc) (ls : Array Slot), (1024 - a2.toInt).toNat < n9 → rg a2 1 1024 → qM [] [20] F A F4 A4 → A4 19 = A 19 → cvI (A 19) (A4 20) p1 (a2 : Int32).toInt → va_P D classes (wM cA ad F4 L4 A4 B4) H → va_D Af (wM cA ad F4 L4 A4 B4) → va_S Af s.heap H locs → lv_has ls 4 [(0, .ref (ad 0)), (1, .int p1), (2, .int a2)] → W p l e rm_X12_isCovered_0 s m args below meth c H locs 0 0 Q (F0 m 9 ls []) := by
    intro n9
    induction n9 with
    | zero =>
      intro _ _ _ _ _ _ _ _ hn
      exact absurd hn (Nat.not_lt_zero _)
    | succ n9 ih9 =>
      intro a2 F4 L4 A4 B4 H locs ls hn9 r3 hq k5 v6 hP hD hS hl
      refine lv_iload_n hx hb dX12_isCovered_9 rfl (lv_at hl 2 rfl) ?_
      refine lv_iload_n hx hb dX12_isCovered_10 rfl (lv_at hl 1 rfl) ?_
      refine lv_icmp_gt (tgt := 88) hx hb dX12_isCovered_11 (by decide) (fun c7 => ?_) (fun c7 => ?_)
      · skip
        refine lv_iconst (v := 1) hx hb dX12_isCovered_88 (by decide) ?_
        exact hret (1) (F4, L4, A4, B4) H locs 89 ls rfl dX12_isCovered_89 hP hD hS ⟨hq, (rg_k (by decide)), ⟨Or.inr (fun k hk hs => v6 k (by have := (iL c7); omega) hs), Or.inl (by decide)⟩⟩
      · skip
        have r8 : rg a2 1 1023 := rg_le1 (iNL c7) (r3 : rg a2 1 1024) (hp1 : rg p1 0 1023)
        have r9 : rg p1 1 1023 := rg_le2 (iNL c7) (r3 : rg a2 1 1024) (hp1 : rg p1 0 1023)
        refine lv_iload_n hx hb dX12_isCovered_14 rfl (lv_at hl 2 rfl) ?_
        refine lv_iload_n hx hb dX12_isCovered_15 rfl (lv_at hl 1 rfl) ?_
        refine lv_iconst (v := (-1)) hx hb dX12_isCovered_16 (by decide) ?_
        refine lv_ixor hx hb dX12_isCovered_17 ?_
        refine lv_topi (fun x10 e11 => ?_)
        refine lv_iand hx hb dX12_isCovered_18 ?_
        refine lv_topi (fun x12 e13 => ?_)
        have r14 : rg x12 0 1023 := rg_andl e13 r8 (by decide)
        have J82 : ∀ (F15 : Nat → Int32) (L15 : Nat → Int64) (A15 : Nat → Nat → Int32) (B15 : Nat → Nat → Int64) (H : Heap) (locs : List Loc) (ls : Array Slot), qM [] [20] F A F15 A15 → A15 19 = A 19 → cvI (A 19) (A15 20) p1 (a2.toInt + 1) → va_P D classes (wM cA ad F15 L15 A15 B15) H → va_D Af (wM cA ad F15 L15 A15 B15) → va_S Af s.heap H locs → lv_has ls 4 [(0, .ref (ad 0)), (1, .int p1), (2, .int a2)] → W p l e rm_X12_isCovered_0 s m args below meth c H locs 0 0 Q (F0 m 82 ls []) := by
          intro F15 L15 A15 B15 H locs ls hq k16 v17 hP hD hS hl
          obtain ⟨x18, e19⟩ : ∃ y : Int32, y = a2 + 1 := ⟨_, rfl⟩
          have r20 : rg x18 2 1024 := rg_add e19 r8 (rg_k (by decide) : rg 1 1 1) (by decide)
          refine lv_iinc (v := x18) (lv' := [(2, .int x18), (0, .ref (ad 0)), (1, .int p1)]) hx hb dX12_isCovered_82 hl (k := 2) rfl (by rw [e19]; rfl) (by decide) rfl (fun ls hl => ?_)
          refine lv_goto (tgt := 9) hx hb dX12_isCovered_85 (by decide) ?_
          exact ih9 (x18) (F15) (L15) (A15) (B15) H locs ls (by have h0 : (1 : Int32).toInt = 1 := rfl; have h1 := ti_addk e19 r8 (by decide); have h2 : rg x18 1 1024 := (rg_w r20 (by decide)); unfold rg at h2; omega) (rg_w r20 (by decide)) hq (k16) (by have h1 := tiA e19 (r8 : rg a2 1 1023) (rg_k (by decide) : rg 1 1 1) (by decide); rw [h1]; exact v17) hP hD hS (lv_sub hl [1, 2, 0] rfl)
        refine lv_if_eq (tgt := 25) hx hb dX12_isCovered_19 (by decide) (fun c21 => ?_) (fun c21 => ?_)
        · skip
          have r22 : rg x12 0 0 := rg_eq1 c21 (r14 : rg x12 0 1023) ((rg_k (by decide)) : rg 0 0 0) (by decide)
          refine lv_iconst (v := 0) hx hb dX12_isCovered_25 (by decide) ?_
          refine lv_istore_n (lv' := [(3, .int 0), (0, .ref (ad 0)), (1, .int p1), (2, .int a2)]) hx hb dX12_isCovered_26 rfl hl (by decide) rfl (fun ls hl => ?_)
          have J27 : ∀ (n27 : Nat) (a24 : Int32) (F26 : Nat → Int32) (L26 : Nat → Int64) (A26 : Nat → Nat → Int32) (B26 : Nat → Nat → Int64) (H : Heap) (locs : List Loc) (ls : Array Slot), (9 - a24.toInt).toNat < n27 → rg a24 0 9 → qM [] [20] F A F26 A26 → A26 19 = A 19 → (∀ i : Nat, (i : Int) < (a24 : Int32).toInt → a2.toBitVec.getLsbD i = false) ∧ cvI (A 19) (A26 20) p1 a2.toInt → va_P D classes (wM cA ad F26 L26 A26 B26) H → va_D Af (wM cA ad F26 L26 A26 B26) → va_S Af s.heap H locs → lv_has ls 4 [(0, .ref (ad 0)), (1, .int p1), (2, .int a2), (3, .int a24)] → W p l e rm_X12_isCovered_0 s m args below meth c H locs 0 0 Q (F0 m 27 ls []) := by
            intro n27
            induction n27 with
            | zero =>
              intro _ _ _ _ _ _ _ _ hn
              exact absurd hn (Nat.not_lt_zero _)
            | succ n27 ih27 =>
              intro a24 F26 L26 A26 B26 H locs ls hn27 r25 hq k27 v28 hP hD hS hl
              refine lv_iload_n hx hb dX12_isCovered_27 rfl (lv_at hl 2 rfl) ?_
              refine lv_iload_n hx hb dX12_isCovered_28 rfl (lv_at hl 3 rfl) ?_
              refine lv_ishr hx hb dX12_isCovered_29 ?_
              refine lv_topi (fun x29 e30 => ?_)
              have r31 : rg x29 0 1023 := rg_shrk _ e30 r8 rfl (by decide)
              refine lv_iconst (v := 1) hx hb dX12_isCovered_30 (by decide) ?_
              refine lv_iand hx hb dX12_isCovered_31 ?_
              refine lv_topi (fun x32 e33 => ?_)
              have r34 : rg x32 0 1 := rg_andr e33 ((rg_k (by decide)) : rg 1 1 1) (by decide)
              refine lv_if_ne (tgt := 41) hx hb dX12_isCovered_32 (by decide) (fun c35 => ?_) (fun c35 => ?_)
              · skip
                have r36 : rg x32 1 1 := (rg_ne1 c35 (r34 : rg x32 0 1) ((rg_k (by decide)) : rg 0 0 0)).1 rfl
                refine lv_aload_n hx hb dX12_isCovered_41 rfl (lv_at hl 0 rfl) ?_
                refine va_get (ci := 12) (v := .ref (ad 20)) (C := RX12) (T := TX12) (N := 57) hx hb hg inX12 hown hK hP 0 atM_0 rfl 31 (by decide) (hg _ mw_1139) (fun _ h9 => h9) rfl dX12_isCovered_42 ?_
                refine lv_iload_n hx hb dX12_isCovered_45 rfl (lv_at hl 2 rfl) ?_
                refine lv_aload_n hx hb dX12_isCovered_46 rfl (lv_at hl 0 rfl) ?_
                refine va_get (ci := 12) (v := .ref (ad 20)) (C := RX12) (T := TX12) (N := 57) hx hb hg inX12 hown hK hP 0 atM_0 rfl 31 (by decide) (hg _ mw_1139) (fun _ h9 => h9) rfl dX12_isCovered_47 ?_
                refine lv_iload_n hx hb dX12_isCovered_50 rfl (lv_at hl 2 rfl) ?_
                refine lv_iload_n hx hb dX12_isCovered_51 rfl (lv_at hl 2 rfl) ?_
                refine lv_iconst (v := 1) hx hb dX12_isCovered_52 (by decide) ?_
                refine lv_isub hx hb dX12_isCovered_53 ?_
                refine lv_topi (fun x38 e39 => ?_)
                have r40 : rg x38 0 1022 := rg_sub e39 r8 ((rg_k (by decide)) : rg 1 1 1) (by decide)
                refine lv_iand hx hb dX12_isCovered_54 ?_
                refine lv_topi (fun x41 e42 => ?_)
                have r43 : rg x41 0 1022 := rg_andr e42 r40 (by decide)
                refine va_iald hx hb hK hP 20 19 atM_20 tyM_20 (in_rg r43 (by decide)) dX12_isCovered_55 ?_
                refine lv_topi (fun x44 e45 => ?_)
                have r46 : rg x44 0 1023 := rg_e e45 (hq.1.2 20 _)
                refine lv_aload_n hx hb dX12_isCovered_56 rfl (lv_at hl 0 rfl) ?_
                refine va_get (ci := 12) (v := .ref (ad 19)) (C := RX12) (T := TX12) (N := 57) hx hb hg inX12 hown hK hP 0 atM_0 rfl 30 (by decide) (hg _ mw_1138) (fun _ h9 => h9) rfl dX12_isCovered_57 ?_
                refine lv_iload_n hx hb dX12_isCovered_60 rfl (lv_at hl 3 rfl) ?_
                refine va_iald hx hb hK hP 19 18 atM_19 tyM_19 (in_rg r25 (by decide)) dX12_isCovered_61 ?_
                refine lv_topi (fun x47 e48 => ?_)
                have r49 : rg x47 0 1023 := rg_e e48 (hq.1.2 19 _)
                refine lv_ior hx hb dX12_isCovered_62 ?_
                refine lv_topi (fun x50 e51 => ?_)
                have r52 : rg x50 0 1023 := rg_or 10 e51 r46 r49 (by decide)
                refine va_iast hx hb hK hP hD hS 20 19 atM_20 tyM_20 (in_rg r8 (by decide)) dX12_isCovered_63 (fun H locs hP hD hS => ?_)
                have hq := hq.ast 20 (a2).toNatClampNeg (x := x50) (by decide) r52
                rw [setM_20] at hP hD
                have k53 : x50 = (va_up A26 20 (upd (A26 20) (a2).toNatClampNeg x50)) 20 (a2).toNatClampNeg := (rdA).symm
                refine lv_aload_n hx hb dX12_isCovered_64 rfl (lv_at hl 0 rfl) ?_
                refine va_get (ci := 12) (v := .ref (ad 20)) (C := RX12) (T := TX12) (N := 57) hx hb hg inX12 hown hK hP 0 atM_0 rfl 31 (by decide) (hg _ mw_1139) (fun _ h9 => h9) rfl dX12_isCovered_65 ?_
                refine lv_iload_n hx hb dX12_isCovered_68 rfl (lv_at hl 2 rfl) ?_
                refine va_iald hx hb hK hP 20 19 atM_20 tyM_20 (in_rg r8 (by decide)) dX12_isCovered_69 ?_
                refine tope (k53) ?_
                refine calls_i (As := [.int x50]) (rest := []) hC (c_X12_bitsOf l D (tysM cA) (wM cA ad F26 L26 (va_up A26 20 (upd (A26 20) (a2).toNatClampNeg x50)) B26) H.size (x50)) (cwS 1 hg (g_S mw_1462 mw_1460 mw_1461 mw_20) rfl rfl rfl (by decide +kernel) ⟨(Nat.le_of_ble_eq_true rfl), (Nat.le_of_ble_eq_true rfl)⟩) hP hD hS hA rfl hl.1 rfl (Nat.le_of_ble_eq_true rfl) dX12_isCovered_70 ⟨Nat.zero_le _, Nat.zero_le _⟩ (fun x54 u H locs hw hP hD hS => ?_)
                have e55 := hw
                have hP : va_P D classes (wM cA ad F26 L26 (va_up A26 20 (upd (A26 20) (a2).toNatClampNeg x50)) B26) H := hP
                have hD : va_D Af (wM cA ad F26 L26 (va_up A26 20 (upd (A26 20) (a2).toNatClampNeg x50)) B26) := hD
                have r56 : rg x54 0 31 := rg_bits hw
                refine lv_iload_n hx hb dX12_isCovered_73 rfl (lv_at hl 2 rfl) ?_
                refine calls_i (As := [.int a2]) (rest := [.int x54]) hC (c_X12_bitsOf l D (tysM cA) (wM cA ad F26 L26 (va_up A26 20 (upd (A26 20) (a2).toNatClampNeg x50)) B26) H.size (a2)) (cwS 1 hg (g_S mw_1462 mw_1460 mw_1461 mw_20) rfl rfl rfl (by decide +kernel) ⟨(Nat.le_of_ble_eq_true rfl), (Nat.le_of_ble_eq_true rfl)⟩) hP hD hS hA rfl hl.1 rfl (Nat.le_of_ble_eq_true rfl) dX12_isCovered_74 ⟨Nat.zero_le _, Nat.zero_le _⟩ (fun x57 u H locs hw hP hD hS => ?_)
                have e58 := hw
                have hP : va_P D classes (wM cA ad F26 L26 (va_up A26 20 (upd (A26 20) (a2).toNatClampNeg x50)) B26) H := hP
                have hD : va_D Af (wM cA ad F26 L26 (va_up A26 20 (upd (A26 20) (a2).toNatClampNeg x50)) B26) := hD
                have r59 : rg x57 1 31 := rg_bits1 hw r8 (by decide)
                refine lv_icmp_ge (tgt := 82) hx hb dX12_isCovered_77 (by decide) (fun c60 => ?_) (fun c60 => ?_)
                · skip
                  have r61 : rg x54 1 31 := rg_le2 (iE c60) (r59 : rg x57 1 31) (r56 : rg x54 0 31)
                  exact J82 (F26) (L26) ((va_up A26 20 (upd (A26 20) (a2).toNatClampNeg x50))) (B26) H locs ls hq (k27) (cv_up v28.2 (r8 : rg a2 1 1023) (fun hs => cv_new v28.2 (r8 : rg a2 1 1023) (r25 : rg a24 0 9) v28.1 (cv_hit (r25 : rg a24 0 9) e30 e33 c35) hs (by rw [← e39]; exact e42) e45 (e48.trans (congrFun k27 _)) e51) (cv_le (r8 : rg a2 1 1023) (by decide) e55 e58 (iE c60))) hP hD hS (lv_sub hl [0, 1, 2] rfl)
                · skip
                  have r62 : rg x54 0 30 := rg_lt1 (iNE c60) (r56 : rg x54 0 31) (r59 : rg x57 1 31)
                  refine lv_iconst (v := 0) hx hb dX12_isCovered_80 (by decide) ?_
                  exact hret (0) (F26, L26, (va_up A26 20 (upd (A26 20) (a2).toNatClampNeg x50)), B26) H locs 81 ls rfl dX12_isCovered_81 hP hD hS ⟨hq, (rg_k (by decide)), ⟨Or.inl rfl, Or.inr ⟨a2.toNatClampNeg, x50, (by have := (iNL c7); have := ((r8 : rg a2 1 1023)).1; show ((a2.toInt.toNat : Nat) : Int) ≤ p1.toInt; omega), (cv_sub (r8 : rg a2 1 1023) (by decide) e11 e13 c21), cv_new v28.2 (r8 : rg a2 1 1023) (r25 : rg a24 0 9) v28.1 (cv_hit (r25 : rg a24 0 9) e30 e33 c35) (cv_sub (r8 : rg a2 1 1023) (by decide) e11 e13 c21) (by rw [← e39]; exact e42) e45 (e48.trans (congrFun k27 _)) e51, cv_lt (r8 : rg a2 1 1023) (by decide) e55 e58 (iNE c60)⟩⟩⟩
              · skip
                have r37 : rg x32 0 0 := rg_eq1 c35 (r34 : rg x32 0 1) ((rg_k (by decide)) : rg 0 0 0) (by decide)
                obtain ⟨x63, e64⟩ : ∃ y : Int32, y = a24 + 1 := ⟨_, rfl⟩
                have r65 : rg x63 1 9 := (cv_inc (r8 : rg a2 1 1023) (r25 : rg a24 0 9) v28.1 e30 e33 c35 e64).1
                refine lv_iinc (v := x63) (lv' := [(3, .int x63), (0, .ref (ad 0)), (1, .int p1), (2, .int a2)]) hx hb dX12_isCovered_35 hl (k := 3) rfl (by rw [e64]; rfl) (by decide) rfl (fun ls hl => ?_)
                refine lv_goto (tgt := 27) hx hb dX12_isCovered_38 (by decide) ?_
                exact ih27 (x63) (F26) (L26) (A26) (B26) H locs ls (by have h0 : (1 : Int32).toInt = 1 := rfl; have h1 := ti_addk e64 r25 (by decide); have h2 : rg x63 0 9 := (rg_w r65 (by decide)); unfold rg at h2; omega) (rg_w r65 (by decide)) hq (k27) ⟨(cv_inc (r8 : rg a2 1 1023) (r25 : rg a24 0 9) v28.1 e30 e33 c35 e64).2, v28.2⟩ hP hD hS (lv_sub hl [1, 2, 3, 0] rfl)
          exact J27 _ (0) (F4) (L4) (A4) (B4) H locs ls (Nat.lt_succ_self _) (rg_k (by decide)) hq (k5) ⟨fun i hi => absurd hi (by have : (0 : Int32).toInt = 0 := rfl; omega), v6⟩ hP hD hS (lv_sub hl [1, 2, 3, 0] rfl)
        · skip
          have r23 : rg x12 1 1023 := (rg_ne1 c21 (r14 : rg x12 0 1023) ((rg_k (by decide)) : rg 0 0 0)).1 rfl
          refine lv_goto (tgt := 82) hx hb dX12_isCovered_22 (by decide) ?_
          exact J82 (F4) (L4) (A4) (B4) H locs ls hq (k5) (cv_skip v6 (r8 : rg a2 1 1023) (by decide) e11 e13 c21) hP hD hS (lv_sub hl [0, 1, 2] rfl)
  exact J9 _ (1) (F) (L) ((va_up A 20 (upd (A 20) ((0 : Int32)).toNatClampNeg 0))) (B) H locs ls (Nat.lt_succ_self _) (rg_k (by decide)) hq (rfl) cv_0 hP hD hS (lv_sub hl [1, 2, 0] rfl)
abbrev rm_X12_canGoOn_0 : Room := { frames := 2, cells := 0, slots := 0, locals := 45 }
set_option maxHeartbeats 4000000 in
set_option maxRecDepth 100000 in
theorem c_X12_canGoOn_0 (l : Launch) (D : va_G) (cA : Nat → ClassId) (sz : Nat) (ad : Nat → Nat) (F : Nat → Int32) (L : Nat → Int64) (A : Nat → Nat → Int32) (B : Nat → Nat → Int64) (p1 : Int32) (p2 : Int32) (p3 : Int32) (p4 : Int32) (hT : typM F A) (hp1 : rg p1 1 8) (hp2 : rg p2 0 1023) (hp3 : rg p3 0 255) (hp4 : rg p4 0 1023) : Met l yX12_canGoOn (Cond.code yX12_canGoOn cX12_canGoOn 7 (some .boolean) :: GW) rm_X12_canGoOn_0 (mPc D classes (tysM cA) (wM cA ad F L A B) sz [.ref (ad 0), .int p1, .int p2, .int p3, .int p4]) (mQi (S := SW) D classes (tysM cA) (wM cA ad F L A B) sz (wfM cA ad) (fun r u => qM [] [19, 20] F A u.1 u.2.2.1 ∧ rg r 0 1)) 0 0 (va_A (wM cA ad F L A B) sz) := by
  refine met_i (own := "ShoeingDayModel") (by decide +kernel) rfl (Nat.le_of_ble_eq_true rfl) ?_
  intro p e s m args below meth c Q Af ls hC hP hD hS hA hl hret
  have hx := hC.1
  have hb := hC.2.1
  have hown := hC.2.2.2.1
  have hg := hC.g
  have hK := hC.K
  have hl : lv_has ls 7 [(0, .ref (ad 0)), (1, .int p1), (2, .int p2), (3, .int p3), (4, .int p4)] := hl
  have hq : qM [] [19, 20] F A F A := qM.rf hT
  obtain ⟨H, hH⟩ : ∃ H, H = s.heap := ⟨_, rfl⟩
  have hP : va_P D classes (wM cA ad F L A B) H := by rw [hH]; exact hP
  have hS : va_S Af s.heap H [] := by rw [hH]; exact hS
  obtain ⟨locs, hlo⟩ : ∃ q : List Loc, q = [] := ⟨_, rfl⟩
  rw [← hH, ← hlo]
  rw [← hlo] at hS
  refine lv_iconst (v := 0) hx hb dX12_canGoOn_0 (by decide) ?_
  refine lv_istore (lv' := [(5, .int 0), (0, .ref (ad 0)), (1, .int p1), (2, .int p2), (3, .int p3), (4, .int p4)]) hx hb dX12_canGoOn_1 hl (by decide) rfl (fun ls hl => ?_)
  have J3 : ∀ (n3 : Nat) (a1 : Int32) (F3 : Nat → Int32) (L3 : Nat → Int64) (A3 : Nat → Nat → Int32) (B3 : Nat → Nat → Int64) (H : Heap) (locs : List Loc) (ls : Array Slot), (8 - a1.toInt).toNat < n3 → rg a1 0 8 → qM [] [19, 20] F A F3 A3 → va_P D classes (wM cA ad F3 L3 A3 B3) H → va_D Af (wM cA ad F3 L3 A3 B3) → va_S Af s.heap H locs → lv_has ls 7 [(0, .ref (ad 0)), (1, .int p1), (2, .int p2), (3, .int p3), (4, .int p4), (5, .int a1)] → W p l e rm_X12_canGoOn_0 s m args below meth c H locs 0 0 Q (F0 m 3 ls []) := by
    intro n3
    induction n3 with
    | zero =>
      intro _ _ _ _ _ _ _ _ hn
      exact absurd hn (Nat.not_lt_zero _)
    | succ n3 ih3 =>
      intro a1 F3 L3 A3 B3 H locs ls hn3 r2 hq hP hD hS hl
      refine lv_iload hx hb dX12_canGoOn_3 (lv_at hl 5 rfl) ?_
      refine lv_bipush (v := 8) hx hb dX12_canGoOn_5 (by decide) ?_
      refine lv_icmp_ge (tgt := 90) hx hb dX12_canGoOn_7 (by decide) (fun c4 => ?_) (fun c4 => ?_)
      · skip
        have r5 : rg a1 8 8 := rg_le2 (iE c4) ((rg_k (by decide)) : rg 8 8 8) (r2 : rg a1 0 8)
        refine lv_aload_n hx hb dX12_canGoOn_90 rfl (lv_at hl 0 rfl) ?_
        refine lv_iload_n hx hb dX12_canGoOn_91 rfl (lv_at hl 3 rfl) ?_
        refine callv_i (As := [.int p3]) (rest := []) hC (c_X12_isCovered_0 l D cA H.size ad F3 L3 A3 B3 (p3) hq.1 (rg_w hp3 (by decide))) (cwV 1 hg (g_V mw_1459 mw_1456 mw_1458 ms_80 mw_20) rfl rfl rfl (by decide +kernel) ⟨(Nat.le_of_ble_eq_true rfl), (Nat.le_of_ble_eq_true rfl)⟩) hP hD hS hA atM_0 rfl rfl hl.1 rfl (Nat.le_of_ble_eq_true rfl) dX12_canGoOn_92 ⟨Nat.zero_le _, Nat.zero_le _⟩ (fun x7 u H locs hw hP hD hS => ?_)
        obtain ⟨F8, L8, A8, B8⟩ := u
        try dsimp only at hw
        obtain ⟨hq8, r9, g10⟩ := hw
        have hq := hq.call hq8 (by decide)
        have hP : va_P D classes (wM cA ad F8 L8 A8 B8) H := hP
        have hD : va_D Af (wM cA ad F8 L8 A8 B8) := hD
        refine lv_if_ne (tgt := 100) hx hb dX12_canGoOn_95 (by decide) (fun c11 => ?_) (fun c11 => ?_)
        · skip
          have r12 : rg x7 1 1 := (rg_ne1 c11 (r9 : rg x7 0 1) ((rg_k (by decide)) : rg 0 0 0)).1 rfl
          refine lv_iconst (v := 0) hx hb dX12_canGoOn_100 (by decide) ?_
          refine lv_istore (lv' := [(5, .int 0), (0, .ref (ad 0)), (1, .int p1), (2, .int p2), (3, .int p3), (4, .int p4)]) hx hb dX12_canGoOn_101 hl (by decide) rfl (fun ls hl => ?_)
          have J103 : ∀ (n103 : Nat) (a14 : Int32) (F16 : Nat → Int32) (L16 : Nat → Int64) (A16 : Nat → Nat → Int32) (B16 : Nat → Nat → Int64) (H : Heap) (locs : List Loc) (ls : Array Slot), (10 - a14.toInt).toNat < n103 → rg a14 0 10 → qM [] [19, 20] F A F16 A16 → va_P D classes (wM cA ad F16 L16 A16 B16) H → va_D Af (wM cA ad F16 L16 A16 B16) → va_S Af s.heap H locs → lv_has ls 7 [(0, .ref (ad 0)), (1, .int p1), (4, .int p4), (5, .int a14)] → W p l e rm_X12_canGoOn_0 s m args below meth c H locs 0 0 Q (F0 m 103 ls []) := by
            intro n103
            induction n103 with
            | zero =>
              intro _ _ _ _ _ _ _ _ hn
              exact absurd hn (Nat.not_lt_zero _)
            | succ n103 ih103 =>
              intro a14 F16 L16 A16 B16 H locs ls hn103 r15 hq hP hD hS hl
              refine lv_iload hx hb dX12_canGoOn_103 (lv_at hl 3 rfl) ?_
              refine lv_bipush (v := 10) hx hb dX12_canGoOn_105 (by decide) ?_
              refine lv_icmp_ge (tgt := 174) hx hb dX12_canGoOn_107 (by decide) (fun c17 => ?_) (fun c17 => ?_)
              · skip
                have r18 : rg a14 10 10 := rg_le2 (iE c17) ((rg_k (by decide)) : rg 10 10 10) (r15 : rg a14 0 10)
                refine lv_aload_n hx hb dX12_canGoOn_174 rfl (lv_at hl 0 rfl) ?_
                refine lv_iload hx hb dX12_canGoOn_175 (lv_at hl 2 rfl) ?_
                refine callv_i (As := [.int p4]) (rest := []) hC (c_X12_isCovered_0 l D cA H.size ad F16 L16 A16 B16 (p4) hq.1 hp4) (cwV 1 hg (g_V mw_1459 mw_1456 mw_1458 ms_80 mw_20) rfl rfl rfl (by decide +kernel) ⟨(Nat.le_of_ble_eq_true rfl), (Nat.le_of_ble_eq_true rfl)⟩) hP hD hS hA atM_0 rfl rfl hl.1 rfl (Nat.le_of_ble_eq_true rfl) dX12_canGoOn_177 ⟨Nat.zero_le _, Nat.zero_le _⟩ (fun x20 u H locs hw hP hD hS => ?_)
                obtain ⟨F21, L21, A21, B21⟩ := u
                try dsimp only at hw
                obtain ⟨hq21, r22, g23⟩ := hw
                have hq := hq.call hq21 (by decide)
                have hP : va_P D classes (wM cA ad F21 L21 A21 B21) H := hP
                have hD : va_D Af (wM cA ad F21 L21 A21 B21) := hD
                exact hret (x20) (F21, L21, A21, B21) H locs 180 ls (nb_rg r22) dX12_canGoOn_180 hP hD hS ⟨hq, r22⟩
              · skip
                have r19 : rg a14 0 9 := rg_lt1 (iNE c17) (r15 : rg a14 0 10) ((rg_k (by decide)) : rg 10 10 10)
                refine lv_aload_n hx hb dX12_canGoOn_110 rfl (lv_at hl 0 rfl) ?_
                refine va_get (ci := 12) (v := .ref (ad 19)) (C := RX12) (T := TX12) (N := 57) hx hb hg inX12 hown hK hP 0 atM_0 rfl 30 (by decide) (hg _ mw_1138) (fun _ h9 => h9) rfl dX12_canGoOn_111 ?_
                refine lv_iload hx hb dX12_canGoOn_114 (lv_at hl 3 rfl) ?_
                refine lv_iconst (v := 0) hx hb dX12_canGoOn_116 (by decide) ?_
                refine va_iast hx hb hK hP hD hS 19 18 atM_19 tyM_19 (in_rg r19 (by decide)) dX12_canGoOn_117 (fun H locs hP hD hS => ?_)
                have hq := hq.ast 19 (a14).toNatClampNeg (x := 0) (by decide) (rg_k (by decide))
                rw [setM_19] at hP hD
                have k24 : (0 : Int32) = (va_up A16 19 (upd (A16 19) (a14).toNatClampNeg 0)) 19 (a14).toNatClampNeg := (rdA).symm
                refine lv_iload_n hx hb dX12_canGoOn_118 rfl (lv_at hl 1 rfl) ?_
                refine lv_istore (lv' := [(6, .int p1), (0, .ref (ad 0)), (1, .int p1), (4, .int p4), (5, .int a14)]) hx hb dX12_canGoOn_119 hl (by decide) rfl (fun ls hl => ?_)
                have J121 : ∀ (n121 : Nat) (a25 : Int32) (F27 : Nat → Int32) (L27 : Nat → Int64) (A27 : Nat → Nat → Int32) (B27 : Nat → Nat → Int64) (H : Heap) (locs : List Loc) (ls : Array Slot), (8 - a25.toInt).toNat < n121 → rg a25 1 8 → qM [] [19, 20] F A F27 A27 → va_P D classes (wM cA ad F27 L27 A27 B27) H → va_D Af (wM cA ad F27 L27 A27 B27) → va_S Af s.heap H locs → lv_has ls 7 [(0, .ref (ad 0)), (1, .int p1), (4, .int p4), (5, .int a14), (6, .int a25)] → W p l e rm_X12_canGoOn_0 s m args below meth c H locs 0 0 Q (F0 m 121 ls []) := by
                  intro n121
                  induction n121 with
                  | zero =>
                    intro _ _ _ _ _ _ _ _ hn
                    exact absurd hn (Nat.not_lt_zero _)
                  | succ n121 ih121 =>
                    intro a25 F27 L27 A27 B27 H locs ls hn121 r26 hq hP hD hS hl
                    refine lv_iload hx hb dX12_canGoOn_121 (lv_at hl 4 rfl) ?_
                    refine lv_bipush (v := 8) hx hb dX12_canGoOn_123 (by decide) ?_
                    refine lv_icmp_ge (tgt := 168) hx hb dX12_canGoOn_125 (by decide) (fun c28 => ?_) (fun c28 => ?_)
                    · skip
                      have r29 : rg a25 8 8 := rg_le2 (iE c28) ((rg_k (by decide)) : rg 8 8 8) (r26 : rg a25 1 8)
                      obtain ⟨x31, e32⟩ : ∃ y : Int32, y = a14 + 1 := ⟨_, rfl⟩
                      have r33 : rg x31 1 10 := rg_add e32 r19 (rg_k (by decide) : rg 1 1 1) (by decide)
                      refine lv_iinc (v := x31) (lv' := [(5, .int x31), (0, .ref (ad 0)), (1, .int p1), (4, .int p4), (6, .int a25)]) hx hb dX12_canGoOn_168 hl (k := 3) rfl (by rw [e32]; rfl) (by decide) rfl (fun ls hl => ?_)
                      refine lv_goto (tgt := 103) hx hb dX12_canGoOn_171 (by decide) ?_
                      exact ih103 (x31) (F27) (L27) (A27) (B27) H locs ls (by have h0 : (1 : Int32).toInt = 1 := rfl; have h1 := ti_addk e32 r19 (by decide); have h2 : rg x31 0 10 := (rg_w r33 (by decide)); unfold rg at h2; omega) (rg_w r33 (by decide)) hq hP hD hS (lv_sub hl [1, 2, 3, 0] rfl)
                    · skip
                      have r30 : rg a25 1 7 := rg_lt1 (iNE c28) (r26 : rg a25 1 8) ((rg_k (by decide)) : rg 8 8 8)
                      refine lv_aload_n hx hb dX12_canGoOn_128 rfl (lv_at hl 0 rfl) ?_
                      refine va_get (ci := 12) (v := .ref (ad 19)) (C := RX12) (T := TX12) (N := 57) hx hb hg inX12 hown hK hP 0 atM_0 rfl 30 (by decide) (hg _ mw_1138) (fun _ h9 => h9) rfl dX12_canGoOn_129 ?_
                      refine lv_iload hx hb dX12_canGoOn_132 (lv_at hl 3 rfl) ?_
                      refine lv_dup2_11 hx hb dX12_canGoOn_134 rfl rfl ?_
                      refine va_iald hx hb hK hP 19 18 atM_19 tyM_19 (in_rg r19 (by decide)) dX12_canGoOn_135 ?_
                      refine lv_topi (fun x34 e35 => ?_)
                      have r36 : rg x34 0 1023 := rg_e e35 (hq.1.2 19 _)
                      refine lv_aload_n hx hb dX12_canGoOn_136 rfl (lv_at hl 0 rfl) ?_
                      refine va_get (ci := 12) (v := .ref (ad 16)) (C := RX12) (T := TX12) (N := 57) hx hb hg inX12 hown hK hP 0 atM_0 rfl 26 (by decide) (hg _ mw_1134) (fun _ h9 => h9) rfl dX12_canGoOn_137 ?_
                      refine lv_bipush (v := 10) hx hb dX12_canGoOn_140 (by decide) ?_
                      refine lv_iload hx hb dX12_canGoOn_142 (lv_at hl 4 rfl) ?_
                      refine lv_imul hx hb dX12_canGoOn_144 ?_
                      refine lv_topi (fun x37 e38 => ?_)
                      have r39 : rg x37 10 70 := rg_mul e38 ((rg_k (by decide)) : rg 10 10 10) r30 (by decide)
                      refine lv_iload hx hb dX12_canGoOn_145 (lv_at hl 3 rfl) ?_
                      refine lv_iadd hx hb dX12_canGoOn_147 ?_
                      refine lv_topi (fun x40 e41 => ?_)
                      have r42 : rg x40 10 79 := rg_add e41 r39 r19 (by decide)
                      refine va_iald hx hb hK hP 16 15 atM_16 tyM_16 (in_rg r42 (by decide)) dX12_canGoOn_148 ?_
                      refine lv_topi (fun x43 e44 => ?_)
                      have J160 : ∀ (a45 : Int32) (F47 : Nat → Int32) (L47 : Nat → Int64) (A47 : Nat → Nat → Int32) (B47 : Nat → Nat → Int64) (H : Heap) (locs : List Loc) (ls : Array Slot), rg a45 0 128 → qM [] [19, 20] F A F47 A47 → va_P D classes (wM cA ad F47 L47 A47 B47) H → va_D Af (wM cA ad F47 L47 A47 B47) → va_S Af s.heap H locs → lv_has ls 7 [(0, .ref (ad 0)), (1, .int p1), (4, .int p4), (5, .int a14), (6, .int a25)] → W p l e rm_X12_canGoOn_0 s m args below meth c H locs 0 0 Q (F0 m 160 ls [.int a45, .int x34, .int a14, .ref (ad 19)]) := by
                        intro a45 F47 L47 A47 B47 H locs ls r46 hq hP hD hS hl
                        refine lv_ior hx hb dX12_canGoOn_160 ?_
                        refine lv_topi (fun x48 e49 => ?_)
                        have r50 : rg x48 0 1023 := rg_or 10 e49 r36 r46 (by decide)
                        refine va_iast hx hb hK hP hD hS 19 18 atM_19 tyM_19 (in_rg r19 (by decide)) dX12_canGoOn_161 (fun H locs hP hD hS => ?_)
                        have hq := hq.ast 19 (a14).toNatClampNeg (x := x48) (by decide) r50
                        rw [setM_19] at hP hD
                        have k51 : x48 = (va_up A47 19 (upd (A47 19) (a14).toNatClampNeg x48)) 19 (a14).toNatClampNeg := (rdA).symm
                        obtain ⟨x52, e53⟩ : ∃ y : Int32, y = a25 + 1 := ⟨_, rfl⟩
                        have r54 : rg x52 2 8 := rg_add e53 r30 (rg_k (by decide) : rg 1 1 1) (by decide)
                        refine lv_iinc (v := x52) (lv' := [(6, .int x52), (0, .ref (ad 0)), (1, .int p1), (4, .int p4), (5, .int a14)]) hx hb dX12_canGoOn_162 hl (k := 4) rfl (by rw [e53]; rfl) (by decide) rfl (fun ls hl => ?_)
                        refine lv_goto (tgt := 121) hx hb dX12_canGoOn_165 (by decide) ?_
                        exact ih121 (x52) (F47) (L47) ((va_up A47 19 (upd (A47 19) (a14).toNatClampNeg x48))) (B47) H locs ls (by have h0 : (1 : Int32).toInt = 1 := rfl; have h1 := ti_addk e53 r30 (by decide); have h2 : rg x52 1 8 := (rg_w r54 (by decide)); unfold rg at h2; omega) (rg_w r54 (by decide)) hq hP hD hS (lv_sub hl [1, 2, 3, 4, 0] rfl)
                      refine lv_if_le (tgt := 159) hx hb dX12_canGoOn_149 (by decide) (fun c55 => ?_) (fun c55 => ?_)
                      · skip
                        have r56 : rg x43 (-2147483648) 0 := rg_le1 (iE c55) ((rg_top _) : rg x43 (-2147483648) 2147483647) ((rg_k (by decide)) : rg 0 0 0)
                        refine lv_iconst (v := 0) hx hb dX12_canGoOn_159 (by decide) ?_
                        exact J160 (0) (F27) (L27) (A27) (B27) H locs ls (rg_k (by decide)) hq hP hD hS (lv_sub hl [0, 1, 2, 3, 4] rfl)
                      · skip
                        have r57 : rg x43 1 2147483647 := rg_lt2 (iNE c55) ((rg_k (by decide)) : rg 0 0 0) ((rg_top _) : rg x43 (-2147483648) 2147483647)
                        refine lv_iconst (v := 1) hx hb dX12_canGoOn_152 (by decide) ?_
                        refine lv_iload hx hb dX12_canGoOn_153 (lv_at hl 4 rfl) ?_
                        refine lv_ishl hx hb dX12_canGoOn_155 ?_
                        refine lv_topi (fun x58 e59 => ?_)
                        have r60 : rg x58 2 128 := rg_shl1 e59 r30 (by decide)
                        refine lv_goto (tgt := 160) hx hb dX12_canGoOn_156 (by decide) ?_
                        exact J160 (x58) (F27) (L27) (A27) (B27) H locs ls (rg_w r60 (by decide)) hq hP hD hS (lv_sub hl [0, 1, 2, 3, 4] rfl)
                exact J121 _ (p1) (F16) (L16) ((va_up A16 19 (upd (A16 19) (a14).toNatClampNeg 0))) (B16) H locs ls (Nat.lt_succ_self _) hp1 hq hP hD hS (lv_sub hl [1, 2, 3, 4, 0] rfl)
          exact J103 _ (0) (F8) (L8) (A8) (B8) H locs ls (Nat.lt_succ_self _) (rg_k (by decide)) hq hP hD hS (lv_sub hl [1, 2, 5, 0] rfl)
        · skip
          have r13 : rg x7 0 0 := rg_eq1 c11 (r9 : rg x7 0 1) ((rg_k (by decide)) : rg 0 0 0) (by decide)
          refine lv_iconst (v := 0) hx hb dX12_canGoOn_98 (by decide) ?_
          exact hret (0) (F8, L8, A8, B8) H locs 99 ls rfl dX12_canGoOn_99 hP hD hS ⟨hq, (rg_k (by decide))⟩
      · skip
        have r6 : rg a1 0 7 := rg_lt1 (iNE c4) (r2 : rg a1 0 8) ((rg_k (by decide)) : rg 8 8 8)
        refine lv_aload_n hx hb dX12_canGoOn_10 rfl (lv_at hl 0 rfl) ?_
        refine va_get (ci := 12) (v := .ref (ad 19)) (C := RX12) (T := TX12) (N := 57) hx hb hg inX12 hown hK hP 0 atM_0 rfl 30 (by decide) (hg _ mw_1138) (fun _ h9 => h9) rfl dX12_canGoOn_11 ?_
        refine lv_iload hx hb dX12_canGoOn_14 (lv_at hl 5 rfl) ?_
        refine lv_iconst (v := 0) hx hb dX12_canGoOn_16 (by decide) ?_
        refine va_iast hx hb hK hP hD hS 19 18 atM_19 tyM_19 (in_rg r6 (by decide)) dX12_canGoOn_17 (fun H locs hP hD hS => ?_)
        have hq := hq.ast 19 (a1).toNatClampNeg (x := 0) (by decide) (rg_k (by decide))
        rw [setM_19] at hP hD
        have k61 : (0 : Int32) = (va_up A3 19 (upd (A3 19) (a1).toNatClampNeg 0)) 19 (a1).toNatClampNeg := (rdA).symm
        refine lv_iconst (v := 0) hx hb dX12_canGoOn_18 (by decide) ?_
        refine lv_istore (lv' := [(6, .int 0), (0, .ref (ad 0)), (1, .int p1), (2, .int p2), (3, .int p3), (4, .int p4), (5, .int a1)]) hx hb dX12_canGoOn_19 hl (by decide) rfl (fun ls hl => ?_)
        have J21 : ∀ (n21 : Nat) (a62 : Int32) (F64 : Nat → Int32) (L64 : Nat → Int64) (A64 : Nat → Nat → Int32) (B64 : Nat → Nat → Int64) (H : Heap) (locs : List Loc) (ls : Array Slot), (10 - a62.toInt).toNat < n21 → rg a62 0 10 → qM [] [19, 20] F A F64 A64 → va_P D classes (wM cA ad F64 L64 A64 B64) H → va_D Af (wM cA ad F64 L64 A64 B64) → va_S Af s.heap H locs → lv_has ls 7 [(0, .ref (ad 0)), (1, .int p1), (2, .int p2), (3, .int p3), (4, .int p4), (5, .int a1), (6, .int a62)] → W p l e rm_X12_canGoOn_0 s m args below meth c H locs 0 0 Q (F0 m 21 ls []) := by
          intro n21
          induction n21 with
          | zero =>
            intro _ _ _ _ _ _ _ _ hn
            exact absurd hn (Nat.not_lt_zero _)
          | succ n21 ih21 =>
            intro a62 F64 L64 A64 B64 H locs ls hn21 r63 hq hP hD hS hl
            refine lv_iload hx hb dX12_canGoOn_21 (lv_at hl 6 rfl) ?_
            refine lv_bipush (v := 10) hx hb dX12_canGoOn_23 (by decide) ?_
            have J84 : ∀ (F65 : Nat → Int32) (L65 : Nat → Int64) (A65 : Nat → Nat → Int32) (B65 : Nat → Nat → Int64) (H : Heap) (locs : List Loc) (ls : Array Slot), qM [] [19, 20] F A F65 A65 → va_P D classes (wM cA ad F65 L65 A65 B65) H → va_D Af (wM cA ad F65 L65 A65 B65) → va_S Af s.heap H locs → lv_has ls 7 [(0, .ref (ad 0)), (1, .int p1), (2, .int p2), (3, .int p3), (4, .int p4), (5, .int a1)] → W p l e rm_X12_canGoOn_0 s m args below meth c H locs 0 0 Q (F0 m 84 ls []) := by
              intro F65 L65 A65 B65 H locs ls hq hP hD hS hl
              obtain ⟨x66, e67⟩ : ∃ y : Int32, y = a1 + 1 := ⟨_, rfl⟩
              have r68 : rg x66 1 8 := rg_add e67 r6 (rg_k (by decide) : rg 1 1 1) (by decide)
              refine lv_iinc (v := x66) (lv' := [(5, .int x66), (0, .ref (ad 0)), (1, .int p1), (2, .int p2), (3, .int p3), (4, .int p4)]) hx hb dX12_canGoOn_84 hl (k := 5) rfl (by rw [e67]; rfl) (by decide) rfl (fun ls hl => ?_)
              refine lv_goto (tgt := 3) hx hb dX12_canGoOn_87 (by decide) ?_
              exact ih3 (x66) (F65) (L65) (A65) (B65) H locs ls (by have h0 : (1 : Int32).toInt = 1 := rfl; have h1 := ti_addk e67 r6 (by decide); have h2 : rg x66 0 8 := (rg_w r68 (by decide)); unfold rg at h2; omega) (rg_w r68 (by decide)) hq hP hD hS (lv_sub hl [1, 2, 3, 4, 5, 0] rfl)
            refine lv_icmp_ge (tgt := 84) hx hb dX12_canGoOn_25 (by decide) (fun c69 => ?_) (fun c69 => ?_)
            · skip
              have r70 : rg a62 10 10 := rg_le2 (iE c69) ((rg_k (by decide)) : rg 10 10 10) (r63 : rg a62 0 10)
              exact J84 (F64) (L64) (A64) (B64) H locs ls hq hP hD hS (lv_sub hl [0, 1, 2, 3, 4, 5] rfl)
            · skip
              have r71 : rg a62 0 9 := rg_lt1 (iNE c69) (r63 : rg a62 0 10) ((rg_k (by decide)) : rg 10 10 10)
              refine lv_iload hx hb dX12_canGoOn_28 (lv_at hl 5 rfl) ?_
              refine lv_iload_n hx hb dX12_canGoOn_30 rfl (lv_at hl 1 rfl) ?_
              refine lv_icmp_lt (tgt := 84) hx hb dX12_canGoOn_31 (by decide) (fun c72 => ?_) (fun c72 => ?_)
              · skip
                exact J84 (F64) (L64) (A64) (B64) H locs ls hq hP hD hS (lv_sub hl [0, 1, 2, 3, 4, 5] rfl)
              · skip
                have r73 : rg p1 1 7 := rg_le1 (iNL c72) (hp1 : rg p1 1 8) (r6 : rg a1 0 7)
                have r74 : rg a1 1 7 := rg_le2 (iNL c72) (hp1 : rg p1 1 8) (r6 : rg a1 0 7)
                refine lv_aload_n hx hb dX12_canGoOn_34 rfl (lv_at hl 0 rfl) ?_
                refine va_get (ci := 12) (v := .ref (ad 19)) (C := RX12) (T := TX12) (N := 57) hx hb hg inX12 hown hK hP 0 atM_0 rfl 30 (by decide) (hg _ mw_1138) (fun _ h9 => h9) rfl dX12_canGoOn_35 ?_
                refine lv_iload hx hb dX12_canGoOn_38 (lv_at hl 5 rfl) ?_
                refine lv_dup2_11 hx hb dX12_canGoOn_40 rfl rfl ?_
                refine va_iald hx hb hK hP 19 18 atM_19 tyM_19 (in_rg r74 (by decide)) dX12_canGoOn_41 ?_
                refine lv_topi (fun x75 e76 => ?_)
                have r77 : rg x75 0 1023 := rg_e e76 (hq.1.2 19 _)
                refine lv_iload_n hx hb dX12_canGoOn_42 rfl (lv_at hl 2 rfl) ?_
                refine lv_iload hx hb dX12_canGoOn_43 (lv_at hl 6 rfl) ?_
                refine lv_ishr hx hb dX12_canGoOn_45 ?_
                refine lv_topi (fun x78 e79 => ?_)
                have r80 : rg x78 0 1023 := rg_shrk _ e79 hp2 rfl (by decide)
                refine lv_iconst (v := 1) hx hb dX12_canGoOn_46 (by decide) ?_
                refine lv_iand hx hb dX12_canGoOn_47 ?_
                refine lv_topi (fun x81 e82 => ?_)
                have r83 : rg x81 0 1 := rg_andr e82 ((rg_k (by decide)) : rg 1 1 1) (by decide)
                refine lv_iconst (v := 1) hx hb dX12_canGoOn_48 (by decide) ?_
                have J76 : ∀ (a84 : Int32) (F86 : Nat → Int32) (L86 : Nat → Int64) (A86 : Nat → Nat → Int32) (B86 : Nat → Nat → Int64) (H : Heap) (locs : List Loc) (ls : Array Slot), rg a84 0 512 → qM [] [19, 20] F A F86 A86 → va_P D classes (wM cA ad F86 L86 A86 B86) H → va_D Af (wM cA ad F86 L86 A86 B86) → va_S Af s.heap H locs → lv_has ls 7 [(0, .ref (ad 0)), (1, .int p1), (2, .int p2), (3, .int p3), (4, .int p4), (5, .int a1), (6, .int a62)] → W p l e rm_X12_canGoOn_0 s m args below meth c H locs 0 0 Q (F0 m 76 ls [.int a84, .int x75, .int a1, .ref (ad 19)]) := by
                  intro a84 F86 L86 A86 B86 H locs ls r85 hq hP hD hS hl
                  refine lv_ior hx hb dX12_canGoOn_76 ?_
                  refine lv_topi (fun x87 e88 => ?_)
                  have r89 : rg x87 0 1023 := rg_or 10 e88 r77 r85 (by decide)
                  refine va_iast hx hb hK hP hD hS 19 18 atM_19 tyM_19 (in_rg r74 (by decide)) dX12_canGoOn_77 (fun H locs hP hD hS => ?_)
                  have hq := hq.ast 19 (a1).toNatClampNeg (x := x87) (by decide) r89
                  rw [setM_19] at hP hD
                  have k90 : x87 = (va_up A86 19 (upd (A86 19) (a1).toNatClampNeg x87)) 19 (a1).toNatClampNeg := (rdA).symm
                  obtain ⟨x91, e92⟩ : ∃ y : Int32, y = a62 + 1 := ⟨_, rfl⟩
                  have r93 : rg x91 1 10 := rg_add e92 r71 (rg_k (by decide) : rg 1 1 1) (by decide)
                  refine lv_iinc (v := x91) (lv' := [(6, .int x91), (0, .ref (ad 0)), (1, .int p1), (2, .int p2), (3, .int p3), (4, .int p4), (5, .int a1)]) hx hb dX12_canGoOn_78 hl (k := 6) rfl (by rw [e92]; rfl) (by decide) rfl (fun ls hl => ?_)
                  refine lv_goto (tgt := 21) hx hb dX12_canGoOn_81 (by decide) ?_
                  exact ih21 (x91) (F86) (L86) ((va_up A86 19 (upd (A86 19) (a1).toNatClampNeg x87))) (B86) H locs ls (by have h0 : (1 : Int32).toInt = 1 := rfl; have h1 := ti_addk e92 r71 (by decide); have h2 : rg x91 0 10 := (rg_w r93 (by decide)); unfold rg at h2; omega) (rg_w r93 (by decide)) hq hP hD hS (lv_sub hl [1, 2, 3, 4, 5, 6, 0] rfl)
                have J75 : ∀ (F94 : Nat → Int32) (L94 : Nat → Int64) (A94 : Nat → Nat → Int32) (B94 : Nat → Nat → Int64) (H : Heap) (locs : List Loc) (ls : Array Slot), qM [] [19, 20] F A F94 A94 → va_P D classes (wM cA ad F94 L94 A94 B94) H → va_D Af (wM cA ad F94 L94 A94 B94) → va_S Af s.heap H locs → lv_has ls 7 [(0, .ref (ad 0)), (1, .int p1), (2, .int p2), (3, .int p3), (4, .int p4), (5, .int a1), (6, .int a62)] → W p l e rm_X12_canGoOn_0 s m args below meth c H locs 0 0 Q (F0 m 75 ls [.int x75, .int a1, .ref (ad 19)]) := by
                  intro F94 L94 A94 B94 H locs ls hq hP hD hS hl
                  refine lv_iconst (v := 0) hx hb dX12_canGoOn_75 (by decide) ?_
                  exact J76 (0) (F94) (L94) (A94) (B94) H locs ls (rg_k (by decide)) hq hP hD hS (lv_sub hl [0, 1, 2, 3, 4, 5, 6] rfl)
                refine lv_icmp_ne (tgt := 75) hx hb dX12_canGoOn_49 (by decide) (fun c95 => ?_) (fun c95 => ?_)
                · skip
                  have r96 : rg x81 0 0 := (rg_ne1 c95 (r83 : rg x81 0 1) ((rg_k (by decide)) : rg 1 1 1)).2 rfl
                  exact J75 (F64) (L64) (A64) (B64) H locs ls hq hP hD hS (lv_sub hl [0, 1, 2, 3, 4, 5, 6] rfl)
                · skip
                  have r97 : rg x81 1 1 := rg_eq1 c95 (r83 : rg x81 0 1) ((rg_k (by decide)) : rg 1 1 1) (by decide)
                  refine lv_aload_n hx hb dX12_canGoOn_52 rfl (lv_at hl 0 rfl) ?_
                  refine va_get (ci := 12) (v := .ref (ad 16)) (C := RX12) (T := TX12) (N := 57) hx hb hg inX12 hown hK hP 0 atM_0 rfl 26 (by decide) (hg _ mw_1134) (fun _ h9 => h9) rfl dX12_canGoOn_53 ?_
                  refine lv_bipush (v := 10) hx hb dX12_canGoOn_56 (by decide) ?_
                  refine lv_iload hx hb dX12_canGoOn_58 (lv_at hl 5 rfl) ?_
                  refine lv_imul hx hb dX12_canGoOn_60 ?_
                  refine lv_topi (fun x98 e99 => ?_)
                  have r100 : rg x98 10 70 := rg_mul e99 ((rg_k (by decide)) : rg 10 10 10) r74 (by decide)
                  refine lv_iload hx hb dX12_canGoOn_61 (lv_at hl 6 rfl) ?_
                  refine lv_iadd hx hb dX12_canGoOn_63 ?_
                  refine lv_topi (fun x101 e102 => ?_)
                  have r103 : rg x101 10 79 := rg_add e102 r100 r71 (by decide)
                  refine va_iald hx hb hK hP 16 15 atM_16 tyM_16 (in_rg r103 (by decide)) dX12_canGoOn_64 ?_
                  refine lv_topi (fun x104 e105 => ?_)
                  refine lv_if_le (tgt := 75) hx hb dX12_canGoOn_65 (by decide) (fun c106 => ?_) (fun c106 => ?_)
                  · skip
                    have r107 : rg x104 (-2147483648) 0 := rg_le1 (iE c106) ((rg_top _) : rg x104 (-2147483648) 2147483647) ((rg_k (by decide)) : rg 0 0 0)
                    exact J75 (F64) (L64) (A64) (B64) H locs ls hq hP hD hS (lv_sub hl [0, 1, 2, 3, 4, 5, 6] rfl)
                  · skip
                    have r108 : rg x104 1 2147483647 := rg_lt2 (iNE c106) ((rg_k (by decide)) : rg 0 0 0) ((rg_top _) : rg x104 (-2147483648) 2147483647)
                    refine lv_iconst (v := 1) hx hb dX12_canGoOn_68 (by decide) ?_
                    refine lv_iload hx hb dX12_canGoOn_69 (lv_at hl 6 rfl) ?_
                    refine lv_ishl hx hb dX12_canGoOn_71 ?_
                    refine lv_topi (fun x109 e110 => ?_)
                    have r111 : rg x109 1 512 := rg_shl1 e110 r71 (by decide)
                    refine lv_goto (tgt := 76) hx hb dX12_canGoOn_72 (by decide) ?_
                    exact J76 (x109) (F64) (L64) (A64) (B64) H locs ls (rg_w r111 (by decide)) hq hP hD hS (lv_sub hl [0, 1, 2, 3, 4, 5, 6] rfl)
        exact J21 _ (0) (F3) (L3) ((va_up A3 19 (upd (A3 19) (a1).toNatClampNeg 0))) (B3) H locs ls (Nat.lt_succ_self _) (rg_k (by decide)) hq hP hD hS (lv_sub hl [1, 2, 3, 4, 5, 6, 0] rfl)
  exact J3 _ (0) (F) (L) (A) (B) H locs ls (Nat.lt_succ_self _) (rg_k (by decide)) hq hP hD hS (lv_sub hl [1, 2, 3, 4, 5, 0] rfl)
abbrev rm_X12_layRound_0 : Room := { frames := 3, cells := 0, slots := 0, locals := 71 }
set_option maxHeartbeats 4000000 in
set_option maxRecDepth 100000 in
theorem c_X12_layRound_0 (l : Launch) (D : va_G) (cA : Nat → ClassId) (sz : Nat) (ad : Nat → Nat) (F : Nat → Int32) (L : Nat → Int64) (A : Nat → Nat → Int32) (B : Nat → Nat → Int64)  (hT : typM F A) : Met l yX12_layRound (Cond.code yX12_layRound cX12_layRound 8 (some .int) :: GW) rm_X12_layRound_0 (mPc D classes (tysM cA) (wM cA ad F L A B) sz [.ref (ad 0)]) (mQi (S := SW) D classes (tysM cA) (wM cA ad F L A B) sz (wfM cA ad) (fun r u => qM [] [18, 19, 20] F A u.1 u.2.2.1)) 0 0 (va_A (wM cA ad F L A B) sz) := by
  refine met_i (own := "ShoeingDayModel") (by decide +kernel) rfl (Nat.le_of_ble_eq_true rfl) ?_
  intro p e s m args below meth c Q Af ls hC hP hD hS hA hl hret
  have hx := hC.1
  have hb := hC.2.1
  have hown := hC.2.2.2.1
  have hg := hC.g
  have hK := hC.K
  have hl : lv_has ls 8 [(0, .ref (ad 0))] := hl
  have hq : qM [] [18, 19, 20] F A F A := qM.rf hT
  obtain ⟨H, hH⟩ : ∃ H, H = s.heap := ⟨_, rfl⟩
  have hP : va_P D classes (wM cA ad F L A B) H := by rw [hH]; exact hP
  have hS : va_S Af s.heap H [] := by rw [hH]; exact hS
  obtain ⟨locs, hlo⟩ : ∃ q : List Loc, q = [] := ⟨_, rfl⟩
  rw [← hH, ← hlo]
  rw [← hlo] at hS
  refine lv_aload_n hx hb dX12_layRound_0 rfl (lv_at hl 0 rfl) ?_
  refine callv_i (As := []) (rest := []) hC (c_X12_busySmiths_0 l D cA H.size ad F L A B  hq.1) (cwV 0 hg (g_V mw_1435 mw_1432 mw_1434 ms_75 mw_20) rfl rfl rfl (by decide +kernel) ⟨(Nat.le_of_ble_eq_true rfl), (Nat.le_of_ble_eq_true rfl)⟩) hP hD hS hA atM_0 rfl rfl hl.1 rfl (Nat.le_of_ble_eq_true rfl) dX12_layRound_1 ⟨Nat.zero_le _, Nat.zero_le _⟩ (fun x1 u H locs hw hP hD hS => ?_)
  have r2 := hw
  have hP : va_P D classes (wM cA ad F L A B) H := hP
  have hD : va_D Af (wM cA ad F L A B) := hD
  refine lv_istore_n (lv' := [(1, .int x1), (0, .ref (ad 0))]) hx hb dX12_layRound_4 rfl hl (by decide) rfl (fun ls hl => ?_)
  refine lv_aload_n hx hb dX12_layRound_5 rfl (lv_at hl 1 rfl) ?_
  refine callv_i (As := []) (rest := []) hC (c_X12_busyHorses_0 l D cA H.size ad F L A B  hq.1) (cwV 0 hg (g_V mw_1431 mw_1428 mw_1430 ms_74 mw_20) rfl rfl rfl (by decide +kernel) ⟨(Nat.le_of_ble_eq_true rfl), (Nat.le_of_ble_eq_true rfl)⟩) hP hD hS hA atM_0 rfl rfl hl.1 rfl (Nat.le_of_ble_eq_true rfl) dX12_layRound_6 ⟨Nat.zero_le _, Nat.zero_le _⟩ (fun x3 u H locs hw hP hD hS => ?_)
  have r4 := hw
  have hP : va_P D classes (wM cA ad F L A B) H := hP
  have hD : va_D Af (wM cA ad F L A B) := hD
  refine lv_istore_n (lv' := [(2, .int x3), (1, .int x1), (0, .ref (ad 0))]) hx hb dX12_layRound_9 rfl hl (by decide) rfl (fun ls hl => ?_)
  refine lv_sipush (v := 1023) hx hb dX12_layRound_10 (by decide) ?_
  refine lv_istore_n (lv' := [(3, .int 1023), (2, .int x3), (1, .int x1), (0, .ref (ad 0))]) hx hb dX12_layRound_13 rfl hl (by decide) rfl (fun ls hl => ?_)
  refine lv_iconst (v := 0) hx hb dX12_layRound_14 (by decide) ?_
  refine lv_istore (lv' := [(4, .int 0), (3, .int 1023), (2, .int x3), (1, .int x1), (0, .ref (ad 0))]) hx hb dX12_layRound_15 hl (by decide) rfl (fun ls hl => ?_)
  have J17 : ∀ (n17 : Nat) (a5 : Int32) (a7 : Int32) (a9 : Int32) (F11 : Nat → Int32) (L11 : Nat → Int64) (A11 : Nat → Nat → Int32) (B11 : Nat → Nat → Int64) (H : Heap) (locs : List Loc) (ls : Array Slot), (8 - a9.toInt).toNat < n17 → rg a5 0 1023 → rg a7 0 1023 → rg a9 0 8 → qM [] [18, 19, 20] F A F11 A11 → va_P D classes (wM cA ad F11 L11 A11 B11) H → va_D Af (wM cA ad F11 L11 A11 B11) → va_S Af s.heap H locs → lv_has ls 8 [(0, .ref (ad 0)), (1, .int x1), (2, .int a5), (3, .int a7), (4, .int a9)] → W p l e rm_X12_layRound_0 s m args below meth c H locs 0 0 Q (F0 m 17 ls []) := by
    intro n17
    induction n17 with
    | zero =>
      intro _ _ _ _ _ _ _ _ _ _ hn
      exact absurd hn (Nat.not_lt_zero _)
    | succ n17 ih17 =>
      intro a5 a7 a9 F11 L11 A11 B11 H locs ls hn17 r6 r8 r10 hq hP hD hS hl
      refine lv_iload hx hb dX12_layRound_17 (lv_at hl 4 rfl) ?_
      refine lv_bipush (v := 8) hx hb dX12_layRound_19 (by decide) ?_
      refine lv_icmp_ge (tgt := 159) hx hb dX12_layRound_21 (by decide) (fun c12 => ?_) (fun c12 => ?_)
      · skip
        have r13 : rg a9 8 8 := rg_le2 (iE c12) ((rg_k (by decide)) : rg 8 8 8) (r10 : rg a9 0 8)
        refine lv_aload_n hx hb dX12_layRound_159 rfl (lv_at hl 0 rfl) ?_
        refine callv_i (As := []) (rest := []) hC (c_X12_leastOf_0 l D cA H.size ad F11 L11 A11 B11  hq.1) (cwV 0 hg (g_V mw_1423 mw_1420 mw_1422 ms_73 mw_20) rfl rfl rfl (by decide +kernel) ⟨(Nat.le_of_ble_eq_true rfl), (Nat.le_of_ble_eq_true rfl)⟩) hP hD hS hA atM_0 rfl rfl hl.1 rfl (Nat.le_of_ble_eq_true rfl) dX12_layRound_160 ⟨Nat.zero_le _, Nat.zero_le _⟩ (fun x15 u H locs hw hP hD hS => ?_)
        have hP : va_P D classes (wM cA ad F11 L11 A11 B11) H := hP
        have hD : va_D Af (wM cA ad F11 L11 A11 B11) := hD
        refine lv_istore (lv' := [(4, .int x15), (0, .ref (ad 0)), (1, .int x1), (2, .int a5), (3, .int a7)]) hx hb dX12_layRound_163 hl (by decide) rfl (fun ls hl => ?_)
        refine lv_iload hx hb dX12_layRound_165 (lv_at hl 0 rfl) ?_
        refine lv_istore (lv' := [(5, .int x15), (4, .int x15), (0, .ref (ad 0)), (1, .int x1), (2, .int a5), (3, .int a7)]) hx hb dX12_layRound_167 hl (by decide) rfl (fun ls hl => ?_)
        refine lv_iconst (v := 0) hx hb dX12_layRound_169 (by decide) ?_
        refine lv_istore (lv' := [(6, .int 0), (5, .int x15), (4, .int x15), (0, .ref (ad 0)), (1, .int x1), (2, .int a5), (3, .int a7)]) hx hb dX12_layRound_170 hl (by decide) rfl (fun ls hl => ?_)
        have J172 : ∀ (n172 : Nat) (a16 : Int32) (a17 : Int32) (F19 : Nat → Int32) (L19 : Nat → Int64) (A19 : Nat → Nat → Int32) (B19 : Nat → Nat → Int64) (H : Heap) (locs : List Loc) (ls : Array Slot), (8 - a17.toInt).toNat < n172 → rg a17 0 8 → qM [] [18, 19, 20] F A F19 A19 → va_P D classes (wM cA ad F19 L19 A19 B19) H → va_D Af (wM cA ad F19 L19 A19 B19) → va_S Af s.heap H locs → lv_has ls 8 [(0, .ref (ad 0)), (3, .int a7), (4, .int x15), (5, .int a16), (6, .int a17)] → W p l e rm_X12_layRound_0 s m args below meth c H locs 0 0 Q (F0 m 172 ls []) := by
          intro n172
          induction n172 with
          | zero =>
            intro _ _ _ _ _ _ _ _ _ hn
            exact absurd hn (Nat.not_lt_zero _)
          | succ n172 ih172 =>
            intro a16 a17 F19 L19 A19 B19 H locs ls hn172 r18 hq hP hD hS hl
            refine lv_iload hx hb dX12_layRound_172 (lv_at hl 4 rfl) ?_
            refine lv_bipush (v := 8) hx hb dX12_layRound_174 (by decide) ?_
            refine lv_icmp_ge (tgt := 243) hx hb dX12_layRound_176 (by decide) (fun c20 => ?_) (fun c20 => ?_)
            · skip
              have r21 : rg a17 8 8 := rg_le2 (iE c20) ((rg_k (by decide)) : rg 8 8 8) (r18 : rg a17 0 8)
              refine lv_iconst (v := 0) hx hb dX12_layRound_243 (by decide) ?_
              refine lv_istore (lv' := [(6, .int 0), (0, .ref (ad 0)), (3, .int a7), (4, .int x15), (5, .int a16)]) hx hb dX12_layRound_244 hl (by decide) rfl (fun ls hl => ?_)
              have J246 : ∀ (n246 : Nat) (a23 : Int32) (a24 : Int32) (F26 : Nat → Int32) (L26 : Nat → Int64) (A26 : Nat → Nat → Int32) (B26 : Nat → Nat → Int64) (H : Heap) (locs : List Loc) (ls : Array Slot), (10 - a24.toInt).toNat < n246 → rg a24 0 10 → qM [] [18, 19, 20] F A F26 A26 → va_P D classes (wM cA ad F26 L26 A26 B26) H → va_D Af (wM cA ad F26 L26 A26 B26) → va_S Af s.heap H locs → lv_has ls 8 [(0, .ref (ad 0)), (3, .int a7), (4, .int x15), (5, .int a23), (6, .int a24)] → W p l e rm_X12_layRound_0 s m args below meth c H locs 0 0 Q (F0 m 246 ls []) := by
                intro n246
                induction n246 with
                | zero =>
                  intro _ _ _ _ _ _ _ _ _ hn
                  exact absurd hn (Nat.not_lt_zero _)
                | succ n246 ih246 =>
                  intro a23 a24 F26 L26 A26 B26 H locs ls hn246 r25 hq hP hD hS hl
                  refine lv_iload hx hb dX12_layRound_246 (lv_at hl 4 rfl) ?_
                  refine lv_bipush (v := 10) hx hb dX12_layRound_248 (by decide) ?_
                  refine lv_icmp_ge (tgt := 294) hx hb dX12_layRound_250 (by decide) (fun c27 => ?_) (fun c27 => ?_)
                  · skip
                    have r28 : rg a24 10 10 := rg_le2 (iE c27) ((rg_k (by decide)) : rg 10 10 10) (r25 : rg a24 0 10)
                    refine lv_iload hx hb dX12_layRound_294 (lv_at hl 3 rfl) ?_
                    exact hret (a23) (F26, L26, A26, B26) H locs 296 ls rfl dX12_layRound_296 hP hD hS hq
                  · skip
                    have r29 : rg a24 0 9 := rg_lt1 (iNE c27) (r25 : rg a24 0 10) ((rg_k (by decide)) : rg 10 10 10)
                    refine lv_iload_n hx hb dX12_layRound_253 rfl (lv_at hl 1 rfl) ?_
                    refine lv_iload hx hb dX12_layRound_254 (lv_at hl 4 rfl) ?_
                    refine lv_ishr hx hb dX12_layRound_256 ?_
                    refine lv_topi (fun x30 e31 => ?_)
                    have r32 : rg x30 0 1023 := rg_shrk _ e31 r8 rfl (by decide)
                    refine lv_iconst (v := 1) hx hb dX12_layRound_257 (by decide) ?_
                    refine lv_iand hx hb dX12_layRound_258 ?_
                    refine lv_topi (fun x33 e34 => ?_)
                    have r35 : rg x33 0 1 := rg_andr e34 ((rg_k (by decide)) : rg 1 1 1) (by decide)
                    refine lv_iconst (v := 1) hx hb dX12_layRound_259 (by decide) ?_
                    have J288 : ∀ (a36 : Int32) (F37 : Nat → Int32) (L37 : Nat → Int64) (A37 : Nat → Nat → Int32) (B37 : Nat → Nat → Int64) (H : Heap) (locs : List Loc) (ls : Array Slot), qM [] [18, 19, 20] F A F37 A37 → va_P D classes (wM cA ad F37 L37 A37 B37) H → va_D Af (wM cA ad F37 L37 A37 B37) → va_S Af s.heap H locs → lv_has ls 8 [(0, .ref (ad 0)), (3, .int a7), (4, .int x15), (5, .int a36), (6, .int a24)] → W p l e rm_X12_layRound_0 s m args below meth c H locs 0 0 Q (F0 m 288 ls []) := by
                      intro a36 F37 L37 A37 B37 H locs ls hq hP hD hS hl
                      obtain ⟨x38, e39⟩ : ∃ y : Int32, y = a24 + 1 := ⟨_, rfl⟩
                      have r40 : rg x38 1 10 := rg_add e39 r29 (rg_k (by decide) : rg 1 1 1) (by decide)
                      refine lv_iinc (v := x38) (lv' := [(6, .int x38), (0, .ref (ad 0)), (3, .int a7), (4, .int x15), (5, .int a36)]) hx hb dX12_layRound_288 hl (k := 4) rfl (by rw [e39]; rfl) (by decide) rfl (fun ls hl => ?_)
                      refine lv_goto (tgt := 246) hx hb dX12_layRound_291 (by decide) ?_
                      exact ih246 (a36) (x38) (F37) (L37) (A37) (B37) H locs ls (by have h0 : (1 : Int32).toInt = 1 := rfl; have h1 := ti_addk e39 r29 (by decide); have h2 : rg x38 0 10 := (rg_w r40 (by decide)); unfold rg at h2; omega) (rg_w r40 (by decide)) hq hP hD hS (lv_sub hl [1, 2, 3, 4, 0] rfl)
                    refine lv_icmp_ne (tgt := 288) hx hb dX12_layRound_260 (by decide) (fun c41 => ?_) (fun c41 => ?_)
                    · skip
                      have r42 : rg x33 0 0 := (rg_ne1 c41 (r35 : rg x33 0 1) ((rg_k (by decide)) : rg 1 1 1)).2 rfl
                      exact J288 (a23) (F26) (L26) (A26) (B26) H locs ls hq hP hD hS (lv_sub hl [0, 1, 2, 3, 4] rfl)
                    · skip
                      have r43 : rg x33 1 1 := rg_eq1 c41 (r35 : rg x33 0 1) ((rg_k (by decide)) : rg 1 1 1) (by decide)
                      refine lv_iload hx hb dX12_layRound_263 (lv_at hl 2 rfl) ?_
                      refine lv_aload_n hx hb dX12_layRound_265 rfl (lv_at hl 0 rfl) ?_
                      refine lv_iload hx hb dX12_layRound_266 (lv_at hl 4 rfl) ?_
                      refine callv_i (As := [.int a24]) (rest := [.int x15]) hC (c_X12_horseSum_0 l D cA H.size ad F26 L26 A26 B26 (a24) hq.1 r29) (cwV 1 hg (g_V mw_1411 mw_1408 mw_1410 ms_71 mw_20) rfl rfl rfl (by decide +kernel) ⟨(Nat.le_of_ble_eq_true rfl), (Nat.le_of_ble_eq_true rfl)⟩) hP hD hS hA atM_0 rfl rfl hl.1 rfl (Nat.le_of_ble_eq_true rfl) dX12_layRound_268 ⟨Nat.zero_le _, Nat.zero_le _⟩ (fun x44 u H locs hw hP hD hS => ?_)
                      have hP : va_P D classes (wM cA ad F26 L26 A26 B26) H := hP
                      have hD : va_D Af (wM cA ad F26 L26 A26 B26) := hD
                      refine lv_isub hx hb dX12_layRound_271 ?_
                      refine lv_topi (fun x45 e46 => ?_)
                      refine lv_iload hx hb dX12_layRound_272 (lv_at hl 3 rfl) ?_
                      refine lv_icmp_ge (tgt := 288) hx hb dX12_layRound_274 (by decide) (fun c47 => ?_) (fun c47 => ?_)
                      · skip
                        exact J288 (a23) (F26) (L26) (A26) (B26) H locs ls hq hP hD hS (lv_sub hl [0, 1, 2, 3, 4] rfl)
                      · skip
                        have r48 : rg x45 (-2147483648) 2147483646 := rg_lt1 (iNE c47) ((rg_top _) : rg x45 (-2147483648) 2147483647) ((rg_top _) : rg a23 (-2147483648) 2147483647)
                        have r49 : rg a23 (-2147483647) 2147483647 := rg_lt2 (iNE c47) ((rg_top _) : rg x45 (-2147483648) 2147483647) ((rg_top _) : rg a23 (-2147483648) 2147483647)
                        refine lv_iload hx hb dX12_layRound_277 (lv_at hl 2 rfl) ?_
                        refine lv_aload_n hx hb dX12_layRound_279 rfl (lv_at hl 0 rfl) ?_
                        refine lv_iload hx hb dX12_layRound_280 (lv_at hl 4 rfl) ?_
                        refine callv_i (As := [.int a24]) (rest := [.int x15]) hC (c_X12_horseSum_0 l D cA H.size ad F26 L26 A26 B26 (a24) hq.1 r29) (cwV 1 hg (g_V mw_1411 mw_1408 mw_1410 ms_71 mw_20) rfl rfl rfl (by decide +kernel) ⟨(Nat.le_of_ble_eq_true rfl), (Nat.le_of_ble_eq_true rfl)⟩) hP hD hS hA atM_0 rfl rfl hl.1 rfl (Nat.le_of_ble_eq_true rfl) dX12_layRound_282 ⟨Nat.zero_le _, Nat.zero_le _⟩ (fun x50 u H locs hw hP hD hS => ?_)
                        have hP : va_P D classes (wM cA ad F26 L26 A26 B26) H := hP
                        have hD : va_D Af (wM cA ad F26 L26 A26 B26) := hD
                        refine lv_isub hx hb dX12_layRound_285 ?_
                        refine lv_topi (fun x51 e52 => ?_)
                        refine lv_istore (lv' := [(5, .int x51), (0, .ref (ad 0)), (3, .int a7), (4, .int x15), (6, .int a24)]) hx hb dX12_layRound_286 hl (by decide) rfl (fun ls hl => ?_)
                        exact J288 (x51) (F26) (L26) (A26) (B26) H locs ls hq hP hD hS (lv_sub hl [1, 2, 3, 0, 4] rfl)
              exact J246 _ (a16) (0) (F19) (L19) (A19) (B19) H locs ls (Nat.lt_succ_self _) (rg_k (by decide)) hq hP hD hS (lv_sub hl [1, 2, 3, 4, 0] rfl)
            · skip
              have r22 : rg a17 0 7 := rg_lt1 (iNE c20) (r18 : rg a17 0 8) ((rg_k (by decide)) : rg 8 8 8)
              refine lv_aload_n hx hb dX12_layRound_179 rfl (lv_at hl 0 rfl) ?_
              refine va_get (ci := 12) (v := .ref (ad 18)) (C := RX12) (T := TX12) (N := 57) hx hb hg inX12 hown hK hP 0 atM_0 rfl 29 (by decide) (hg _ mw_1137) (fun _ h9 => h9) rfl dX12_layRound_180 ?_
              refine lv_iload hx hb dX12_layRound_183 (lv_at hl 4 rfl) ?_
              refine va_iald hx hb hK hP 18 17 atM_18 tyM_18 (in_rg r22 (by decide)) dX12_layRound_185 ?_
              refine lv_topi (fun x53 e54 => ?_)
              have r55 : rg x53 (-1) 9 := rg_e e54 (hq.1.2 18 _)
              have J219 : ∀ (a56 : Int32) (F57 : Nat → Int32) (L57 : Nat → Int64) (A57 : Nat → Nat → Int32) (B57 : Nat → Nat → Int64) (H : Heap) (locs : List Loc) (ls : Array Slot), qM [] [18, 19, 20] F A F57 A57 → va_P D classes (wM cA ad F57 L57 A57 B57) H → va_D Af (wM cA ad F57 L57 A57 B57) → va_S Af s.heap H locs → lv_has ls 8 [(0, .ref (ad 0)), (3, .int a7), (4, .int x15), (5, .int a16), (6, .int a17)] → W p l e rm_X12_layRound_0 s m args below meth c H locs 0 0 Q (F0 m 219 ls [.int a56]) := by
                intro a56 F57 L57 A57 B57 H locs ls hq hP hD hS hl
                refine lv_istore (lv' := [(7, .int a56), (0, .ref (ad 0)), (3, .int a7), (4, .int x15), (5, .int a16), (6, .int a17)]) hx hb dX12_layRound_219 hl (by decide) rfl (fun ls hl => ?_)
                refine lv_iload hx hb dX12_layRound_221 (lv_at hl 0 rfl) ?_
                refine lv_iload hx hb dX12_layRound_223 (lv_at hl 4 rfl) ?_
                have J235 : ∀ (a58 : Int32) (F59 : Nat → Int32) (L59 : Nat → Int64) (A59 : Nat → Nat → Int32) (B59 : Nat → Nat → Int64) (H : Heap) (locs : List Loc) (ls : Array Slot), qM [] [18, 19, 20] F A F59 A59 → va_P D classes (wM cA ad F59 L59 A59 B59) H → va_D Af (wM cA ad F59 L59 A59 B59) → va_S Af s.heap H locs → lv_has ls 8 [(0, .ref (ad 0)), (3, .int a7), (4, .int x15), (6, .int a17)] → W p l e rm_X12_layRound_0 s m args below meth c H locs 0 0 Q (F0 m 235 ls [.int a58]) := by
                  intro a58 F59 L59 A59 B59 H locs ls hq hP hD hS hl
                  refine lv_istore (lv' := [(5, .int a58), (0, .ref (ad 0)), (3, .int a7), (4, .int x15), (6, .int a17)]) hx hb dX12_layRound_235 hl (by decide) rfl (fun ls hl => ?_)
                  obtain ⟨x60, e61⟩ : ∃ y : Int32, y = a17 + 1 := ⟨_, rfl⟩
                  have r62 : rg x60 1 8 := rg_add e61 r22 (rg_k (by decide) : rg 1 1 1) (by decide)
                  refine lv_iinc (v := x60) (lv' := [(6, .int x60), (5, .int a58), (0, .ref (ad 0)), (3, .int a7), (4, .int x15)]) hx hb dX12_layRound_237 hl (k := 4) rfl (by rw [e61]; rfl) (by decide) rfl (fun ls hl => ?_)
                  refine lv_goto (tgt := 172) hx hb dX12_layRound_240 (by decide) ?_
                  exact ih172 (a58) (x60) (F59) (L59) (A59) (B59) H locs ls (by have h0 : (1 : Int32).toInt = 1 := rfl; have h1 := ti_addk e61 r22 (by decide); have h2 : rg x60 0 8 := (rg_w r62 (by decide)); unfold rg at h2; omega) (rg_w r62 (by decide)) hq hP hD hS (lv_sub hl [2, 3, 4, 1, 0] rfl)
                refine lv_icmp_ge (tgt := 233) hx hb dX12_layRound_225 (by decide) (fun c63 => ?_) (fun c63 => ?_)
                · skip
                  refine lv_iload hx hb dX12_layRound_233 (lv_at hl 4 rfl) ?_
                  exact J235 (a16) (F57) (L57) (A57) (B57) H locs ls hq hP hD hS (lv_sub hl [1, 2, 3, 5] rfl)
                · skip
                  have r64 : rg a56 (-2147483648) 2147483646 := rg_lt1 (iNE c63) ((rg_top _) : rg a56 (-2147483648) 2147483647) ((rg_top _) : rg a16 (-2147483648) 2147483647)
                  have r65 : rg a16 (-2147483647) 2147483647 := rg_lt2 (iNE c63) ((rg_top _) : rg a56 (-2147483648) 2147483647) ((rg_top _) : rg a16 (-2147483648) 2147483647)
                  refine lv_iload hx hb dX12_layRound_228 (lv_at hl 0 rfl) ?_
                  refine lv_goto (tgt := 235) hx hb dX12_layRound_230 (by decide) ?_
                  exact J235 (a56) (F57) (L57) (A57) (B57) H locs ls hq hP hD hS (lv_sub hl [1, 2, 3, 5] rfl)
              refine lv_if_ge (tgt := 201) hx hb dX12_layRound_186 (by decide) (fun c66 => ?_) (fun c66 => ?_)
              · skip
                have r67 : rg x53 0 9 := rg_le2 (iE c66) ((rg_k (by decide)) : rg 0 0 0) (r55 : rg x53 (-1) 9)
                refine lv_aload_n hx hb dX12_layRound_201 rfl (lv_at hl 0 rfl) ?_
                refine va_get (ci := 12) (v := .ref (ad 16)) (C := RX12) (T := TX12) (N := 57) hx hb hg inX12 hown hK hP 0 atM_0 rfl 26 (by decide) (hg _ mw_1134) (fun _ h9 => h9) rfl dX12_layRound_202 ?_
                refine lv_bipush (v := 10) hx hb dX12_layRound_205 (by decide) ?_
                refine lv_iload hx hb dX12_layRound_207 (lv_at hl 4 rfl) ?_
                refine lv_imul hx hb dX12_layRound_209 ?_
                refine lv_topi (fun x69 e70 => ?_)
                have r71 : rg x69 0 70 := rg_mul e70 ((rg_k (by decide)) : rg 10 10 10) r22 (by decide)
                refine lv_aload_n hx hb dX12_layRound_210 rfl (lv_at hl 0 rfl) ?_
                refine va_get (ci := 12) (v := .ref (ad 18)) (C := RX12) (T := TX12) (N := 57) hx hb hg inX12 hown hK hP 0 atM_0 rfl 29 (by decide) (hg _ mw_1137) (fun _ h9 => h9) rfl dX12_layRound_211 ?_
                refine lv_iload hx hb dX12_layRound_214 (lv_at hl 4 rfl) ?_
                refine va_iald hx hb hK hP 18 17 atM_18 tyM_18 (in_rg r22 (by decide)) dX12_layRound_216 ?_
                refine tope (e54) ?_
                refine lv_iadd hx hb dX12_layRound_217 ?_
                refine lv_topi (fun x72 e73 => ?_)
                have r74 : rg x72 0 79 := rg_add e73 r71 r67 (by decide)
                refine va_iald hx hb hK hP 16 15 atM_16 tyM_16 (in_rg r74 (by decide)) dX12_layRound_218 ?_
                refine lv_topi (fun x75 e76 => ?_)
                exact J219 (x75) (F19) (L19) (A19) (B19) H locs ls hq hP hD hS (lv_sub hl [0, 1, 2, 3, 4] rfl)
              · skip
                have r68 : rg x53 (-1) (-1) := rg_lt1 (iNE c66) (r55 : rg x53 (-1) 9) ((rg_k (by decide)) : rg 0 0 0)
                refine lv_iload hx hb dX12_layRound_189 (lv_at hl 2 rfl) ?_
                refine lv_aload_n hx hb dX12_layRound_191 rfl (lv_at hl 0 rfl) ?_
                refine lv_iload hx hb dX12_layRound_192 (lv_at hl 4 rfl) ?_
                refine callv_i (As := [.int a17]) (rest := [.int x15]) hC (c_X12_smithSum_0 l D cA H.size ad F19 L19 A19 B19 (a17) hq.1 r22) (cwV 1 hg (g_V mw_1415 mw_1412 mw_1414 ms_72 mw_20) rfl rfl rfl (by decide +kernel) ⟨(Nat.le_of_ble_eq_true rfl), (Nat.le_of_ble_eq_true rfl)⟩) hP hD hS hA atM_0 rfl rfl hl.1 rfl (Nat.le_of_ble_eq_true rfl) dX12_layRound_194 ⟨Nat.zero_le _, Nat.zero_le _⟩ (fun x77 u H locs hw hP hD hS => ?_)
                have hP : va_P D classes (wM cA ad F19 L19 A19 B19) H := hP
                have hD : va_D Af (wM cA ad F19 L19 A19 B19) := hD
                refine lv_isub hx hb dX12_layRound_197 ?_
                refine lv_topi (fun x78 e79 => ?_)
                refine lv_goto (tgt := 219) hx hb dX12_layRound_198 (by decide) ?_
                exact J219 (x78) (F19) (L19) (A19) (B19) H locs ls hq hP hD hS (lv_sub hl [0, 1, 2, 3, 4] rfl)
        exact J172 _ (x15) (0) (F11) (L11) (A11) (B11) H locs ls (Nat.lt_succ_self _) (rg_k (by decide)) hq hP hD hS (lv_sub hl [3, 6, 2, 1, 0] rfl)
      · skip
        have r14 : rg a9 0 7 := rg_lt1 (iNE c12) (r10 : rg a9 0 8) ((rg_k (by decide)) : rg 8 8 8)
        refine lv_aload_n hx hb dX12_layRound_24 rfl (lv_at hl 0 rfl) ?_
        refine va_get (ci := 12) (v := .ref (ad 18)) (C := RX12) (T := TX12) (N := 57) hx hb hg inX12 hown hK hP 0 atM_0 rfl 29 (by decide) (hg _ mw_1137) (fun _ h9 => h9) rfl dX12_layRound_25 ?_
        refine lv_iload hx hb dX12_layRound_28 (lv_at hl 4 rfl) ?_
        refine lv_iconst (v := (-1)) hx hb dX12_layRound_30 (by decide) ?_
        refine va_iast hx hb hK hP hD hS 18 17 atM_18 tyM_18 (in_rg r14 (by decide)) dX12_layRound_31 (fun H locs hP hD hS => ?_)
        have hq := hq.ast 18 (a9).toNatClampNeg (x := (-1)) (by decide) (rg_k (by decide))
        rw [setM_18] at hP hD
        have k80 : ((-1) : Int32) = (va_up A11 18 (upd (A11 18) (a9).toNatClampNeg (-1))) 18 (a9).toNatClampNeg := (rdA).symm
        refine lv_iload_n hx hb dX12_layRound_32 rfl (lv_at hl 1 rfl) ?_
        refine lv_iconst (v := 1) hx hb dX12_layRound_33 (by decide) ?_
        refine lv_iload hx hb dX12_layRound_34 (lv_at hl 4 rfl) ?_
        refine lv_iconst (v := 1) hx hb dX12_layRound_36 (by decide) ?_
        refine lv_iadd hx hb dX12_layRound_37 ?_
        refine lv_topi (fun x81 e82 => ?_)
        have r83 : rg x81 1 8 := rg_add e82 r14 ((rg_k (by decide)) : rg 1 1 1) (by decide)
        refine lv_ishl hx hb dX12_layRound_38 ?_
        refine lv_topi (fun x84 e85 => ?_)
        have r86 : rg x84 2 256 := rg_shl1 e85 r83 (by decide)
        refine lv_iconst (v := 1) hx hb dX12_layRound_39 (by decide) ?_
        refine lv_isub hx hb dX12_layRound_40 ?_
        refine lv_topi (fun x87 e88 => ?_)
        have r89 : rg x87 1 255 := rg_sub e88 r86 ((rg_k (by decide)) : rg 1 1 1) (by decide)
        refine lv_iconst (v := (-1)) hx hb dX12_layRound_41 (by decide) ?_
        refine lv_ixor hx hb dX12_layRound_42 ?_
        refine lv_topi (fun x90 e91 => ?_)
        refine lv_iand hx hb dX12_layRound_43 ?_
        refine lv_topi (fun x92 e93 => ?_)
        have r94 : rg x92 0 255 := rg_andl e93 r2 (by decide)
        refine lv_istore (lv' := [(5, .int x92), (0, .ref (ad 0)), (1, .int x1), (2, .int a5), (3, .int a7), (4, .int a9)]) hx hb dX12_layRound_44 hl (by decide) rfl (fun ls hl => ?_)
        refine lv_iconst (v := 0) hx hb dX12_layRound_46 (by decide) ?_
        refine lv_istore (lv' := [(6, .int 0), (5, .int x92), (0, .ref (ad 0)), (1, .int x1), (2, .int a5), (3, .int a7), (4, .int a9)]) hx hb dX12_layRound_47 hl (by decide) rfl (fun ls hl => ?_)
        have J49 : ∀ (n49 : Nat) (a95 : Int32) (F97 : Nat → Int32) (L97 : Nat → Int64) (A97 : Nat → Nat → Int32) (B97 : Nat → Nat → Int64) (H : Heap) (locs : List Loc) (ls : Array Slot), (10 - a95.toInt).toNat < n49 → rg a95 0 10 → qM [] [18, 19, 20] F A F97 A97 → va_P D classes (wM cA ad F97 L97 A97 B97) H → va_D Af (wM cA ad F97 L97 A97 B97) → va_S Af s.heap H locs → lv_has ls 8 [(0, .ref (ad 0)), (1, .int x1), (2, .int a5), (3, .int a7), (4, .int a9), (5, .int x92), (6, .int a95)] → W p l e rm_X12_layRound_0 s m args below meth c H locs 0 0 Q (F0 m 49 ls []) := by
          intro n49
          induction n49 with
          | zero =>
            intro _ _ _ _ _ _ _ _ hn
            exact absurd hn (Nat.not_lt_zero _)
          | succ n49 ih49 =>
            intro a95 F97 L97 A97 B97 H locs ls hn49 r96 hq hP hD hS hl
            refine lv_iload hx hb dX12_layRound_49 (lv_at hl 6 rfl) ?_
            refine lv_bipush (v := 10) hx hb dX12_layRound_51 (by decide) ?_
            have J116 : ∀ (F98 : Nat → Int32) (L98 : Nat → Int64) (A98 : Nat → Nat → Int32) (B98 : Nat → Nat → Int64) (H : Heap) (locs : List Loc) (ls : Array Slot), qM [] [18, 19, 20] F A F98 A98 → va_P D classes (wM cA ad F98 L98 A98 B98) H → va_D Af (wM cA ad F98 L98 A98 B98) → va_S Af s.heap H locs → lv_has ls 8 [(0, .ref (ad 0)), (1, .int x1), (2, .int a5), (3, .int a7), (4, .int a9), (6, .int a95)] → W p l e rm_X12_layRound_0 s m args below meth c H locs 0 0 Q (F0 m 116 ls []) := by
              intro F98 L98 A98 B98 H locs ls hq hP hD hS hl
              refine lv_iload hx hb dX12_layRound_116 (lv_at hl 5 rfl) ?_
              refine lv_bipush (v := 10) hx hb dX12_layRound_118 (by decide) ?_
              have J153 : ∀ (a99 : Int32) (a101 : Int32) (F103 : Nat → Int32) (L103 : Nat → Int64) (A103 : Nat → Nat → Int32) (B103 : Nat → Nat → Int64) (H : Heap) (locs : List Loc) (ls : Array Slot), rg a99 0 1023 → rg a101 0 1023 → qM [] [18, 19, 20] F A F103 A103 → va_P D classes (wM cA ad F103 L103 A103 B103) H → va_D Af (wM cA ad F103 L103 A103 B103) → va_S Af s.heap H locs → lv_has ls 8 [(0, .ref (ad 0)), (1, .int x1), (2, .int a99), (3, .int a101), (4, .int a9)] → W p l e rm_X12_layRound_0 s m args below meth c H locs 0 0 Q (F0 m 153 ls []) := by
                intro a99 a101 F103 L103 A103 B103 H locs ls r100 r102 hq hP hD hS hl
                obtain ⟨x104, e105⟩ : ∃ y : Int32, y = a9 + 1 := ⟨_, rfl⟩
                have r106 : rg x104 1 8 := rg_add e105 r14 (rg_k (by decide) : rg 1 1 1) (by decide)
                refine lv_iinc (v := x104) (lv' := [(4, .int x104), (0, .ref (ad 0)), (1, .int x1), (2, .int a99), (3, .int a101)]) hx hb dX12_layRound_153 hl (k := 4) rfl (by rw [e105]; rfl) (by decide) rfl (fun ls hl => ?_)
                refine lv_goto (tgt := 17) hx hb dX12_layRound_156 (by decide) ?_
                exact ih17 (a99) (a101) (x104) (F103) (L103) (A103) (B103) H locs ls (by have h0 : (1 : Int32).toInt = 1 := rfl; have h1 := ti_addk e105 r14 (by decide); have h2 : rg x104 0 8 := (rg_w r106 (by decide)); unfold rg at h2; omega) r100 r102 (rg_w r106 (by decide)) hq hP hD hS (lv_sub hl [1, 2, 3, 4, 0] rfl)
              refine lv_icmp_ne (tgt := 126) hx hb dX12_layRound_120 (by decide) (fun c107 => ?_) (fun c107 => ?_)
              · skip
                have r108 : rg a95 0 9 := (rg_ne1 c107 (r96 : rg a95 0 10) ((rg_k (by decide)) : rg 10 10 10)).2 rfl
                refine lv_aload_n hx hb dX12_layRound_126 rfl (lv_at hl 0 rfl) ?_
                refine va_get (ci := 12) (v := .ref (ad 18)) (C := RX12) (T := TX12) (N := 57) hx hb hg inX12 hown hK hP 0 atM_0 rfl 29 (by decide) (hg _ mw_1137) (fun _ h9 => h9) rfl dX12_layRound_127 ?_
                refine lv_iload hx hb dX12_layRound_130 (lv_at hl 4 rfl) ?_
                refine lv_iload hx hb dX12_layRound_132 (lv_at hl 5 rfl) ?_
                refine va_iast hx hb hK hP hD hS 18 17 atM_18 tyM_18 (in_rg r14 (by decide)) dX12_layRound_134 (fun H locs hP hD hS => ?_)
                have hq := hq.ast 18 (a9).toNatClampNeg (x := a95) (by decide) (rg_w r108 (by decide))
                rw [setM_18] at hP hD
                have k110 : a95 = (va_up A98 18 (upd (A98 18) (a9).toNatClampNeg a95)) 18 (a9).toNatClampNeg := (rdA).symm
                refine lv_iload_n hx hb dX12_layRound_135 rfl (lv_at hl 3 rfl) ?_
                refine lv_iconst (v := 1) hx hb dX12_layRound_136 (by decide) ?_
                refine lv_iload hx hb dX12_layRound_137 (lv_at hl 5 rfl) ?_
                refine lv_ishl hx hb dX12_layRound_139 ?_
                refine lv_topi (fun x111 e112 => ?_)
                have r113 : rg x111 1 512 := rg_shl1 e112 r108 (by decide)
                refine lv_iconst (v := (-1)) hx hb dX12_layRound_140 (by decide) ?_
                refine lv_ixor hx hb dX12_layRound_141 ?_
                refine lv_topi (fun x114 e115 => ?_)
                refine lv_iand hx hb dX12_layRound_142 ?_
                refine lv_topi (fun x116 e117 => ?_)
                have r118 : rg x116 0 1023 := rg_andl e117 r8 (by decide)
                refine lv_istore_n (lv' := [(3, .int x116), (0, .ref (ad 0)), (1, .int x1), (2, .int a5), (4, .int a9), (6, .int a95)]) hx hb dX12_layRound_143 rfl hl (by decide) rfl (fun ls hl => ?_)
                refine lv_iload_n hx hb dX12_layRound_144 rfl (lv_at hl 3 rfl) ?_
                refine lv_iconst (v := 1) hx hb dX12_layRound_145 (by decide) ?_
                refine lv_iload hx hb dX12_layRound_146 (lv_at hl 5 rfl) ?_
                refine lv_ishl hx hb dX12_layRound_148 ?_
                refine tope e112 ?_
                refine lv_iconst (v := (-1)) hx hb dX12_layRound_149 (by decide) ?_
                refine lv_ixor hx hb dX12_layRound_150 ?_
                refine tope e115 ?_
                refine lv_iand hx hb dX12_layRound_151 ?_
                refine lv_topi (fun x119 e120 => ?_)
                have r121 : rg x119 0 1023 := rg_andl e120 r6 (by decide)
                refine lv_istore_n (lv' := [(2, .int x119), (3, .int x116), (0, .ref (ad 0)), (1, .int x1), (4, .int a9), (6, .int a95)]) hx hb dX12_layRound_152 rfl hl (by decide) rfl (fun ls hl => ?_)
                exact J153 (x119) (x116) (F98) (L98) ((va_up A98 18 (upd (A98 18) (a9).toNatClampNeg a95))) (B98) H locs ls r121 r118 hq hP hD hS (lv_sub hl [2, 3, 0, 1, 4] rfl)
              · skip
                have r109 : rg a95 10 10 := rg_eq1 c107 (r96 : rg a95 0 10) ((rg_k (by decide)) : rg 10 10 10) (by decide)
                refine lv_goto (tgt := 153) hx hb dX12_layRound_123 (by decide) ?_
                exact J153 (a5) (a7) (F98) (L98) (A98) (B98) H locs ls r6 r8 hq hP hD hS (lv_sub hl [0, 1, 2, 3, 4] rfl)
            refine lv_icmp_ge (tgt := 116) hx hb dX12_layRound_53 (by decide) (fun c122 => ?_) (fun c122 => ?_)
            · skip
              have r123 : rg a95 10 10 := rg_le2 (iE c122) ((rg_k (by decide)) : rg 10 10 10) (r96 : rg a95 0 10)
              exact J116 (F97) (L97) (A97) (B97) H locs ls hq hP hD hS (lv_sub hl [0, 1, 2, 3, 4, 6] rfl)
            · skip
              have r124 : rg a95 0 9 := rg_lt1 (iNE c122) (r96 : rg a95 0 10) ((rg_k (by decide)) : rg 10 10 10)
              refine lv_iload_n hx hb dX12_layRound_56 rfl (lv_at hl 3 rfl) ?_
              refine lv_iload hx hb dX12_layRound_57 (lv_at hl 6 rfl) ?_
              refine lv_ishr hx hb dX12_layRound_59 ?_
              refine lv_topi (fun x125 e126 => ?_)
              have r127 : rg x125 0 1023 := rg_shrk _ e126 r8 rfl (by decide)
              refine lv_iconst (v := 1) hx hb dX12_layRound_60 (by decide) ?_
              refine lv_iand hx hb dX12_layRound_61 ?_
              refine lv_topi (fun x128 e129 => ?_)
              have r130 : rg x128 0 1 := rg_andr e129 ((rg_k (by decide)) : rg 1 1 1) (by decide)
              have J110 : ∀ (F131 : Nat → Int32) (L131 : Nat → Int64) (A131 : Nat → Nat → Int32) (B131 : Nat → Nat → Int64) (H : Heap) (locs : List Loc) (ls : Array Slot), qM [] [18, 19, 20] F A F131 A131 → va_P D classes (wM cA ad F131 L131 A131 B131) H → va_D Af (wM cA ad F131 L131 A131 B131) → va_S Af s.heap H locs → lv_has ls 8 [(0, .ref (ad 0)), (1, .int x1), (2, .int a5), (3, .int a7), (4, .int a9), (5, .int x92), (6, .int a95)] → W p l e rm_X12_layRound_0 s m args below meth c H locs 0 0 Q (F0 m 110 ls []) := by
                intro F131 L131 A131 B131 H locs ls hq hP hD hS hl
                obtain ⟨x132, e133⟩ : ∃ y : Int32, y = a95 + 1 := ⟨_, rfl⟩
                have r134 : rg x132 1 10 := rg_add e133 r124 (rg_k (by decide) : rg 1 1 1) (by decide)
                refine lv_iinc (v := x132) (lv' := [(6, .int x132), (0, .ref (ad 0)), (1, .int x1), (2, .int a5), (3, .int a7), (4, .int a9), (5, .int x92)]) hx hb dX12_layRound_110 hl (k := 6) rfl (by rw [e133]; rfl) (by decide) rfl (fun ls hl => ?_)
                refine lv_goto (tgt := 49) hx hb dX12_layRound_113 (by decide) ?_
                exact ih49 (x132) (F131) (L131) (A131) (B131) H locs ls (by have h0 : (1 : Int32).toInt = 1 := rfl; have h1 := ti_addk e133 r124 (by decide); have h2 : rg x132 0 10 := (rg_w r134 (by decide)); unfold rg at h2; omega) (rg_w r134 (by decide)) hq hP hD hS (lv_sub hl [1, 2, 3, 4, 5, 6, 0] rfl)
              refine lv_if_eq (tgt := 110) hx hb dX12_layRound_62 (by decide) (fun c135 => ?_) (fun c135 => ?_)
              · skip
                have r136 : rg x128 0 0 := rg_eq1 c135 (r130 : rg x128 0 1) ((rg_k (by decide)) : rg 0 0 0) (by decide)
                exact J110 (F97) (L97) (A97) (B97) H locs ls hq hP hD hS (lv_sub hl [0, 1, 2, 3, 4, 5, 6] rfl)
              · skip
                have r137 : rg x128 1 1 := (rg_ne1 c135 (r130 : rg x128 0 1) ((rg_k (by decide)) : rg 0 0 0)).1 rfl
                refine lv_aload_n hx hb dX12_layRound_65 rfl (lv_at hl 0 rfl) ?_
                refine va_get (ci := 12) (v := .ref (ad 16)) (C := RX12) (T := TX12) (N := 57) hx hb hg inX12 hown hK hP 0 atM_0 rfl 26 (by decide) (hg _ mw_1134) (fun _ h9 => h9) rfl dX12_layRound_66 ?_
                refine lv_bipush (v := 10) hx hb dX12_layRound_69 (by decide) ?_
                refine lv_iload hx hb dX12_layRound_71 (lv_at hl 4 rfl) ?_
                refine lv_imul hx hb dX12_layRound_73 ?_
                refine lv_topi (fun x138 e139 => ?_)
                have r140 : rg x138 0 70 := rg_mul e139 ((rg_k (by decide)) : rg 10 10 10) r14 (by decide)
                refine lv_iload hx hb dX12_layRound_74 (lv_at hl 6 rfl) ?_
                refine lv_iadd hx hb dX12_layRound_76 ?_
                refine lv_topi (fun x141 e142 => ?_)
                have r143 : rg x141 0 79 := rg_add e142 r140 r124 (by decide)
                refine va_iald hx hb hK hP 16 15 atM_16 tyM_16 (in_rg r143 (by decide)) dX12_layRound_77 ?_
                refine lv_topi (fun x144 e145 => ?_)
                refine lv_if_eq (tgt := 110) hx hb dX12_layRound_78 (by decide) (fun c146 => ?_) (fun c146 => ?_)
                · skip
                  have r147 : rg x144 0 0 := rg_eq1 c146 ((rg_top _) : rg x144 (-2147483648) 2147483647) ((rg_k (by decide)) : rg 0 0 0) (by decide)
                  exact J110 (F97) (L97) (A97) (B97) H locs ls hq hP hD hS (lv_sub hl [0, 1, 2, 3, 4, 5, 6] rfl)
                · skip
                  refine lv_aload_n hx hb dX12_layRound_81 rfl (lv_at hl 0 rfl) ?_
                  refine lv_iload hx hb dX12_layRound_82 (lv_at hl 4 rfl) ?_
                  refine lv_iconst (v := 1) hx hb dX12_layRound_84 (by decide) ?_
                  refine lv_iadd hx hb dX12_layRound_85 ?_
                  refine lv_topi (fun x148 e149 => ?_)
                  have r150 : rg x148 1 8 := rg_add e149 r14 ((rg_k (by decide)) : rg 1 1 1) (by decide)
                  refine lv_iload_n hx hb dX12_layRound_86 rfl (lv_at hl 3 rfl) ?_
                  refine lv_iconst (v := 1) hx hb dX12_layRound_87 (by decide) ?_
                  refine lv_iload hx hb dX12_layRound_88 (lv_at hl 6 rfl) ?_
                  refine lv_ishl hx hb dX12_layRound_90 ?_
                  refine lv_topi (fun x151 e152 => ?_)
                  have r153 : rg x151 1 512 := rg_shl1 e152 r124 (by decide)
                  refine lv_iconst (v := (-1)) hx hb dX12_layRound_91 (by decide) ?_
                  refine lv_ixor hx hb dX12_layRound_92 ?_
                  refine lv_topi (fun x154 e155 => ?_)
                  refine lv_iand hx hb dX12_layRound_93 ?_
                  refine lv_topi (fun x156 e157 => ?_)
                  have r158 : rg x156 0 1023 := rg_andl e157 r8 (by decide)
                  refine lv_iload hx hb dX12_layRound_94 (lv_at hl 5 rfl) ?_
                  refine lv_iload_n hx hb dX12_layRound_96 rfl (lv_at hl 2 rfl) ?_
                  refine lv_iconst (v := 1) hx hb dX12_layRound_97 (by decide) ?_
                  refine lv_iload hx hb dX12_layRound_98 (lv_at hl 6 rfl) ?_
                  refine lv_ishl hx hb dX12_layRound_100 ?_
                  refine tope e152 ?_
                  refine lv_iconst (v := (-1)) hx hb dX12_layRound_101 (by decide) ?_
                  refine lv_ixor hx hb dX12_layRound_102 ?_
                  refine tope e155 ?_
                  refine lv_iand hx hb dX12_layRound_103 ?_
                  refine lv_topi (fun x159 e160 => ?_)
                  have r161 : rg x159 0 1023 := rg_andl e160 r6 (by decide)
                  refine callv_i (As := [.int x148, .int x156, .int x92, .int x159]) (rest := []) hC (c_X12_canGoOn_0 l D cA H.size ad F97 L97 A97 B97 (x148) (x156) (x92) (x159) hq.1 r150 r158 r94 r161) (cwV 4 hg (g_V mw_1455 mw_1452 mw_1454 ms_79 mw_20) rfl rfl rfl (by decide +kernel) ⟨(Nat.le_of_ble_eq_true rfl), (Nat.le_of_ble_eq_true rfl)⟩) hP hD hS hA atM_0 rfl rfl hl.1 rfl (Nat.le_of_ble_eq_true rfl) dX12_layRound_104 ⟨Nat.zero_le _, Nat.zero_le _⟩ (fun x162 u H locs hw hP hD hS => ?_)
                  obtain ⟨F163, L163, A163, B163⟩ := u
                  try dsimp only at hw
                  obtain ⟨hq163, r164⟩ := hw
                  have hq := hq.call hq163 (by decide)
                  have hP : va_P D classes (wM cA ad F163 L163 A163 B163) H := hP
                  have hD : va_D Af (wM cA ad F163 L163 A163 B163) := hD
                  refine lv_if_ne (tgt := 116) hx hb dX12_layRound_107 (by decide) (fun c165 => ?_) (fun c165 => ?_)
                  · skip
                    have r166 : rg x162 1 1 := (rg_ne1 c165 (r164 : rg x162 0 1) ((rg_k (by decide)) : rg 0 0 0)).1 rfl
                    exact J116 (F163) (L163) (A163) (B163) H locs ls hq hP hD hS (lv_sub hl [0, 1, 2, 3, 4, 6] rfl)
                  · skip
                    have r167 : rg x162 0 0 := rg_eq1 c165 (r164 : rg x162 0 1) ((rg_k (by decide)) : rg 0 0 0) (by decide)
                    exact J110 (F163) (L163) (A163) (B163) H locs ls hq hP hD hS (lv_sub hl [0, 1, 2, 3, 4, 5, 6] rfl)
        exact J49 _ (0) (F11) (L11) ((va_up A11 18 (upd (A11 18) (a9).toNatClampNeg (-1)))) (B11) H locs ls (Nat.lt_succ_self _) (rg_k (by decide)) hq hP hD hS (lv_sub hl [2, 3, 4, 5, 6, 1, 0] rfl)
  exact J17 _ (x3) (1023) (0) (F) (L) (A) (B) H locs ls (Nat.lt_succ_self _) r4 (rg_k (by decide)) (rg_k (by decide)) hq hP hD hS (lv_sub hl [4, 3, 2, 1, 0] rfl)
abbrev rm_X12_works_0 : Room := { frames := 0, cells := 0, slots := 0, locals := 0 }
set_option maxHeartbeats 4000000 in
set_option maxRecDepth 100000 in
theorem c_X12_works_0 (l : Launch) (D : va_G) (cA : Nat → ClassId) (sz : Nat) (ad : Nat → Nat) (F : Nat → Int32) (L : Nat → Int64) (A : Nat → Nat → Int32) (B : Nat → Nat → Int64) (p1 : Int32) (hT : typM F A) : Met l yX12_works (Cond.code yX12_works cX12_works 3 none :: GW) rm_X12_works_0 (mPc D classes (tysM cA) (wM cA ad F L A B) sz [.ref (ad 0), .int p1]) (mQv (S := SW) D classes (tysM cA) (wM cA ad F L A B) sz (wfM cA ad) (fun u => qM [] [16] F A u.1 u.2.2.1)) 0 0 (va_A (wM cA ad F L A B) sz) := by
  refine met_v (own := "ShoeingDayModel") (by decide +kernel) rfl (Nat.le_of_ble_eq_true rfl) ?_
  intro p e s m args below meth c Q Af ls hC hP hD hS hA hl hret
  have hx := hC.1
  have hb := hC.2.1
  have hown := hC.2.2.2.1
  have hg := hC.g
  have hK := hC.K
  have hl : lv_has ls 3 [(0, .ref (ad 0)), (1, .int p1)] := hl
  have hq : qM [] [16] F A F A := qM.rf hT
  obtain ⟨H, hH⟩ : ∃ H, H = s.heap := ⟨_, rfl⟩
  have hP : va_P D classes (wM cA ad F L A B) H := by rw [hH]; exact hP
  have hS : va_S Af s.heap H [] := by rw [hH]; exact hS
  obtain ⟨locs, hlo⟩ : ∃ q : List Loc, q = [] := ⟨_, rfl⟩
  rw [← hH, ← hlo]
  rw [← hlo] at hS
  refine lv_iconst (v := 0) hx hb dX12_works_0 (by decide) ?_
  refine lv_istore_n (lv' := [(2, .int 0), (0, .ref (ad 0)), (1, .int p1)]) hx hb dX12_works_1 rfl hl (by decide) rfl (fun ls hl => ?_)
  have J2 : ∀ (n2 : Nat) (a1 : Int32) (F3 : Nat → Int32) (L3 : Nat → Int64) (A3 : Nat → Nat → Int32) (B3 : Nat → Nat → Int64) (H : Heap) (locs : List Loc) (ls : Array Slot), (8 - a1.toInt).toNat < n2 → rg a1 0 8 → qM [] [16] F A F3 A3 → va_P D classes (wM cA ad F3 L3 A3 B3) H → va_D Af (wM cA ad F3 L3 A3 B3) → va_S Af s.heap H locs → lv_has ls 3 [(0, .ref (ad 0)), (1, .int p1), (2, .int a1)] → W p l e rm_X12_works_0 s m args below meth c H locs 0 0 Q (F0 m 2 ls []) := by
    intro n2
    induction n2 with
    | zero =>
      intro _ _ _ _ _ _ _ _ hn
      exact absurd hn (Nat.not_lt_zero _)
    | succ n2 ih2 =>
      intro a1 F3 L3 A3 B3 H locs ls hn2 r2 hq hP hD hS hl
      refine lv_iload_n hx hb dX12_works_2 rfl (lv_at hl 2 rfl) ?_
      refine lv_bipush (v := 8) hx hb dX12_works_3 (by decide) ?_
      refine lv_icmp_ge (tgt := 43) hx hb dX12_works_5 (by decide) (fun c4 => ?_) (fun c4 => ?_)
      · skip
        have r5 : rg a1 8 8 := rg_le2 (iE c4) ((rg_k (by decide)) : rg 8 8 8) (r2 : rg a1 0 8)
        exact hret (F3, L3, A3, B3) H locs 43 ls dX12_works_43 hP hD hS hq
      · skip
        have r6 : rg a1 0 7 := rg_lt1 (iNE c4) (r2 : rg a1 0 8) ((rg_k (by decide)) : rg 8 8 8)
        refine lv_aload_n hx hb dX12_works_8 rfl (lv_at hl 0 rfl) ?_
        refine va_get (ci := 12) (v := .ref (ad 18)) (C := RX12) (T := TX12) (N := 57) hx hb hg inX12 hown hK hP 0 atM_0 rfl 29 (by decide) (hg _ mw_1137) (fun _ h9 => h9) rfl dX12_works_9 ?_
        refine lv_iload_n hx hb dX12_works_12 rfl (lv_at hl 2 rfl) ?_
        refine va_iald hx hb hK hP 18 17 atM_18 tyM_18 (in_rg r6 (by decide)) dX12_works_13 ?_
        refine lv_topi (fun x7 e8 => ?_)
        have r9 : rg x7 (-1) 9 := rg_e e8 (hq.1.2 18 _)
        have J37 : ∀ (F10 : Nat → Int32) (L10 : Nat → Int64) (A10 : Nat → Nat → Int32) (B10 : Nat → Nat → Int64) (H : Heap) (locs : List Loc) (ls : Array Slot), qM [] [16] F A F10 A10 → va_P D classes (wM cA ad F10 L10 A10 B10) H → va_D Af (wM cA ad F10 L10 A10 B10) → va_S Af s.heap H locs → lv_has ls 3 [(0, .ref (ad 0)), (1, .int p1), (2, .int a1)] → W p l e rm_X12_works_0 s m args below meth c H locs 0 0 Q (F0 m 37 ls []) := by
          intro F10 L10 A10 B10 H locs ls hq hP hD hS hl
          obtain ⟨x11, e12⟩ : ∃ y : Int32, y = a1 + 1 := ⟨_, rfl⟩
          have r13 : rg x11 1 8 := rg_add e12 r6 (rg_k (by decide) : rg 1 1 1) (by decide)
          refine lv_iinc (v := x11) (lv' := [(2, .int x11), (0, .ref (ad 0)), (1, .int p1)]) hx hb dX12_works_37 hl (k := 2) rfl (by rw [e12]; rfl) (by decide) rfl (fun ls hl => ?_)
          refine lv_goto (tgt := 2) hx hb dX12_works_40 (by decide) ?_
          exact ih2 (x11) (F10) (L10) (A10) (B10) H locs ls (by have h0 : (1 : Int32).toInt = 1 := rfl; have h1 := ti_addk e12 r6 (by decide); have h2 : rg x11 0 8 := (rg_w r13 (by decide)); unfold rg at h2; omega) (rg_w r13 (by decide)) hq hP hD hS (lv_sub hl [1, 2, 0] rfl)
        refine lv_if_lt (tgt := 37) hx hb dX12_works_14 (by decide) (fun c14 => ?_) (fun c14 => ?_)
        · skip
          have r15 : rg x7 (-1) (-1) := rg_lt1 (iL c14) (r9 : rg x7 (-1) 9) ((rg_k (by decide)) : rg 0 0 0)
          exact J37 (F3) (L3) (A3) (B3) H locs ls hq hP hD hS (lv_sub hl [0, 1, 2] rfl)
        · skip
          have r16 : rg x7 0 9 := rg_le2 (iNL c14) ((rg_k (by decide)) : rg 0 0 0) (r9 : rg x7 (-1) 9)
          refine lv_aload_n hx hb dX12_works_17 rfl (lv_at hl 0 rfl) ?_
          refine va_get (ci := 12) (v := .ref (ad 16)) (C := RX12) (T := TX12) (N := 57) hx hb hg inX12 hown hK hP 0 atM_0 rfl 26 (by decide) (hg _ mw_1134) (fun _ h9 => h9) rfl dX12_works_18 ?_
          refine lv_bipush (v := 10) hx hb dX12_works_21 (by decide) ?_
          refine lv_iload_n hx hb dX12_works_23 rfl (lv_at hl 2 rfl) ?_
          refine lv_imul hx hb dX12_works_24 ?_
          refine lv_topi (fun x17 e18 => ?_)
          have r19 : rg x17 0 70 := rg_mul e18 ((rg_k (by decide)) : rg 10 10 10) r6 (by decide)
          refine lv_aload_n hx hb dX12_works_25 rfl (lv_at hl 0 rfl) ?_
          refine va_get (ci := 12) (v := .ref (ad 18)) (C := RX12) (T := TX12) (N := 57) hx hb hg inX12 hown hK hP 0 atM_0 rfl 29 (by decide) (hg _ mw_1137) (fun _ h9 => h9) rfl dX12_works_26 ?_
          refine lv_iload_n hx hb dX12_works_29 rfl (lv_at hl 2 rfl) ?_
          refine va_iald hx hb hK hP 18 17 atM_18 tyM_18 (in_rg r6 (by decide)) dX12_works_30 ?_
          refine tope (e8) ?_
          refine lv_iadd hx hb dX12_works_31 ?_
          refine lv_topi (fun x20 e21 => ?_)
          have r22 : rg x20 0 79 := rg_add e21 r19 r16 (by decide)
          refine lv_dup2_11 hx hb dX12_works_32 rfl rfl ?_
          refine va_iald hx hb hK hP 16 15 atM_16 tyM_16 (in_rg r22 (by decide)) dX12_works_33 ?_
          refine lv_topi (fun x23 e24 => ?_)
          refine lv_iload_n hx hb dX12_works_34 rfl (lv_at hl 1 rfl) ?_
          refine lv_isub hx hb dX12_works_35 ?_
          refine lv_topi (fun x25 e26 => ?_)
          refine va_iast hx hb hK hP hD hS 16 15 atM_16 tyM_16 (in_rg r22 (by decide)) dX12_works_36 (fun H locs hP hD hS => ?_)
          have hq := hq.ast 16 (x20).toNatClampNeg (x := x25) (by decide) (rg_top _)
          rw [setM_16] at hP hD
          have k27 : x25 = (va_up A3 16 (upd (A3 16) (x20).toNatClampNeg x25)) 16 (x20).toNatClampNeg := (rdA).symm
          exact J37 (F3) (L3) ((va_up A3 16 (upd (A3 16) (x20).toNatClampNeg x25))) (B3) H locs ls hq hP hD hS (lv_sub hl [0, 1, 2] rfl)
  exact J2 _ (0) (F) (L) (A) (B) H locs ls (Nat.lt_succ_self _) (rg_k (by decide)) hq hP hD hS (lv_sub hl [1, 2, 0] rfl)
abbrev rm_X12_layDay_0 : Room := { frames := 4, cells := 0, slots := 0, locals := 98 }
set_option maxHeartbeats 4000000 in
set_option maxRecDepth 100000 in
theorem c_X12_layDay_0 (l : Launch) (D : va_G) (cA : Nat → ClassId) (sz : Nat) (ad : Nat → Nat) (F : Nat → Int32) (L : Nat → Int64) (A : Nat → Nat → Int32) (B : Nat → Nat → Int64)  (hT : typM F A) : Met l yX12_layDay (Cond.code yX12_layDay cX12_layDay 2 none :: GW) rm_X12_layDay_0 (mPc D classes (tysM cA) (wM cA ad F L A B) sz [.ref (ad 0)]) (mQv (S := SW) D classes (tysM cA) (wM cA ad F L A B) sz (wfM cA ad) (fun u => qM [11] [16, 18, 19, 20, 21, 22] F A u.1 u.2.2.1)) 0 0 (va_A (wM cA ad F L A B) sz) := by
  sorry
abbrev rm_X12_layDayNow_0 : Room := { frames := 5, cells := 0, slots := 0, locals := 119 }
set_option maxHeartbeats 4000000 in
set_option maxRecDepth 100000 in
theorem c_X12_layDayNow_0 (l : Launch) (D : va_G) (cA : Nat → ClassId) (sz : Nat) (ad : Nat → Nat) (F : Nat → Int32) (L : Nat → Int64) (A : Nat → Nat → Int32) (B : Nat → Nat → Int64)  (hT : typM F A) : Met l yX12_layDayNow (Cond.code yX12_layDayNow cX12_layDayNow 1 none :: GW) rm_X12_layDayNow_0 (mPc D classes (tysM cA) (wM cA ad F L A B) sz [.ref (ad 0)]) (mQv (S := SW) D classes (tysM cA) (wM cA ad F L A B) sz (wfM cA ad) (fun u => qM [11] [16, 18, 19, 20, 21, 22] F A u.1 u.2.2.1)) 0 0 (va_A (wM cA ad F L A B) sz) := by
  refine met_v (own := "ShoeingDayModel") (by decide +kernel) rfl (Nat.le_of_ble_eq_true rfl) ?_
  intro p e s m args below meth c Q Af ls hC hP hD hS hA hl hret
  have hx := hC.1
  have hb := hC.2.1
  have hown := hC.2.2.2.1
  have hg := hC.g
  have hK := hC.K
  have hl : lv_has ls 1 [(0, .ref (ad 0))] := hl
  have hq : qM [11] [16, 18, 19, 20, 21, 22] F A F A := qM.rf hT
  obtain ⟨H, hH⟩ : ∃ H, H = s.heap := ⟨_, rfl⟩
  have hP : va_P D classes (wM cA ad F L A B) H := by rw [hH]; exact hP
  have hS : va_S Af s.heap H [] := by rw [hH]; exact hS
  obtain ⟨locs, hlo⟩ : ∃ q : List Loc, q = [] := ⟨_, rfl⟩
  rw [← hH, ← hlo]
  rw [← hlo] at hS
  refine lv_aload_n hx hb dX12_layDayNow_0 rfl (lv_at hl 0 rfl) ?_
  refine callv_v (As := []) (rest := []) hC (c_X12_layNow_0 l D cA H.size ad F L A B  hq.1) (cwV 0 hg (g_V mw_1407 mw_1404 mw_1406 ms_70 mw_20) rfl rfl rfl (by decide +kernel) ⟨(Nat.le_of_ble_eq_true rfl), (Nat.le_of_ble_eq_true rfl)⟩) hP hD hS hA atM_0 rfl rfl hl.1 rfl (Nat.le_of_ble_eq_true rfl) dX12_layDayNow_1 ⟨Nat.zero_le _, Nat.zero_le _⟩ (fun  u H locs hw hP hD hS => ?_)
  obtain ⟨F1, L1, A1, B1⟩ := u
  try dsimp only at hw
  have hq1 := hw
  have hq := hq.call hq1 (by decide)
  have hP : va_P D classes (wM cA ad F1 L1 A1 B1) H := hP
  have hD : va_D Af (wM cA ad F1 L1 A1 B1) := hD
  refine lv_aload_n hx hb dX12_layDayNow_4 rfl (lv_at hl 0 rfl) ?_
  refine callv_v (As := []) (rest := []) hC (c_X12_layDay_0 l D cA H.size ad F1 L1 A1 B1  hq.1) (cwV 0 hg (g_V mw_1447 mw_1444 mw_1446 ms_77 mw_20) rfl rfl rfl (by decide +kernel) ⟨(Nat.le_of_ble_eq_true rfl), (Nat.le_of_ble_eq_true rfl)⟩) hP hD hS hA atM_0 rfl rfl hl.1 rfl (Nat.le_of_ble_eq_true rfl) dX12_layDayNow_5 ⟨Nat.zero_le _, Nat.zero_le _⟩ (fun  u H locs hw hP hD hS => ?_)
  obtain ⟨F2, L2, A2, B2⟩ := u
  try dsimp only at hw
  have hq2 := hw
  have hq := hq.call hq2 (by decide)
  have hP : va_P D classes (wM cA ad F2 L2 A2 B2) H := hP
  have hD : va_D Af (wM cA ad F2 L2 A2 B2) := hD
  exact hret (F2, L2, A2, B2) H locs 8 ls dX12_layDayNow_8 hP hD hS hq
abbrev rm_X12_rounds_0 : Room := { frames := 6, cells := 0, slots := 0, locals := 139 }
set_option maxHeartbeats 4000000 in
set_option maxRecDepth 100000 in
theorem c_X12_rounds_0 (l : Launch) (D : va_G) (cA : Nat → ClassId) (sz : Nat) (ad : Nat → Nat) (F : Nat → Int32) (L : Nat → Int64) (A : Nat → Nat → Int32) (B : Nat → Nat → Int64)  (hT : typM F A) : Met l yX12_rounds (Cond.code yX12_rounds cX12_rounds 1 (some .int) :: GW) rm_X12_rounds_0 (mPc D classes (tysM cA) (wM cA ad F L A B) sz [.ref (ad 0)]) (mQi (S := SW) D classes (tysM cA) (wM cA ad F L A B) sz (wfM cA ad) (fun r u => qM [11] [16, 18, 19, 20, 21, 22] F A u.1 u.2.2.1 ∧ rg r 0 240)) 0 0 (va_A (wM cA ad F L A B) sz) := by
  refine met_i (own := "ShoeingDayModel") (by decide +kernel) rfl (Nat.le_of_ble_eq_true rfl) ?_
  intro p e s m args below meth c Q Af ls hC hP hD hS hA hl hret
  have hx := hC.1
  have hb := hC.2.1
  have hown := hC.2.2.2.1
  have hg := hC.g
  have hK := hC.K
  have hl : lv_has ls 1 [(0, .ref (ad 0))] := hl
  have hq : qM [11] [16, 18, 19, 20, 21, 22] F A F A := qM.rf hT
  obtain ⟨H, hH⟩ : ∃ H, H = s.heap := ⟨_, rfl⟩
  have hP : va_P D classes (wM cA ad F L A B) H := by rw [hH]; exact hP
  have hS : va_S Af s.heap H [] := by rw [hH]; exact hS
  obtain ⟨locs, hlo⟩ : ∃ q : List Loc, q = [] := ⟨_, rfl⟩
  rw [← hH, ← hlo]
  rw [← hlo] at hS
  refine lv_aload_n hx hb dX12_rounds_0 rfl (lv_at hl 0 rfl) ?_
  refine callv_v (As := []) (rest := []) hC (c_X12_layDayNow_0 l D cA H.size ad F L A B  hq.1) (cwV 0 hg (g_V mw_1443 mw_1440 mw_1442 ms_76 mw_20) rfl rfl rfl (by decide +kernel) ⟨(Nat.le_of_ble_eq_true rfl), (Nat.le_of_ble_eq_true rfl)⟩) hP hD hS hA atM_0 rfl rfl hl.1 rfl (Nat.le_of_ble_eq_true rfl) dX12_rounds_1 ⟨Nat.zero_le _, Nat.zero_le _⟩ (fun  u H locs hw hP hD hS => ?_)
  obtain ⟨F1, L1, A1, B1⟩ := u
  try dsimp only at hw
  have hq1 := hw
  have hq := hq.call hq1 (by decide)
  have hP : va_P D classes (wM cA ad F1 L1 A1 B1) H := hP
  have hD : va_D Af (wM cA ad F1 L1 A1 B1) := hD
  refine lv_aload_n hx hb dX12_rounds_4 rfl (lv_at hl 0 rfl) ?_
  refine va_get (ci := 12) (v := .int (F1 11)) (C := RX12) (T := TX12) (N := 57) hx hb hg inX12 hown hK hP 0 atM_0 rfl 34 (by decide) (hg _ mw_1142) (fun _ h9 => h9) rfl dX12_rounds_5 ?_
  refine lv_topi (fun x2 e3 => ?_)
  have r4 : rg x2 0 240 := rg_e e3 (hq.1.1 11)
  exact hret (x2) (F1, L1, A1, B1) H locs 8 ls rfl dX12_rounds_8 hP hD hS ⟨hq, r4⟩
abbrev rm_X12_lasts_0 : Room := { frames := 6, cells := 0, slots := 0, locals := 139 }
set_option maxHeartbeats 4000000 in
set_option maxRecDepth 100000 in
theorem c_X12_lasts_0 (l : Launch) (D : va_G) (cA : Nat → ClassId) (sz : Nat) (ad : Nat → Nat) (F : Nat → Int32) (L : Nat → Int64) (A : Nat → Nat → Int32) (B : Nat → Nat → Int64) (p1 : Int32) (hT : typM F A) : Met l yX12_lasts (Cond.code yX12_lasts cX12_lasts 2 (some .int) :: GW) rm_X12_lasts_0 (mPc D classes (tysM cA) (wM cA ad F L A B) sz [.ref (ad 0), .int p1]) (mQi (S := SW) D classes (tysM cA) (wM cA ad F L A B) sz (wfM cA ad) (fun r u => qM [11] [16, 18, 19, 20, 21, 22] F A u.1 u.2.2.1)) 0 0 (va_A (wM cA ad F L A B) sz) := by
  refine met_i (own := "ShoeingDayModel") (by decide +kernel) rfl (Nat.le_of_ble_eq_true rfl) ?_
  intro p e s m args below meth c Q Af ls hC hP hD hS hA hl hret
  have hx := hC.1
  have hb := hC.2.1
  have hown := hC.2.2.2.1
  have hg := hC.g
  have hK := hC.K
  have hl : lv_has ls 2 [(0, .ref (ad 0)), (1, .int p1)] := hl
  have hq : qM [11] [16, 18, 19, 20, 21, 22] F A F A := qM.rf hT
  obtain ⟨H, hH⟩ : ∃ H, H = s.heap := ⟨_, rfl⟩
  have hP : va_P D classes (wM cA ad F L A B) H := by rw [hH]; exact hP
  have hS : va_S Af s.heap H [] := by rw [hH]; exact hS
  obtain ⟨locs, hlo⟩ : ∃ q : List Loc, q = [] := ⟨_, rfl⟩
  rw [← hH, ← hlo]
  rw [← hlo] at hS
  refine lv_aload_n hx hb dX12_lasts_0 rfl (lv_at hl 0 rfl) ?_
  refine callv_v (As := []) (rest := []) hC (c_X12_layDayNow_0 l D cA H.size ad F L A B  hq.1) (cwV 0 hg (g_V mw_1443 mw_1440 mw_1442 ms_76 mw_20) rfl rfl rfl (by decide +kernel) ⟨(Nat.le_of_ble_eq_true rfl), (Nat.le_of_ble_eq_true rfl)⟩) hP hD hS hA atM_0 rfl rfl hl.1 rfl (Nat.le_of_ble_eq_true rfl) dX12_lasts_1 ⟨Nat.zero_le _, Nat.zero_le _⟩ (fun  u H locs hw hP hD hS => ?_)
  obtain ⟨F1, L1, A1, B1⟩ := u
  try dsimp only at hw
  have hq1 := hw
  have hq := hq.call hq1 (by decide)
  have hP : va_P D classes (wM cA ad F1 L1 A1 B1) H := hP
  have hD : va_D Af (wM cA ad F1 L1 A1 B1) := hD
  refine lv_iload_n hx hb dX12_lasts_4 rfl (lv_at hl 1 rfl) ?_
  refine lv_iconst (v := 0) hx hb dX12_lasts_5 (by decide) ?_
  refine lv_aload_n hx hb dX12_lasts_6 rfl (lv_at hl 0 rfl) ?_
  refine va_get (ci := 12) (v := .int (F1 11)) (C := RX12) (T := TX12) (N := 57) hx hb hg inX12 hown hK hP 0 atM_0 rfl 34 (by decide) (hg _ mw_1142) (fun _ h9 => h9) rfl dX12_lasts_7 ?_
  refine lv_topi (fun x2 e3 => ?_)
  have r4 : rg x2 0 240 := rg_e e3 (hq.1.1 11)
  refine lv_iconst (v := 1) hx hb dX12_lasts_10 (by decide) ?_
  refine lv_isub hx hb dX12_lasts_11 ?_
  refine lv_topi (fun x5 e6 => ?_)
  have r7 : rg x5 (-1) 239 := rg_sub e6 r4 ((rg_k (by decide)) : rg 1 1 1) (by decide)
  refine calls_i (As := [.int p1, .int 0, .int x5]) (rest := []) hC (c_X12_isIn l D (tysM cA) (wM cA ad F1 L1 A1 B1) H.size (p1) (0) (x5) (rg_k (by decide)) (rg_w r7 (by decide))) (cwS 3 hg (g_S mw_1391 mw_1389 mw_1390 mw_20) rfl rfl rfl (by decide +kernel) ⟨(Nat.le_of_ble_eq_true rfl), (Nat.le_of_ble_eq_true rfl)⟩) hP hD hS hA rfl hl.1 rfl (Nat.le_of_ble_eq_true rfl) dX12_lasts_12 ⟨Nat.zero_le _, Nat.zero_le _⟩ (fun x8 u H locs hw hP hD hS => ?_)
  obtain ⟨r9, g10, g11⟩ := hw
  have hP : va_P D classes (wM cA ad F1 L1 A1 B1) H := hP
  have hD : va_D Af (wM cA ad F1 L1 A1 B1) := hD
  refine lv_if_eq (tgt := 27) hx hb dX12_lasts_15 (by decide) (fun c12 => ?_) (fun c12 => ?_)
  · skip
    have r13 : rg x8 0 0 := rg_eq1 c12 (r9 : rg x8 0 1) ((rg_k (by decide)) : rg 0 0 0) (by decide)
    refine lv_iconst (v := (-1)) hx hb dX12_lasts_27 (by decide) ?_
    exact hret ((-1)) (F1, L1, A1, B1) H locs 28 ls rfl dX12_lasts_28 hP hD hS hq
  · skip
    have g14 := g10.resolve_left c12
    have r15 : rg p1 0 2147483647 := rg_le2 g14.1 ((rg_k (by decide)) : rg 0 0 0) ((rg_top _) : rg p1 (-2147483648) 2147483647)
    have r16 : rg p1 0 239 := rg_le1 g14.2 (r15 : rg p1 0 2147483647) (r7 : rg x5 (-1) 239)
    have r17 : rg x5 0 239 := rg_le2 g14.2 (r15 : rg p1 0 2147483647) (r7 : rg x5 (-1) 239)
    refine lv_aload_n hx hb dX12_lasts_18 rfl (lv_at hl 0 rfl) ?_
    refine va_get (ci := 12) (v := .ref (ad 21)) (C := RX12) (T := TX12) (N := 57) hx hb hg inX12 hown hK hP 0 atM_0 rfl 32 (by decide) (hg _ mw_1140) (fun _ h9 => h9) rfl dX12_lasts_19 ?_
    refine lv_iload_n hx hb dX12_lasts_22 rfl (lv_at hl 1 rfl) ?_
    refine va_iald hx hb hK hP 21 20 atM_21 tyM_21 (in_rg r16 (by decide)) dX12_lasts_23 ?_
    refine lv_topi (fun x18 e19 => ?_)
    refine lv_goto (tgt := 28) hx hb dX12_lasts_24 (by decide) ?_
    exact hret (x18) (F1, L1, A1, B1) H locs 28 ls rfl dX12_lasts_28 hP hD hS hq
abbrev rm_X12_with_0 : Room := { frames := 6, cells := 0, slots := 0, locals := 139 }
set_option maxHeartbeats 4000000 in
set_option maxRecDepth 100000 in
theorem c_X12_with_0 (l : Launch) (D : va_G) (cA : Nat → ClassId) (sz : Nat) (ad : Nat → Nat) (F : Nat → Int32) (L : Nat → Int64) (A : Nat → Nat → Int32) (B : Nat → Nat → Int64) (p1 : Int32) (p2 : Int32) (hT : typM F A) : Met l yX12_with (Cond.code yX12_with cX12_with 3 (some .int) :: GW) rm_X12_with_0 (mPc D classes (tysM cA) (wM cA ad F L A B) sz [.ref (ad 0), .int p1, .int p2]) (mQi (S := SW) D classes (tysM cA) (wM cA ad F L A B) sz (wfM cA ad) (fun r u => qM [11] [16, 18, 19, 20, 21, 22] F A u.1 u.2.2.1 ∧ rg r (-1) 9)) 0 0 (va_A (wM cA ad F L A B) sz) := by
  refine met_i (own := "ShoeingDayModel") (by decide +kernel) rfl (Nat.le_of_ble_eq_true rfl) ?_
  intro p e s m args below meth c Q Af ls hC hP hD hS hA hl hret
  have hx := hC.1
  have hb := hC.2.1
  have hown := hC.2.2.2.1
  have hg := hC.g
  have hK := hC.K
  have hl : lv_has ls 3 [(0, .ref (ad 0)), (1, .int p1), (2, .int p2)] := hl
  have hq : qM [11] [16, 18, 19, 20, 21, 22] F A F A := qM.rf hT
  obtain ⟨H, hH⟩ : ∃ H, H = s.heap := ⟨_, rfl⟩
  have hP : va_P D classes (wM cA ad F L A B) H := by rw [hH]; exact hP
  have hS : va_S Af s.heap H [] := by rw [hH]; exact hS
  obtain ⟨locs, hlo⟩ : ∃ q : List Loc, q = [] := ⟨_, rfl⟩
  rw [← hH, ← hlo]
  rw [← hlo] at hS
  refine lv_aload_n hx hb dX12_with_0 rfl (lv_at hl 0 rfl) ?_
  refine callv_v (As := []) (rest := []) hC (c_X12_layDayNow_0 l D cA H.size ad F L A B  hq.1) (cwV 0 hg (g_V mw_1443 mw_1440 mw_1442 ms_76 mw_20) rfl rfl rfl (by decide +kernel) ⟨(Nat.le_of_ble_eq_true rfl), (Nat.le_of_ble_eq_true rfl)⟩) hP hD hS hA atM_0 rfl rfl hl.1 rfl (Nat.le_of_ble_eq_true rfl) dX12_with_1 ⟨Nat.zero_le _, Nat.zero_le _⟩ (fun  u H locs hw hP hD hS => ?_)
  obtain ⟨F1, L1, A1, B1⟩ := u
  try dsimp only at hw
  have hq1 := hw
  have hq := hq.call hq1 (by decide)
  have hP : va_P D classes (wM cA ad F1 L1 A1 B1) H := hP
  have hD : va_D Af (wM cA ad F1 L1 A1 B1) := hD
  refine lv_iload_n hx hb dX12_with_4 rfl (lv_at hl 1 rfl) ?_
  refine lv_iconst (v := 0) hx hb dX12_with_5 (by decide) ?_
  refine lv_aload_n hx hb dX12_with_6 rfl (lv_at hl 0 rfl) ?_
  refine va_get (ci := 12) (v := .int (F1 11)) (C := RX12) (T := TX12) (N := 57) hx hb hg inX12 hown hK hP 0 atM_0 rfl 34 (by decide) (hg _ mw_1142) (fun _ h9 => h9) rfl dX12_with_7 ?_
  refine lv_topi (fun x2 e3 => ?_)
  have r4 : rg x2 0 240 := rg_e e3 (hq.1.1 11)
  refine lv_iconst (v := 1) hx hb dX12_with_10 (by decide) ?_
  refine lv_isub hx hb dX12_with_11 ?_
  refine lv_topi (fun x5 e6 => ?_)
  have r7 : rg x5 (-1) 239 := rg_sub e6 r4 ((rg_k (by decide)) : rg 1 1 1) (by decide)
  refine calls_i (As := [.int p1, .int 0, .int x5]) (rest := []) hC (c_X12_isIn l D (tysM cA) (wM cA ad F1 L1 A1 B1) H.size (p1) (0) (x5) (rg_k (by decide)) (rg_w r7 (by decide))) (cwS 3 hg (g_S mw_1391 mw_1389 mw_1390 mw_20) rfl rfl rfl (by decide +kernel) ⟨(Nat.le_of_ble_eq_true rfl), (Nat.le_of_ble_eq_true rfl)⟩) hP hD hS hA rfl hl.1 rfl (Nat.le_of_ble_eq_true rfl) dX12_with_12 ⟨Nat.zero_le _, Nat.zero_le _⟩ (fun x8 u H locs hw hP hD hS => ?_)
  obtain ⟨r9, g10, g11⟩ := hw
  have hP : va_P D classes (wM cA ad F1 L1 A1 B1) H := hP
  have hD : va_D Af (wM cA ad F1 L1 A1 B1) := hD
  have J40 : ∀ (F12 : Nat → Int32) (L12 : Nat → Int64) (A12 : Nat → Nat → Int32) (B12 : Nat → Nat → Int64) (H : Heap) (locs : List Loc) (ls : Array Slot), qM [11] [16, 18, 19, 20, 21, 22] F A F12 A12 → va_P D classes (wM cA ad F12 L12 A12 B12) H → va_D Af (wM cA ad F12 L12 A12 B12) → va_S Af s.heap H locs → lv_has ls 3 [] → W p l e rm_X12_with_0 s m args below meth c H locs 0 0 Q (F0 m 40 ls []) := by
    intro F12 L12 A12 B12 H locs ls hq hP hD hS hl
    refine lv_iconst (v := (-1)) hx hb dX12_with_40 (by decide) ?_
    exact hret ((-1)) (F12, L12, A12, B12) H locs 41 ls rfl dX12_with_41 hP hD hS ⟨hq, (rg_k (by decide))⟩
  refine lv_if_eq (tgt := 40) hx hb dX12_with_15 (by decide) (fun c13 => ?_) (fun c13 => ?_)
  · skip
    have r14 : rg x8 0 0 := rg_eq1 c13 (r9 : rg x8 0 1) ((rg_k (by decide)) : rg 0 0 0) (by decide)
    exact J40 (F1) (L1) (A1) (B1) H locs ls hq hP hD hS (lv_sub hl [] rfl)
  · skip
    have g15 := g10.resolve_left c13
    have r16 : rg p1 0 2147483647 := rg_le2 g15.1 ((rg_k (by decide)) : rg 0 0 0) ((rg_top _) : rg p1 (-2147483648) 2147483647)
    have r17 : rg p1 0 239 := rg_le1 g15.2 (r16 : rg p1 0 2147483647) (r7 : rg x5 (-1) 239)
    have r18 : rg x5 0 239 := rg_le2 g15.2 (r16 : rg p1 0 2147483647) (r7 : rg x5 (-1) 239)
    refine lv_aload_n hx hb dX12_with_18 rfl (lv_at hl 0 rfl) ?_
    refine lv_iload_n hx hb dX12_with_19 rfl (lv_at hl 2 rfl) ?_
    refine callv_i (As := [.int p2]) (rest := []) hC (c_X12_isSmith_0 l D cA H.size ad F1 L1 A1 B1 (p2) hq.1) (cwV 1 hg (g_V mw_1384 mw_1381 mw_1383 ms_66 mw_20) rfl rfl rfl (by decide +kernel) ⟨(Nat.le_of_ble_eq_true rfl), (Nat.le_of_ble_eq_true rfl)⟩) hP hD hS hA atM_0 rfl rfl hl.1 rfl (Nat.le_of_ble_eq_true rfl) dX12_with_20 ⟨Nat.zero_le _, Nat.zero_le _⟩ (fun x19 u H locs hw hP hD hS => ?_)
    obtain ⟨r20, g21⟩ := hw
    have hP : va_P D classes (wM cA ad F1 L1 A1 B1) H := hP
    have hD : va_D Af (wM cA ad F1 L1 A1 B1) := hD
    refine lv_if_eq (tgt := 40) hx hb dX12_with_23 (by decide) (fun c22 => ?_) (fun c22 => ?_)
    · skip
      have r23 : rg x19 0 0 := rg_eq1 c22 (r20 : rg x19 0 1) ((rg_k (by decide)) : rg 0 0 0) (by decide)
      exact J40 (F1) (L1) (A1) (B1) H locs ls hq hP hD hS (lv_sub hl [] rfl)
    · skip
      have g24 := g21.resolve_left c22
      refine lv_aload_n hx hb dX12_with_26 rfl (lv_at hl 0 rfl) ?_
      refine va_get (ci := 12) (v := .ref (ad 22)) (C := RX12) (T := TX12) (N := 57) hx hb hg inX12 hown hK hP 0 atM_0 rfl 33 (by decide) (hg _ mw_1141) (fun _ h9 => h9) rfl dX12_with_27 ?_
      refine lv_bipush (v := 8) hx hb dX12_with_30 (by decide) ?_
      refine lv_iload_n hx hb dX12_with_32 rfl (lv_at hl 1 rfl) ?_
      refine lv_imul hx hb dX12_with_33 ?_
      refine lv_topi (fun x25 e26 => ?_)
      have r27 : rg x25 0 1912 := rg_mul e26 ((rg_k (by decide)) : rg 8 8 8) r17 (by decide)
      refine lv_iload_n hx hb dX12_with_34 rfl (lv_at hl 2 rfl) ?_
      refine lv_iadd hx hb dX12_with_35 ?_
      refine lv_topi (fun x28 e29 => ?_)
      have r30 : rg x28 0 1919 := rg_add e29 r27 g24 (by decide)
      refine va_iald hx hb hK hP 22 21 atM_22 tyM_22 (in_rg r30 (by decide)) dX12_with_36 ?_
      refine lv_topi (fun x31 e32 => ?_)
      have r33 : rg x31 (-1) 9 := rg_e e32 (hq.1.2 22 _)
      refine lv_goto (tgt := 41) hx hb dX12_with_37 (by decide) ?_
      exact hret (x31) (F1, L1, A1, B1) H locs 41 ls rfl dX12_with_41 hP hD hS ⟨hq, r33⟩
abbrev rm_X12_lateOf_0 : Room := { frames := 0, cells := 0, slots := 0, locals := 0 }
set_option maxHeartbeats 4000000 in
set_option maxRecDepth 100000 in
theorem c_X12_lateOf_0 (l : Launch) (D : va_G) (cA : Nat → ClassId) (sz : Nat) (ad : Nat → Nat) (F : Nat → Int32) (L : Nat → Int64) (A : Nat → Nat → Int32) (B : Nat → Nat → Int64) (p1 : Int32) (p2 : Int32) (hT : typM F A) : Met l yX12_lateOf (Cond.code yX12_lateOf cX12_lateOf 4 (some .int) :: GW) rm_X12_lateOf_0 (mPc D classes (tysM cA) (wM cA ad F L A B) sz [.ref (ad 0), .int p1, .int p2]) (mQi (S := Unit) D classes (tysM cA) (wM cA ad F L A B) sz (fun _ : Unit => wM cA ad F L A B) (fun r u => True)) 0 0 (va_A (wM cA ad F L A B) sz) := by
  refine met_i (own := "ShoeingDayModel") (by decide +kernel) rfl (Nat.le_of_ble_eq_true rfl) ?_
  intro p e s m args below meth c Q Af ls hC hP hD hS hA hl hret
  have hx := hC.1
  have hb := hC.2.1
  have hown := hC.2.2.2.1
  have hg := hC.g
  have hK := hC.K
  have hl : lv_has ls 4 [(0, .ref (ad 0)), (1, .int p1), (2, .int p2)] := hl
  have hq : qM [] [] F A F A := qM.rf hT
  obtain ⟨H, hH⟩ : ∃ H, H = s.heap := ⟨_, rfl⟩
  have hP : va_P D classes (wM cA ad F L A B) H := by rw [hH]; exact hP
  have hS : va_S Af s.heap H [] := by rw [hH]; exact hS
  obtain ⟨locs, hlo⟩ : ∃ q : List Loc, q = [] := ⟨_, rfl⟩
  rw [← hH, ← hlo]
  rw [← hlo] at hS
  refine lv_aload_n hx hb dX12_lateOf_0 rfl (lv_at hl 0 rfl) ?_
  refine va_get (ci := 12) (v := .ref (ad 7)) (C := RX12) (T := TX12) (N := 57) hx hb hg inX12 hown hK hP 0 atM_0 rfl 15 (by decide) (hg _ mw_1123) (fun _ h9 => h9) rfl dX12_lateOf_1 ?_
  refine lv_aload_n hx hb dX12_lateOf_4 rfl (lv_at hl 0 rfl) ?_
  refine va_get (ci := 12) (v := .int (F 8)) (C := RX12) (T := TX12) (N := 57) hx hb hg inX12 hown hK hP 0 atM_0 rfl 24 (by decide) (hg _ mw_1132) (fun _ h9 => h9) rfl dX12_lateOf_5 ?_
  refine lv_topi (fun x1 e2 => ?_)
  have r3 : rg x1 0 1 := rg_e e2 (hq.1.1 8)
  refine va_iald hx hb hK hP 7 6 atM_7 tyM_7 (in_rg r3 (by decide)) dX12_lateOf_8 ?_
  refine lv_topi (fun x4 e5 => ?_)
  refine lv_if_ge (tgt := 14) hx hb dX12_lateOf_9 (by decide) (fun c6 => ?_) (fun c6 => ?_)
  · skip
    have r7 : rg x4 0 2147483647 := rg_le2 (iE c6) ((rg_k (by decide)) : rg 0 0 0) ((rg_top _) : rg x4 (-2147483648) 2147483647)
    refine lv_aload_n hx hb dX12_lateOf_14 rfl (lv_at hl 0 rfl) ?_
    refine va_get (ci := 12) (v := .ref (ad 7)) (C := RX12) (T := TX12) (N := 57) hx hb hg inX12 hown hK hP 0 atM_0 rfl 15 (by decide) (hg _ mw_1123) (fun _ h9 => h9) rfl dX12_lateOf_15 ?_
    refine lv_aload_n hx hb dX12_lateOf_18 rfl (lv_at hl 0 rfl) ?_
    refine va_get (ci := 12) (v := .int x1) (C := RX12) (T := TX12) (N := 57) hx hb hg inX12 hown hK hP 0 atM_0 rfl 24 (by decide) (hg _ mw_1132) (fun _ h9 => h9) (congrArg (fun z => some (Value.int z)) (e2.symm)) dX12_lateOf_19 ?_
    refine va_iald hx hb hK hP 7 6 atM_7 tyM_7 (in_rg r3 (by decide)) dX12_lateOf_22 ?_
    refine tope (e5) ?_
    refine lv_iload_n hx hb dX12_lateOf_23 rfl (lv_at hl 1 rfl) ?_
    refine lv_isub hx hb dX12_lateOf_24 ?_
    refine lv_topi (fun x9 e10 => ?_)
    refine lv_istore_n (lv' := [(3, .int x9), (0, .ref (ad 0)), (1, .int p1), (2, .int p2)]) hx hb dX12_lateOf_25 rfl hl (by decide) rfl (fun ls hl => ?_)
    refine lv_iload_n hx hb dX12_lateOf_26 rfl (lv_at hl 0 rfl) ?_
    refine lv_if_gt (tgt := 34) hx hb dX12_lateOf_27 (by decide) (fun c11 => ?_) (fun c11 => ?_)
    · skip
      have r12 : rg x9 1 2147483647 := rg_lt2 (iL c11) ((rg_k (by decide)) : rg 0 0 0) ((rg_top _) : rg x9 (-2147483648) 2147483647)
      refine lv_iload_n hx hb dX12_lateOf_34 rfl (lv_at hl 0 rfl) ?_
      refine lv_iload_n hx hb dX12_lateOf_35 rfl (lv_at hl 3 rfl) ?_
      refine lv_icmp_lt (tgt := 43) hx hb dX12_lateOf_36 (by decide) (fun c14 => ?_) (fun c14 => ?_)
      · skip
        have r15 : rg x9 1 2147483646 := rg_lt1 (iL c14) (r12 : rg x9 1 2147483647) ((rg_top _) : rg p2 (-2147483648) 2147483647)
        have r16 : rg p2 2 2147483647 := rg_lt2 (iL c14) (r12 : rg x9 1 2147483647) ((rg_top _) : rg p2 (-2147483648) 2147483647)
        refine lv_iload_n hx hb dX12_lateOf_43 rfl (lv_at hl 3 rfl) ?_
        refine lv_iload_n hx hb dX12_lateOf_44 rfl (lv_at hl 0 rfl) ?_
        refine lv_isub hx hb dX12_lateOf_45 ?_
        refine lv_topi (fun x17 e18 => ?_)
        have r19 : rg x17 (-2147483644) 2147483646 := rg_sub e18 r16 r15 (by decide)
        exact hret (x17) () H locs 46 ls rfl dX12_lateOf_46 hP hD hS trivial
      · skip
        refine lv_iconst (v := 0) hx hb dX12_lateOf_39 (by decide) ?_
        refine lv_goto (tgt := 46) hx hb dX12_lateOf_40 (by decide) ?_
        exact hret (0) () H locs 46 ls rfl dX12_lateOf_46 hP hD hS trivial
    · skip
      have r13 : rg x9 (-2147483648) 0 := rg_le1 (iNL c11) ((rg_top _) : rg x9 (-2147483648) 2147483647) ((rg_k (by decide)) : rg 0 0 0)
      refine lv_iload_n hx hb dX12_lateOf_30 rfl (lv_at hl 3 rfl) ?_
      refine lv_goto (tgt := 46) hx hb dX12_lateOf_31 (by decide) ?_
      exact hret (p2) () H locs 46 ls rfl dX12_lateOf_46 hP hD hS trivial
  · skip
    have r8 : rg x4 (-2147483648) (-1) := rg_lt1 (iNE c6) ((rg_top _) : rg x4 (-2147483648) 2147483647) ((rg_k (by decide)) : rg 0 0 0)
    refine lv_iconst (v := 0) hx hb dX12_lateOf_12 (by decide) ?_
    exact hret (0) () H locs 13 ls rfl dX12_lateOf_13 hP hD hS trivial
abbrev rm_X12_wages_0 : Room := { frames := 6, cells := 0, slots := 0, locals := 139 }
set_option maxHeartbeats 4000000 in
set_option maxRecDepth 100000 in
theorem c_X12_wages_0 (l : Launch) (D : va_G) (cA : Nat → ClassId) (sz : Nat) (ad : Nat → Nat) (F : Nat → Int32) (L : Nat → Int64) (A : Nat → Nat → Int32) (B : Nat → Nat → Int64)  (hT : typM F A) : Met l yX12_wages (Cond.code yX12_wages cX12_wages 5 (some .int) :: GW) rm_X12_wages_0 (mPc D classes (tysM cA) (wM cA ad F L A B) sz [.ref (ad 0)]) (mQi (S := SW) D classes (tysM cA) (wM cA ad F L A B) sz (wfM cA ad) (fun r u => qM [11] [16, 18, 19, 20, 21, 22] F A u.1 u.2.2.1)) 0 0 (va_A (wM cA ad F L A B) sz) := by
  refine met_i (own := "ShoeingDayModel") (by decide +kernel) rfl (Nat.le_of_ble_eq_true rfl) ?_
  intro p e s m args below meth c Q Af ls hC hP hD hS hA hl hret
  have hx := hC.1
  have hb := hC.2.1
  have hown := hC.2.2.2.1
  have hg := hC.g
  have hK := hC.K
  have hl : lv_has ls 5 [(0, .ref (ad 0))] := hl
  have hq : qM [11] [16, 18, 19, 20, 21, 22] F A F A := qM.rf hT
  obtain ⟨H, hH⟩ : ∃ H, H = s.heap := ⟨_, rfl⟩
  have hP : va_P D classes (wM cA ad F L A B) H := by rw [hH]; exact hP
  have hS : va_S Af s.heap H [] := by rw [hH]; exact hS
  obtain ⟨locs, hlo⟩ : ∃ q : List Loc, q = [] := ⟨_, rfl⟩
  rw [← hH, ← hlo]
  rw [← hlo] at hS
  refine lv_aload_n hx hb dX12_wages_0 rfl (lv_at hl 0 rfl) ?_
  refine callv_v (As := []) (rest := []) hC (c_X12_layDayNow_0 l D cA H.size ad F L A B  hq.1) (cwV 0 hg (g_V mw_1443 mw_1440 mw_1442 ms_76 mw_20) rfl rfl rfl (by decide +kernel) ⟨(Nat.le_of_ble_eq_true rfl), (Nat.le_of_ble_eq_true rfl)⟩) hP hD hS hA atM_0 rfl rfl hl.1 rfl (Nat.le_of_ble_eq_true rfl) dX12_wages_1 ⟨Nat.zero_le _, Nat.zero_le _⟩ (fun  u H locs hw hP hD hS => ?_)
  obtain ⟨F1, L1, A1, B1⟩ := u
  try dsimp only at hw
  have hq1 := hw
  have hq := hq.call hq1 (by decide)
  have hP : va_P D classes (wM cA ad F1 L1 A1 B1) H := hP
  have hD : va_D Af (wM cA ad F1 L1 A1 B1) := hD
  refine lv_iconst (v := 0) hx hb dX12_wages_4 (by decide) ?_
  refine lv_istore_n (lv' := [(1, .int 0), (0, .ref (ad 0))]) hx hb dX12_wages_5 rfl hl (by decide) rfl (fun ls hl => ?_)
  refine lv_aload_n hx hb dX12_wages_6 rfl (lv_at hl 1 rfl) ?_
  refine va_get (ci := 12) (v := .int (F1 10)) (C := RX12) (T := TX12) (N := 57) hx hb hg inX12 hown hK hP 0 atM_0 rfl 28 (by decide) (hg _ mw_1136) (fun _ h9 => h9) rfl dX12_wages_7 ?_
  refine lv_topi (fun x2 e3 => ?_)
  refine lv_istore_n (lv' := [(2, .int x2), (1, .int 0), (0, .ref (ad 0))]) hx hb dX12_wages_10 rfl hl (by decide) rfl (fun ls hl => ?_)
  refine lv_iconst (v := 0) hx hb dX12_wages_11 (by decide) ?_
  refine lv_istore_n (lv' := [(3, .int 0), (2, .int x2), (1, .int 0), (0, .ref (ad 0))]) hx hb dX12_wages_12 rfl hl (by decide) rfl (fun ls hl => ?_)
  have J13 : ∀ (n13 : Nat) (a4 : Int32) (a5 : Int32) (a6 : Int32) (F8 : Nat → Int32) (L8 : Nat → Int64) (A8 : Nat → Nat → Int32) (B8 : Nat → Nat → Int64) (H : Heap) (locs : List Loc) (ls : Array Slot), (240 - a6.toInt).toNat < n13 → rg a6 0 240 → qM [11] [16, 18, 19, 20, 21, 22] F A F8 A8 → va_P D classes (wM cA ad F8 L8 A8 B8) H → va_D Af (wM cA ad F8 L8 A8 B8) → va_S Af s.heap H locs → lv_has ls 5 [(0, .ref (ad 0)), (1, .int a4), (2, .int a5), (3, .int a6)] → W p l e rm_X12_wages_0 s m args below meth c H locs 0 0 Q (F0 m 13 ls []) := by
    intro n13
    induction n13 with
    | zero =>
      intro _ _ _ _ _ _ _ _ _ _ hn
      exact absurd hn (Nat.not_lt_zero _)
    | succ n13 ih13 =>
      intro a4 a5 a6 F8 L8 A8 B8 H locs ls hn13 r7 hq hP hD hS hl
      refine lv_iload_n hx hb dX12_wages_13 rfl (lv_at hl 3 rfl) ?_
      refine lv_aload_n hx hb dX12_wages_14 rfl (lv_at hl 0 rfl) ?_
      refine va_get (ci := 12) (v := .int (F8 11)) (C := RX12) (T := TX12) (N := 57) hx hb hg inX12 hown hK hP 0 atM_0 rfl 34 (by decide) (hg _ mw_1142) (fun _ h9 => h9) rfl dX12_wages_15 ?_
      refine lv_topi (fun x9 e10 => ?_)
      have r11 : rg x9 0 240 := rg_e e10 (hq.1.1 11)
      refine lv_icmp_ge (tgt := 106) hx hb dX12_wages_18 (by decide) (fun c12 => ?_) (fun c12 => ?_)
      · skip
        refine lv_iload_n hx hb dX12_wages_106 rfl (lv_at hl 1 rfl) ?_
        exact hret (a4) (F8, L8, A8, B8) H locs 107 ls rfl dX12_wages_107 hP hD hS hq
      · skip
        have r13 : rg a6 0 239 := rg_lt1 (iNE c12) (r7 : rg a6 0 240) (r11 : rg x9 0 240)
        have r14 : rg x9 1 240 := rg_lt2 (iNE c12) (r7 : rg a6 0 240) (r11 : rg x9 0 240)
        refine lv_iconst (v := 0) hx hb dX12_wages_21 (by decide) ?_
        refine lv_istore (lv' := [(4, .int 0), (0, .ref (ad 0)), (1, .int a4), (2, .int a5), (3, .int a6)]) hx hb dX12_wages_22 hl (by decide) rfl (fun ls hl => ?_)
        have J24 : ∀ (n24 : Nat) (a15 : Int32) (a16 : Int32) (F18 : Nat → Int32) (L18 : Nat → Int64) (A18 : Nat → Nat → Int32) (B18 : Nat → Nat → Int64) (H : Heap) (locs : List Loc) (ls : Array Slot), (8 - a16.toInt).toNat < n24 → rg a16 0 8 → qM [11] [16, 18, 19, 20, 21, 22] F A F18 A18 → F18 11 = x9 → va_P D classes (wM cA ad F18 L18 A18 B18) H → va_D Af (wM cA ad F18 L18 A18 B18) → va_S Af s.heap H locs → lv_has ls 5 [(0, .ref (ad 0)), (1, .int a15), (2, .int a5), (3, .int a6), (4, .int a16)] → W p l e rm_X12_wages_0 s m args below meth c H locs 0 0 Q (F0 m 24 ls []) := by
          intro n24
          induction n24 with
          | zero =>
            intro _ _ _ _ _ _ _ _ _ hn
            exact absurd hn (Nat.not_lt_zero _)
          | succ n24 ih24 =>
            intro a15 a16 F18 L18 A18 B18 H locs ls hn24 r17 hq f19 hP hD hS hl
            refine lv_iload hx hb dX12_wages_24 (lv_at hl 4 rfl) ?_
            refine lv_aload_n hx hb dX12_wages_26 rfl (lv_at hl 0 rfl) ?_
            refine callv_i (As := []) (rest := [.int a16]) hC (c_X12_smithMany_0 l D cA H.size ad F18 L18 A18 B18  hq.1) (cwV 0 hg (g_V mw_1388 mw_1385 mw_1387 ms_67 mw_20) rfl rfl rfl (by decide +kernel) ⟨(Nat.le_of_ble_eq_true rfl), (Nat.le_of_ble_eq_true rfl)⟩) hP hD hS hA atM_0 rfl rfl hl.1 rfl (Nat.le_of_ble_eq_true rfl) dX12_wages_27 ⟨Nat.zero_le _, Nat.zero_le _⟩ (fun x20 u H locs hw hP hD hS => ?_)
            have r21 := hw
            have hP : va_P D classes (wM cA ad F18 L18 A18 B18) H := hP
            have hD : va_D Af (wM cA ad F18 L18 A18 B18) := hD
            refine lv_icmp_ge (tgt := 91) hx hb dX12_wages_30 (by decide) (fun c22 => ?_) (fun c22 => ?_)
            · skip
              refine lv_iload_n hx hb dX12_wages_91 rfl (lv_at hl 2 rfl) ?_
              refine lv_aload_n hx hb dX12_wages_92 rfl (lv_at hl 0 rfl) ?_
              refine va_get (ci := 12) (v := .ref (ad 21)) (C := RX12) (T := TX12) (N := 57) hx hb hg inX12 hown hK hP 0 atM_0 rfl 32 (by decide) (hg _ mw_1140) (fun _ h9 => h9) rfl dX12_wages_93 ?_
              refine lv_iload_n hx hb dX12_wages_96 rfl (lv_at hl 3 rfl) ?_
              refine va_iald hx hb hK hP 21 20 atM_21 tyM_21 (in_rg r13 (by decide)) dX12_wages_97 ?_
              refine lv_topi (fun x25 e26 => ?_)
              refine lv_iadd hx hb dX12_wages_98 ?_
              refine lv_topi (fun x27 e28 => ?_)
              refine lv_istore_n (lv' := [(2, .int x27), (0, .ref (ad 0)), (1, .int a15), (3, .int a6), (4, .int a16)]) hx hb dX12_wages_99 rfl hl (by decide) rfl (fun ls hl => ?_)
              obtain ⟨x29, e30⟩ : ∃ y : Int32, y = a6 + 1 := ⟨_, rfl⟩
              have r31 : rg x29 1 240 := rg_add e30 r13 (rg_k (by decide) : rg 1 1 1) (by decide)
              refine lv_iinc (v := x29) (lv' := [(3, .int x29), (2, .int x27), (0, .ref (ad 0)), (1, .int a15), (4, .int a16)]) hx hb dX12_wages_100 hl (k := 3) rfl (by rw [e30]; rfl) (by decide) rfl (fun ls hl => ?_)
              refine lv_goto (tgt := 13) hx hb dX12_wages_103 (by decide) ?_
              exact ih13 (a15) (x27) (x29) (F18) (L18) (A18) (B18) H locs ls (by have h0 : (1 : Int32).toInt = 1 := rfl; have h1 := ti_addk e30 r13 (by decide); have h2 : rg x29 0 240 := (rg_w r31 (by decide)); unfold rg at h2; omega) (rg_w r31 (by decide)) hq hP hD hS (lv_sub hl [2, 3, 1, 0] rfl)
            · skip
              have r23 : rg a16 0 7 := rg_lt1 (iNE c22) (r17 : rg a16 0 8) (r21 : rg x20 0 8)
              have r24 : rg x20 1 8 := rg_lt2 (iNE c22) (r17 : rg a16 0 8) (r21 : rg x20 0 8)
              refine lv_aload_n hx hb dX12_wages_33 rfl (lv_at hl 0 rfl) ?_
              refine va_get (ci := 12) (v := .ref (ad 22)) (C := RX12) (T := TX12) (N := 57) hx hb hg inX12 hown hK hP 0 atM_0 rfl 33 (by decide) (hg _ mw_1141) (fun _ h9 => h9) rfl dX12_wages_34 ?_
              refine lv_bipush (v := 8) hx hb dX12_wages_37 (by decide) ?_
              refine lv_iload_n hx hb dX12_wages_39 rfl (lv_at hl 3 rfl) ?_
              refine lv_imul hx hb dX12_wages_40 ?_
              refine lv_topi (fun x32 e33 => ?_)
              have r34 : rg x32 0 1912 := rg_mul e33 ((rg_k (by decide)) : rg 8 8 8) r13 (by decide)
              refine lv_iload hx hb dX12_wages_41 (lv_at hl 4 rfl) ?_
              refine lv_iadd hx hb dX12_wages_43 ?_
              refine lv_topi (fun x35 e36 => ?_)
              have r37 : rg x35 0 1919 := rg_add e36 r34 r23 (by decide)
              refine va_iald hx hb hK hP 22 21 atM_22 tyM_22 (in_rg r37 (by decide)) dX12_wages_44 ?_
              refine lv_topi (fun x38 e39 => ?_)
              have r40 : rg x38 (-1) 9 := rg_e e39 (hq.1.2 22 _)
              have J85 : ∀ (a41 : Int32) (F42 : Nat → Int32) (L42 : Nat → Int64) (A42 : Nat → Nat → Int32) (B42 : Nat → Nat → Int64) (H : Heap) (locs : List Loc) (ls : Array Slot), qM [11] [16, 18, 19, 20, 21, 22] F A F42 A42 → F42 11 = x9 → va_P D classes (wM cA ad F42 L42 A42 B42) H → va_D Af (wM cA ad F42 L42 A42 B42) → va_S Af s.heap H locs → lv_has ls 5 [(0, .ref (ad 0)), (1, .int a41), (2, .int a5), (3, .int a6), (4, .int a16)] → W p l e rm_X12_wages_0 s m args below meth c H locs 0 0 Q (F0 m 85 ls []) := by
                intro a41 F42 L42 A42 B42 H locs ls hq f43 hP hD hS hl
                obtain ⟨x44, e45⟩ : ∃ y : Int32, y = a16 + 1 := ⟨_, rfl⟩
                have r46 : rg x44 1 8 := rg_add e45 r23 (rg_k (by decide) : rg 1 1 1) (by decide)
                refine lv_iinc (v := x44) (lv' := [(4, .int x44), (0, .ref (ad 0)), (1, .int a41), (2, .int a5), (3, .int a6)]) hx hb dX12_wages_85 hl (k := 4) rfl (by rw [e45]; rfl) (by decide) rfl (fun ls hl => ?_)
                refine lv_goto (tgt := 24) hx hb dX12_wages_88 (by decide) ?_
                exact ih24 (a41) (x44) (F42) (L42) (A42) (B42) H locs ls (by have h0 : (1 : Int32).toInt = 1 := rfl; have h1 := ti_addk e45 r23 (by decide); have h2 : rg x44 0 8 := (rg_w r46 (by decide)); unfold rg at h2; omega) (rg_w r46 (by decide)) hq (f43) hP hD hS (lv_sub hl [1, 2, 3, 4, 0] rfl)
              refine lv_if_lt (tgt := 85) hx hb dX12_wages_45 (by decide) (fun c47 => ?_) (fun c47 => ?_)
              · skip
                have r48 : rg x38 (-1) (-1) := rg_lt1 (iL c47) (r40 : rg x38 (-1) 9) ((rg_k (by decide)) : rg 0 0 0)
                exact J85 (a15) (F18) (L18) (A18) (B18) H locs ls hq (f19) hP hD hS (lv_sub hl [0, 1, 2, 3, 4] rfl)
              · skip
                have r49 : rg x38 0 9 := rg_le2 (iNL c47) ((rg_k (by decide)) : rg 0 0 0) (r40 : rg x38 (-1) 9)
                refine lv_iload_n hx hb dX12_wages_48 rfl (lv_at hl 1 rfl) ?_
                refine lv_aload_n hx hb dX12_wages_49 rfl (lv_at hl 0 rfl) ?_
                refine va_get (ci := 12) (v := .ref (ad 8)) (C := RX12) (T := TX12) (N := 57) hx hb hg inX12 hown hK hP 0 atM_0 rfl 16 (by decide) (hg _ mw_1124) (fun _ h9 => h9) rfl dX12_wages_50 ?_
                refine lv_bipush (v := 8) hx hb dX12_wages_53 (by decide) ?_
                refine lv_aload_n hx hb dX12_wages_55 rfl (lv_at hl 0 rfl) ?_
                refine va_get (ci := 12) (v := .int (F18 8)) (C := RX12) (T := TX12) (N := 57) hx hb hg inX12 hown hK hP 0 atM_0 rfl 24 (by decide) (hg _ mw_1132) (fun _ h9 => h9) rfl dX12_wages_56 ?_
                refine lv_topi (fun x50 e51 => ?_)
                have r52 : rg x50 0 1 := rg_e e51 (hq.1.1 8)
                refine lv_imul hx hb dX12_wages_59 ?_
                refine lv_topi (fun x53 e54 => ?_)
                have r55 : rg x53 0 8 := rg_mul e54 ((rg_k (by decide)) : rg 8 8 8) r52 (by decide)
                refine lv_iload hx hb dX12_wages_60 (lv_at hl 4 rfl) ?_
                refine lv_iadd hx hb dX12_wages_62 ?_
                refine lv_topi (fun x56 e57 => ?_)
                have r58 : rg x56 0 15 := rg_add e57 r55 r23 (by decide)
                refine va_iald hx hb hK hP 8 7 atM_8 tyM_8 (in_rg r58 (by decide)) dX12_wages_63 ?_
                refine lv_topi (fun x59 e60 => ?_)
                refine lv_aload_n hx hb dX12_wages_64 rfl (lv_at hl 0 rfl) ?_
                refine va_get (ci := 12) (v := .ref (ad 21)) (C := RX12) (T := TX12) (N := 57) hx hb hg inX12 hown hK hP 0 atM_0 rfl 32 (by decide) (hg _ mw_1140) (fun _ h9 => h9) rfl dX12_wages_65 ?_
                refine lv_iload_n hx hb dX12_wages_68 rfl (lv_at hl 3 rfl) ?_
                refine va_iald hx hb hK hP 21 20 atM_21 tyM_21 (in_rg r13 (by decide)) dX12_wages_69 ?_
                refine lv_topi (fun x61 e62 => ?_)
                refine lv_aload_n hx hb dX12_wages_70 rfl (lv_at hl 0 rfl) ?_
                refine lv_iload_n hx hb dX12_wages_71 rfl (lv_at hl 2 rfl) ?_
                refine lv_aload_n hx hb dX12_wages_72 rfl (lv_at hl 0 rfl) ?_
                refine va_get (ci := 12) (v := .ref (ad 21)) (C := RX12) (T := TX12) (N := 57) hx hb hg inX12 hown hK hP 0 atM_0 rfl 32 (by decide) (hg _ mw_1140) (fun _ h9 => h9) rfl dX12_wages_73 ?_
                refine lv_iload_n hx hb dX12_wages_76 rfl (lv_at hl 3 rfl) ?_
                refine va_iald hx hb hK hP 21 20 atM_21 tyM_21 (in_rg r13 (by decide)) dX12_wages_77 ?_
                refine tope (e62) ?_
                refine callv_i (As := [.int a5, .int x61]) (rest := [.int x61, .int x59, .int a15]) hC (c_X12_lateOf_0 l D cA H.size ad F18 L18 A18 B18 (a5) (x61) hq.1) (cwV 2 hg (g_V mw_1482 mw_1479 mw_1481 ms_82 mw_20) rfl rfl rfl (by decide +kernel) ⟨(Nat.le_of_ble_eq_true rfl), (Nat.le_of_ble_eq_true rfl)⟩) hP hD hS hA atM_0 rfl rfl hl.1 rfl (Nat.le_of_ble_eq_true rfl) dX12_wages_78 ⟨Nat.zero_le _, Nat.zero_le _⟩ (fun x63 u H locs hw hP hD hS => ?_)
                have hP : va_P D classes (wM cA ad F18 L18 A18 B18) H := hP
                have hD : va_D Af (wM cA ad F18 L18 A18 B18) := hD
                refine lv_iadd hx hb dX12_wages_81 ?_
                refine lv_topi (fun x64 e65 => ?_)
                refine lv_imul hx hb dX12_wages_82 ?_
                refine lv_topi (fun x66 e67 => ?_)
                refine lv_iadd hx hb dX12_wages_83 ?_
                refine lv_topi (fun x68 e69 => ?_)
                refine lv_istore_n (lv' := [(1, .int x68), (0, .ref (ad 0)), (2, .int a5), (3, .int a6), (4, .int a16)]) hx hb dX12_wages_84 rfl hl (by decide) rfl (fun ls hl => ?_)
                exact J85 (x68) (F18) (L18) (A18) (B18) H locs ls hq (f19) hP hD hS (lv_sub hl [1, 0, 2, 3, 4] rfl)
        exact J24 _ (a4) (0) (F8) (L8) (A8) (B8) H locs ls (Nat.lt_succ_self _) (rg_k (by decide)) hq (e10.symm) hP hD hS (lv_sub hl [1, 2, 3, 4, 0] rfl)
  exact J13 _ (0) (x2) (0) (F1) (L1) (A1) (B1) H locs ls (Nat.lt_succ_self _) (rg_k (by decide)) hq hP hD hS (lv_sub hl [3, 2, 1, 0] rfl)
abbrev rm_X12_cut : Room := { frames := 0, cells := 0, slots := 0, locals := 0 }
set_option maxHeartbeats 4000000 in
set_option maxRecDepth 100000 in
theorem c_X12_cut (l : Launch) (D : va_G) (tys : List (ClassId × FieldType)) (ws : va_W) (sz : Nat) (p0 : Int32) (p1 : Int32) (hp1 : rg p1 1 9) : Met l yX12_cut (Cond.code yX12_cut cX12_cut 2 (some .int) :: GW) rm_X12_cut (mPc D classes tys (ws) sz [.int p0, .int p1]) (mQi (S := Unit) D classes tys (ws) sz (fun _ : Unit => ws) (fun r u => True)) 0 0 (va_A (ws) sz) := by
  refine met_i (own := "ShoeingDayModel") (by decide +kernel) rfl (Nat.le_of_ble_eq_true rfl) ?_
  intro p e s m args below meth c Q Af ls hC hP hD hS hA hl hret
  have hx := hC.1
  have hb := hC.2.1
  have hown := hC.2.2.2.1
  have hg := hC.g
  have hK := hC.K
  have hl : lv_has ls 2 [(0, .int p0), (1, .int p1)] := hl
  obtain ⟨H, hH⟩ : ∃ H, H = s.heap := ⟨_, rfl⟩
  have hP : va_P D classes (ws) H := by rw [hH]; exact hP
  have hS : va_S Af s.heap H [] := by rw [hH]; exact hS
  obtain ⟨locs, hlo⟩ : ∃ q : List Loc, q = [] := ⟨_, rfl⟩
  rw [← hH, ← hlo]
  rw [← hlo] at hS
  refine lv_iload_n hx hb dX12_cut_0 rfl (lv_at hl 0 rfl) ?_
  refine lv_iload_n hx hb dX12_cut_1 rfl (lv_at hl 1 rfl) ?_
  refine lv_idiv hx hb dX12_cut_2 (ne0_rg hp1 (by decide)) ?_
  refine lv_topi (fun x1 e2 => ?_)
  exact hret (x1) () H locs 3 ls rfl dX12_cut_3 hP hD hS trivial
abbrev rm_X12_edge_0 : Room := { frames := 0, cells := 0, slots := 0, locals := 0 }
set_option maxHeartbeats 4000000 in
set_option maxRecDepth 100000 in
theorem c_X12_edge_0 (l : Launch) (D : va_G) (cA : Nat → ClassId) (sz : Nat) (ad : Nat → Nat) (F : Nat → Int32) (L : Nat → Int64) (A : Nat → Nat → Int32) (B : Nat → Nat → Int64) (p1 : Int32) (p2 : Int32) (p3 : Int32) (p4 : Int32) (hT : typM F A) (hp1 : rg p1 0 19) (hp2 : rg p2 0 19) : Met l yX12_edge (Cond.code yX12_edge cX12_edge 5 none :: GW) rm_X12_edge_0 (mPc D classes (tysM cA) (wM cA ad F L A B) sz [.ref (ad 0), .int p1, .int p2, .int p3, .int p4]) (mQv (S := SW) D classes (tysM cA) (wM cA ad F L A B) sz (wfM cA ad) (fun u => qM [12] [23] F A u.1 u.2.2.1)) 0 0 (va_A (wM cA ad F L A B) sz) := by
  refine met_v (own := "ShoeingDayModel") (by decide +kernel) rfl (Nat.le_of_ble_eq_true rfl) ?_
  intro p e s m args below meth c Q Af ls hC hP hD hS hA hl hret
  have hx := hC.1
  have hb := hC.2.1
  have hown := hC.2.2.2.1
  have hg := hC.g
  have hK := hC.K
  have hl : lv_has ls 5 [(0, .ref (ad 0)), (1, .int p1), (2, .int p2), (3, .int p3), (4, .int p4)] := hl
  have hq : qM [12] [23] F A F A := qM.rf hT
  obtain ⟨H, hH⟩ : ∃ H, H = s.heap := ⟨_, rfl⟩
  have hP : va_P D classes (wM cA ad F L A B) H := by rw [hH]; exact hP
  have hS : va_S Af s.heap H [] := by rw [hH]; exact hS
  obtain ⟨locs, hlo⟩ : ∃ q : List Loc, q = [] := ⟨_, rfl⟩
  rw [← hH, ← hlo]
  rw [← hlo] at hS
  refine lv_aload_n hx hb dX12_edge_0 rfl (lv_at hl 0 rfl) ?_
  refine va_get (ci := 12) (v := .ref (ad 23)) (C := RX12) (T := TX12) (N := 57) hx hb hg inX12 hown hK hP 0 atM_0 rfl 35 (by decide) (hg _ mw_1143) (fun _ h9 => h9) rfl dX12_edge_1 ?_
  refine lv_bipush (v := 22) hx hb dX12_edge_4 (by decide) ?_
  refine lv_iload_n hx hb dX12_edge_6 rfl (lv_at hl 1 rfl) ?_
  refine lv_imul hx hb dX12_edge_7 ?_
  refine lv_topi (fun x1 e2 => ?_)
  have r3 : rg x1 0 418 := rg_mul e2 ((rg_k (by decide)) : rg 22 22 22) hp1 (by decide)
  refine lv_iload_n hx hb dX12_edge_8 rfl (lv_at hl 2 rfl) ?_
  refine lv_iadd hx hb dX12_edge_9 ?_
  refine lv_topi (fun x4 e5 => ?_)
  have r6 : rg x4 0 437 := rg_add e5 r3 hp2 (by decide)
  refine lv_dup2_11 hx hb dX12_edge_10 rfl rfl ?_
  refine va_iald hx hb hK hP 23 22 atM_23 tyM_23 (in_rg r6 (by decide)) dX12_edge_11 ?_
  refine lv_topi (fun x7 e8 => ?_)
  refine lv_iload hx hb dX12_edge_12 (lv_at hl 4 rfl) ?_
  refine lv_iload_n hx hb dX12_edge_14 rfl (lv_at hl 3 rfl) ?_
  refine lv_isub hx hb dX12_edge_15 ?_
  refine lv_topi (fun x9 e10 => ?_)
  refine lv_iadd hx hb dX12_edge_16 ?_
  refine lv_topi (fun x11 e12 => ?_)
  refine va_iast hx hb hK hP hD hS 23 22 atM_23 tyM_23 (in_rg r6 (by decide)) dX12_edge_17 (fun H locs hP hD hS => ?_)
  have hq := hq.ast 23 (x4).toNatClampNeg (x := x11) (by decide) (rg_top _)
  rw [setM_23] at hP hD
  have k13 : x11 = (va_up A 23 (upd (A 23) (x4).toNatClampNeg x11)) 23 (x4).toNatClampNeg := (rdA).symm
  refine lv_aload_n hx hb dX12_edge_18 rfl (lv_at hl 0 rfl) ?_
  refine va_get (ci := 12) (v := .ref (ad 23)) (C := RX12) (T := TX12) (N := 57) hx hb hg inX12 hown hK hP 0 atM_0 rfl 35 (by decide) (hg _ mw_1143) (fun _ h9 => h9) rfl dX12_edge_19 ?_
  refine lv_sipush (v := 440) hx hb dX12_edge_22 (by decide) ?_
  refine lv_iload_n hx hb dX12_edge_25 rfl (lv_at hl 2 rfl) ?_
  refine lv_iadd hx hb dX12_edge_26 ?_
  refine lv_topi (fun x14 e15 => ?_)
  have r16 : rg x14 440 459 := rg_add e15 ((rg_k (by decide)) : rg 440 440 440) hp2 (by decide)
  refine lv_dup2_11 hx hb dX12_edge_27 rfl rfl ?_
  refine va_iald hx hb hK hP 23 22 atM_23 tyM_23 (in_rg r16 (by decide)) dX12_edge_28 ?_
  refine lv_topi (fun x17 e18 => ?_)
  refine lv_iload_n hx hb dX12_edge_29 rfl (lv_at hl 3 rfl) ?_
  refine lv_iadd hx hb dX12_edge_30 ?_
  refine lv_topi (fun x19 e20 => ?_)
  refine va_iast hx hb hK hP hD hS 23 22 atM_23 tyM_23 (in_rg r16 (by decide)) dX12_edge_31 (fun H locs hP hD hS => ?_)
  have hq := hq.ast 23 (x14).toNatClampNeg (x := x19) (by decide) (rg_top _)
  rw [setM_23] at hP hD
  have k21 : x19 = (va_up (va_up A 23 (upd (A 23) (x4).toNatClampNeg x11)) 23 (upd ((va_up A 23 (upd (A 23) (x4).toNatClampNeg x11)) 23) (x14).toNatClampNeg x19)) 23 (x14).toNatClampNeg := (rdA).symm
  refine lv_aload_n hx hb dX12_edge_32 rfl (lv_at hl 0 rfl) ?_
  refine va_get (ci := 12) (v := .ref (ad 23)) (C := RX12) (T := TX12) (N := 57) hx hb hg inX12 hown hK hP 0 atM_0 rfl 35 (by decide) (hg _ mw_1143) (fun _ h9 => h9) rfl dX12_edge_33 ?_
  refine lv_bipush (v := 22) hx hb dX12_edge_36 (by decide) ?_
  refine lv_iload_n hx hb dX12_edge_38 rfl (lv_at hl 1 rfl) ?_
  refine lv_imul hx hb dX12_edge_39 ?_
  refine tope e2 ?_
  refine lv_bipush (v := 21) hx hb dX12_edge_40 (by decide) ?_
  refine lv_iadd hx hb dX12_edge_42 ?_
  refine lv_topi (fun x22 e23 => ?_)
  have r24 : rg x22 21 439 := rg_add e23 r3 ((rg_k (by decide)) : rg 21 21 21) (by decide)
  refine lv_dup2_11 hx hb dX12_edge_43 rfl rfl ?_
  refine va_iald hx hb hK hP 23 22 atM_23 tyM_23 (in_rg r24 (by decide)) dX12_edge_44 ?_
  refine lv_topi (fun x25 e26 => ?_)
  refine lv_iload_n hx hb dX12_edge_45 rfl (lv_at hl 3 rfl) ?_
  refine lv_iadd hx hb dX12_edge_46 ?_
  refine lv_topi (fun x27 e28 => ?_)
  refine va_iast hx hb hK hP hD hS 23 22 atM_23 tyM_23 (in_rg r24 (by decide)) dX12_edge_47 (fun H locs hP hD hS => ?_)
  have hq := hq.ast 23 (x22).toNatClampNeg (x := x27) (by decide) (rg_top _)
  rw [setM_23] at hP hD
  have k29 : x27 = (va_up (va_up (va_up A 23 (upd (A 23) (x4).toNatClampNeg x11)) 23 (upd ((va_up A 23 (upd (A 23) (x4).toNatClampNeg x11)) 23) (x14).toNatClampNeg x19)) 23 (upd ((va_up (va_up A 23 (upd (A 23) (x4).toNatClampNeg x11)) 23 (upd ((va_up A 23 (upd (A 23) (x4).toNatClampNeg x11)) 23) (x14).toNatClampNeg x19)) 23) (x22).toNatClampNeg x27)) 23 (x22).toNatClampNeg := (rdA).symm
  refine lv_aload_n hx hb dX12_edge_48 rfl (lv_at hl 0 rfl) ?_
  refine lv_dup hx hb dX12_edge_49 rfl ?_
  refine va_get (ci := 12) (v := .int (F 12)) (C := RX12) (T := TX12) (N := 57) hx hb hg inX12 hown hK hP 0 atM_0 rfl 39 (by decide) (hg _ mw_1147) (fun _ h9 => h9) rfl dX12_edge_50 ?_
  refine lv_topi (fun x30 e31 => ?_)
  refine lv_iload_n hx hb dX12_edge_53 rfl (lv_at hl 3 rfl) ?_
  refine lv_iadd hx hb dX12_edge_54 ?_
  refine lv_topi (fun x32 e33 => ?_)
  refine va_put (ci := 12) (v := .int x32) (ty := .int) (C := RX12) (T := TX12) (N := 57) hx hb hg inX12 tyX12 tyX12_ok nmX12 hown hK hP hD hS 0 atM_0 rfl 39 (by decide) (hg _ mw_1147) (fun _ h9 => h9) rfl (by decide +kernel) rfl rfl (Nat.le_of_ble_eq_true rfl) dX12_edge_55 (fun H locs hP hD hS => ?_)
  have hq := hq.put 12 (x := x32) (by decide) (rg_top _)
  rw [setFM_12] at hP hD
  exact hret ((upd F 12 x32), L, (va_up (va_up (va_up A 23 (upd (A 23) (x4).toNatClampNeg x11)) 23 (upd ((va_up A 23 (upd (A 23) (x4).toNatClampNeg x11)) 23) (x14).toNatClampNeg x19)) 23 (upd ((va_up (va_up A 23 (upd (A 23) (x4).toNatClampNeg x11)) 23 (upd ((va_up A 23 (upd (A 23) (x4).toNatClampNeg x11)) 23) (x14).toNatClampNeg x19)) 23) (x22).toNatClampNeg x27)), B) H locs 58 ls dX12_edge_58 hP hD hS hq
