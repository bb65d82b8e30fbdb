abbrev rm_X12_more_0 : Room := { frames := 2, cells := 0, slots := 0, locals := 43 }
set_option maxHeartbeats 4000000 in
set_option maxRecDepth 100000 in
theorem c_X12_more_0 (l : Launch) (D : va_G) (cA : Nat → ClassId) (sz : Nat) (ad : Nat → Nat) (F : Nat → Int32) (L : Nat → Int64) (A : Nat → Nat → Int32) (B : Nat → Nat → Int64) (p1 : Int32) (p2 : Int32) (p3 : Int32) (hT : typM F A) (hI : xM F) (hLM : LM F A) : Met l yX12_more (Cond.code yX12_more cX12_more 4 (some .int) :: GW) rm_X12_more_0 (mPc D classes (tysM cA) (wM cA ad F L A B) sz [.ref (ad 0), .int p1, .int p2, .int p3]) (mQi (S := SW) D classes (tysM cA) (wM cA ad F L A B) sz (wfM cA ad) (fun r u => qM [14, 15] [17, 27] F A u.1 u.2.2.1 ∧ xM u.1 ∧ rg r (-1) 99 ∧ (LM u.1 u.2.2.1))) 0 0 (va_A (wM cA ad F L A B) sz) := by
  refine met_i (own := "ShoeingDayModel") (by decide +kernel) rfl (Nat.le_of_ble_eq_true rfl) ?_
  intro p e s m args below meth c Q Af ls hC hP hD hS hA hl hret
  have hx := hC.1
  have hb := hC.2.1
  have hown := hC.2.2.2.1
  have hg := hC.g
  have hK := hC.K
  have hl : lv_has ls 4 [(0, .ref (ad 0)), (1, .int p1), (2, .int p2), (3, .int p3)] := hl
  have hq : qM [14, 15] [17, 27] F A F A := qM.rf hT
  obtain ⟨H, hH⟩ : ∃ H, H = s.heap := ⟨_, rfl⟩
  have hP : va_P D classes (wM cA ad F L A B) H := by rw [hH]; exact hP
  have hS : va_S Af s.heap H [] := by rw [hH]; exact hS
  obtain ⟨locs, hlo⟩ : ∃ q : List Loc, q = [] := ⟨_, rfl⟩
  rw [← hH, ← hlo]
  rw [← hlo] at hS
  refine lv_aload_n hx hb dX12_more_0 rfl (lv_at hl 0 rfl) ?_
  refine lv_iload_n hx hb dX12_more_1 rfl (lv_at hl 1 rfl) ?_
  refine callv_i (As := [.int p1]) (rest := []) hC (c_X12_isSmith_0 l D cA H.size ad F L A B (p1) hq.1) (cwV 1 hg (g_V mw_1384 mw_1381 mw_1383 ms_66 mw_20) rfl rfl rfl (by decide +kernel) ⟨(Nat.le_of_ble_eq_true rfl), (Nat.le_of_ble_eq_true rfl)⟩) hP hD hS hA atM_0 rfl rfl hl.1 rfl (Nat.le_of_ble_eq_true rfl) dX12_more_2 ⟨Nat.zero_le _, Nat.zero_le _⟩ (fun x1 u H locs hw hP hD hS => ?_)
  obtain ⟨r2, g3, g4⟩ := hw
  have hP : va_P D classes (wM cA ad F L A B) H := hP
  have hD : va_D Af (wM cA ad F L A B) := hD
  have J49 : ∀ (F5 : Nat → Int32) (L5 : Nat → Int64) (A5 : Nat → Nat → Int32) (B5 : Nat → Nat → Int64) (H : Heap) (locs : List Loc) (ls : Array Slot), qM [14, 15] [17, 27] F A F5 A5 → xM F5 → (LM F5 A5) → va_P D classes (wM cA ad F5 L5 A5 B5) H → va_D Af (wM cA ad F5 L5 A5 B5) → va_S Af s.heap H locs → lv_has ls 4 [] → W p l e rm_X12_more_0 s m args below meth c H locs 0 0 Q (F0 m 49 ls []) := by
    intro F5 L5 A5 B5 H locs ls hq i6 v7 hP hD hS hl
    refine lv_iconst (v := (-1)) hx hb dX12_more_49 (by decide) ?_
    exact hret ((-1)) (F5, L5, A5, B5) H locs 50 ls rfl dX12_more_50 hP hD hS ⟨hq, i6, (rg_k (by decide)), v7⟩
  refine lv_if_eq (tgt := 49) hx hb dX12_more_5 (by decide) (fun c8 => ?_) (fun c8 => ?_)
  · skip
    have r9 : rg x1 0 0 := rg_eq1 c8 (r2 : rg x1 0 1) ((rg_k (by decide)) : rg 0 0 0) (by decide)
    exact J49 (F) (L) (A) (B) H locs ls hq hI hLM hP hD hS (lv_sub hl [] rfl)
  · skip
    have g10 := g3.resolve_left c8
    refine lv_aload_n hx hb dX12_more_8 rfl (lv_at hl 0 rfl) ?_
    refine lv_iload_n hx hb dX12_more_9 rfl (lv_at hl 2 rfl) ?_
    refine callv_i (As := [.int p2]) (rest := []) hC (c_X12_isHorse_0 l D cA H.size ad F L A B (p2) hq.1) (cwV 1 hg (g_V mw_1395 mw_1392 mw_1394 ms_68 mw_20) rfl rfl rfl (by decide +kernel) ⟨(Nat.le_of_ble_eq_true rfl), (Nat.le_of_ble_eq_true rfl)⟩) hP hD hS hA atM_0 rfl rfl hl.1 rfl (Nat.le_of_ble_eq_true rfl) dX12_more_10 ⟨Nat.zero_le _, Nat.zero_le _⟩ (fun x11 u H locs hw hP hD hS => ?_)
    obtain ⟨r12, g13, g14⟩ := hw
    have hP : va_P D classes (wM cA ad F L A B) H := hP
    have hD : va_D Af (wM cA ad F L A B) := hD
    refine lv_if_eq (tgt := 49) hx hb dX12_more_13 (by decide) (fun c15 => ?_) (fun c15 => ?_)
    · skip
      have r16 : rg x11 0 0 := rg_eq1 c15 (r12 : rg x11 0 1) ((rg_k (by decide)) : rg 0 0 0) (by decide)
      exact J49 (F) (L) (A) (B) H locs ls hq hI hLM hP hD hS (lv_sub hl [] rfl)
    · skip
      have g17 := g13.resolve_left c15
      refine lv_iload_n hx hb dX12_more_16 rfl (lv_at hl 3 rfl) ?_
      refine lv_bipush (v := (-99)) hx hb dX12_more_17 (by decide) ?_
      refine lv_bipush (v := 99) hx hb dX12_more_19 (by decide) ?_
      refine calls_i (As := [.int p3, .int (-99), .int 99]) (rest := []) hC (c_X12_isIn l D (tysM cA) (wM cA ad F L A B) H.size (p3) ((-99)) (99) (rg_k (by decide)) (rg_k (by decide))) (cwS 3 hg (g_S mw_1391 mw_1389 mw_1390 mw_20) rfl rfl rfl (by decide +kernel) ⟨(Nat.le_of_ble_eq_true rfl), (Nat.le_of_ble_eq_true rfl)⟩) hP hD hS hA rfl hl.1 rfl (Nat.le_of_ble_eq_true rfl) dX12_more_21 ⟨Nat.zero_le _, Nat.zero_le _⟩ (fun x18 u H locs hw hP hD hS => ?_)
      obtain ⟨r19, g20, g21⟩ := hw
      have hP : va_P D classes (wM cA ad F L A B) H := hP
      have hD : va_D Af (wM cA ad F L A B) := hD
      refine lv_if_eq (tgt := 49) hx hb dX12_more_24 (by decide) (fun c22 => ?_) (fun c22 => ?_)
      · skip
        have r23 : rg x18 0 0 := rg_eq1 c22 (r19 : rg x18 0 1) ((rg_k (by decide)) : rg 0 0 0) (by decide)
        exact J49 (F) (L) (A) (B) H locs ls hq hI hLM hP hD hS (lv_sub hl [] rfl)
      · skip
        have g24 := g20.resolve_left c22
        have r25 : rg p3 (-99) 2147483647 := rg_le2 g24.1 ((rg_k (by decide)) : rg (-99) (-99) (-99)) ((rg_top _) : rg p3 (-2147483648) 2147483647)
        have r26 : rg p3 (-99) 99 := rg_le1 g24.2 (r25 : rg p3 (-99) 2147483647) ((rg_k (by decide)) : rg 99 99 99)
        refine lv_aload_n hx hb dX12_more_27 rfl (lv_at hl 0 rfl) ?_
        refine va_get (ci := 12) (v := .ref (ad 17)) (C := RX12) (T := TX12) (N := 57) hx hb hg inX12 hown hK hP 0 atM_0 rfl 27 (by decide) (hg _ mw_1135) (fun _ h9 => h9) rfl dX12_more_28 ?_
        refine lv_bipush (v := 10) hx hb dX12_more_31 (by decide) ?_
        refine lv_iload_n hx hb dX12_more_33 rfl (lv_at hl 1 rfl) ?_
        refine lv_imul hx hb dX12_more_34 ?_
        refine lv_topi (fun x27 e28 => ?_)
        have r29 : rg x27 0 70 := rg_mul e28 ((rg_k (by decide)) : rg 10 10 10) g10 (by decide)
        refine lv_iload_n hx hb dX12_more_35 rfl (lv_at hl 2 rfl) ?_
        refine lv_iadd hx hb dX12_more_36 ?_
        refine lv_topi (fun x30 e31 => ?_)
        have r32 : rg x30 0 79 := rg_add e31 r29 g17 (by decide)
        refine va_iald hx hb hK hP 17 16 atM_17 tyM_17 (in_rg r32 (by decide)) dX12_more_37 ?_
        refine lv_topi (fun x33 e34 => ?_)
        refine lv_iload_n hx hb dX12_more_38 rfl (lv_at hl 3 rfl) ?_
        refine lv_iadd hx hb dX12_more_39 ?_
        refine lv_topi (fun x35 e36 => ?_)
        refine lv_iconst (v := 0) hx hb dX12_more_40 (by decide) ?_
        refine lv_bipush (v := 99) hx hb dX12_more_41 (by decide) ?_
        refine calls_i (As := [.int x35, .int 0, .int 99]) (rest := []) hC (c_X12_isIn l D (tysM cA) (wM cA ad F L A B) H.size (x35) (0) (99) (rg_k (by decide)) (rg_k (by decide))) (cwS 3 hg (g_S mw_1391 mw_1389 mw_1390 mw_20) rfl rfl rfl (by decide +kernel) ⟨(Nat.le_of_ble_eq_true rfl), (Nat.le_of_ble_eq_true rfl)⟩) hP hD hS hA rfl hl.1 rfl (Nat.le_of_ble_eq_true rfl) dX12_more_43 ⟨Nat.zero_le _, Nat.zero_le _⟩ (fun x37 u H locs hw hP hD hS => ?_)
        obtain ⟨r38, g39, g40⟩ := hw
        have hP : va_P D classes (wM cA ad F L A B) H := hP
        have hD : va_D Af (wM cA ad F L A B) := hD
        refine lv_if_ne (tgt := 51) hx hb dX12_more_46 (by decide) (fun c41 => ?_) (fun c41 => ?_)
        · skip
          have g42 := g39.resolve_left c41
          have r43 : rg x35 0 2147483647 := rg_le2 g42.1 ((rg_k (by decide)) : rg 0 0 0) ((rg_top _) : rg x35 (-2147483648) 2147483647)
          have r44 : rg x35 0 99 := rg_le1 g42.2 (r43 : rg x35 0 2147483647) ((rg_k (by decide)) : rg 99 99 99)
          refine lv_aload_n hx hb dX12_more_51 rfl (lv_at hl 0 rfl) ?_
          refine callv_v (As := []) (rest := []) hC (c_X12_keepAct_0 l D cA H.size ad F L A B  hq.1 hI hLM) (cwV 0 hg (g_V mw_1540 mw_1537 mw_1539 ms_89 mw_20) rfl rfl rfl (by decide +kernel) ⟨(Nat.le_of_ble_eq_true rfl), (Nat.le_of_ble_eq_true rfl)⟩) hP hD hS hA atM_0 rfl rfl hl.1 rfl (Nat.le_of_ble_eq_true rfl) dX12_more_52 ⟨Nat.zero_le _, Nat.zero_le _⟩ (fun  u H locs hw hP hD hS => ?_)
          obtain ⟨F46, L46, A46, B46⟩ := u
          try dsimp only at hw
          obtain ⟨hq46, i47, g48⟩ := hw
          have hq := hq.call hq46 (by decide)
          have hP : va_P D classes (wM cA ad F46 L46 A46 B46) H := hP
          have hD : va_D Af (wM cA ad F46 L46 A46 B46) := hD
          have hsN : sN F46 A46 = sN F A := by unfold sN; rw [hq.2.2 3 (by decide), hq.2.1 8 (by decide)]
          have hhN : hN F46 A46 = hN F A := by unfold hN; rw [hq.2.2 4 (by decide), hq.2.1 8 (by decide)]
          refine lv_aload_n hx hb dX12_more_55 rfl (lv_at hl 0 rfl) ?_
          refine va_get (ci := 12) (v := .ref (ad 17)) (C := RX12) (T := TX12) (N := 57) hx hb hg inX12 hown hK hP 0 atM_0 rfl 27 (by decide) (hg _ mw_1135) (fun _ h9 => h9) rfl dX12_more_56 ?_
          refine lv_bipush (v := 10) hx hb dX12_more_59 (by decide) ?_
          refine lv_iload_n hx hb dX12_more_61 rfl (lv_at hl 1 rfl) ?_
          refine lv_imul hx hb dX12_more_62 ?_
          refine tope e28 ?_
          refine lv_iload_n hx hb dX12_more_63 rfl (lv_at hl 2 rfl) ?_
          refine lv_iadd hx hb dX12_more_64 ?_
          refine tope e31 ?_
          refine lv_dup2_11 hx hb dX12_more_65 rfl rfl ?_
          refine va_iald hx hb hK hP 17 16 atM_17 tyM_17 (in_rg r32 (by decide)) dX12_more_66 ?_
          refine tope ((e34).trans (congrFun (hq46.2.2 17 (by decide)) _).symm) ?_
          refine lv_iload_n hx hb dX12_more_67 rfl (lv_at hl 3 rfl) ?_
          refine lv_iadd hx hb dX12_more_68 ?_
          refine tope e36 ?_
          refine va_iast hx hb hK hP hD hS 17 16 atM_17 tyM_17 (in_rg r32 (by decide)) dX12_more_69 (fun H locs hP hD hS => ?_)
          have hq := hq.ast 17 (x30).toNatClampNeg (x := x35) (by decide) (rg_top _)
          rw [setM_17] at hP hD
          have k49 : x35 = (va_up A46 17 (upd (A46 17) (x30).toNatClampNeg x35)) 17 (x30).toNatClampNeg := (rdA).symm
          refine lv_aload_n hx hb dX12_more_70 rfl (lv_at hl 0 rfl) ?_
          refine va_get (ci := 12) (v := .ref (ad 17)) (C := RX12) (T := TX12) (N := 57) hx hb hg inX12 hown hK hP 0 atM_0 rfl 27 (by decide) (hg _ mw_1135) (fun _ h9 => h9) rfl dX12_more_71 ?_
          refine lv_bipush (v := 10) hx hb dX12_more_74 (by decide) ?_
          refine lv_iload_n hx hb dX12_more_76 rfl (lv_at hl 1 rfl) ?_
          refine lv_imul hx hb dX12_more_77 ?_
          refine tope e28 ?_
          refine lv_iload_n hx hb dX12_more_78 rfl (lv_at hl 2 rfl) ?_
          refine lv_iadd hx hb dX12_more_79 ?_
          refine tope e31 ?_
          refine va_iald hx hb hK hP 17 16 atM_17 tyM_17 (in_rg r32 (by decide)) dX12_more_80 ?_
          refine tope (k49) ?_
          exact hret (x35) (F46, L46, (va_up A46 17 (upd (A46 17) (x30).toNatClampNeg x35)), B46) H locs 81 ls rfl dX12_more_81 hP hD hS ⟨hq, i47, (rg_w r44 (by decide)), (show LM F46 (va_up A46 17 (upd (A46 17) (x30).toNatClampNeg x35)) from LM.now g48 (by rw [hsN, hhN]; exact DM_put (k := x30.toNatClampNeg) (by rw [← hsN, ← hhN]; exact (g48).1) (Nat.zero_add _).symm (okc_of (r44 : rg x35 0 99) (cell_in (g10 : rg p1 0 7) (g17 : rg p2 0 9) e28 e31 ((g4).resolve_left c8).2 ((g14).resolve_left c15).2).1 (cell_in (g10 : rg p1 0 7) (g17 : rg p2 0 9) e28 e31 ((g4).resolve_left c8).2 ((g14).resolve_left c15).2).2)))⟩
        · skip
          have r45 : rg x37 0 0 := rg_eq1 c41 (r38 : rg x37 0 1) ((rg_k (by decide)) : rg 0 0 0) (by decide)
          exact J49 (F) (L) (A) (B) H locs ls hq hI hLM hP hD hS (lv_sub hl [] rfl)
abbrev rm_X12_breaks_0 : Room := { frames := 2, cells := 0, slots := 0, locals := 43 }
set_option maxHeartbeats 4000000 in
set_option maxRecDepth 100000 in
theorem c_X12_breaks_0 (l : Launch) (D : va_G) (cA : Nat → ClassId) (sz : Nat) (ad : Nat → Nat) (F : Nat → Int32) (L : Nat → Int64) (A : Nat → Nat → Int32) (B : Nat → Nat → Int64) (p1 : Int32) (p2 : Int32) (hT : typM F A) (hI : xM F) (hLM : LM F A) : Met l yX12_breaks (Cond.code yX12_breaks cX12_breaks 5 (some .int) :: GW) rm_X12_breaks_0 (mPc D classes (tysM cA) (wM cA ad F L A B) sz [.ref (ad 0), .int p1, .int p2]) (mQi (S := SW) D classes (tysM cA) (wM cA ad F L A B) sz (wfM cA ad) (fun r u => qM [14, 15] [17, 27] F A u.1 u.2.2.1 ∧ xM u.1 ∧ (LM u.1 u.2.2.1))) 0 0 (va_A (wM cA ad F L A B) sz) := by
  refine met_i (own := "ShoeingDayModel") (by decide +kernel) rfl (Nat.le_of_ble_eq_true rfl) ?_
  intro p e s m args below meth c Q Af ls hC hP hD hS hA hl hret
  have hx := hC.1
  have hb := hC.2.1
  have hown := hC.2.2.2.1
  have hg := hC.g
  have hK := hC.K
  have hl : lv_has ls 5 [(0, .ref (ad 0)), (1, .int p1), (2, .int p2)] := hl
  have hq : qM [14, 15] [17, 27] F A F A := qM.rf hT
  obtain ⟨H, hH⟩ : ∃ H, H = s.heap := ⟨_, rfl⟩
  have hP : va_P D classes (wM cA ad F L A B) H := by rw [hH]; exact hP
  have hS : va_S Af s.heap H [] := by rw [hH]; exact hS
  obtain ⟨locs, hlo⟩ : ∃ q : List Loc, q = [] := ⟨_, rfl⟩
  rw [← hH, ← hlo]
  rw [← hlo] at hS
  refine lv_aload_n hx hb dX12_breaks_0 rfl (lv_at hl 0 rfl) ?_
  refine lv_iload_n hx hb dX12_breaks_1 rfl (lv_at hl 1 rfl) ?_
  refine callv_i (As := [.int p1]) (rest := []) hC (c_X12_isSmith_0 l D cA H.size ad F L A B (p1) hq.1) (cwV 1 hg (g_V mw_1384 mw_1381 mw_1383 ms_66 mw_20) rfl rfl rfl (by decide +kernel) ⟨(Nat.le_of_ble_eq_true rfl), (Nat.le_of_ble_eq_true rfl)⟩) hP hD hS hA atM_0 rfl rfl hl.1 rfl (Nat.le_of_ble_eq_true rfl) dX12_breaks_2 ⟨Nat.zero_le _, Nat.zero_le _⟩ (fun x1 u H locs hw hP hD hS => ?_)
  obtain ⟨r2, g3, g4⟩ := hw
  have hP : va_P D classes (wM cA ad F L A B) H := hP
  have hD : va_D Af (wM cA ad F L A B) := hD
  have J21 : ∀ (F5 : Nat → Int32) (L5 : Nat → Int64) (A5 : Nat → Nat → Int32) (B5 : Nat → Nat → Int64) (H : Heap) (locs : List Loc) (ls : Array Slot), qM [14, 15] [17, 27] F A F5 A5 → xM F5 → (LM F5 A5) → va_P D classes (wM cA ad F5 L5 A5 B5) H → va_D Af (wM cA ad F5 L5 A5 B5) → va_S Af s.heap H locs → lv_has ls 5 [] → W p l e rm_X12_breaks_0 s m args below meth c H locs 0 0 Q (F0 m 21 ls []) := by
    intro F5 L5 A5 B5 H locs ls hq i6 v7 hP hD hS hl
    refine lv_iconst (v := (-1)) hx hb dX12_breaks_21 (by decide) ?_
    exact hret ((-1)) (F5, L5, A5, B5) H locs 22 ls rfl dX12_breaks_22 hP hD hS ⟨hq, i6, v7⟩
  refine lv_if_eq (tgt := 21) hx hb dX12_breaks_5 (by decide) (fun c8 => ?_) (fun c8 => ?_)
  · skip
    have r9 : rg x1 0 0 := rg_eq1 c8 (r2 : rg x1 0 1) ((rg_k (by decide)) : rg 0 0 0) (by decide)
    exact J21 (F) (L) (A) (B) H locs ls hq hI hLM hP hD hS (lv_sub hl [] rfl)
  · skip
    have g10 := g3.resolve_left c8
    refine lv_aload_n hx hb dX12_breaks_8 rfl (lv_at hl 0 rfl) ?_
    refine lv_iload_n hx hb dX12_breaks_9 rfl (lv_at hl 2 rfl) ?_
    refine callv_i (As := [.int p2]) (rest := []) hC (c_X12_isSmith_0 l D cA H.size ad F L A B (p2) hq.1) (cwV 1 hg (g_V mw_1384 mw_1381 mw_1383 ms_66 mw_20) rfl rfl rfl (by decide +kernel) ⟨(Nat.le_of_ble_eq_true rfl), (Nat.le_of_ble_eq_true rfl)⟩) hP hD hS hA atM_0 rfl rfl hl.1 rfl (Nat.le_of_ble_eq_true rfl) dX12_breaks_10 ⟨Nat.zero_le _, Nat.zero_le _⟩ (fun x11 u H locs hw hP hD hS => ?_)
    obtain ⟨r12, g13, g14⟩ := hw
    have hP : va_P D classes (wM cA ad F L A B) H := hP
    have hD : va_D Af (wM cA ad F L A B) := hD
    refine lv_if_eq (tgt := 21) hx hb dX12_breaks_13 (by decide) (fun c15 => ?_) (fun c15 => ?_)
    · skip
      have r16 : rg x11 0 0 := rg_eq1 c15 (r12 : rg x11 0 1) ((rg_k (by decide)) : rg 0 0 0) (by decide)
      exact J21 (F) (L) (A) (B) H locs ls hq hI hLM hP hD hS (lv_sub hl [] rfl)
    · skip
      have g17 := g13.resolve_left c15
      refine lv_iload_n hx hb dX12_breaks_16 rfl (lv_at hl 1 rfl) ?_
      refine lv_iload_n hx hb dX12_breaks_17 rfl (lv_at hl 2 rfl) ?_
      refine lv_icmp_ne (tgt := 23) hx hb dX12_breaks_18 (by decide) (fun c18 => ?_) (fun c18 => ?_)
      · skip
        refine lv_iconst (v := 0) hx hb dX12_breaks_23 (by decide) ?_
        refine lv_istore_n (lv' := [(3, .int 0), (0, .ref (ad 0)), (1, .int p1), (2, .int p2)]) hx hb dX12_breaks_24 rfl hl (by decide) rfl (fun ls hl => ?_)
        have J25 : ∀ (n25 : Nat) (a19 : Int32) (F21 : Nat → Int32) (L21 : Nat → Int64) (A21 : Nat → Nat → Int32) (B21 : Nat → Nat → Int64) (H : Heap) (locs : List Loc) (ls : Array Slot), (10 - a19.toInt).toNat < n25 → rg a19 0 10 → qM [14, 15] [17, 27] F A F21 A21 → xM F21 → (LM F21 A21 ∧ brJ (A21 17) p1 p2 a19.toInt ∧ sN F21 A21 = sN F A) → va_P D classes (wM cA ad F21 L21 A21 B21) H → va_D Af (wM cA ad F21 L21 A21 B21) → va_S Af s.heap H locs → lv_has ls 5 [(0, .ref (ad 0)), (1, .int p1), (2, .int p2), (3, .int a19)] → W p l e rm_X12_breaks_0 s m args below meth c H locs 0 0 Q (F0 m 25 ls []) := by
          intro n25
          induction n25 with
          | zero =>
            intro _ _ _ _ _ _ _ _ hn
            exact absurd hn (Nat.not_lt_zero _)
          | succ n25 ih25 =>
            intro a19 F21 L21 A21 B21 H locs ls hn25 r20 hq i22 v23 hP hD hS hl
            refine lv_iload_n hx hb dX12_breaks_25 rfl (lv_at hl 3 rfl) ?_
            refine lv_bipush (v := 10) hx hb dX12_breaks_26 (by decide) ?_
            refine lv_icmp_ge (tgt := 67) hx hb dX12_breaks_28 (by decide) (fun c24 => ?_) (fun c24 => ?_)
            · skip
              have r25 : rg a19 10 10 := rg_le2 (iE c24) ((rg_k (by decide)) : rg 10 10 10) (r20 : rg a19 0 10)
              refine lv_aload_n hx hb dX12_breaks_67 rfl (lv_at hl 0 rfl) ?_
              refine callv_v (As := []) (rest := []) hC (c_X12_keepAct_0 l D cA H.size ad F21 L21 A21 B21  hq.1 i22 v23.1) (cwV 0 hg (g_V mw_1540 mw_1537 mw_1539 ms_89 mw_20) rfl rfl rfl (by decide +kernel) ⟨(Nat.le_of_ble_eq_true rfl), (Nat.le_of_ble_eq_true rfl)⟩) hP hD hS hA atM_0 rfl rfl hl.1 rfl (Nat.le_of_ble_eq_true rfl) dX12_breaks_68 ⟨Nat.zero_le _, Nat.zero_le _⟩ (fun  u H locs hw hP hD hS => ?_)
              obtain ⟨F27, L27, A27, B27⟩ := u
              try dsimp only at hw
              obtain ⟨hq27, i28, g29⟩ := hw
              have hq := hq.call hq27 (by decide)
              have hP : va_P D classes (wM cA ad F27 L27 A27 B27) H := hP
              have hD : va_D Af (wM cA ad F27 L27 A27 B27) := hD
              have hb0 : brI (A27 17) p1 p2 (0 : Int32).toInt := by rw [hq27.2.2 17 (by decide)]; exact brJ_I v23.2.1 (by have := (r25 : rg a19 10 10).1; omega)
              have hs0 : sN F27 A27 = sN F A := by unfold sN; rw [hq.2.2 3 (by decide), hq.2.1 8 (by decide)]
              refine lv_iconst (v := 0) hx hb dX12_breaks_71 (by decide) ?_
              refine lv_istore_n (lv' := [(3, .int 0), (0, .ref (ad 0)), (1, .int p1), (2, .int p2)]) hx hb dX12_breaks_72 rfl hl (by decide) rfl (fun ls hl => ?_)
              refine lv_iconst (v := 0) hx hb dX12_breaks_73 (by decide) ?_
              refine lv_istore (lv' := [(4, .int 0), (3, .int 0), (0, .ref (ad 0)), (1, .int p1), (2, .int p2)]) hx hb dX12_breaks_74 hl (by decide) rfl (fun ls hl => ?_)
              have J76 : ∀ (n76 : Nat) (a30 : Int32) (a31 : Int32) (F33 : Nat → Int32) (L33 : Nat → Int64) (A33 : Nat → Nat → Int32) (B33 : Nat → Nat → Int64) (H : Heap) (locs : List Loc) (ls : Array Slot), (10 - a31.toInt).toNat < n76 → rg a31 0 10 → qM [14, 15] [17, 27] F A F33 A33 → xM F33 → (LM F33 A33 ∧ brI (A33 17) p1 p2 a31.toInt ∧ sN F33 A33 = sN F A) → va_P D classes (wM cA ad F33 L33 A33 B33) H → va_D Af (wM cA ad F33 L33 A33 B33) → va_S Af s.heap H locs → lv_has ls 5 [(0, .ref (ad 0)), (1, .int p1), (2, .int p2), (3, .int a30), (4, .int a31)] → W p l e rm_X12_breaks_0 s m args below meth c H locs 0 0 Q (F0 m 76 ls []) := by
                intro n76
                induction n76 with
                | zero =>
                  intro _ _ _ _ _ _ _ _ _ hn
                  exact absurd hn (Nat.not_lt_zero _)
                | succ n76 ih76 =>
                  intro a30 a31 F33 L33 A33 B33 H locs ls hn76 r32 hq i34 v35 hP hD hS hl
                  refine lv_iload hx hb dX12_breaks_76 (lv_at hl 4 rfl) ?_
                  refine lv_bipush (v := 10) hx hb dX12_breaks_78 (by decide) ?_
                  refine lv_icmp_ge (tgt := 144) hx hb dX12_breaks_80 (by decide) (fun c36 => ?_) (fun c36 => ?_)
                  · skip
                    have r37 : rg a31 10 10 := rg_le2 (iE c36) ((rg_k (by decide)) : rg 10 10 10) (r32 : rg a31 0 10)
                    refine lv_iload_n hx hb dX12_breaks_144 rfl (lv_at hl 3 rfl) ?_
                    exact hret (a30) (F33, L33, A33, B33) H locs 145 ls rfl dX12_breaks_145 hP hD hS ⟨hq, i34, v35.1⟩
                  · skip
                    have r38 : rg a31 0 9 := rg_lt1 (iNE c36) (r32 : rg a31 0 10) ((rg_k (by decide)) : rg 10 10 10)
                    refine lv_iload_n hx hb dX12_breaks_83 rfl (lv_at hl 3 rfl) ?_
                    refine lv_aload_n hx hb dX12_breaks_84 rfl (lv_at hl 0 rfl) ?_
                    refine va_get (ci := 12) (v := .ref (ad 17)) (C := RX12) (T := TX12) (N := 57) hx hb hg inX12 hown hK hP 0 atM_0 rfl 27 (by decide) (hg _ mw_1135) (fun _ h9 => h9) rfl dX12_breaks_85 ?_
                    refine lv_bipush (v := 10) hx hb dX12_breaks_88 (by decide) ?_
                    refine lv_iload_n hx hb dX12_breaks_90 rfl (lv_at hl 1 rfl) ?_
                    refine lv_imul hx hb dX12_breaks_91 ?_
                    refine lv_topi (fun x39 e40 => ?_)
                    have r41 : rg x39 0 70 := rg_mul e40 ((rg_k (by decide)) : rg 10 10 10) g10 (by decide)
                    refine lv_iload hx hb dX12_breaks_92 (lv_at hl 4 rfl) ?_
                    refine lv_iadd hx hb dX12_breaks_94 ?_
                    refine lv_topi (fun x42 e43 => ?_)
                    have r44 : rg x42 0 79 := rg_add e43 r41 r38 (by decide)
                    refine va_iald hx hb hK hP 17 16 atM_17 tyM_17 (in_rg r44 (by decide)) dX12_breaks_95 ?_
                    refine lv_topi (fun x45 e46 => ?_)
                    refine lv_iadd hx hb dX12_breaks_96 ?_
                    refine lv_topi (fun x47 e48 => ?_)
                    refine lv_istore_n (lv' := [(3, .int x47), (0, .ref (ad 0)), (1, .int p1), (2, .int p2), (4, .int a31)]) hx hb dX12_breaks_97 rfl hl (by decide) rfl (fun ls hl => ?_)
                    refine lv_aload_n hx hb dX12_breaks_98 rfl (lv_at hl 1 rfl) ?_
                    refine va_get (ci := 12) (v := .ref (ad 17)) (C := RX12) (T := TX12) (N := 57) hx hb hg inX12 hown hK hP 0 atM_0 rfl 27 (by decide) (hg _ mw_1135) (fun _ h9 => h9) rfl dX12_breaks_99 ?_
                    refine lv_bipush (v := 10) hx hb dX12_breaks_102 (by decide) ?_
                    refine lv_iload_n hx hb dX12_breaks_104 rfl (lv_at hl 3 rfl) ?_
                    refine lv_imul hx hb dX12_breaks_105 ?_
                    refine lv_topi (fun x49 e50 => ?_)
                    have r51 : rg x49 0 70 := rg_mul e50 ((rg_k (by decide)) : rg 10 10 10) g17 (by decide)
                    refine lv_iload hx hb dX12_breaks_106 (lv_at hl 4 rfl) ?_
                    refine lv_iadd hx hb dX12_breaks_108 ?_
                    refine lv_topi (fun x52 e53 => ?_)
                    have r54 : rg x52 0 79 := rg_add e53 r51 r38 (by decide)
                    refine lv_dup2_11 hx hb dX12_breaks_109 rfl rfl ?_
                    refine va_iald hx hb hK hP 17 16 atM_17 tyM_17 (in_rg r54 (by decide)) dX12_breaks_110 ?_
                    refine lv_topi (fun x55 e56 => ?_)
                    refine lv_aload_n hx hb dX12_breaks_111 rfl (lv_at hl 1 rfl) ?_
                    refine va_get (ci := 12) (v := .ref (ad 17)) (C := RX12) (T := TX12) (N := 57) hx hb hg inX12 hown hK hP 0 atM_0 rfl 27 (by decide) (hg _ mw_1135) (fun _ h9 => h9) rfl dX12_breaks_112 ?_
                    refine lv_bipush (v := 10) hx hb dX12_breaks_115 (by decide) ?_
                    refine lv_iload_n hx hb dX12_breaks_117 rfl (lv_at hl 2 rfl) ?_
                    refine lv_imul hx hb dX12_breaks_118 ?_
                    refine tope e40 ?_
                    refine lv_iload hx hb dX12_breaks_119 (lv_at hl 4 rfl) ?_
                    refine lv_iadd hx hb dX12_breaks_121 ?_
                    refine tope e43 ?_
                    refine va_iald hx hb hK hP 17 16 atM_17 tyM_17 (in_rg r44 (by decide)) dX12_breaks_122 ?_
                    refine tope (e46) ?_
                    refine lv_iadd hx hb dX12_breaks_123 ?_
                    refine lv_topi (fun x57 e58 => ?_)
                    refine va_iast hx hb hK hP hD hS 17 16 atM_17 tyM_17 (in_rg r54 (by decide)) dX12_breaks_124 (fun H locs hP hD hS => ?_)
                    have hq := hq.ast 17 (x52).toNatClampNeg (x := x57) (by decide) (rg_top _)
                    rw [setM_17] at hP hD
                    have k59 : x57 = (va_up A33 17 (upd (A33 17) (x52).toNatClampNeg x57)) 17 (x52).toNatClampNeg := (rdA).symm
                    refine lv_aload_n hx hb dX12_breaks_125 rfl (lv_at hl 1 rfl) ?_
                    refine va_get (ci := 12) (v := .ref (ad 17)) (C := RX12) (T := TX12) (N := 57) hx hb hg inX12 hown hK hP 0 atM_0 rfl 27 (by decide) (hg _ mw_1135) (fun _ h9 => h9) rfl dX12_breaks_126 ?_
                    refine lv_bipush (v := 10) hx hb dX12_breaks_129 (by decide) ?_
                    refine lv_iload_n hx hb dX12_breaks_131 rfl (lv_at hl 2 rfl) ?_
                    refine lv_imul hx hb dX12_breaks_132 ?_
                    refine tope e40 ?_
                    refine lv_iload hx hb dX12_breaks_133 (lv_at hl 4 rfl) ?_
                    refine lv_iadd hx hb dX12_breaks_135 ?_
                    refine tope e43 ?_
                    refine lv_iconst (v := 0) hx hb dX12_breaks_136 (by decide) ?_
                    refine va_iast hx hb hK hP hD hS 17 16 atM_17 tyM_17 (in_rg r44 (by decide)) dX12_breaks_137 (fun H locs hP hD hS => ?_)
                    have hq := hq.ast 17 (x42).toNatClampNeg (x := 0) (by decide) (rg_k (by decide))
                    rw [setM_17] at hP hD
                    have k60 : (0 : Int32) = (va_up (va_up A33 17 (upd (A33 17) (x52).toNatClampNeg x57)) 17 (upd ((va_up A33 17 (upd (A33 17) (x52).toNatClampNeg x57)) 17) (x42).toNatClampNeg 0)) 17 (x42).toNatClampNeg := (rdA).symm
                    obtain ⟨x61, e62⟩ : ∃ y : Int32, y = a31 + 1 := ⟨_, rfl⟩
                    have r63 : rg x61 1 10 := rg_add e62 r38 (rg_k (by decide) : rg 1 1 1) (by decide)
                    refine lv_iinc (v := x61) (lv' := [(4, .int x61), (3, .int x47), (0, .ref (ad 0)), (1, .int p1), (2, .int p2)]) hx hb dX12_breaks_138 hl (k := 4) rfl (by rw [e62]; rfl) (by decide) rfl (fun ls hl => ?_)
                    refine lv_goto (tgt := 76) hx hb dX12_breaks_141 (by decide) ?_
                    exact ih76 (x47) (x61) (F33) (L33) ((va_up (va_up A33 17 (upd (A33 17) (x52).toNatClampNeg x57)) 17 (upd ((va_up A33 17 (upd (A33 17) (x52).toNatClampNeg x57)) 17) (x42).toNatClampNeg 0))) (B33) H locs ls (by have h0 : (1 : Int32).toInt = 1 := rfl; have h1 := ti_addk e62 r38 (by decide); have h2 : rg x61 0 10 := (rg_w r63 (by decide)); unfold rg at h2; omega) (rg_w r63 (by decide)) hq i34 ⟨LM.now2 v35.1 (br_step v35.1.1 v35.2.1 (g10 : rg p1 0 7) (g17 : rg p2 0 7) (r38 : rg a31 0 9) c18 (by rw [v35.2.2]; exact ((g14).resolve_left c15).2) e40 e43 e46 e50 e53 e56 e58 e62).1, (br_step v35.1.1 v35.2.1 (g10 : rg p1 0 7) (g17 : rg p2 0 7) (r38 : rg a31 0 9) c18 (by rw [v35.2.2]; exact ((g14).resolve_left c15).2) e40 e43 e46 e50 e53 e56 e58 e62).2, v35.2.2⟩ hP hD hS (lv_sub hl [2, 3, 4, 1, 0] rfl)
              exact J76 _ (0) (0) (F27) (L27) (A27) (B27) H locs ls (Nat.lt_succ_self _) (rg_k (by decide)) hq i28 ⟨g29, hb0, hs0⟩ hP hD hS (lv_sub hl [2, 3, 4, 1, 0] rfl)
            · skip
              have r26 : rg a19 0 9 := rg_lt1 (iNE c24) (r20 : rg a19 0 10) ((rg_k (by decide)) : rg 10 10 10)
              refine lv_aload_n hx hb dX12_breaks_31 rfl (lv_at hl 0 rfl) ?_
              refine va_get (ci := 12) (v := .ref (ad 17)) (C := RX12) (T := TX12) (N := 57) hx hb hg inX12 hown hK hP 0 atM_0 rfl 27 (by decide) (hg _ mw_1135) (fun _ h9 => h9) rfl dX12_breaks_32 ?_
              refine lv_bipush (v := 10) hx hb dX12_breaks_35 (by decide) ?_
              refine lv_iload_n hx hb dX12_breaks_37 rfl (lv_at hl 1 rfl) ?_
              refine lv_imul hx hb dX12_breaks_38 ?_
              refine lv_topi (fun x64 e65 => ?_)
              have r66 : rg x64 0 70 := rg_mul e65 ((rg_k (by decide)) : rg 10 10 10) g10 (by decide)
              refine lv_iload_n hx hb dX12_breaks_39 rfl (lv_at hl 3 rfl) ?_
              refine lv_iadd hx hb dX12_breaks_40 ?_
              refine lv_topi (fun x67 e68 => ?_)
              have r69 : rg x67 0 79 := rg_add e68 r66 r26 (by decide)
              refine va_iald hx hb hK hP 17 16 atM_17 tyM_17 (in_rg r69 (by decide)) dX12_breaks_41 ?_
              refine lv_topi (fun x70 e71 => ?_)
              refine lv_aload_n hx hb dX12_breaks_42 rfl (lv_at hl 0 rfl) ?_
              refine va_get (ci := 12) (v := .ref (ad 17)) (C := RX12) (T := TX12) (N := 57) hx hb hg inX12 hown hK hP 0 atM_0 rfl 27 (by decide) (hg _ mw_1135) (fun _ h9 => h9) rfl dX12_breaks_43 ?_
              refine lv_bipush (v := 10) hx hb dX12_breaks_46 (by decide) ?_
              refine lv_iload_n hx hb dX12_breaks_48 rfl (lv_at hl 2 rfl) ?_
              refine lv_imul hx hb dX12_breaks_49 ?_
              refine lv_topi (fun x72 e73 => ?_)
              have r74 : rg x72 0 70 := rg_mul e73 ((rg_k (by decide)) : rg 10 10 10) g17 (by decide)
              refine lv_iload_n hx hb dX12_breaks_50 rfl (lv_at hl 3 rfl) ?_
              refine lv_iadd hx hb dX12_breaks_51 ?_
              refine lv_topi (fun x75 e76 => ?_)
              have r77 : rg x75 0 79 := rg_add e76 r74 r26 (by decide)
              refine va_iald hx hb hK hP 17 16 atM_17 tyM_17 (in_rg r77 (by decide)) dX12_breaks_52 ?_
              refine lv_topi (fun x78 e79 => ?_)
              refine lv_iadd hx hb dX12_breaks_53 ?_
              refine lv_topi (fun x80 e81 => ?_)
              refine lv_bipush (v := 99) hx hb dX12_breaks_54 (by decide) ?_
              refine lv_icmp_le (tgt := 61) hx hb dX12_breaks_56 (by decide) (fun c82 => ?_) (fun c82 => ?_)
              · skip
                have r83 : rg x80 (-2147483648) 99 := rg_le1 (iE c82) ((rg_top _) : rg x80 (-2147483648) 2147483647) ((rg_k (by decide)) : rg 99 99 99)
                obtain ⟨x85, e86⟩ : ∃ y : Int32, y = a19 + 1 := ⟨_, rfl⟩
                have r87 : rg x85 1 10 := rg_add e86 r26 (rg_k (by decide) : rg 1 1 1) (by decide)
                refine lv_iinc (v := x85) (lv' := [(3, .int x85), (0, .ref (ad 0)), (1, .int p1), (2, .int p2)]) hx hb dX12_breaks_61 hl (k := 3) rfl (by rw [e86]; rfl) (by decide) rfl (fun ls hl => ?_)
                refine lv_goto (tgt := 25) hx hb dX12_breaks_64 (by decide) ?_
                exact ih25 (x85) (F21) (L21) (A21) (B21) H locs ls (by have h0 : (1 : Int32).toInt = 1 := rfl; have h1 := ti_addk e86 r26 (by decide); have h2 : rg x85 0 10 := (rg_w r87 (by decide)); unfold rg at h2; omega) (rg_w r87 (by decide)) hq i22 ⟨v23.1, brJ_step v23.1.1 v23.2.1 (g10 : rg p1 0 7) (g17 : rg p2 0 7) (r26 : rg a19 0 9) e65 e68 e71 e73 e76 e79 e81 (by have := (iE c82); have : (99 : Int32).toInt = 99 := rfl; omega) e86, v23.2.2⟩ hP hD hS (lv_sub hl [1, 2, 3, 0] rfl)
              · skip
                have r84 : rg x80 100 2147483647 := rg_lt2 (iNE c82) ((rg_k (by decide)) : rg 99 99 99) ((rg_top _) : rg x80 (-2147483648) 2147483647)
                refine lv_iconst (v := (-1)) hx hb dX12_breaks_59 (by decide) ?_
                exact hret ((-1)) (F21, L21, A21, B21) H locs 60 ls rfl dX12_breaks_60 hP hD hS ⟨hq, i22, v23.1⟩
        exact J25 _ (0) (F) (L) (A) (B) H locs ls (Nat.lt_succ_self _) (rg_k (by decide)) hq hI ⟨hLM, brJ_0, rfl⟩ hP hD hS (lv_sub hl [1, 2, 3, 0] rfl)
      · skip
        exact J21 (F) (L) (A) (B) H locs ls hq hI hLM hP hD hS (lv_sub hl [] rfl)
abbrev rm_X12_exchange_0 : Room := { frames := 0, cells := 0, slots := 0, locals := 0 }
set_option maxHeartbeats 4000000 in
set_option maxRecDepth 100000 in
theorem c_X12_exchange_0 (l : Launch) (D : va_G) (cA : Nat → ClassId) (sz : Nat) (ad : Nat → Nat) (F : Nat → Int32) (L : Nat → Int64) (A : Nat → Nat → Int32) (B : Nat → Nat → Int64)  (hT : typM F A) (hLM : LM F A) (hU : 1 ≤ (F 15).toInt) : Met l yX12_exchange (Cond.code yX12_exchange cX12_exchange 4 none :: GW) rm_X12_exchange_0 (mPc D classes (tysM cA) (wM cA ad F L A B) sz [.ref (ad 0)]) (mQv (S := SW) D classes (tysM cA) (wM cA ad F L A B) sz (wfM cA ad) (fun u => qM [10] [17, 27] F A u.1 u.2.2.1 ∧ (LM u.1 u.2.2.1))) 0 0 (va_A (wM cA ad F L A B) sz) := by
  refine met_v (own := "ShoeingDayModel") (by decide +kernel) rfl (Nat.le_of_ble_eq_true rfl) ?_
  intro p e s m args below meth c Q Af ls hC hP hD hS hA hl hret
  have hx := hC.1
  have hb := hC.2.1
  have hown := hC.2.2.2.1
  have hg := hC.g
  have hK := hC.K
  have hl : lv_has ls 4 [(0, .ref (ad 0))] := hl
  have hq : qM [10] [17, 27] F A F A := qM.rf hT
  obtain ⟨H, hH⟩ : ∃ H, H = s.heap := ⟨_, rfl⟩
  have hP : va_P D classes (wM cA ad F L A B) H := by rw [hH]; exact hP
  have hS : va_S Af s.heap H [] := by rw [hH]; exact hS
  obtain ⟨locs, hlo⟩ : ∃ q : List Loc, q = [] := ⟨_, rfl⟩
  rw [← hH, ← hlo]
  rw [← hlo] at hS
  refine lv_bipush (v := 81) hx hb dX12_exchange_0 (by decide) ?_
  refine lv_aload_n hx hb dX12_exchange_2 rfl (lv_at hl 0 rfl) ?_
  refine va_get (ci := 12) (v := .int (F 14)) (C := RX12) (T := TX12) (N := 57) hx hb hg inX12 hown hK hP 0 atM_0 rfl 42 (by decide) (hg _ mw_1150) (fun _ h9 => h9) rfl dX12_exchange_3 ?_
  refine lv_topi (fun x1 e2 => ?_)
  have r3 : rg x1 0 40 := rg_e e2 (hq.1.1 14)
  refine lv_imul hx hb dX12_exchange_6 ?_
  refine lv_topi (fun x4 e5 => ?_)
  have r6 : rg x4 0 3240 := rg_mul e5 ((rg_k (by decide)) : rg 81 81 81) r3 (by decide)
  refine lv_istore_n (lv' := [(1, .int x4), (0, .ref (ad 0))]) hx hb dX12_exchange_7 rfl hl (by decide) rfl (fun ls hl => ?_)
  refine lv_iconst (v := 0) hx hb dX12_exchange_8 (by decide) ?_
  refine lv_istore_n (lv' := [(2, .int 0), (1, .int x4), (0, .ref (ad 0))]) hx hb dX12_exchange_9 rfl hl (by decide) rfl (fun ls hl => ?_)
  have J10 : ∀ (n10 : Nat) (a7 : Int32) (F9 : Nat → Int32) (L9 : Nat → Int64) (A9 : Nat → Nat → Int32) (B9 : Nat → Nat → Int64) (H : Heap) (locs : List Loc) (ls : Array Slot), (80 - a7.toInt).toNat < n10 → rg a7 0 80 → qM [10] [17, 27] F A F9 A9 → (exI (sN F A) (hN F A) (A9 17) (A9 27) ((F 14).toInt + (F 15).toInt)) → va_P D classes (wM cA ad F9 L9 A9 B9) H → va_D Af (wM cA ad F9 L9 A9 B9) → va_S Af s.heap H locs → lv_has ls 4 [(0, .ref (ad 0)), (1, .int x4), (2, .int a7)] → W p l e rm_X12_exchange_0 s m args below meth c H locs 0 0 Q (F0 m 10 ls []) := by
    intro n10
    induction n10 with
    | zero =>
      intro _ _ _ _ _ _ _ _ hn
      exact absurd hn (Nat.not_lt_zero _)
    | succ n10 ih10 =>
      intro a7 F9 L9 A9 B9 H locs ls hn10 r8 hq v10 hP hD hS hl
      refine lv_iload_n hx hb dX12_exchange_10 rfl (lv_at hl 2 rfl) ?_
      refine lv_bipush (v := 80) hx hb dX12_exchange_11 (by decide) ?_
      refine lv_icmp_ge (tgt := 52) hx hb dX12_exchange_13 (by decide) (fun c11 => ?_) (fun c11 => ?_)
      · skip
        have r12 : rg a7 80 80 := rg_le2 (iE c11) ((rg_k (by decide)) : rg 80 80 80) (r8 : rg a7 0 80)
        refine lv_aload_n hx hb dX12_exchange_52 rfl (lv_at hl 0 rfl) ?_
        refine va_get (ci := 12) (v := .ref (ad 27)) (C := RX12) (T := TX12) (N := 57) hx hb hg inX12 hown hK hP 0 atM_0 rfl 41 (by decide) (hg _ mw_1149) (fun _ h9 => h9) rfl dX12_exchange_53 ?_
        refine lv_iload_n hx hb dX12_exchange_56 rfl (lv_at hl 1 rfl) ?_
        refine lv_bipush (v := 80) hx hb dX12_exchange_57 (by decide) ?_
        refine lv_iadd hx hb dX12_exchange_59 ?_
        refine lv_topi (fun x14 e15 => ?_)
        have r16 : rg x14 80 3320 := rg_add e15 r6 ((rg_k (by decide)) : rg 80 80 80) (by decide)
        refine va_iald hx hb hK hP 27 26 atM_27 tyM_27 (in_rg r16 (by decide)) dX12_exchange_60 ?_
        refine lv_topi (fun x17 e18 => ?_)
        refine lv_istore_n (lv' := [(2, .int x17), (0, .ref (ad 0)), (1, .int x4)]) hx hb dX12_exchange_61 rfl hl (by decide) rfl (fun ls hl => ?_)
        refine lv_aload_n hx hb dX12_exchange_62 rfl (lv_at hl 1 rfl) ?_
        refine va_get (ci := 12) (v := .ref (ad 27)) (C := RX12) (T := TX12) (N := 57) hx hb hg inX12 hown hK hP 0 atM_0 rfl 41 (by decide) (hg _ mw_1149) (fun _ h9 => h9) rfl dX12_exchange_63 ?_
        refine lv_iload_n hx hb dX12_exchange_66 rfl (lv_at hl 2 rfl) ?_
        refine lv_bipush (v := 80) hx hb dX12_exchange_67 (by decide) ?_
        refine lv_iadd hx hb dX12_exchange_69 ?_
        refine tope e15 ?_
        refine lv_aload_n hx hb dX12_exchange_70 rfl (lv_at hl 1 rfl) ?_
        refine va_get (ci := 12) (v := .int (F9 10)) (C := RX12) (T := TX12) (N := 57) hx hb hg inX12 hown hK hP 0 atM_0 rfl 28 (by decide) (hg _ mw_1136) (fun _ h9 => h9) rfl dX12_exchange_71 ?_
        refine lv_topi (fun x19 e20 => ?_)
        refine va_iast hx hb hK hP hD hS 27 26 atM_27 tyM_27 (in_rg r16 (by decide)) dX12_exchange_74 (fun H locs hP hD hS => ?_)
        have hq := hq.ast 27 (x14).toNatClampNeg (x := x19) (by decide) (rg_top _)
        rw [setM_27] at hP hD
        have k21 : x19 = (va_up A9 27 (upd (A9 27) (x14).toNatClampNeg x19)) 27 (x14).toNatClampNeg := (rdA).symm
        refine lv_aload_n hx hb dX12_exchange_75 rfl (lv_at hl 1 rfl) ?_
        refine lv_iload_n hx hb dX12_exchange_76 rfl (lv_at hl 0 rfl) ?_
        refine va_put (ci := 12) (v := .int x17) (ty := .int) (C := RX12) (T := TX12) (N := 57) hx hb hg inX12 tyX12 tyX12_ok nmX12 hown hK hP hD hS 0 atM_0 rfl 28 (by decide) (hg _ mw_1136) (fun _ h9 => h9) rfl (by decide +kernel) rfl rfl (Nat.le_of_ble_eq_true rfl) dX12_exchange_77 (fun H locs hP hD hS => ?_)
        have hq := hq.put 10 (x := x17) (by decide) (rg_top _)
        rw [setFM_10] at hP hD
        exact hret ((upd F9 10 x17), L9, (va_up A9 27 (upd (A9 27) (x14).toNatClampNeg x19)), B9) H locs 80 ls dX12_exchange_80 hP hD hS ⟨hq, (show LM (upd F9 10 x17) (va_up A9 27 (upd (A9 27) (x14).toNatClampNeg x19)) from LM.was hLM (hq.2.1 8 (by decide)) (hq.2.2 3 (by decide)) (hq.2.2 4 (by decide)) (hq.2.2 10 (by decide)) (hq.2.2 36 (by decide)) (hq.2.2 37 (by decide)) v10.1 (fun i hi => (ex_end v10 (r3 : rg x1 0 40) e5 e15).2 i (by rw [show (upd F9 10 x17) 14 = F 14 from hq.2.1 14 (by decide), show (upd F9 10 x17) 15 = F 15 from hq.2.1 15 (by decide)] at hi; exact hi)))⟩
      · skip
        have r13 : rg a7 0 79 := rg_lt1 (iNE c11) (r8 : rg a7 0 80) ((rg_k (by decide)) : rg 80 80 80)
        refine lv_aload_n hx hb dX12_exchange_16 rfl (lv_at hl 0 rfl) ?_
        refine va_get (ci := 12) (v := .ref (ad 27)) (C := RX12) (T := TX12) (N := 57) hx hb hg inX12 hown hK hP 0 atM_0 rfl 41 (by decide) (hg _ mw_1149) (fun _ h9 => h9) rfl dX12_exchange_17 ?_
        refine lv_iload_n hx hb dX12_exchange_20 rfl (lv_at hl 1 rfl) ?_
        refine lv_iload_n hx hb dX12_exchange_21 rfl (lv_at hl 2 rfl) ?_
        refine lv_iadd hx hb dX12_exchange_22 ?_
        refine lv_topi (fun x22 e23 => ?_)
        have r24 : rg x22 0 3319 := rg_add e23 r6 r13 (by decide)
        refine va_iald hx hb hK hP 27 26 atM_27 tyM_27 (in_rg r24 (by decide)) dX12_exchange_23 ?_
        refine lv_topi (fun x25 e26 => ?_)
        refine lv_istore_n (lv' := [(3, .int x25), (0, .ref (ad 0)), (1, .int x4), (2, .int a7)]) hx hb dX12_exchange_24 rfl hl (by decide) rfl (fun ls hl => ?_)
        refine lv_aload_n hx hb dX12_exchange_25 rfl (lv_at hl 1 rfl) ?_
        refine va_get (ci := 12) (v := .ref (ad 27)) (C := RX12) (T := TX12) (N := 57) hx hb hg inX12 hown hK hP 0 atM_0 rfl 41 (by decide) (hg _ mw_1149) (fun _ h9 => h9) rfl dX12_exchange_26 ?_
        refine lv_iload_n hx hb dX12_exchange_29 rfl (lv_at hl 2 rfl) ?_
        refine lv_iload_n hx hb dX12_exchange_30 rfl (lv_at hl 3 rfl) ?_
        refine lv_iadd hx hb dX12_exchange_31 ?_
        refine tope e23 ?_
        refine lv_aload_n hx hb dX12_exchange_32 rfl (lv_at hl 1 rfl) ?_
        refine va_get (ci := 12) (v := .ref (ad 17)) (C := RX12) (T := TX12) (N := 57) hx hb hg inX12 hown hK hP 0 atM_0 rfl 27 (by decide) (hg _ mw_1135) (fun _ h9 => h9) rfl dX12_exchange_33 ?_
        refine lv_iload_n hx hb dX12_exchange_36 rfl (lv_at hl 3 rfl) ?_
        refine va_iald hx hb hK hP 17 16 atM_17 tyM_17 (in_rg r13 (by decide)) dX12_exchange_37 ?_
        refine lv_topi (fun x27 e28 => ?_)
        refine va_iast hx hb hK hP hD hS 27 26 atM_27 tyM_27 (in_rg r24 (by decide)) dX12_exchange_38 (fun H locs hP hD hS => ?_)
        have hq := hq.ast 27 (x22).toNatClampNeg (x := x27) (by decide) (rg_top _)
        rw [setM_27] at hP hD
        have k29 : x27 = (va_up A9 27 (upd (A9 27) (x22).toNatClampNeg x27)) 27 (x22).toNatClampNeg := (rdA).symm
        refine lv_aload_n hx hb dX12_exchange_39 rfl (lv_at hl 1 rfl) ?_
        refine va_get (ci := 12) (v := .ref (ad 17)) (C := RX12) (T := TX12) (N := 57) hx hb hg inX12 hown hK hP 0 atM_0 rfl 27 (by decide) (hg _ mw_1135) (fun _ h9 => h9) rfl dX12_exchange_40 ?_
        refine lv_iload_n hx hb dX12_exchange_43 rfl (lv_at hl 3 rfl) ?_
        refine lv_iload_n hx hb dX12_exchange_44 rfl (lv_at hl 0 rfl) ?_
        refine va_iast hx hb hK hP hD hS 17 16 atM_17 tyM_17 (in_rg r13 (by decide)) dX12_exchange_45 (fun H locs hP hD hS => ?_)
        have hq := hq.ast 17 (a7).toNatClampNeg (x := x25) (by decide) (rg_top _)
        rw [setM_17] at hP hD
        have k30 : x25 = (va_up (va_up A9 27 (upd (A9 27) (x22).toNatClampNeg x27)) 17 (upd ((va_up A9 27 (upd (A9 27) (x22).toNatClampNeg x27)) 17) (a7).toNatClampNeg x25)) 17 (a7).toNatClampNeg := (rdA).symm
        obtain ⟨x31, e32⟩ : ∃ y : Int32, y = a7 + 1 := ⟨_, rfl⟩
        have r33 : rg x31 1 80 := rg_add e32 r13 (rg_k (by decide) : rg 1 1 1) (by decide)
        refine lv_iinc (v := x31) (lv' := [(2, .int x31), (3, .int x25), (0, .ref (ad 0)), (1, .int x4)]) hx hb dX12_exchange_46 hl (k := 3) rfl (by rw [e32]; rfl) (by decide) rfl (fun ls hl => ?_)
        refine lv_goto (tgt := 10) hx hb dX12_exchange_49 (by decide) ?_
        exact ih10 (x31) (F9) (L9) ((va_up (va_up A9 27 (upd (A9 27) (x22).toNatClampNeg x27)) 17 (upd ((va_up A9 27 (upd (A9 27) (x22).toNatClampNeg x27)) 17) (a7).toNatClampNeg x25))) (B9) H locs ls (by have h0 : (1 : Int32).toInt = 1 := rfl; have h1 := ti_addk e32 r13 (by decide); have h2 : rg x31 0 80 := (rg_w r33 (by decide)); unfold rg at h2; omega) (rg_w r33 (by decide)) hq (ex_step v10 (r3 : rg x1 0 40) (by have := congrArg Int32.toInt e2; omega) (r13 : rg a7 0 79) e5 e23 e26 e28) hP hD hS (lv_sub hl [2, 3, 0] rfl)
  exact J10 _ (0) (F) (L) (A) (B) H locs ls (Nat.lt_succ_self _) (rg_k (by decide)) hq ⟨hLM.1, hLM.2.2.1⟩ hP hD hS (lv_sub hl [2, 1, 0] rfl)
abbrev rm_X12_undo_0 : Room := { frames := 1, cells := 0, slots := 0, locals := 23 }
set_option maxHeartbeats 4000000 in
set_option maxRecDepth 100000 in
theorem c_X12_undo_0 (l : Launch) (D : va_G) (cA : Nat → ClassId) (sz : Nat) (ad : Nat → Nat) (F : Nat → Int32) (L : Nat → Int64) (A : Nat → Nat → Int32) (B : Nat → Nat → Int64)  (hT : typM F A) (hI : xM F) (hLM : LM F A) : Met l yX12_undo (Cond.code yX12_undo cX12_undo 1 (some .boolean) :: GW) rm_X12_undo_0 (mPc D classes (tysM cA) (wM cA ad F L A B) sz [.ref (ad 0)]) (mQi (S := SW) D classes (tysM cA) (wM cA ad F L A B) sz (wfM cA ad) (fun r u => qM [10, 14, 15] [17, 27] F A u.1 u.2.2.1 ∧ xM u.1 ∧ rg r 0 1 ∧ (LM u.1 u.2.2.1))) 0 0 (va_A (wM cA ad F L A B) sz) := by
  refine met_i (own := "ShoeingDayModel") (by decide +kernel) rfl (Nat.le_of_ble_eq_true rfl) ?_
  intro p e s m args below meth c Q Af ls hC hP hD hS hA hl hret
  have hx := hC.1
  have hb := hC.2.1
  have hown := hC.2.2.2.1
  have hg := hC.g
  have hK := hC.K
  have hl : lv_has ls 1 [(0, .ref (ad 0))] := hl
  have hq : qM [10, 14, 15] [17, 27] F A F A := qM.rf hT
  obtain ⟨H, hH⟩ : ∃ H, H = s.heap := ⟨_, rfl⟩
  have hP : va_P D classes (wM cA ad F L A B) H := by rw [hH]; exact hP
  have hS : va_S Af s.heap H [] := by rw [hH]; exact hS
  obtain ⟨locs, hlo⟩ : ∃ q : List Loc, q = [] := ⟨_, rfl⟩
  rw [← hH, ← hlo]
  rw [← hlo] at hS
  refine lv_aload_n hx hb dX12_undo_0 rfl (lv_at hl 0 rfl) ?_
  refine va_get (ci := 12) (v := .int (F 14)) (C := RX12) (T := TX12) (N := 57) hx hb hg inX12 hown hK hP 0 atM_0 rfl 42 (by decide) (hg _ mw_1150) (fun _ h9 => h9) rfl dX12_undo_1 ?_
  refine lv_topi (fun x1 e2 => ?_)
  have r3 : rg x1 0 40 := rg_e e2 (hq.1.1 14)
  refine lv_if_ne (tgt := 9) hx hb dX12_undo_4 (by decide) (fun c4 => ?_) (fun c4 => ?_)
  · skip
    have r5 : rg x1 1 40 := (rg_ne1 c4 (r3 : rg x1 0 40) ((rg_k (by decide)) : rg 0 0 0)).1 rfl
    refine lv_aload_n hx hb dX12_undo_9 rfl (lv_at hl 0 rfl) ?_
    refine lv_dup hx hb dX12_undo_10 rfl ?_
    refine va_get (ci := 12) (v := .int x1) (C := RX12) (T := TX12) (N := 57) hx hb hg inX12 hown hK hP 0 atM_0 rfl 42 (by decide) (hg _ mw_1150) (fun _ h9 => h9) (congrArg (fun z => some (Value.int z)) (e2.symm)) dX12_undo_11 ?_
    refine lv_iconst (v := 1) hx hb dX12_undo_14 (by decide) ?_
    refine lv_isub hx hb dX12_undo_15 ?_
    refine lv_topi (fun x7 e8 => ?_)
    have r9 : rg x7 0 39 := rg_sub e8 r5 ((rg_k (by decide)) : rg 1 1 1) (by decide)
    refine va_put (ci := 12) (v := .int x7) (ty := .int) (C := RX12) (T := TX12) (N := 57) hx hb hg inX12 tyX12 tyX12_ok nmX12 hown hK hP hD hS 0 atM_0 rfl 42 (by decide) (hg _ mw_1150) (fun _ h9 => h9) rfl (by decide +kernel) rfl rfl (Nat.le_of_ble_eq_true rfl) dX12_undo_16 (fun H locs hP hD hS => ?_)
    have hq := hq.put 14 (x := x7) (by decide) (rg_w r9 (by decide))
    rw [setFM_14] at hP hD
    refine lv_aload_n hx hb dX12_undo_19 rfl (lv_at hl 0 rfl) ?_
    refine lv_dup hx hb dX12_undo_20 rfl ?_
    refine va_get (ci := 12) (v := .int (F 15)) (C := RX12) (T := TX12) (N := 57) hx hb hg inX12 hown hK hP 0 atM_0 rfl 43 (by decide) (hg _ mw_1151) (fun _ h9 => h9) rfl dX12_undo_21 ?_
    refine lv_topi (fun x10 e11 => ?_)
    have r12 : rg x10 0 39 := xM.u hI e2 r5 e11
    refine lv_iconst (v := 1) hx hb dX12_undo_24 (by decide) ?_
    refine lv_iadd hx hb dX12_undo_25 ?_
    refine lv_topi (fun x13 e14 => ?_)
    have r15 : rg x13 1 40 := rg_add e14 r12 ((rg_k (by decide)) : rg 1 1 1) (by decide)
    refine va_put (ci := 12) (v := .int x13) (ty := .int) (C := RX12) (T := TX12) (N := 57) hx hb hg inX12 tyX12 tyX12_ok nmX12 hown hK hP hD hS 0 atM_0 rfl 43 (by decide) (hg _ mw_1151) (fun _ h9 => h9) rfl (by decide +kernel) rfl rfl (Nat.le_of_ble_eq_true rfl) dX12_undo_26 (fun H locs hP hD hS => ?_)
    have hq := hq.put 15 (x := x13) (by decide) (rg_w r15 (by decide))
    rw [setFM_15] at hP hD
    refine lv_aload_n hx hb dX12_undo_29 rfl (lv_at hl 0 rfl) ?_
    refine callv_v (As := []) (rest := []) hC (c_X12_exchange_0 l D cA H.size ad (upd (upd F 14 x7) 15 x13) L A B  hq.1 (LM.sum hLM rfl (show x7.toInt + x13.toInt = (F 14).toInt + (F 15).toInt by have := tiS e8 (r5 : rg x1 1 40) (rg_k (by decide) : rg 1 1 1) (by decide); have := tiA e14 (r12 : rg x10 0 39) (rg_k (by decide) : rg 1 1 1) (by decide); have : (1 : Int32).toInt = 1 := rfl; have := congrArg Int32.toInt e2; have := congrArg Int32.toInt e11; omega)) (show 1 ≤ x13.toInt by have := tiA e14 (r12 : rg x10 0 39) (rg_k (by decide) : rg 1 1 1) (by decide); have : (1 : Int32).toInt = 1 := rfl; have := (r12 : rg x10 0 39).1; omega)) (cwV 0 hg (g_V mw_1528 mw_1525 mw_1527 ms_88 mw_20) rfl rfl rfl (by decide +kernel) ⟨(Nat.le_of_ble_eq_true rfl), (Nat.le_of_ble_eq_true rfl)⟩) hP hD hS hA atM_0 rfl rfl hl.1 rfl (Nat.le_of_ble_eq_true rfl) dX12_undo_30 ⟨Nat.zero_le _, Nat.zero_le _⟩ (fun  u H locs hw hP hD hS => ?_)
    obtain ⟨F16, L16, A16, B16⟩ := u
    try dsimp only at hw
    obtain ⟨hq16, g17⟩ := hw
    have hq := hq.call hq16 (by decide)
    have hP : va_P D classes (wM cA ad F16 L16 A16 B16) H := hP
    have hD : va_D Af (wM cA ad F16 L16 A16 B16) := hD
    refine lv_iconst (v := 1) hx hb dX12_undo_33 (by decide) ?_
    exact hret (1) (F16, L16, A16, B16) H locs 34 ls rfl dX12_undo_34 hP hD hS ⟨hq, (xM.of (a := x7) (b := x13) ((hq16.2.1 14 (by decide)).trans (rfl)) ((hq16.2.1 15 (by decide)).trans (rfl)) (xM.tb hI e2 e11 e8 r5 e14 r12)), (rg_k (by decide)), g17⟩
  · skip
    have r6 : rg x1 0 0 := rg_eq1 c4 (r3 : rg x1 0 40) ((rg_k (by decide)) : rg 0 0 0) (by decide)
    refine lv_iconst (v := 0) hx hb dX12_undo_7 (by decide) ?_
    exact hret (0) (F, L, A, B) H locs 8 ls rfl dX12_undo_8 hP hD hS ⟨hq, hI, (rg_k (by decide)), (show LM F A from hLM)⟩
abbrev rm_X12_redo_0 : Room := { frames := 1, cells := 0, slots := 0, locals := 23 }
set_option maxHeartbeats 4000000 in
set_option maxRecDepth 100000 in
theorem c_X12_redo_0 (l : Launch) (D : va_G) (cA : Nat → ClassId) (sz : Nat) (ad : Nat → Nat) (F : Nat → Int32) (L : Nat → Int64) (A : Nat → Nat → Int32) (B : Nat → Nat → Int64)  (hT : typM F A) (hI : xM F) (hLM : LM F A) : Met l yX12_redo (Cond.code yX12_redo cX12_redo 1 (some .boolean) :: GW) rm_X12_redo_0 (mPc D classes (tysM cA) (wM cA ad F L A B) sz [.ref (ad 0)]) (mQi (S := SW) D classes (tysM cA) (wM cA ad F L A B) sz (wfM cA ad) (fun r u => qM [10, 14, 15] [17, 27] F A u.1 u.2.2.1 ∧ xM u.1 ∧ rg r 0 1 ∧ (LM u.1 u.2.2.1))) 0 0 (va_A (wM cA ad F L A B) sz) := by
  refine met_i (own := "ShoeingDayModel") (by decide +kernel) rfl (Nat.le_of_ble_eq_true rfl) ?_
  intro p e s m args below meth c Q Af ls hC hP hD hS hA hl hret
  have hx := hC.1
  have hb := hC.2.1
  have hown := hC.2.2.2.1
  have hg := hC.g
  have hK := hC.K
  have hl : lv_has ls 1 [(0, .ref (ad 0))] := hl
  have hq : qM [10, 14, 15] [17, 27] F A F A := qM.rf hT
  obtain ⟨H, hH⟩ : ∃ H, H = s.heap := ⟨_, rfl⟩
  have hP : va_P D classes (wM cA ad F L A B) H := by rw [hH]; exact hP
  have hS : va_S Af s.heap H [] := by rw [hH]; exact hS
  obtain ⟨locs, hlo⟩ : ∃ q : List Loc, q = [] := ⟨_, rfl⟩
  rw [← hH, ← hlo]
  rw [← hlo] at hS
  refine lv_aload_n hx hb dX12_redo_0 rfl (lv_at hl 0 rfl) ?_
  refine va_get (ci := 12) (v := .int (F 15)) (C := RX12) (T := TX12) (N := 57) hx hb hg inX12 hown hK hP 0 atM_0 rfl 43 (by decide) (hg _ mw_1151) (fun _ h9 => h9) rfl dX12_redo_1 ?_
  refine lv_topi (fun x1 e2 => ?_)
  have r3 : rg x1 0 40 := rg_e e2 (hq.1.1 15)
  refine lv_if_ne (tgt := 9) hx hb dX12_redo_4 (by decide) (fun c4 => ?_) (fun c4 => ?_)
  · skip
    have r5 : rg x1 1 40 := (rg_ne1 c4 (r3 : rg x1 0 40) ((rg_k (by decide)) : rg 0 0 0)).1 rfl
    refine lv_aload_n hx hb dX12_redo_9 rfl (lv_at hl 0 rfl) ?_
    refine callv_v (As := []) (rest := []) hC (c_X12_exchange_0 l D cA H.size ad F L A B  hq.1 hLM (by have := congrArg Int32.toInt e2; have := (r5 : rg x1 1 40).1; omega)) (cwV 0 hg (g_V mw_1528 mw_1525 mw_1527 ms_88 mw_20) rfl rfl rfl (by decide +kernel) ⟨(Nat.le_of_ble_eq_true rfl), (Nat.le_of_ble_eq_true rfl)⟩) hP hD hS hA atM_0 rfl rfl hl.1 rfl (Nat.le_of_ble_eq_true rfl) dX12_redo_10 ⟨Nat.zero_le _, Nat.zero_le _⟩ (fun  u H locs hw hP hD hS => ?_)
    obtain ⟨F7, L7, A7, B7⟩ := u
    try dsimp only at hw
    obtain ⟨hq7, g8⟩ := hw
    have hq := hq.call hq7 (by decide)
    have hP : va_P D classes (wM cA ad F7 L7 A7 B7) H := hP
    have hD : va_D Af (wM cA ad F7 L7 A7 B7) := hD
    refine lv_aload_n hx hb dX12_redo_13 rfl (lv_at hl 0 rfl) ?_
    refine lv_dup hx hb dX12_redo_14 rfl ?_
    refine va_get (ci := 12) (v := .int (F7 14)) (C := RX12) (T := TX12) (N := 57) hx hb hg inX12 hown hK hP 0 atM_0 rfl 42 (by decide) (hg _ mw_1150) (fun _ h9 => h9) rfl dX12_redo_15 ?_
    refine lv_topi (fun x9 e10 => ?_)
    have r11 : rg x9 0 39 := xM.d (xM.fr hI (hq7.2.1 14 (by decide)) (hq7.2.1 15 (by decide))) ((hq7.2.1 15 (by decide)).trans (e2.symm)).symm r5 e10
    refine lv_iconst (v := 1) hx hb dX12_redo_18 (by decide) ?_
    refine lv_iadd hx hb dX12_redo_19 ?_
    refine lv_topi (fun x12 e13 => ?_)
    have r14 : rg x12 1 40 := rg_add e13 r11 ((rg_k (by decide)) : rg 1 1 1) (by decide)
    refine va_put (ci := 12) (v := .int x12) (ty := .int) (C := RX12) (T := TX12) (N := 57) hx hb hg inX12 tyX12 tyX12_ok nmX12 hown hK hP hD hS 0 atM_0 rfl 42 (by decide) (hg _ mw_1150) (fun _ h9 => h9) rfl (by decide +kernel) rfl rfl (Nat.le_of_ble_eq_true rfl) dX12_redo_20 (fun H locs hP hD hS => ?_)
    have hq := hq.put 14 (x := x12) (by decide) (rg_w r14 (by decide))
    rw [setFM_14] at hP hD
    refine lv_aload_n hx hb dX12_redo_23 rfl (lv_at hl 0 rfl) ?_
    refine lv_dup hx hb dX12_redo_24 rfl ?_
    refine va_get (ci := 12) (v := .int x1) (C := RX12) (T := TX12) (N := 57) hx hb hg inX12 hown hK hP 0 atM_0 rfl 43 (by decide) (hg _ mw_1151) (fun _ h9 => h9) (congrArg (fun z => some (Value.int z)) ((hq7.2.1 15 (by decide)).trans (e2.symm))) dX12_redo_25 ?_
    refine lv_iconst (v := 1) hx hb dX12_redo_28 (by decide) ?_
    refine lv_isub hx hb dX12_redo_29 ?_
    refine lv_topi (fun x15 e16 => ?_)
    have r17 : rg x15 0 39 := rg_sub e16 r5 ((rg_k (by decide)) : rg 1 1 1) (by decide)
    refine va_put (ci := 12) (v := .int x15) (ty := .int) (C := RX12) (T := TX12) (N := 57) hx hb hg inX12 tyX12 tyX12_ok nmX12 hown hK hP hD hS 0 atM_0 rfl 43 (by decide) (hg _ mw_1151) (fun _ h9 => h9) rfl (by decide +kernel) rfl rfl (Nat.le_of_ble_eq_true rfl) dX12_redo_30 (fun H locs hP hD hS => ?_)
    have hq := hq.put 15 (x := x15) (by decide) (rg_w r17 (by decide))
    rw [setFM_15] at hP hD
    refine lv_iconst (v := 1) hx hb dX12_redo_33 (by decide) ?_
    exact hret (1) ((upd (upd F7 14 x12) 15 x15), L7, A7, B7) H locs 34 ls rfl dX12_redo_34 hP hD hS ⟨hq, (xM.of (a := x12) (b := x15) (rfl) (rfl) (xM.da hI (e10.trans (hq7.2.1 14 (by decide))) e2 e13 r11 e16 r5)), (rg_k (by decide)), (show LM (upd (upd F7 14 x12) 15 x15) A7 from LM.sum g8 rfl (show x12.toInt + x15.toInt = (F7 14).toInt + (F7 15).toInt by have := tiA e13 (r11 : rg x9 0 39) (rg_k (by decide) : rg 1 1 1) (by decide); have := tiS e16 (r5 : rg x1 1 40) (rg_k (by decide) : rg 1 1 1) (by decide); have : (1 : Int32).toInt = 1 := rfl; have := congrArg Int32.toInt e10; have := congrArg Int32.toInt (show F7 15 = x1 from (hq7.2.1 15 (by decide)).trans (e2.symm)); omega))⟩
  · skip
    have r6 : rg x1 0 0 := rg_eq1 c4 (r3 : rg x1 0 40) ((rg_k (by decide)) : rg 0 0 0) (by decide)
    refine lv_iconst (v := 0) hx hb dX12_redo_7 (by decide) ?_
    exact hret (0) (F, L, A, B) H locs 8 ls rfl dX12_redo_8 hP hD hS ⟨hq, hI, (rg_k (by decide)), (show LM F A from hLM)⟩
abbrev rm_X12_round_0 : Room := { frames := 1, cells := 0, slots := 0, locals := 22 }
set_option maxHeartbeats 4000000 in
set_option maxRecDepth 100000 in
theorem c_X12_round_0 (l : Launch) (D : va_G) (cA : Nat → ClassId) (sz : Nat) (ad : Nat → Nat) (F : Nat → Int32) (L : Nat → Int64) (A : Nat → Nat → Int32) (B : Nat → Nat → Int64) (p1 : Int32) (hT : typM F A) : Met l yX12_round (Cond.code yX12_round cX12_round 2 (some .int) :: GW) rm_X12_round_0 (mPc D classes (tysM cA) (wM cA ad F L A B) sz [.ref (ad 0), .int p1]) (mQi (S := SW) D classes (tysM cA) (wM cA ad F L A B) sz (wfM cA ad) (fun r u => qM [16] [28, 29] F A u.1 u.2.2.1 ∧ rg r (-1) 11)) 0 0 (va_A (wM cA ad F L A B) sz) := by
  refine met_i (own := "ShoeingDayModel") (by decide +kernel) rfl (Nat.le_of_ble_eq_true rfl) ?_
  intro p e s m args below meth c Q Af ls hC hP hD hS hA hl hret
  have hx := hC.1
  have hb := hC.2.1
  have hown := hC.2.2.2.1
  have hg := hC.g
  have hK := hC.K
  have hl : lv_has ls 2 [(0, .ref (ad 0)), (1, .int p1)] := hl
  have hq : qM [16] [28, 29] F A F A := qM.rf hT
  obtain ⟨H, hH⟩ : ∃ H, H = s.heap := ⟨_, rfl⟩
  have hP : va_P D classes (wM cA ad F L A B) H := by rw [hH]; exact hP
  have hS : va_S Af s.heap H [] := by rw [hH]; exact hS
  obtain ⟨locs, hlo⟩ : ∃ q : List Loc, q = [] := ⟨_, rfl⟩
  rw [← hH, ← hlo]
  rw [← hlo] at hS
  refine lv_iload_n hx hb dX12_round_0 rfl (lv_at hl 1 rfl) ?_
  refine lv_iconst (v := 1) hx hb dX12_round_1 (by decide) ?_
  refine lv_bipush (v := 99) hx hb dX12_round_2 (by decide) ?_
  refine calls_i (As := [.int p1, .int 1, .int 99]) (rest := []) hC (c_X12_isIn l D (tysM cA) (wM cA ad F L A B) H.size (p1) (1) (99) (rg_k (by decide)) (rg_k (by decide))) (cwS 3 hg (g_S mw_1391 mw_1389 mw_1390 mw_20) rfl rfl rfl (by decide +kernel) ⟨(Nat.le_of_ble_eq_true rfl), (Nat.le_of_ble_eq_true rfl)⟩) hP hD hS hA rfl hl.1 rfl (Nat.le_of_ble_eq_true rfl) dX12_round_4 ⟨Nat.zero_le _, Nat.zero_le _⟩ (fun x1 u H locs hw hP hD hS => ?_)
  obtain ⟨r2, g3, g4⟩ := hw
  have hP : va_P D classes (wM cA ad F L A B) H := hP
  have hD : va_D Af (wM cA ad F L A B) := hD
  have J19 : ∀ (F5 : Nat → Int32) (L5 : Nat → Int64) (A5 : Nat → Nat → Int32) (B5 : Nat → Nat → Int64) (H : Heap) (locs : List Loc) (ls : Array Slot), qM [16] [28, 29] F A F5 A5 → va_P D classes (wM cA ad F5 L5 A5 B5) H → va_D Af (wM cA ad F5 L5 A5 B5) → va_S Af s.heap H locs → lv_has ls 2 [] → W p l e rm_X12_round_0 s m args below meth c H locs 0 0 Q (F0 m 19 ls []) := by
    intro F5 L5 A5 B5 H locs ls hq hP hD hS hl
    refine lv_iconst (v := (-1)) hx hb dX12_round_19 (by decide) ?_
    exact hret ((-1)) (F5, L5, A5, B5) H locs 20 ls rfl dX12_round_20 hP hD hS ⟨hq, (rg_k (by decide))⟩
  refine lv_if_eq (tgt := 19) hx hb dX12_round_7 (by decide) (fun c6 => ?_) (fun c6 => ?_)
  · skip
    have r7 : rg x1 0 0 := rg_eq1 c6 (r2 : rg x1 0 1) ((rg_k (by decide)) : rg 0 0 0) (by decide)
    exact J19 (F) (L) (A) (B) H locs ls hq hP hD hS (lv_sub hl [] rfl)
  · skip
    have g8 := g3.resolve_left c6
    have r9 : rg p1 1 2147483647 := rg_le2 g8.1 ((rg_k (by decide)) : rg 1 1 1) ((rg_top _) : rg p1 (-2147483648) 2147483647)
    have r10 : rg p1 1 99 := rg_le1 g8.2 (r9 : rg p1 1 2147483647) ((rg_k (by decide)) : rg 99 99 99)
    refine lv_aload_n hx hb dX12_round_10 rfl (lv_at hl 0 rfl) ?_
    refine va_get (ci := 12) (v := .int (F 16)) (C := RX12) (T := TX12) (N := 57) hx hb hg inX12 hown hK hP 0 atM_0 rfl 47 (by decide) (hg _ mw_1155) (fun _ h9 => h9) rfl dX12_round_11 ?_
    refine lv_topi (fun x11 e12 => ?_)
    have r13 : rg x11 0 12 := rg_e e12 (hq.1.1 16)
    refine lv_bipush (v := 12) hx hb dX12_round_14 (by decide) ?_
    refine lv_icmp_ne (tgt := 21) hx hb dX12_round_16 (by decide) (fun c14 => ?_) (fun c14 => ?_)
    · skip
      have r15 : rg x11 0 11 := (rg_ne1 c14 (r13 : rg x11 0 12) ((rg_k (by decide)) : rg 12 12 12)).2 rfl
      refine lv_aload_n hx hb dX12_round_21 rfl (lv_at hl 0 rfl) ?_
      refine va_get (ci := 12) (v := .ref (ad 28)) (C := RX12) (T := TX12) (N := 57) hx hb hg inX12 hown hK hP 0 atM_0 rfl 44 (by decide) (hg _ mw_1152) (fun _ h9 => h9) rfl dX12_round_22 ?_
      refine lv_aload_n hx hb dX12_round_25 rfl (lv_at hl 0 rfl) ?_
      refine va_get (ci := 12) (v := .int x11) (C := RX12) (T := TX12) (N := 57) hx hb hg inX12 hown hK hP 0 atM_0 rfl 47 (by decide) (hg _ mw_1155) (fun _ h9 => h9) (congrArg (fun z => some (Value.int z)) (e12.symm)) dX12_round_26 ?_
      refine lv_iload_n hx hb dX12_round_29 rfl (lv_at hl 1 rfl) ?_
      refine va_iast hx hb hK hP hD hS 28 27 atM_28 tyM_28 (in_rg r15 (by decide)) dX12_round_30 (fun H locs hP hD hS => ?_)
      have hq := hq.ast 28 (x11).toNatClampNeg (x := p1) (by decide) (rg_top _)
      rw [setM_28] at hP hD
      have k17 : p1 = (va_up A 28 (upd (A 28) (x11).toNatClampNeg p1)) 28 (x11).toNatClampNeg := (rdA).symm
      refine lv_aload_n hx hb dX12_round_31 rfl (lv_at hl 0 rfl) ?_
      refine va_get (ci := 12) (v := .ref (ad 29)) (C := RX12) (T := TX12) (N := 57) hx hb hg inX12 hown hK hP 0 atM_0 rfl 45 (by decide) (hg _ mw_1153) (fun _ h9 => h9) rfl dX12_round_32 ?_
      refine lv_aload_n hx hb dX12_round_35 rfl (lv_at hl 0 rfl) ?_
      refine va_get (ci := 12) (v := .int x11) (C := RX12) (T := TX12) (N := 57) hx hb hg inX12 hown hK hP 0 atM_0 rfl 47 (by decide) (hg _ mw_1155) (fun _ h9 => h9) (congrArg (fun z => some (Value.int z)) (e12.symm)) dX12_round_36 ?_
      refine lv_iconst (v := 0) hx hb dX12_round_39 (by decide) ?_
      refine va_iast hx hb hK hP hD hS 29 28 atM_29 tyM_29 (in_rg r15 (by decide)) dX12_round_40 (fun H locs hP hD hS => ?_)
      have hq := hq.ast 29 (x11).toNatClampNeg (x := 0) (by decide) (rg_k (by decide))
      rw [setM_29] at hP hD
      have k18 : (0 : Int32) = (va_up (va_up A 28 (upd (A 28) (x11).toNatClampNeg p1)) 29 (upd ((va_up A 28 (upd (A 28) (x11).toNatClampNeg p1)) 29) (x11).toNatClampNeg 0)) 29 (x11).toNatClampNeg := (rdA).symm
      refine lv_aload_n hx hb dX12_round_41 rfl (lv_at hl 0 rfl) ?_
      refine lv_dup hx hb dX12_round_42 rfl ?_
      refine va_get (ci := 12) (v := .int x11) (C := RX12) (T := TX12) (N := 57) hx hb hg inX12 hown hK hP 0 atM_0 rfl 47 (by decide) (hg _ mw_1155) (fun _ h9 => h9) (congrArg (fun z => some (Value.int z)) (e12.symm)) dX12_round_43 ?_
      refine lv_iconst (v := 1) hx hb dX12_round_46 (by decide) ?_
      refine lv_iadd hx hb dX12_round_47 ?_
      refine lv_topi (fun x19 e20 => ?_)
      have r21 : rg x19 1 12 := rg_add e20 r15 ((rg_k (by decide)) : rg 1 1 1) (by decide)
      refine va_put (ci := 12) (v := .int x19) (ty := .int) (C := RX12) (T := TX12) (N := 57) hx hb hg inX12 tyX12 tyX12_ok nmX12 hown hK hP hD hS 0 atM_0 rfl 47 (by decide) (hg _ mw_1155) (fun _ h9 => h9) rfl (by decide +kernel) rfl rfl (Nat.le_of_ble_eq_true rfl) dX12_round_48 (fun H locs hP hD hS => ?_)
      have hq := hq.put 16 (x := x19) (by decide) (rg_w r21 (by decide))
      rw [setFM_16] at hP hD
      refine lv_aload_n hx hb dX12_round_51 rfl (lv_at hl 0 rfl) ?_
      refine va_get (ci := 12) (v := .int x19) (C := RX12) (T := TX12) (N := 57) hx hb hg inX12 hown hK hP 0 atM_0 rfl 47 (by decide) (hg _ mw_1155) (fun _ h9 => h9) (congrArg (fun z => some (Value.int z)) (rfl)) dX12_round_52 ?_
      refine lv_iconst (v := 1) hx hb dX12_round_55 (by decide) ?_
      refine lv_isub hx hb dX12_round_56 ?_
      refine lv_topi (fun x22 e23 => ?_)
      have r24 : rg x22 0 11 := rg_sub e23 r21 ((rg_k (by decide)) : rg 1 1 1) (by decide)
      exact hret (x22) ((upd F 16 x19), L, (va_up (va_up A 28 (upd (A 28) (x11).toNatClampNeg p1)) 29 (upd ((va_up A 28 (upd (A 28) (x11).toNatClampNeg p1)) 29) (x11).toNatClampNeg 0)), B) H locs 57 ls rfl dX12_round_57 hP hD hS ⟨hq, (rg_w r24 (by decide))⟩
    · skip
      have r16 : rg x11 12 12 := rg_eq1 c14 (r13 : rg x11 0 12) ((rg_k (by decide)) : rg 12 12 12) (by decide)
      exact J19 (F) (L) (A) (B) H locs ls hq hP hD hS (lv_sub hl [] rfl)
abbrev rm_X12_pair_0 : Room := { frames := 2, cells := 0, slots := 0, locals := 43 }
set_option maxHeartbeats 4000000 in
set_option maxRecDepth 100000 in
theorem c_X12_pair_0 (l : Launch) (D : va_G) (cA : Nat → ClassId) (sz : Nat) (ad : Nat → Nat) (F : Nat → Int32) (L : Nat → Int64) (A : Nat → Nat → Int32) (B : Nat → Nat → Int64) (p1 : Int32) (p2 : Int32) (hT : typM F A) : Met l yX12_pair (Cond.code yX12_pair cX12_pair 4 (some .int) :: GW) rm_X12_pair_0 (mPc D classes (tysM cA) (wM cA ad F L A B) sz [.ref (ad 0), .int p1, .int p2]) (mQi (S := SW) D classes (tysM cA) (wM cA ad F L A B) sz (wfM cA ad) (fun r u => qM [] [29, 30] F A u.1 u.2.2.1 ∧ rg r (-1) 10)) 0 0 (va_A (wM cA ad F L A B) sz) := by
  refine met_i (own := "ShoeingDayModel") (by decide +kernel) rfl (Nat.le_of_ble_eq_true rfl) ?_
  intro p e s m args below meth c Q Af ls hC hP hD hS hA hl hret
  have hx := hC.1
  have hb := hC.2.1
  have hown := hC.2.2.2.1
  have hg := hC.g
  have hK := hC.K
  have hl : lv_has ls 4 [(0, .ref (ad 0)), (1, .int p1), (2, .int p2)] := hl
  have hq : qM [] [29, 30] F A F A := qM.rf hT
  obtain ⟨H, hH⟩ : ∃ H, H = s.heap := ⟨_, rfl⟩
  have hP : va_P D classes (wM cA ad F L A B) H := by rw [hH]; exact hP
  have hS : va_S Af s.heap H [] := by rw [hH]; exact hS
  obtain ⟨locs, hlo⟩ : ∃ q : List Loc, q = [] := ⟨_, rfl⟩
  rw [← hH, ← hlo]
  rw [← hlo] at hS
  refine lv_aload_n hx hb dX12_pair_0 rfl (lv_at hl 0 rfl) ?_
  refine lv_iload_n hx hb dX12_pair_1 rfl (lv_at hl 1 rfl) ?_
  refine callv_i (As := [.int p1]) (rest := []) hC (c_X12_isSmith_0 l D cA H.size ad F L A B (p1) hq.1) (cwV 1 hg (g_V mw_1384 mw_1381 mw_1383 ms_66 mw_20) rfl rfl rfl (by decide +kernel) ⟨(Nat.le_of_ble_eq_true rfl), (Nat.le_of_ble_eq_true rfl)⟩) hP hD hS hA atM_0 rfl rfl hl.1 rfl (Nat.le_of_ble_eq_true rfl) dX12_pair_2 ⟨Nat.zero_le _, Nat.zero_le _⟩ (fun x1 u H locs hw hP hD hS => ?_)
  obtain ⟨r2, g3, g4⟩ := hw
  have hP : va_P D classes (wM cA ad F L A B) H := hP
  have hD : va_D Af (wM cA ad F L A B) := hD
  have J39 : ∀ (F5 : Nat → Int32) (L5 : Nat → Int64) (A5 : Nat → Nat → Int32) (B5 : Nat → Nat → Int64) (H : Heap) (locs : List Loc) (ls : Array Slot), qM [] [29, 30] F A F5 A5 → va_P D classes (wM cA ad F5 L5 A5 B5) H → va_D Af (wM cA ad F5 L5 A5 B5) → va_S Af s.heap H locs → lv_has ls 4 [] → W p l e rm_X12_pair_0 s m args below meth c H locs 0 0 Q (F0 m 39 ls []) := by
    intro F5 L5 A5 B5 H locs ls hq hP hD hS hl
    refine lv_iconst (v := (-1)) hx hb dX12_pair_39 (by decide) ?_
    exact hret ((-1)) (F5, L5, A5, B5) H locs 40 ls rfl dX12_pair_40 hP hD hS ⟨hq, (rg_k (by decide))⟩
  refine lv_if_eq (tgt := 39) hx hb dX12_pair_5 (by decide) (fun c6 => ?_) (fun c6 => ?_)
  · skip
    have r7 : rg x1 0 0 := rg_eq1 c6 (r2 : rg x1 0 1) ((rg_k (by decide)) : rg 0 0 0) (by decide)
    exact J39 (F) (L) (A) (B) H locs ls hq hP hD hS (lv_sub hl [] rfl)
  · skip
    have g8 := g3.resolve_left c6
    refine lv_aload_n hx hb dX12_pair_8 rfl (lv_at hl 0 rfl) ?_
    refine lv_iload_n hx hb dX12_pair_9 rfl (lv_at hl 2 rfl) ?_
    refine callv_i (As := [.int p2]) (rest := []) hC (c_X12_isHorse_0 l D cA H.size ad F L A B (p2) hq.1) (cwV 1 hg (g_V mw_1395 mw_1392 mw_1394 ms_68 mw_20) rfl rfl rfl (by decide +kernel) ⟨(Nat.le_of_ble_eq_true rfl), (Nat.le_of_ble_eq_true rfl)⟩) hP hD hS hA atM_0 rfl rfl hl.1 rfl (Nat.le_of_ble_eq_true rfl) dX12_pair_10 ⟨Nat.zero_le _, Nat.zero_le _⟩ (fun x9 u H locs hw hP hD hS => ?_)
    obtain ⟨r10, g11, g12⟩ := hw
    have hP : va_P D classes (wM cA ad F L A B) H := hP
    have hD : va_D Af (wM cA ad F L A B) := hD
    refine lv_if_eq (tgt := 39) hx hb dX12_pair_13 (by decide) (fun c13 => ?_) (fun c13 => ?_)
    · skip
      have r14 : rg x9 0 0 := rg_eq1 c13 (r10 : rg x9 0 1) ((rg_k (by decide)) : rg 0 0 0) (by decide)
      exact J39 (F) (L) (A) (B) H locs ls hq hP hD hS (lv_sub hl [] rfl)
    · skip
      have g15 := g11.resolve_left c13
      refine lv_aload_n hx hb dX12_pair_16 rfl (lv_at hl 0 rfl) ?_
      refine va_get (ci := 12) (v := .int (F 16)) (C := RX12) (T := TX12) (N := 57) hx hb hg inX12 hown hK hP 0 atM_0 rfl 47 (by decide) (hg _ mw_1155) (fun _ h9 => h9) rfl dX12_pair_17 ?_
      refine lv_topi (fun x16 e17 => ?_)
      have r18 : rg x16 0 12 := rg_e e17 (hq.1.1 16)
      refine lv_if_eq (tgt := 39) hx hb dX12_pair_20 (by decide) (fun c19 => ?_) (fun c19 => ?_)
      · skip
        have r20 : rg x16 0 0 := rg_eq1 c19 (r18 : rg x16 0 12) ((rg_k (by decide)) : rg 0 0 0) (by decide)
        exact J39 (F) (L) (A) (B) H locs ls hq hP hD hS (lv_sub hl [] rfl)
      · skip
        have r21 : rg x16 1 12 := (rg_ne1 c19 (r18 : rg x16 0 12) ((rg_k (by decide)) : rg 0 0 0)).1 rfl
        refine lv_aload_n hx hb dX12_pair_23 rfl (lv_at hl 0 rfl) ?_
        refine va_get (ci := 12) (v := .ref (ad 29)) (C := RX12) (T := TX12) (N := 57) hx hb hg inX12 hown hK hP 0 atM_0 rfl 45 (by decide) (hg _ mw_1153) (fun _ h9 => h9) rfl dX12_pair_24 ?_
        refine lv_aload_n hx hb dX12_pair_27 rfl (lv_at hl 0 rfl) ?_
        refine va_get (ci := 12) (v := .int x16) (C := RX12) (T := TX12) (N := 57) hx hb hg inX12 hown hK hP 0 atM_0 rfl 47 (by decide) (hg _ mw_1155) (fun _ h9 => h9) (congrArg (fun z => some (Value.int z)) (e17.symm)) dX12_pair_28 ?_
        refine lv_iconst (v := 1) hx hb dX12_pair_31 (by decide) ?_
        refine lv_isub hx hb dX12_pair_32 ?_
        refine lv_topi (fun x22 e23 => ?_)
        have r24 : rg x22 0 11 := rg_sub e23 r21 ((rg_k (by decide)) : rg 1 1 1) (by decide)
        refine va_iald hx hb hK hP 29 28 atM_29 tyM_29 (in_rg r24 (by decide)) dX12_pair_33 ?_
        refine lv_topi (fun x25 e26 => ?_)
        have r27 : rg x25 0 10 := rg_e e26 (hq.1.2 29 _)
        refine lv_bipush (v := 10) hx hb dX12_pair_34 (by decide) ?_
        refine lv_icmp_ne (tgt := 41) hx hb dX12_pair_36 (by decide) (fun c28 => ?_) (fun c28 => ?_)
        · skip
          have r29 : rg x25 0 9 := (rg_ne1 c28 (r27 : rg x25 0 10) ((rg_k (by decide)) : rg 10 10 10)).2 rfl
          refine lv_aload_n hx hb dX12_pair_41 rfl (lv_at hl 0 rfl) ?_
          refine va_get (ci := 12) (v := .int x16) (C := RX12) (T := TX12) (N := 57) hx hb hg inX12 hown hK hP 0 atM_0 rfl 47 (by decide) (hg _ mw_1155) (fun _ h9 => h9) (congrArg (fun z => some (Value.int z)) (e17.symm)) dX12_pair_42 ?_
          refine lv_iconst (v := 1) hx hb dX12_pair_45 (by decide) ?_
          refine lv_isub hx hb dX12_pair_46 ?_
          refine tope e23 ?_
          refine lv_istore_n (lv' := [(3, .int x22), (0, .ref (ad 0)), (1, .int p1), (2, .int p2)]) hx hb dX12_pair_47 rfl hl (by decide) rfl (fun ls hl => ?_)
          refine lv_aload_n hx hb dX12_pair_48 rfl (lv_at hl 1 rfl) ?_
          refine va_get (ci := 12) (v := .ref (ad 30)) (C := RX12) (T := TX12) (N := 57) hx hb hg inX12 hown hK hP 0 atM_0 rfl 46 (by decide) (hg _ mw_1154) (fun _ h9 => h9) rfl dX12_pair_49 ?_
          refine lv_bipush (v := 10) hx hb dX12_pair_52 (by decide) ?_
          refine lv_iload_n hx hb dX12_pair_54 rfl (lv_at hl 0 rfl) ?_
          refine lv_imul hx hb dX12_pair_55 ?_
          refine lv_topi (fun x31 e32 => ?_)
          have r33 : rg x31 0 110 := rg_mul e32 ((rg_k (by decide)) : rg 10 10 10) r24 (by decide)
          refine lv_aload_n hx hb dX12_pair_56 rfl (lv_at hl 1 rfl) ?_
          refine va_get (ci := 12) (v := .ref (ad 29)) (C := RX12) (T := TX12) (N := 57) hx hb hg inX12 hown hK hP 0 atM_0 rfl 45 (by decide) (hg _ mw_1153) (fun _ h9 => h9) rfl dX12_pair_57 ?_
          refine lv_iload_n hx hb dX12_pair_60 rfl (lv_at hl 0 rfl) ?_
          refine va_iald hx hb hK hP 29 28 atM_29 tyM_29 (in_rg r24 (by decide)) dX12_pair_61 ?_
          refine tope (e26) ?_
          refine lv_iadd hx hb dX12_pair_62 ?_
          refine lv_topi (fun x34 e35 => ?_)
          have r36 : rg x34 0 119 := rg_add e35 r33 r29 (by decide)
          refine lv_bipush (v := 10) hx hb dX12_pair_63 (by decide) ?_
          refine lv_iload_n hx hb dX12_pair_65 rfl (lv_at hl 2 rfl) ?_
          refine lv_imul hx hb dX12_pair_66 ?_
          refine lv_topi (fun x37 e38 => ?_)
          have r39 : rg x37 0 70 := rg_mul e38 ((rg_k (by decide)) : rg 10 10 10) g8 (by decide)
          refine lv_iload_n hx hb dX12_pair_67 rfl (lv_at hl 3 rfl) ?_
          refine lv_iadd hx hb dX12_pair_68 ?_
          refine lv_topi (fun x40 e41 => ?_)
          have r42 : rg x40 0 79 := rg_add e41 r39 g15 (by decide)
          refine va_iast hx hb hK hP hD hS 30 29 atM_30 tyM_30 (in_rg r36 (by decide)) dX12_pair_69 (fun H locs hP hD hS => ?_)
          have hq := hq.ast 30 (x34).toNatClampNeg (x := x40) (by decide) r42
          rw [setM_30] at hP hD
          have k43 : x40 = (va_up A 30 (upd (A 30) (x34).toNatClampNeg x40)) 30 (x34).toNatClampNeg := (rdA).symm
          refine lv_aload_n hx hb dX12_pair_70 rfl (lv_at hl 1 rfl) ?_
          refine va_get (ci := 12) (v := .ref (ad 29)) (C := RX12) (T := TX12) (N := 57) hx hb hg inX12 hown hK hP 0 atM_0 rfl 45 (by decide) (hg _ mw_1153) (fun _ h9 => h9) rfl dX12_pair_71 ?_
          refine lv_iload_n hx hb dX12_pair_74 rfl (lv_at hl 0 rfl) ?_
          refine lv_dup2_11 hx hb dX12_pair_75 rfl rfl ?_
          refine va_iald hx hb hK hP 29 28 atM_29 tyM_29 (in_rg r24 (by decide)) dX12_pair_76 ?_
          refine tope (mv (by decide) (e26)) ?_
          refine lv_iconst (v := 1) hx hb dX12_pair_77 (by decide) ?_
          refine lv_iadd hx hb dX12_pair_78 ?_
          refine lv_topi (fun x44 e45 => ?_)
          have r46 : rg x44 1 10 := rg_add e45 r29 ((rg_k (by decide)) : rg 1 1 1) (by decide)
          refine va_iast hx hb hK hP hD hS 29 28 atM_29 tyM_29 (in_rg r24 (by decide)) dX12_pair_79 (fun H locs hP hD hS => ?_)
          have hq := hq.ast 29 (x22).toNatClampNeg (x := x44) (by decide) (rg_w r46 (by decide))
          rw [setM_29] at hP hD
          have k47 : x44 = (va_up (va_up A 30 (upd (A 30) (x34).toNatClampNeg x40)) 29 (upd ((va_up A 30 (upd (A 30) (x34).toNatClampNeg x40)) 29) (x22).toNatClampNeg x44)) 29 (x22).toNatClampNeg := (rdA).symm
          refine lv_aload_n hx hb dX12_pair_80 rfl (lv_at hl 1 rfl) ?_
          refine va_get (ci := 12) (v := .ref (ad 29)) (C := RX12) (T := TX12) (N := 57) hx hb hg inX12 hown hK hP 0 atM_0 rfl 45 (by decide) (hg _ mw_1153) (fun _ h9 => h9) rfl dX12_pair_81 ?_
          refine lv_iload_n hx hb dX12_pair_84 rfl (lv_at hl 0 rfl) ?_
          refine va_iald hx hb hK hP 29 28 atM_29 tyM_29 (in_rg r24 (by decide)) dX12_pair_85 ?_
          refine tope (k47) ?_
          exact hret (x44) (F, L, (va_up (va_up A 30 (upd (A 30) (x34).toNatClampNeg x40)) 29 (upd ((va_up A 30 (upd (A 30) (x34).toNatClampNeg x40)) 29) (x22).toNatClampNeg x44)), B) H locs 86 ls rfl dX12_pair_86 hP hD hS ⟨hq, (rg_w r46 (by decide))⟩
        · skip
          have r30 : rg x25 10 10 := rg_eq1 c28 (r27 : rg x25 0 10) ((rg_k (by decide)) : rg 10 10 10) (by decide)
          exact J39 (F) (L) (A) (B) H locs ls hq hP hD hS (lv_sub hl [] rfl)
abbrev rm_X12_hush_0 : Room := { frames := 0, cells := 0, slots := 0, locals := 0 }
set_option maxHeartbeats 4000000 in
set_option maxRecDepth 100000 in
theorem c_X12_hush_0 (l : Launch) (D : va_G) (cA : Nat → ClassId) (sz : Nat) (ad : Nat → Nat) (F : Nat → Int32) (L : Nat → Int64) (A : Nat → Nat → Int32) (B : Nat → Nat → Int64)  (hT : typM F A) : Met l yX12_hush (Cond.code yX12_hush cX12_hush 2 (some .int) :: GW) rm_X12_hush_0 (mPc D classes (tysM cA) (wM cA ad F L A B) sz [.ref (ad 0)]) (mQi (S := SW) D classes (tysM cA) (wM cA ad F L A B) sz (wfM cA ad) (fun r u => qM [16] [] F A u.1 u.2.2.1 ∧ rg r 0 12)) 0 0 (va_A (wM cA ad F L A B) sz) := by
  refine met_i (own := "ShoeingDayModel") (by decide +kernel) rfl (Nat.le_of_ble_eq_true rfl) ?_
  intro p e s m args below meth c Q Af ls hC hP hD hS hA hl hret
  have hx := hC.1
  have hb := hC.2.1
  have hown := hC.2.2.2.1
  have hg := hC.g
  have hK := hC.K
  have hl : lv_has ls 2 [(0, .ref (ad 0))] := hl
  have hq : qM [16] [] F A F A := qM.rf hT
  obtain ⟨H, hH⟩ : ∃ H, H = s.heap := ⟨_, rfl⟩
  have hP : va_P D classes (wM cA ad F L A B) H := by rw [hH]; exact hP
  have hS : va_S Af s.heap H [] := by rw [hH]; exact hS
  obtain ⟨locs, hlo⟩ : ∃ q : List Loc, q = [] := ⟨_, rfl⟩
  rw [← hH, ← hlo]
  rw [← hlo] at hS
  refine lv_aload_n hx hb dX12_hush_0 rfl (lv_at hl 0 rfl) ?_
  refine va_get (ci := 12) (v := .int (F 16)) (C := RX12) (T := TX12) (N := 57) hx hb hg inX12 hown hK hP 0 atM_0 rfl 47 (by decide) (hg _ mw_1155) (fun _ h9 => h9) rfl dX12_hush_1 ?_
  refine lv_topi (fun x1 e2 => ?_)
  have r3 : rg x1 0 12 := rg_e e2 (hq.1.1 16)
  refine lv_istore_n (lv' := [(1, .int x1), (0, .ref (ad 0))]) hx hb dX12_hush_4 rfl hl (by decide) rfl (fun ls hl => ?_)
  refine lv_aload_n hx hb dX12_hush_5 rfl (lv_at hl 1 rfl) ?_
  refine lv_iconst (v := 0) hx hb dX12_hush_6 (by decide) ?_
  refine va_put (ci := 12) (v := .int 0) (ty := .int) (C := RX12) (T := TX12) (N := 57) hx hb hg inX12 tyX12 tyX12_ok nmX12 hown hK hP hD hS 0 atM_0 rfl 47 (by decide) (hg _ mw_1155) (fun _ h9 => h9) rfl (by decide +kernel) rfl rfl (Nat.le_of_ble_eq_true rfl) dX12_hush_7 (fun H locs hP hD hS => ?_)
  have hq := hq.put 16 (x := 0) (by decide) (rg_k (by decide))
  rw [setFM_16] at hP hD
  refine lv_iload_n hx hb dX12_hush_10 rfl (lv_at hl 0 rfl) ?_
  exact hret (x1) ((upd F 16 (0 : Int32)), L, A, B) H locs 11 ls rfl dX12_hush_11 hP hD hS ⟨hq, r3⟩
abbrev rm_X12_isSound_0 : Room := { frames := 0, cells := 0, slots := 0, locals := 0 }
set_option maxHeartbeats 4000000 in
set_option maxRecDepth 100000 in
theorem c_X12_isSound_0 (l : Launch) (D : va_G) (cA : Nat → ClassId) (sz : Nat) (ad : Nat → Nat) (F : Nat → Int32) (L : Nat → Int64) (A : Nat → Nat → Int32) (B : Nat → Nat → Int64) (p1 : Int32) (hT : typM F A) (hp1 : rg p1 0 11) : Met l yX12_isSound (Cond.code yX12_isSound cX12_isSound 6 (some .boolean) :: GW) rm_X12_isSound_0 (mPc D classes (tysM cA) (wM cA ad F L A B) sz [.ref (ad 0), .int p1]) (mQi (S := Unit) D classes (tysM cA) (wM cA ad F L A B) sz (fun _ : Unit => wM cA ad F L A B) (fun r u => rg r 0 1)) 0 0 (va_A (wM cA ad F L A B) sz) := by
  refine met_i (own := "ShoeingDayModel") (by decide +kernel) rfl (Nat.le_of_ble_eq_true rfl) ?_
  intro p e s m args below meth c Q Af ls hC hP hD hS hA hl hret
  have hx := hC.1
  have hb := hC.2.1
  have hown := hC.2.2.2.1
  have hg := hC.g
  have hK := hC.K
  have hl : lv_has ls 6 [(0, .ref (ad 0)), (1, .int p1)] := hl
  have hq : qM [] [] F A F A := qM.rf hT
  obtain ⟨H, hH⟩ : ∃ H, H = s.heap := ⟨_, rfl⟩
  have hP : va_P D classes (wM cA ad F L A B) H := by rw [hH]; exact hP
  have hS : va_S Af s.heap H [] := by rw [hH]; exact hS
  obtain ⟨locs, hlo⟩ : ∃ q : List Loc, q = [] := ⟨_, rfl⟩
  rw [← hH, ← hlo]
  rw [← hlo] at hS
  refine lv_iconst (v := 0) hx hb dX12_isSound_0 (by decide) ?_
  refine lv_istore_n (lv' := [(2, .int 0), (0, .ref (ad 0)), (1, .int p1)]) hx hb dX12_isSound_1 rfl hl (by decide) rfl (fun ls hl => ?_)
  refine lv_iconst (v := 0) hx hb dX12_isSound_2 (by decide) ?_
  refine lv_istore_n (lv' := [(3, .int 0), (2, .int 0), (0, .ref (ad 0)), (1, .int p1)]) hx hb dX12_isSound_3 rfl hl (by decide) rfl (fun ls hl => ?_)
  refine lv_iconst (v := 0) hx hb dX12_isSound_4 (by decide) ?_
  refine lv_istore (lv' := [(4, .int 0), (3, .int 0), (2, .int 0), (0, .ref (ad 0)), (1, .int p1)]) hx hb dX12_isSound_5 hl (by decide) rfl (fun ls hl => ?_)
  have J7 : ∀ (n7 : Nat) (a1 : Int32) (a3 : Int32) (a5 : Int32) (H : Heap) (locs : List Loc) (ls : Array Slot), (10 - a5.toInt).toNat < n7 → rg a1 0 255 → rg a3 0 1023 → rg a5 0 10 → va_P D classes (wM cA ad F L A B) H → va_D Af (wM cA ad F L A B) → va_S Af s.heap H locs → lv_has ls 6 [(0, .ref (ad 0)), (1, .int p1), (2, .int a1), (3, .int a3), (4, .int a5)] → W p l e rm_X12_isSound_0 s m args below meth c H locs 0 0 Q (F0 m 7 ls []) := by
    intro n7
    induction n7 with
    | zero =>
      intro _ _ _ _ _ _ hn
      exact absurd hn (Nat.not_lt_zero _)
    | succ n7 ih7 =>
      intro a1 a3 a5 H locs ls hn7 r2 r4 r6 hP hD hS hl
      refine lv_iload hx hb dX12_isSound_7 (lv_at hl 4 rfl) ?_
      refine lv_aload_n hx hb dX12_isSound_9 rfl (lv_at hl 0 rfl) ?_
      refine va_get (ci := 12) (v := .ref (ad 29)) (C := RX12) (T := TX12) (N := 57) hx hb hg inX12 hown hK hP 0 atM_0 rfl 45 (by decide) (hg _ mw_1153) (fun _ h9 => h9) rfl dX12_isSound_10 ?_
      refine lv_iload_n hx hb dX12_isSound_13 rfl (lv_at hl 1 rfl) ?_
      refine va_iald hx hb hK hP 29 28 atM_29 tyM_29 (in_rg hp1 (by decide)) dX12_isSound_14 ?_
      refine lv_topi (fun x7 e8 => ?_)
      have r9 : rg x7 0 10 := rg_e e8 (hq.1.2 29 _)
      refine lv_icmp_ge (tgt := 102) hx hb dX12_isSound_15 (by decide) (fun c10 => ?_) (fun c10 => ?_)
      · skip
        refine lv_iconst (v := 1) hx hb dX12_isSound_102 (by decide) ?_
        exact hret (1) () H locs 103 ls rfl dX12_isSound_103 hP hD hS (rg_k (by decide))
      · skip
        have r11 : rg a5 0 9 := rg_lt1 (iNE c10) (r6 : rg a5 0 10) (r9 : rg x7 0 10)
        have r12 : rg x7 1 10 := rg_lt2 (iNE c10) (r6 : rg a5 0 10) (r9 : rg x7 0 10)
        refine lv_aload_n hx hb dX12_isSound_18 rfl (lv_at hl 0 rfl) ?_
        refine va_get (ci := 12) (v := .ref (ad 30)) (C := RX12) (T := TX12) (N := 57) hx hb hg inX12 hown hK hP 0 atM_0 rfl 46 (by decide) (hg _ mw_1154) (fun _ h9 => h9) rfl dX12_isSound_19 ?_
        refine lv_bipush (v := 10) hx hb dX12_isSound_22 (by decide) ?_
        refine lv_iload_n hx hb dX12_isSound_24 rfl (lv_at hl 1 rfl) ?_
        refine lv_imul hx hb dX12_isSound_25 ?_
        refine lv_topi (fun x13 e14 => ?_)
        have r15 : rg x13 0 110 := rg_mul e14 ((rg_k (by decide)) : rg 10 10 10) hp1 (by decide)
        refine lv_iload hx hb dX12_isSound_26 (lv_at hl 4 rfl) ?_
        refine lv_iadd hx hb dX12_isSound_28 ?_
        refine lv_topi (fun x16 e17 => ?_)
        have r18 : rg x16 0 119 := rg_add e17 r15 r11 (by decide)
        refine va_iald hx hb hK hP 30 29 atM_30 tyM_30 (in_rg r18 (by decide)) dX12_isSound_29 ?_
        refine lv_topi (fun x19 e20 => ?_)
        have r21 : rg x19 0 79 := rg_e e20 (hq.1.2 30 _)
        refine lv_istore (lv' := [(5, .int x19), (0, .ref (ad 0)), (1, .int p1), (2, .int a1), (3, .int a3), (4, .int a5)]) hx hb dX12_isSound_30 hl (by decide) rfl (fun ls hl => ?_)
        refine lv_iload_n hx hb dX12_isSound_32 rfl (lv_at hl 3 rfl) ?_
        refine lv_iload hx hb dX12_isSound_33 (lv_at hl 0 rfl) ?_
        refine lv_bipush (v := 10) hx hb dX12_isSound_35 (by decide) ?_
        refine lv_idiv hx hb dX12_isSound_37 (by decide) ?_
        refine lv_topi (fun x22 e23 => ?_)
        have r24 : rg x22 0 7 := rg_div e23 r21 ((rg_k (by decide)) : rg 10 10 10) (by decide)
        refine lv_ishr hx hb dX12_isSound_38 ?_
        refine lv_topi (fun x25 e26 => ?_)
        have r27 : rg x25 0 255 := rg_shrk _ e26 r2 rfl (by decide)
        refine lv_iconst (v := 1) hx hb dX12_isSound_39 (by decide) ?_
        refine lv_iand hx hb dX12_isSound_40 ?_
        refine lv_topi (fun x28 e29 => ?_)
        have r30 : rg x28 0 1 := rg_andr e29 ((rg_k (by decide)) : rg 1 1 1) (by decide)
        refine lv_iconst (v := 1) hx hb dX12_isSound_41 (by decide) ?_
        have J74 : ∀ (H : Heap) (locs : List Loc) (ls : Array Slot), va_P D classes (wM cA ad F L A B) H → va_D Af (wM cA ad F L A B) → va_S Af s.heap H locs → lv_has ls 6 [] → W p l e rm_X12_isSound_0 s m args below meth c H locs 0 0 Q (F0 m 74 ls []) := by
          intro H locs ls hP hD hS hl
          refine lv_iconst (v := 0) hx hb dX12_isSound_74 (by decide) ?_
          exact hret (0) () H locs 75 ls rfl dX12_isSound_75 hP hD hS (rg_k (by decide))
        refine lv_icmp_eq (tgt := 74) hx hb dX12_isSound_42 (by decide) (fun c31 => ?_) (fun c31 => ?_)
        · skip
          have r32 : rg x28 1 1 := rg_eq1 c31 (r30 : rg x28 0 1) ((rg_k (by decide)) : rg 1 1 1) (by decide)
          exact J74  H locs ls  hP hD hS (lv_sub hl [] rfl)
        · skip
          have r33 : rg x28 0 0 := (rg_ne1 c31 (r30 : rg x28 0 1) ((rg_k (by decide)) : rg 1 1 1)).2 rfl
          refine lv_iload_n hx hb dX12_isSound_45 rfl (lv_at hl 4 rfl) ?_
          refine lv_iload hx hb dX12_isSound_46 (lv_at hl 0 rfl) ?_
          refine lv_bipush (v := 10) hx hb dX12_isSound_48 (by decide) ?_
          refine lv_irem hx hb dX12_isSound_50 (by decide) ?_
          refine lv_topi (fun x34 e35 => ?_)
          have r36 : rg x34 0 9 := rg_rem e35 r21 ((rg_k (by decide)) : rg 10 10 10) (by decide)
          refine lv_ishr hx hb dX12_isSound_51 ?_
          refine lv_topi (fun x37 e38 => ?_)
          have r39 : rg x37 0 1023 := rg_shrk _ e38 r4 rfl (by decide)
          refine lv_iconst (v := 1) hx hb dX12_isSound_52 (by decide) ?_
          refine lv_iand hx hb dX12_isSound_53 ?_
          refine lv_topi (fun x40 e41 => ?_)
          have r42 : rg x40 0 1 := rg_andr e41 ((rg_k (by decide)) : rg 1 1 1) (by decide)
          refine lv_iconst (v := 1) hx hb dX12_isSound_54 (by decide) ?_
          refine lv_icmp_eq (tgt := 74) hx hb dX12_isSound_55 (by decide) (fun c43 => ?_) (fun c43 => ?_)
          · skip
            have r44 : rg x40 1 1 := rg_eq1 c43 (r42 : rg x40 0 1) ((rg_k (by decide)) : rg 1 1 1) (by decide)
            exact J74  H locs ls  hP hD hS (lv_sub hl [] rfl)
          · skip
            have r45 : rg x40 0 0 := (rg_ne1 c43 (r42 : rg x40 0 1) ((rg_k (by decide)) : rg 1 1 1)).2 rfl
            refine lv_aload_n hx hb dX12_isSound_58 rfl (lv_at hl 1 rfl) ?_
            refine va_get (ci := 12) (v := .ref (ad 16)) (C := RX12) (T := TX12) (N := 57) hx hb hg inX12 hown hK hP 0 atM_0 rfl 26 (by decide) (hg _ mw_1134) (fun _ h9 => h9) rfl dX12_isSound_59 ?_
            refine lv_iload hx hb dX12_isSound_62 (lv_at hl 0 rfl) ?_
            refine va_iald hx hb hK hP 16 15 atM_16 tyM_16 (in_rg r21 (by decide)) dX12_isSound_64 ?_
            refine lv_topi (fun x46 e47 => ?_)
            refine lv_aload_n hx hb dX12_isSound_65 rfl (lv_at hl 1 rfl) ?_
            refine va_get (ci := 12) (v := .ref (ad 28)) (C := RX12) (T := TX12) (N := 57) hx hb hg inX12 hown hK hP 0 atM_0 rfl 44 (by decide) (hg _ mw_1152) (fun _ h9 => h9) rfl dX12_isSound_66 ?_
            refine lv_iload_n hx hb dX12_isSound_69 rfl (lv_at hl 2 rfl) ?_
            refine va_iald hx hb hK hP 28 27 atM_28 tyM_28 (in_rg hp1 (by decide)) dX12_isSound_70 ?_
            refine lv_topi (fun x48 e49 => ?_)
            refine lv_icmp_ge (tgt := 76) hx hb dX12_isSound_71 (by decide) (fun c50 => ?_) (fun c50 => ?_)
            · skip
              refine lv_iload_n hx hb dX12_isSound_76 rfl (lv_at hl 3 rfl) ?_
              refine lv_iconst (v := 1) hx hb dX12_isSound_77 (by decide) ?_
              refine lv_iload hx hb dX12_isSound_78 (lv_at hl 0 rfl) ?_
              refine lv_bipush (v := 10) hx hb dX12_isSound_80 (by decide) ?_
              refine lv_idiv hx hb dX12_isSound_82 (by decide) ?_
              refine tope e23 ?_
              refine lv_ishl hx hb dX12_isSound_83 ?_
              refine lv_topi (fun x53 e54 => ?_)
              have r55 : rg x53 1 128 := rg_shl1 e54 r24 (by decide)
              refine lv_ior hx hb dX12_isSound_84 ?_
              refine lv_topi (fun x56 e57 => ?_)
              have r58 : rg x56 0 255 := rg_or 8 e57 r2 r55 (by decide)
              refine lv_istore_n (lv' := [(2, .int x56), (5, .int x19), (0, .ref (ad 0)), (1, .int p1), (3, .int a3), (4, .int a5)]) hx hb dX12_isSound_85 rfl hl (by decide) rfl (fun ls hl => ?_)
              refine lv_iload_n hx hb dX12_isSound_86 rfl (lv_at hl 4 rfl) ?_
              refine lv_iconst (v := 1) hx hb dX12_isSound_87 (by decide) ?_
              refine lv_iload hx hb dX12_isSound_88 (lv_at hl 1 rfl) ?_
              refine lv_bipush (v := 10) hx hb dX12_isSound_90 (by decide) ?_
              refine lv_irem hx hb dX12_isSound_92 (by decide) ?_
              refine tope e35 ?_
              refine lv_ishl hx hb dX12_isSound_93 ?_
              refine lv_topi (fun x59 e60 => ?_)
              have r61 : rg x59 1 512 := rg_shl1 e60 r36 (by decide)
              refine lv_ior hx hb dX12_isSound_94 ?_
              refine lv_topi (fun x62 e63 => ?_)
              have r64 : rg x62 0 1023 := rg_or 10 e63 r4 r61 (by decide)
              refine lv_istore_n (lv' := [(3, .int x62), (2, .int x56), (5, .int x19), (0, .ref (ad 0)), (1, .int p1), (4, .int a5)]) hx hb dX12_isSound_95 rfl hl (by decide) rfl (fun ls hl => ?_)
              obtain ⟨x65, e66⟩ : ∃ y : Int32, y = a5 + 1 := ⟨_, rfl⟩
              have r67 : rg x65 1 10 := rg_add e66 r11 (rg_k (by decide) : rg 1 1 1) (by decide)
              refine lv_iinc (v := x65) (lv' := [(4, .int x65), (3, .int x62), (2, .int x56), (5, .int x19), (0, .ref (ad 0)), (1, .int p1)]) hx hb dX12_isSound_96 hl (k := 5) rfl (by rw [e66]; rfl) (by decide) rfl (fun ls hl => ?_)
              refine lv_goto (tgt := 7) hx hb dX12_isSound_99 (by decide) ?_
              exact ih7 (x56) (x62) (x65) H locs ls (by have h0 : (1 : Int32).toInt = 1 := rfl; have h1 := ti_addk e66 r11 (by decide); have h2 : rg x65 0 10 := (rg_w r67 (by decide)); unfold rg at h2; omega) r58 r64 (rg_w r67 (by decide)) hP hD hS (lv_sub hl [4, 5, 2, 1, 0] rfl)
            · skip
              have r51 : rg x46 (-2147483648) 2147483646 := rg_lt1 (iNE c50) ((rg_top _) : rg x46 (-2147483648) 2147483647) ((rg_top _) : rg x48 (-2147483648) 2147483647)
              have r52 : rg x48 (-2147483647) 2147483647 := rg_lt2 (iNE c50) ((rg_top _) : rg x46 (-2147483648) 2147483647) ((rg_top _) : rg x48 (-2147483648) 2147483647)
              exact J74  H locs ls  hP hD hS (lv_sub hl [] rfl)
  exact J7 _ (0) (0) (0) H locs ls (Nat.lt_succ_self _) (rg_k (by decide)) (rg_k (by decide)) (rg_k (by decide)) hP hD hS (lv_sub hl [3, 4, 2, 1, 0] rfl)
abbrev rm_X12_lackedOf_0 : Room := { frames := 0, cells := 0, slots := 0, locals := 0 }
set_option maxHeartbeats 4000000 in
set_option maxRecDepth 100000 in
theorem c_X12_lackedOf_0 (l : Launch) (D : va_G) (cA : Nat → ClassId) (sz : Nat) (ad : Nat → Nat) (F : Nat → Int32) (L : Nat → Int64) (A : Nat → Nat → Int32) (B : Nat → Nat → Int64)  (hT : typM F A) : Met l yX12_lackedOf (Cond.code yX12_lackedOf cX12_lackedOf 3 (some .int) :: GW) rm_X12_lackedOf_0 (mPc D classes (tysM cA) (wM cA ad F L A B) sz [.ref (ad 0)]) (mQi (S := Unit) D classes (tysM cA) (wM cA ad F L A B) sz (fun _ : Unit => wM cA ad F L A B) (fun r u => True)) 0 0 (va_A (wM cA ad F L A B) sz) := by
  refine met_i (own := "ShoeingDayModel") (by decide +kernel) rfl (Nat.le_of_ble_eq_true rfl) ?_
  intro p e s m args below meth c Q Af ls hC hP hD hS hA hl hret
  have hx := hC.1
  have hb := hC.2.1
  have hown := hC.2.2.2.1
  have hg := hC.g
  have hK := hC.K
  have hl : lv_has ls 3 [(0, .ref (ad 0))] := hl
  have hq : qM [] [] F A F A := qM.rf hT
  obtain ⟨H, hH⟩ : ∃ H, H = s.heap := ⟨_, rfl⟩
  have hP : va_P D classes (wM cA ad F L A B) H := by rw [hH]; exact hP
  have hS : va_S Af s.heap H [] := by rw [hH]; exact hS
  obtain ⟨locs, hlo⟩ : ∃ q : List Loc, q = [] := ⟨_, rfl⟩
  rw [← hH, ← hlo]
  rw [← hlo] at hS
  refine lv_iconst (v := 0) hx hb dX12_lackedOf_0 (by decide) ?_
  refine lv_istore_n (lv' := [(1, .int 0), (0, .ref (ad 0))]) hx hb dX12_lackedOf_1 rfl hl (by decide) rfl (fun ls hl => ?_)
  refine lv_iconst (v := 0) hx hb dX12_lackedOf_2 (by decide) ?_
  refine lv_istore_n (lv' := [(2, .int 0), (1, .int 0), (0, .ref (ad 0))]) hx hb dX12_lackedOf_3 rfl hl (by decide) rfl (fun ls hl => ?_)
  have J4 : ∀ (n4 : Nat) (a1 : Int32) (a2 : Int32) (H : Heap) (locs : List Loc) (ls : Array Slot), (80 - a2.toInt).toNat < n4 → rg a2 0 80 → va_P D classes (wM cA ad F L A B) H → va_D Af (wM cA ad F L A B) → va_S Af s.heap H locs → lv_has ls 3 [(0, .ref (ad 0)), (1, .int a1), (2, .int a2)] → W p l e rm_X12_lackedOf_0 s m args below meth c H locs 0 0 Q (F0 m 4 ls []) := by
    intro n4
    induction n4 with
    | zero =>
      intro _ _ _ _ _ hn
      exact absurd hn (Nat.not_lt_zero _)
    | succ n4 ih4 =>
      intro a1 a2 H locs ls hn4 r3 hP hD hS hl
      refine lv_iload_n hx hb dX12_lackedOf_4 rfl (lv_at hl 2 rfl) ?_
      refine lv_bipush (v := 80) hx hb dX12_lackedOf_5 (by decide) ?_
      refine lv_icmp_ge (tgt := 25) hx hb dX12_lackedOf_7 (by decide) (fun c4 => ?_) (fun c4 => ?_)
      · skip
        have r5 : rg a2 80 80 := rg_le2 (iE c4) ((rg_k (by decide)) : rg 80 80 80) (r3 : rg a2 0 80)
        refine lv_iload_n hx hb dX12_lackedOf_25 rfl (lv_at hl 1 rfl) ?_
        exact hret (a1) () H locs 26 ls rfl dX12_lackedOf_26 hP hD hS trivial
      · skip
        have r6 : rg a2 0 79 := rg_lt1 (iNE c4) (r3 : rg a2 0 80) ((rg_k (by decide)) : rg 80 80 80)
        refine lv_iload_n hx hb dX12_lackedOf_10 rfl (lv_at hl 1 rfl) ?_
        refine lv_aload_n hx hb dX12_lackedOf_11 rfl (lv_at hl 0 rfl) ?_
        refine va_get (ci := 12) (v := .ref (ad 16)) (C := RX12) (T := TX12) (N := 57) hx hb hg inX12 hown hK hP 0 atM_0 rfl 26 (by decide) (hg _ mw_1134) (fun _ h9 => h9) rfl dX12_lackedOf_12 ?_
        refine lv_iload_n hx hb dX12_lackedOf_15 rfl (lv_at hl 2 rfl) ?_
        refine va_iald hx hb hK hP 16 15 atM_16 tyM_16 (in_rg r6 (by decide)) dX12_lackedOf_16 ?_
        refine lv_topi (fun x7 e8 => ?_)
        refine lv_iadd hx hb dX12_lackedOf_17 ?_
        refine lv_topi (fun x9 e10 => ?_)
        refine lv_istore_n (lv' := [(1, .int x9), (0, .ref (ad 0)), (2, .int a2)]) hx hb dX12_lackedOf_18 rfl hl (by decide) rfl (fun ls hl => ?_)
        obtain ⟨x11, e12⟩ : ∃ y : Int32, y = a2 + 1 := ⟨_, rfl⟩
        have r13 : rg x11 1 80 := rg_add e12 r6 (rg_k (by decide) : rg 1 1 1) (by decide)
        refine lv_iinc (v := x11) (lv' := [(2, .int x11), (1, .int x9), (0, .ref (ad 0))]) hx hb dX12_lackedOf_19 hl (k := 2) rfl (by rw [e12]; rfl) (by decide) rfl (fun ls hl => ?_)
        refine lv_goto (tgt := 4) hx hb dX12_lackedOf_22 (by decide) ?_
        exact ih4 (x9) (x11) H locs ls (by have h0 : (1 : Int32).toInt = 1 := rfl; have h1 := ti_addk e12 r6 (by decide); have h2 : rg x11 0 80 := (rg_w r13 (by decide)); unfold rg at h2; omega) (rg_w r13 (by decide)) hP hD hS (lv_sub hl [2, 1, 0] rfl)
  exact J4 _ (0) (0) H locs ls (Nat.lt_succ_self _) (rg_k (by decide)) hP hD hS (lv_sub hl [2, 1, 0] rfl)
abbrev rm_X12_judge_0 : Room := { frames := 1, cells := 0, slots := 0, locals := 25 }
set_option maxHeartbeats 4000000 in
set_option maxRecDepth 100000 in
theorem c_X12_judge_0 (l : Launch) (D : va_G) (cA : Nat → ClassId) (sz : Nat) (ad : Nat → Nat) (F : Nat → Int32) (L : Nat → Int64) (A : Nat → Nat → Int32) (B : Nat → Nat → Int64) (p1 : Int32) (hT : typM F A) : Met l yX12_judge (Cond.code yX12_judge cX12_judge 5 (some .int) :: GW) rm_X12_judge_0 (mPc D classes (tysM cA) (wM cA ad F L A B) sz [.ref (ad 0), .int p1]) (mQi (S := SW) D classes (tysM cA) (wM cA ad F L A B) sz (wfM cA ad) (fun r u => qM [] [16] F A u.1 u.2.2.1)) 0 0 (va_A (wM cA ad F L A B) sz) := by
  refine met_i (own := "ShoeingDayModel") (by decide +kernel) rfl (Nat.le_of_ble_eq_true rfl) ?_
  intro p e s m args below meth c Q Af ls hC hP hD hS hA hl hret
  have hx := hC.1
  have hb := hC.2.1
  have hown := hC.2.2.2.1
  have hg := hC.g
  have hK := hC.K
  have hl : lv_has ls 5 [(0, .ref (ad 0)), (1, .int p1)] := hl
  have hq : qM [] [16] F A F A := qM.rf hT
  obtain ⟨H, hH⟩ : ∃ H, H = s.heap := ⟨_, rfl⟩
  have hP : va_P D classes (wM cA ad F L A B) H := by rw [hH]; exact hP
  have hS : va_S Af s.heap H [] := by rw [hH]; exact hS
  obtain ⟨locs, hlo⟩ : ∃ q : List Loc, q = [] := ⟨_, rfl⟩
  rw [← hH, ← hlo]
  rw [← hlo] at hS
  refine lv_iload_n hx hb dX12_judge_0 rfl (lv_at hl 1 rfl) ?_
  refine lv_iconst (v := 0) hx hb dX12_judge_1 (by decide) ?_
  refine lv_iconst (v := 2) hx hb dX12_judge_2 (by decide) ?_
  refine calls_i (As := [.int p1, .int 0, .int 2]) (rest := []) hC (c_X12_isIn l D (tysM cA) (wM cA ad F L A B) H.size (p1) (0) (2) (rg_k (by decide)) (rg_k (by decide))) (cwS 3 hg (g_S mw_1391 mw_1389 mw_1390 mw_20) rfl rfl rfl (by decide +kernel) ⟨(Nat.le_of_ble_eq_true rfl), (Nat.le_of_ble_eq_true rfl)⟩) hP hD hS hA rfl hl.1 rfl (Nat.le_of_ble_eq_true rfl) dX12_judge_3 ⟨Nat.zero_le _, Nat.zero_le _⟩ (fun x1 u H locs hw hP hD hS => ?_)
  obtain ⟨r2, g3, g4⟩ := hw
  have hP : va_P D classes (wM cA ad F L A B) H := hP
  have hD : va_D Af (wM cA ad F L A B) := hD
  refine lv_if_ne (tgt := 11) hx hb dX12_judge_6 (by decide) (fun c5 => ?_) (fun c5 => ?_)
  · skip
    have g6 := g3.resolve_left c5
    have r7 : rg p1 0 2147483647 := rg_le2 g6.1 ((rg_k (by decide)) : rg 0 0 0) ((rg_top _) : rg p1 (-2147483648) 2147483647)
    have r8 : rg p1 0 2 := rg_le1 g6.2 (r7 : rg p1 0 2147483647) ((rg_k (by decide)) : rg 2 2 2)
    refine lv_aload_n hx hb dX12_judge_11 rfl (lv_at hl 0 rfl) ?_
    refine callv_v (As := []) (rest := []) hC (c_X12_layNow_0 l D cA H.size ad F L A B  hq.1) (cwV 0 hg (g_V mw_1407 mw_1404 mw_1406 ms_70 mw_20) rfl rfl rfl (by decide +kernel) ⟨(Nat.le_of_ble_eq_true rfl), (Nat.le_of_ble_eq_true rfl)⟩) hP hD hS hA atM_0 rfl rfl hl.1 rfl (Nat.le_of_ble_eq_true rfl) dX12_judge_12 ⟨Nat.zero_le _, Nat.zero_le _⟩ (fun  u H locs hw hP hD hS => ?_)
    obtain ⟨F10, L10, A10, B10⟩ := u
    try dsimp only at hw
    obtain ⟨hq10, g11⟩ := hw
    have hq := hq.call hq10 (by decide)
    have hP : va_P D classes (wM cA ad F10 L10 A10 B10) H := hP
    have hD : va_D Af (wM cA ad F10 L10 A10 B10) := hD
    refine lv_iconst (v := 0) hx hb dX12_judge_15 (by decide) ?_
    refine lv_istore_n (lv' := [(2, .int 0), (0, .ref (ad 0)), (1, .int p1)]) hx hb dX12_judge_16 rfl hl (by decide) rfl (fun ls hl => ?_)
    refine lv_iconst (v := 0) hx hb dX12_judge_17 (by decide) ?_
    refine lv_istore_n (lv' := [(3, .int 0), (2, .int 0), (0, .ref (ad 0)), (1, .int p1)]) hx hb dX12_judge_18 rfl hl (by decide) rfl (fun ls hl => ?_)
    have J19 : ∀ (n19 : Nat) (a12 : Int32) (a13 : Int32) (F15 : Nat → Int32) (L15 : Nat → Int64) (A15 : Nat → Nat → Int32) (B15 : Nat → Nat → Int64) (H : Heap) (locs : List Loc) (ls : Array Slot), (12 - a13.toInt).toNat < n19 → rg a13 0 12 → qM [] [16] F A F15 A15 → va_P D classes (wM cA ad F15 L15 A15 B15) H → va_D Af (wM cA ad F15 L15 A15 B15) → va_S Af s.heap H locs → lv_has ls 5 [(0, .ref (ad 0)), (1, .int p1), (2, .int a12), (3, .int a13)] → W p l e rm_X12_judge_0 s m args below meth c H locs 0 0 Q (F0 m 19 ls []) := by
      intro n19
      induction n19 with
      | zero =>
        intro _ _ _ _ _ _ _ _ _ hn
        exact absurd hn (Nat.not_lt_zero _)
      | succ n19 ih19 =>
        intro a12 a13 F15 L15 A15 B15 H locs ls hn19 r14 hq hP hD hS hl
        refine lv_iload_n hx hb dX12_judge_19 rfl (lv_at hl 3 rfl) ?_
        refine lv_aload_n hx hb dX12_judge_20 rfl (lv_at hl 0 rfl) ?_
        refine va_get (ci := 12) (v := .int (F15 16)) (C := RX12) (T := TX12) (N := 57) hx hb hg inX12 hown hK hP 0 atM_0 rfl 47 (by decide) (hg _ mw_1155) (fun _ h9 => h9) rfl dX12_judge_21 ?_
        refine lv_topi (fun x16 e17 => ?_)
        have r18 : rg x16 0 12 := rg_e e17 (hq.1.1 16)
        have J96 : ∀ (F19 : Nat → Int32) (L19 : Nat → Int64) (A19 : Nat → Nat → Int32) (B19 : Nat → Nat → Int64) (H : Heap) (locs : List Loc) (ls : Array Slot), qM [] [16] F A F19 A19 → F19 16 = x16 → va_P D classes (wM cA ad F19 L19 A19 B19) H → va_D Af (wM cA ad F19 L19 A19 B19) → va_S Af s.heap H locs → lv_has ls 5 [(0, .ref (ad 0)), (1, .int p1), (2, .int a12), (3, .int a13)] → W p l e rm_X12_judge_0 s m args below meth c H locs 0 0 Q (F0 m 96 ls []) := by
          intro F19 L19 A19 B19 H locs ls hq f20 hP hD hS hl
          refine lv_iload_n hx hb dX12_judge_96 rfl (lv_at hl 1 rfl) ?_
          refine lv_iconst (v := 1) hx hb dX12_judge_97 (by decide) ?_
          refine lv_icmp_ne (tgt := 108) hx hb dX12_judge_98 (by decide) (fun c21 => ?_) (fun c21 => ?_)
          · skip
            refine lv_iload_n hx hb dX12_judge_108 rfl (lv_at hl 1 rfl) ?_
            refine lv_iconst (v := 2) hx hb dX12_judge_109 (by decide) ?_
            refine lv_icmp_ne (tgt := 117) hx hb dX12_judge_110 (by decide) (fun c23 => ?_) (fun c23 => ?_)
            · skip
              have r24 : rg p1 0 1 := (rg_ne1 c23 (r8 : rg p1 0 2) ((rg_k (by decide)) : rg 2 2 2)).2 rfl
              refine lv_iload_n hx hb dX12_judge_117 rfl (lv_at hl 3 rfl) ?_
              refine lv_aload_n hx hb dX12_judge_118 rfl (lv_at hl 0 rfl) ?_
              refine va_get (ci := 12) (v := .int x16) (C := RX12) (T := TX12) (N := 57) hx hb hg inX12 hown hK hP 0 atM_0 rfl 47 (by decide) (hg _ mw_1155) (fun _ h9 => h9) (congrArg (fun z => some (Value.int z)) (f20)) dX12_judge_119 ?_
              refine lv_icmp_ge (tgt := 129) hx hb dX12_judge_122 (by decide) (fun c26 => ?_) (fun c26 => ?_)
              · skip
                refine lv_iconst (v := (-1)) hx hb dX12_judge_129 (by decide) ?_
                exact hret ((-1)) (F19, L19, A19, B19) H locs 130 ls rfl dX12_judge_130 hP hD hS hq
              · skip
                have r27 : rg a13 0 11 := rg_lt1 (iNE c26) (r14 : rg a13 0 12) (r18 : rg x16 0 12)
                have r28 : rg x16 1 12 := rg_lt2 (iNE c26) (r14 : rg a13 0 12) (r18 : rg x16 0 12)
                refine lv_iload_n hx hb dX12_judge_125 rfl (lv_at hl 3 rfl) ?_
                refine lv_goto (tgt := 130) hx hb dX12_judge_126 (by decide) ?_
                exact hret (a13) (F19, L19, A19, B19) H locs 130 ls rfl dX12_judge_130 hP hD hS hq
            · skip
              have r25 : rg p1 2 2 := rg_eq1 c23 (r8 : rg p1 0 2) ((rg_k (by decide)) : rg 2 2 2) (by decide)
              refine lv_iload_n hx hb dX12_judge_113 rfl (lv_at hl 2 rfl) ?_
              refine lv_goto (tgt := 130) hx hb dX12_judge_114 (by decide) ?_
              exact hret (a12) (F19, L19, A19, B19) H locs 130 ls rfl dX12_judge_130 hP hD hS hq
          · skip
            have r22 : rg p1 1 1 := rg_eq1 c21 (r8 : rg p1 0 2) ((rg_k (by decide)) : rg 1 1 1) (by decide)
            refine lv_aload_n hx hb dX12_judge_101 rfl (lv_at hl 0 rfl) ?_
            refine callv_i (As := []) (rest := []) hC (c_X12_lackedOf_0 l D cA H.size ad F19 L19 A19 B19  hq.1) (cwV 0 hg (g_V mw_1576 mw_1573 mw_1575 ms_92 mw_20) rfl rfl rfl (by decide +kernel) ⟨(Nat.le_of_ble_eq_true rfl), (Nat.le_of_ble_eq_true rfl)⟩) hP hD hS hA atM_0 rfl rfl hl.1 rfl (Nat.le_of_ble_eq_true rfl) dX12_judge_102 ⟨Nat.zero_le _, Nat.zero_le _⟩ (fun x29 u H locs hw hP hD hS => ?_)
            have hP : va_P D classes (wM cA ad F19 L19 A19 B19) H := hP
            have hD : va_D Af (wM cA ad F19 L19 A19 B19) := hD
            refine lv_goto (tgt := 130) hx hb dX12_judge_105 (by decide) ?_
            exact hret (x29) (F19, L19, A19, B19) H locs 130 ls rfl dX12_judge_130 hP hD hS hq
        refine lv_icmp_ge (tgt := 96) hx hb dX12_judge_24 (by decide) (fun c30 => ?_) (fun c30 => ?_)
        · skip
          exact J96 (F15) (L15) (A15) (B15) H locs ls hq (e17.symm) hP hD hS (lv_sub hl [0, 1, 2, 3] rfl)
        · skip
          have r31 : rg a13 0 11 := rg_lt1 (iNE c30) (r14 : rg a13 0 12) (r18 : rg x16 0 12)
          have r32 : rg x16 1 12 := rg_lt2 (iNE c30) (r14 : rg a13 0 12) (r18 : rg x16 0 12)
          refine lv_aload_n hx hb dX12_judge_27 rfl (lv_at hl 0 rfl) ?_
          refine lv_iload_n hx hb dX12_judge_28 rfl (lv_at hl 3 rfl) ?_
          refine callv_i (As := [.int a13]) (rest := []) hC (c_X12_isSound_0 l D cA H.size ad F15 L15 A15 B15 (a13) hq.1 r31) (cwV 1 hg (g_V mw_1572 mw_1569 mw_1571 ms_91 mw_20) rfl rfl rfl (by decide +kernel) ⟨(Nat.le_of_ble_eq_true rfl), (Nat.le_of_ble_eq_true rfl)⟩) hP hD hS hA atM_0 rfl rfl hl.1 rfl (Nat.le_of_ble_eq_true rfl) dX12_judge_29 ⟨Nat.zero_le _, Nat.zero_le _⟩ (fun x33 u H locs hw hP hD hS => ?_)
          have r34 := hw
          have hP : va_P D classes (wM cA ad F15 L15 A15 B15) H := hP
          have hD : va_D Af (wM cA ad F15 L15 A15 B15) := hD
          refine lv_if_eq (tgt := 96) hx hb dX12_judge_32 (by decide) (fun c35 => ?_) (fun c35 => ?_)
          · skip
            have r36 : rg x33 0 0 := rg_eq1 c35 (r34 : rg x33 0 1) ((rg_k (by decide)) : rg 0 0 0) (by decide)
            exact J96 (F15) (L15) (A15) (B15) H locs ls hq (e17.symm) hP hD hS (lv_sub hl [0, 1, 2, 3] rfl)
          · skip
            have r37 : rg x33 1 1 := (rg_ne1 c35 (r34 : rg x33 0 1) ((rg_k (by decide)) : rg 0 0 0)).1 rfl
            refine lv_iconst (v := 0) hx hb dX12_judge_35 (by decide) ?_
            refine lv_istore (lv' := [(4, .int 0), (0, .ref (ad 0)), (1, .int p1), (2, .int a12), (3, .int a13)]) hx hb dX12_judge_36 hl (by decide) rfl (fun ls hl => ?_)
            have J38 : ∀ (n38 : Nat) (a38 : Int32) (F40 : Nat → Int32) (L40 : Nat → Int64) (A40 : Nat → Nat → Int32) (B40 : Nat → Nat → Int64) (H : Heap) (locs : List Loc) (ls : Array Slot), (10 - a38.toInt).toNat < n38 → rg a38 0 10 → qM [] [16] F A F40 A40 → F40 16 = x16 → va_P D classes (wM cA ad F40 L40 A40 B40) H → va_D Af (wM cA ad F40 L40 A40 B40) → va_S Af s.heap H locs → lv_has ls 5 [(0, .ref (ad 0)), (1, .int p1), (2, .int a12), (3, .int a13), (4, .int a38)] → W p l e rm_X12_judge_0 s m args below meth c H locs 0 0 Q (F0 m 38 ls []) := by
              intro n38
              induction n38 with
              | zero =>
                intro _ _ _ _ _ _ _ _ hn
                exact absurd hn (Nat.not_lt_zero _)
              | succ n38 ih38 =>
                intro a38 F40 L40 A40 B40 H locs ls hn38 r39 hq f41 hP hD hS hl
                refine lv_iload hx hb dX12_judge_38 (lv_at hl 4 rfl) ?_
                refine lv_aload_n hx hb dX12_judge_40 rfl (lv_at hl 0 rfl) ?_
                refine va_get (ci := 12) (v := .ref (ad 29)) (C := RX12) (T := TX12) (N := 57) hx hb hg inX12 hown hK hP 0 atM_0 rfl 45 (by decide) (hg _ mw_1153) (fun _ h9 => h9) rfl dX12_judge_41 ?_
                refine lv_iload_n hx hb dX12_judge_44 rfl (lv_at hl 3 rfl) ?_
                refine va_iald hx hb hK hP 29 28 atM_29 tyM_29 (in_rg r31 (by decide)) dX12_judge_45 ?_
                refine lv_topi (fun x42 e43 => ?_)
                have r44 : rg x42 0 10 := rg_e e43 (hq.1.2 29 _)
                refine lv_icmp_ge (tgt := 81) hx hb dX12_judge_46 (by decide) (fun c45 => ?_) (fun c45 => ?_)
                · skip
                  refine lv_iload_n hx hb dX12_judge_81 rfl (lv_at hl 2 rfl) ?_
                  refine lv_aload_n hx hb dX12_judge_82 rfl (lv_at hl 0 rfl) ?_
                  refine va_get (ci := 12) (v := .ref (ad 28)) (C := RX12) (T := TX12) (N := 57) hx hb hg inX12 hown hK hP 0 atM_0 rfl 44 (by decide) (hg _ mw_1152) (fun _ h9 => h9) rfl dX12_judge_83 ?_
                  refine lv_iload_n hx hb dX12_judge_86 rfl (lv_at hl 3 rfl) ?_
                  refine va_iald hx hb hK hP 28 27 atM_28 tyM_28 (in_rg r31 (by decide)) dX12_judge_87 ?_
                  refine lv_topi (fun x48 e49 => ?_)
                  refine lv_iadd hx hb dX12_judge_88 ?_
                  refine lv_topi (fun x50 e51 => ?_)
                  refine lv_istore_n (lv' := [(2, .int x50), (0, .ref (ad 0)), (1, .int p1), (3, .int a13), (4, .int a38)]) hx hb dX12_judge_89 rfl hl (by decide) rfl (fun ls hl => ?_)
                  obtain ⟨x52, e53⟩ : ∃ y : Int32, y = a13 + 1 := ⟨_, rfl⟩
                  have r54 : rg x52 1 12 := rg_add e53 r31 (rg_k (by decide) : rg 1 1 1) (by decide)
                  refine lv_iinc (v := x52) (lv' := [(3, .int x52), (2, .int x50), (0, .ref (ad 0)), (1, .int p1), (4, .int a38)]) hx hb dX12_judge_90 hl (k := 3) rfl (by rw [e53]; rfl) (by decide) rfl (fun ls hl => ?_)
                  refine lv_goto (tgt := 19) hx hb dX12_judge_93 (by decide) ?_
                  exact ih19 (x50) (x52) (F40) (L40) (A40) (B40) H locs ls (by have h0 : (1 : Int32).toInt = 1 := rfl; have h1 := ti_addk e53 r31 (by decide); have h2 : rg x52 0 12 := (rg_w r54 (by decide)); unfold rg at h2; omega) (rg_w r54 (by decide)) hq hP hD hS (lv_sub hl [2, 3, 1, 0] rfl)
                · skip
                  have r46 : rg a38 0 9 := rg_lt1 (iNE c45) (r39 : rg a38 0 10) (r44 : rg x42 0 10)
                  have r47 : rg x42 1 10 := rg_lt2 (iNE c45) (r39 : rg a38 0 10) (r44 : rg x42 0 10)
                  refine lv_aload_n hx hb dX12_judge_49 rfl (lv_at hl 0 rfl) ?_
                  refine va_get (ci := 12) (v := .ref (ad 16)) (C := RX12) (T := TX12) (N := 57) hx hb hg inX12 hown hK hP 0 atM_0 rfl 26 (by decide) (hg _ mw_1134) (fun _ h9 => h9) rfl dX12_judge_50 ?_
                  refine lv_aload_n hx hb dX12_judge_53 rfl (lv_at hl 0 rfl) ?_
                  refine va_get (ci := 12) (v := .ref (ad 30)) (C := RX12) (T := TX12) (N := 57) hx hb hg inX12 hown hK hP 0 atM_0 rfl 46 (by decide) (hg _ mw_1154) (fun _ h9 => h9) rfl dX12_judge_54 ?_
                  refine lv_bipush (v := 10) hx hb dX12_judge_57 (by decide) ?_
                  refine lv_iload_n hx hb dX12_judge_59 rfl (lv_at hl 3 rfl) ?_
                  refine lv_imul hx hb dX12_judge_60 ?_
                  refine lv_topi (fun x55 e56 => ?_)
                  have r57 : rg x55 0 110 := rg_mul e56 ((rg_k (by decide)) : rg 10 10 10) r31 (by decide)
                  refine lv_iload hx hb dX12_judge_61 (lv_at hl 4 rfl) ?_
                  refine lv_iadd hx hb dX12_judge_63 ?_
                  refine lv_topi (fun x58 e59 => ?_)
                  have r60 : rg x58 0 119 := rg_add e59 r57 r46 (by decide)
                  refine va_iald hx hb hK hP 30 29 atM_30 tyM_30 (in_rg r60 (by decide)) dX12_judge_64 ?_
                  refine lv_topi (fun x61 e62 => ?_)
                  have r63 : rg x61 0 79 := rg_e e62 (hq.1.2 30 _)
                  refine lv_dup2_11 hx hb dX12_judge_65 rfl rfl ?_
                  refine va_iald hx hb hK hP 16 15 atM_16 tyM_16 (in_rg r63 (by decide)) dX12_judge_66 ?_
                  refine lv_topi (fun x64 e65 => ?_)
                  refine lv_aload_n hx hb dX12_judge_67 rfl (lv_at hl 0 rfl) ?_
                  refine va_get (ci := 12) (v := .ref (ad 28)) (C := RX12) (T := TX12) (N := 57) hx hb hg inX12 hown hK hP 0 atM_0 rfl 44 (by decide) (hg _ mw_1152) (fun _ h9 => h9) rfl dX12_judge_68 ?_
                  refine lv_iload_n hx hb dX12_judge_71 rfl (lv_at hl 3 rfl) ?_
                  refine va_iald hx hb hK hP 28 27 atM_28 tyM_28 (in_rg r31 (by decide)) dX12_judge_72 ?_
                  refine lv_topi (fun x66 e67 => ?_)
                  refine lv_isub hx hb dX12_judge_73 ?_
                  refine lv_topi (fun x68 e69 => ?_)
                  refine va_iast hx hb hK hP hD hS 16 15 atM_16 tyM_16 (in_rg r63 (by decide)) dX12_judge_74 (fun H locs hP hD hS => ?_)
                  have hq := hq.ast 16 (x61).toNatClampNeg (x := x68) (by decide) (rg_top _)
                  rw [setM_16] at hP hD
                  have k70 : x68 = (va_up A40 16 (upd (A40 16) (x61).toNatClampNeg x68)) 16 (x61).toNatClampNeg := (rdA).symm
                  obtain ⟨x71, e72⟩ : ∃ y : Int32, y = a38 + 1 := ⟨_, rfl⟩
                  have r73 : rg x71 1 10 := rg_add e72 r46 (rg_k (by decide) : rg 1 1 1) (by decide)
                  refine lv_iinc (v := x71) (lv' := [(4, .int x71), (0, .ref (ad 0)), (1, .int p1), (2, .int a12), (3, .int a13)]) hx hb dX12_judge_75 hl (k := 4) rfl (by rw [e72]; rfl) (by decide) rfl (fun ls hl => ?_)
                  refine lv_goto (tgt := 38) hx hb dX12_judge_78 (by decide) ?_
                  exact ih38 (x71) (F40) (L40) ((va_up A40 16 (upd (A40 16) (x61).toNatClampNeg x68))) (B40) H locs ls (by have h0 : (1 : Int32).toInt = 1 := rfl; have h1 := ti_addk e72 r46 (by decide); have h2 : rg x71 0 10 := (rg_w r73 (by decide)); unfold rg at h2; omega) (rg_w r73 (by decide)) hq (f41) hP hD hS (lv_sub hl [1, 2, 3, 4, 0] rfl)
            exact J38 _ (0) (F15) (L15) (A15) (B15) H locs ls (Nat.lt_succ_self _) (rg_k (by decide)) hq (e17.symm) hP hD hS (lv_sub hl [1, 2, 3, 4, 0] rfl)
    exact J19 _ (0) (0) (F10) (L10) (A10) (B10) H locs ls (Nat.lt_succ_self _) (rg_k (by decide)) hq hP hD hS (lv_sub hl [2, 3, 1, 0] rfl)
  · skip
    have r9 : rg x1 0 0 := rg_eq1 c5 (r2 : rg x1 0 1) ((rg_k (by decide)) : rg 0 0 0) (by decide)
    refine lv_iconst (v := (-1)) hx hb dX12_judge_9 (by decide) ?_
    exact hret ((-1)) (F, L, A, B) H locs 10 ls rfl dX12_judge_10 hP hD hS hq
abbrev rm_X12_sight_0 : Room := { frames := 2, cells := 0, slots := 0, locals := 43 }
set_option maxHeartbeats 4000000 in
set_option maxRecDepth 100000 in
theorem c_X12_sight_0 (l : Launch) (D : va_G) (cA : Nat → ClassId) (sz : Nat) (ad : Nat → Nat) (F : Nat → Int32) (L : Nat → Int64) (A : Nat → Nat → Int32) (B : Nat → Nat → Int64) (p1 : Int32) (p2 : Int32) (p3 : Int32) (hT : typM F A) : Met l yX12_sight (Cond.code yX12_sight cX12_sight 4 (some .int) :: GW) rm_X12_sight_0 (mPc D classes (tysM cA) (wM cA ad F L A B) sz [.ref (ad 0), .int p1, .int p2, .int p3]) (mQi (S := SW) D classes (tysM cA) (wM cA ad F L A B) sz (wfM cA ad) (fun r u => qM [17] [31, 32, 33, 34, 35] F A u.1 u.2.2.1 ∧ rg r (-1) 19)) 0 0 (va_A (wM cA ad F L A B) sz) := by
  refine met_i (own := "ShoeingDayModel") (by decide +kernel) rfl (Nat.le_of_ble_eq_true rfl) ?_
  intro p e s m args below meth c Q Af ls hC hP hD hS hA hl hret
  have hx := hC.1
  have hb := hC.2.1
  have hown := hC.2.2.2.1
  have hg := hC.g
  have hK := hC.K
  have hl : lv_has ls 4 [(0, .ref (ad 0)), (1, .int p1), (2, .int p2), (3, .int p3)] := hl
  have hq : qM [17] [31, 32, 33, 34, 35] F A F A := qM.rf hT
  obtain ⟨H, hH⟩ : ∃ H, H = s.heap := ⟨_, rfl⟩
  have hP : va_P D classes (wM cA ad F L A B) H := by rw [hH]; exact hP
  have hS : va_S Af s.heap H [] := by rw [hH]; exact hS
  obtain ⟨locs, hlo⟩ : ∃ q : List Loc, q = [] := ⟨_, rfl⟩
  rw [← hH, ← hlo]
  rw [← hlo] at hS
  refine lv_iload_n hx hb dX12_sight_0 rfl (lv_at hl 1 rfl) ?_
  refine lv_iconst (v := 0) hx hb dX12_sight_1 (by decide) ?_
  refine lv_sipush (v := 999) hx hb dX12_sight_2 (by decide) ?_
  refine calls_i (As := [.int p1, .int 0, .int 999]) (rest := []) hC (c_X12_isIn l D (tysM cA) (wM cA ad F L A B) H.size (p1) (0) (999) (rg_k (by decide)) (rg_k (by decide))) (cwS 3 hg (g_S mw_1391 mw_1389 mw_1390 mw_20) rfl rfl rfl (by decide +kernel) ⟨(Nat.le_of_ble_eq_true rfl), (Nat.le_of_ble_eq_true rfl)⟩) hP hD hS hA rfl hl.1 rfl (Nat.le_of_ble_eq_true rfl) dX12_sight_5 ⟨Nat.zero_le _, Nat.zero_le _⟩ (fun x1 u H locs hw hP hD hS => ?_)
  obtain ⟨r2, g3, g4⟩ := hw
  have hP : va_P D classes (wM cA ad F L A B) H := hP
  have hD : va_D Af (wM cA ad F L A B) := hD
  have J41 : ∀ (F5 : Nat → Int32) (L5 : Nat → Int64) (A5 : Nat → Nat → Int32) (B5 : Nat → Nat → Int64) (H : Heap) (locs : List Loc) (ls : Array Slot), qM [17] [31, 32, 33, 34, 35] F A F5 A5 → va_P D classes (wM cA ad F5 L5 A5 B5) H → va_D Af (wM cA ad F5 L5 A5 B5) → va_S Af s.heap H locs → lv_has ls 4 [] → W p l e rm_X12_sight_0 s m args below meth c H locs 0 0 Q (F0 m 41 ls []) := by
    intro F5 L5 A5 B5 H locs ls hq hP hD hS hl
    refine lv_iconst (v := (-1)) hx hb dX12_sight_41 (by decide) ?_
    exact hret ((-1)) (F5, L5, A5, B5) H locs 42 ls rfl dX12_sight_42 hP hD hS ⟨hq, (rg_k (by decide))⟩
  refine lv_if_eq (tgt := 41) hx hb dX12_sight_8 (by decide) (fun c6 => ?_) (fun c6 => ?_)
  · skip
    have r7 : rg x1 0 0 := rg_eq1 c6 (r2 : rg x1 0 1) ((rg_k (by decide)) : rg 0 0 0) (by decide)
    exact J41 (F) (L) (A) (B) H locs ls hq hP hD hS (lv_sub hl [] rfl)
  · skip
    have g8 := g3.resolve_left c6
    have r9 : rg p1 0 2147483647 := rg_le2 g8.1 ((rg_k (by decide)) : rg 0 0 0) ((rg_top _) : rg p1 (-2147483648) 2147483647)
    have r10 : rg p1 0 999 := rg_le1 g8.2 (r9 : rg p1 0 2147483647) ((rg_k (by decide)) : rg 999 999 999)
    refine lv_aload_n hx hb dX12_sight_11 rfl (lv_at hl 0 rfl) ?_
    refine lv_iload_n hx hb dX12_sight_12 rfl (lv_at hl 2 rfl) ?_
    refine callv_i (As := [.int p2]) (rest := []) hC (c_X12_isSmith_0 l D cA H.size ad F L A B (p2) hq.1) (cwV 1 hg (g_V mw_1384 mw_1381 mw_1383 ms_66 mw_20) rfl rfl rfl (by decide +kernel) ⟨(Nat.le_of_ble_eq_true rfl), (Nat.le_of_ble_eq_true rfl)⟩) hP hD hS hA atM_0 rfl rfl hl.1 rfl (Nat.le_of_ble_eq_true rfl) dX12_sight_13 ⟨Nat.zero_le _, Nat.zero_le _⟩ (fun x11 u H locs hw hP hD hS => ?_)
    obtain ⟨r12, g13, g14⟩ := hw
    have hP : va_P D classes (wM cA ad F L A B) H := hP
    have hD : va_D Af (wM cA ad F L A B) := hD
    refine lv_if_eq (tgt := 41) hx hb dX12_sight_16 (by decide) (fun c15 => ?_) (fun c15 => ?_)
    · skip
      have r16 : rg x11 0 0 := rg_eq1 c15 (r12 : rg x11 0 1) ((rg_k (by decide)) : rg 0 0 0) (by decide)
      exact J41 (F) (L) (A) (B) H locs ls hq hP hD hS (lv_sub hl [] rfl)
    · skip
      have g17 := g13.resolve_left c15
      refine lv_iload_n hx hb dX12_sight_19 rfl (lv_at hl 3 rfl) ?_
      refine lv_iconst (v := (-1)) hx hb dX12_sight_20 (by decide) ?_
      have J32 : ∀ (F19 : Nat → Int32) (L19 : Nat → Int64) (A19 : Nat → Nat → Int32) (B19 : Nat → Nat → Int64) (H : Heap) (locs : List Loc) (ls : Array Slot), rg p3 (-1) 9 → qM [17] [31, 32, 33, 34, 35] F A F19 A19 → va_P D classes (wM cA ad F19 L19 A19 B19) H → va_D Af (wM cA ad F19 L19 A19 B19) → va_S Af s.heap H locs → lv_has ls 4 [(0, .ref (ad 0)), (1, .int p1), (2, .int p2), (3, .int p3)] → W p l e rm_X12_sight_0 s m args below meth c H locs 0 0 Q (F0 m 32 ls []) := by
        intro F19 L19 A19 B19 H locs ls r18 hq hP hD hS hl
        refine lv_aload_n hx hb dX12_sight_32 rfl (lv_at hl 0 rfl) ?_
        refine va_get (ci := 12) (v := .int (F19 17)) (C := RX12) (T := TX12) (N := 57) hx hb hg inX12 hown hK hP 0 atM_0 rfl 53 (by decide) (hg _ mw_1161) (fun _ h9 => h9) rfl dX12_sight_33 ?_
        refine lv_topi (fun x20 e21 => ?_)
        have r22 : rg x20 0 20 := rg_e e21 (hq.1.1 17)
        refine lv_bipush (v := 20) hx hb dX12_sight_36 (by decide) ?_
        refine lv_icmp_ne (tgt := 43) hx hb dX12_sight_38 (by decide) (fun c23 => ?_) (fun c23 => ?_)
        · skip
          have r24 : rg x20 0 19 := (rg_ne1 c23 (r22 : rg x20 0 20) ((rg_k (by decide)) : rg 20 20 20)).2 rfl
          refine lv_aload_n hx hb dX12_sight_43 rfl (lv_at hl 0 rfl) ?_
          refine va_get (ci := 12) (v := .ref (ad 31)) (C := RX12) (T := TX12) (N := 57) hx hb hg inX12 hown hK hP 0 atM_0 rfl 48 (by decide) (hg _ mw_1156) (fun _ h9 => h9) rfl dX12_sight_44 ?_
          refine lv_aload_n hx hb dX12_sight_47 rfl (lv_at hl 0 rfl) ?_
          refine va_get (ci := 12) (v := .int x20) (C := RX12) (T := TX12) (N := 57) hx hb hg inX12 hown hK hP 0 atM_0 rfl 53 (by decide) (hg _ mw_1161) (fun _ h9 => h9) (congrArg (fun z => some (Value.int z)) (e21.symm)) dX12_sight_48 ?_
          refine lv_iload_n hx hb dX12_sight_51 rfl (lv_at hl 1 rfl) ?_
          refine va_iast hx hb hK hP hD hS 31 30 atM_31 tyM_31 (in_rg r24 (by decide)) dX12_sight_52 (fun H locs hP hD hS => ?_)
          have hq := hq.ast 31 (x20).toNatClampNeg (x := p1) (by decide) (rg_top _)
          rw [setM_31] at hP hD
          have k26 : p1 = (va_up A19 31 (upd (A19 31) (x20).toNatClampNeg p1)) 31 (x20).toNatClampNeg := (rdA).symm
          refine lv_aload_n hx hb dX12_sight_53 rfl (lv_at hl 0 rfl) ?_
          refine va_get (ci := 12) (v := .ref (ad 32)) (C := RX12) (T := TX12) (N := 57) hx hb hg inX12 hown hK hP 0 atM_0 rfl 49 (by decide) (hg _ mw_1157) (fun _ h9 => h9) rfl dX12_sight_54 ?_
          refine lv_aload_n hx hb dX12_sight_57 rfl (lv_at hl 0 rfl) ?_
          refine va_get (ci := 12) (v := .int x20) (C := RX12) (T := TX12) (N := 57) hx hb hg inX12 hown hK hP 0 atM_0 rfl 53 (by decide) (hg _ mw_1161) (fun _ h9 => h9) (congrArg (fun z => some (Value.int z)) (e21.symm)) dX12_sight_58 ?_
          refine lv_iload_n hx hb dX12_sight_61 rfl (lv_at hl 2 rfl) ?_
          refine va_iast hx hb hK hP hD hS 32 31 atM_32 tyM_32 (in_rg r24 (by decide)) dX12_sight_62 (fun H locs hP hD hS => ?_)
          have hq := hq.ast 32 (x20).toNatClampNeg (x := p2) (by decide) g17
          rw [setM_32] at hP hD
          have k27 : p2 = (va_up (va_up A19 31 (upd (A19 31) (x20).toNatClampNeg p1)) 32 (upd ((va_up A19 31 (upd (A19 31) (x20).toNatClampNeg p1)) 32) (x20).toNatClampNeg p2)) 32 (x20).toNatClampNeg := (rdA).symm
          refine lv_aload_n hx hb dX12_sight_63 rfl (lv_at hl 0 rfl) ?_
          refine va_get (ci := 12) (v := .ref (ad 33)) (C := RX12) (T := TX12) (N := 57) hx hb hg inX12 hown hK hP 0 atM_0 rfl 50 (by decide) (hg _ mw_1158) (fun _ h9 => h9) rfl dX12_sight_64 ?_
          refine lv_aload_n hx hb dX12_sight_67 rfl (lv_at hl 0 rfl) ?_
          refine va_get (ci := 12) (v := .int x20) (C := RX12) (T := TX12) (N := 57) hx hb hg inX12 hown hK hP 0 atM_0 rfl 53 (by decide) (hg _ mw_1161) (fun _ h9 => h9) (congrArg (fun z => some (Value.int z)) (e21.symm)) dX12_sight_68 ?_
          refine lv_iload_n hx hb dX12_sight_71 rfl (lv_at hl 3 rfl) ?_
          refine va_iast hx hb hK hP hD hS 33 32 atM_33 tyM_33 (in_rg r24 (by decide)) dX12_sight_72 (fun H locs hP hD hS => ?_)
          have hq := hq.ast 33 (x20).toNatClampNeg (x := p3) (by decide) (rg_top _)
          rw [setM_33] at hP hD
          have k28 : p3 = (va_up (va_up (va_up A19 31 (upd (A19 31) (x20).toNatClampNeg p1)) 32 (upd ((va_up A19 31 (upd (A19 31) (x20).toNatClampNeg p1)) 32) (x20).toNatClampNeg p2)) 33 (upd ((va_up (va_up A19 31 (upd (A19 31) (x20).toNatClampNeg p1)) 32 (upd ((va_up A19 31 (upd (A19 31) (x20).toNatClampNeg p1)) 32) (x20).toNatClampNeg p2)) 33) (x20).toNatClampNeg p3)) 33 (x20).toNatClampNeg := (rdA).symm
          refine lv_aload_n hx hb dX12_sight_73 rfl (lv_at hl 0 rfl) ?_
          refine va_get (ci := 12) (v := .ref (ad 34)) (C := RX12) (T := TX12) (N := 57) hx hb hg inX12 hown hK hP 0 atM_0 rfl 51 (by decide) (hg _ mw_1159) (fun _ h9 => h9) rfl dX12_sight_74 ?_
          refine lv_aload_n hx hb dX12_sight_77 rfl (lv_at hl 0 rfl) ?_
          refine va_get (ci := 12) (v := .int x20) (C := RX12) (T := TX12) (N := 57) hx hb hg inX12 hown hK hP 0 atM_0 rfl 53 (by decide) (hg _ mw_1161) (fun _ h9 => h9) (congrArg (fun z => some (Value.int z)) (e21.symm)) dX12_sight_78 ?_
          refine lv_aload_n hx hb dX12_sight_81 rfl (lv_at hl 0 rfl) ?_
          refine va_get (ci := 12) (v := .int (F19 18)) (C := RX12) (T := TX12) (N := 57) hx hb hg inX12 hown hK hP 0 atM_0 rfl 54 (by decide) (hg _ mw_1162) (fun _ h9 => h9) rfl dX12_sight_82 ?_
          refine lv_topi (fun x29 e30 => ?_)
          have r31 : rg x29 0 100000 := rg_e e30 (hq.1.1 18)
          refine va_iast hx hb hK hP hD hS 34 33 atM_34 tyM_34 (in_rg r24 (by decide)) dX12_sight_85 (fun H locs hP hD hS => ?_)
          have hq := hq.ast 34 (x20).toNatClampNeg (x := x29) (by decide) (rg_top _)
          rw [setM_34] at hP hD
          have k32 : x29 = (va_up (va_up (va_up (va_up A19 31 (upd (A19 31) (x20).toNatClampNeg p1)) 32 (upd ((va_up A19 31 (upd (A19 31) (x20).toNatClampNeg p1)) 32) (x20).toNatClampNeg p2)) 33 (upd ((va_up (va_up A19 31 (upd (A19 31) (x20).toNatClampNeg p1)) 32 (upd ((va_up A19 31 (upd (A19 31) (x20).toNatClampNeg p1)) 32) (x20).toNatClampNeg p2)) 33) (x20).toNatClampNeg p3)) 34 (upd ((va_up (va_up (va_up A19 31 (upd (A19 31) (x20).toNatClampNeg p1)) 32 (upd ((va_up A19 31 (upd (A19 31) (x20).toNatClampNeg p1)) 32) (x20).toNatClampNeg p2)) 33 (upd ((va_up (va_up A19 31 (upd (A19 31) (x20).toNatClampNeg p1)) 32 (upd ((va_up A19 31 (upd (A19 31) (x20).toNatClampNeg p1)) 32) (x20).toNatClampNeg p2)) 33) (x20).toNatClampNeg p3)) 34) (x20).toNatClampNeg x29)) 34 (x20).toNatClampNeg := (rdA).symm
          refine lv_aload_n hx hb dX12_sight_86 rfl (lv_at hl 0 rfl) ?_
          refine va_get (ci := 12) (v := .ref (ad 35)) (C := RX12) (T := TX12) (N := 57) hx hb hg inX12 hown hK hP 0 atM_0 rfl 52 (by decide) (hg _ mw_1160) (fun _ h9 => h9) rfl dX12_sight_87 ?_
          refine lv_aload_n hx hb dX12_sight_90 rfl (lv_at hl 0 rfl) ?_
          refine va_get (ci := 12) (v := .int x20) (C := RX12) (T := TX12) (N := 57) hx hb hg inX12 hown hK hP 0 atM_0 rfl 53 (by decide) (hg _ mw_1161) (fun _ h9 => h9) (congrArg (fun z => some (Value.int z)) (e21.symm)) dX12_sight_91 ?_
          refine lv_iconst (v := (-1)) hx hb dX12_sight_94 (by decide) ?_
          refine va_iast hx hb hK hP hD hS 35 34 atM_35 tyM_35 (in_rg r24 (by decide)) dX12_sight_95 (fun H locs hP hD hS => ?_)
          have hq := hq.ast 35 (x20).toNatClampNeg (x := (-1)) (by decide) (rg_k (by decide))
          rw [setM_35] at hP hD
          have k33 : ((-1) : Int32) = (va_up (va_up (va_up (va_up (va_up A19 31 (upd (A19 31) (x20).toNatClampNeg p1)) 32 (upd ((va_up A19 31 (upd (A19 31) (x20).toNatClampNeg p1)) 32) (x20).toNatClampNeg p2)) 33 (upd ((va_up (va_up A19 31 (upd (A19 31) (x20).toNatClampNeg p1)) 32 (upd ((va_up A19 31 (upd (A19 31) (x20).toNatClampNeg p1)) 32) (x20).toNatClampNeg p2)) 33) (x20).toNatClampNeg p3)) 34 (upd ((va_up (va_up (va_up A19 31 (upd (A19 31) (x20).toNatClampNeg p1)) 32 (upd ((va_up A19 31 (upd (A19 31) (x20).toNatClampNeg p1)) 32) (x20).toNatClampNeg p2)) 33 (upd ((va_up (va_up A19 31 (upd (A19 31) (x20).toNatClampNeg p1)) 32 (upd ((va_up A19 31 (upd (A19 31) (x20).toNatClampNeg p1)) 32) (x20).toNatClampNeg p2)) 33) (x20).toNatClampNeg p3)) 34) (x20).toNatClampNeg x29)) 35 (upd ((va_up (va_up (va_up (va_up A19 31 (upd (A19 31) (x20).toNatClampNeg p1)) 32 (upd ((va_up A19 31 (upd (A19 31) (x20).toNatClampNeg p1)) 32) (x20).toNatClampNeg p2)) 33 (upd ((va_up (va_up A19 31 (upd (A19 31) (x20).toNatClampNeg p1)) 32 (upd ((va_up A19 31 (upd (A19 31) (x20).toNatClampNeg p1)) 32) (x20).toNatClampNeg p2)) 33) (x20).toNatClampNeg p3)) 34 (upd ((va_up (va_up (va_up A19 31 (upd (A19 31) (x20).toNatClampNeg p1)) 32 (upd ((va_up A19 31 (upd (A19 31) (x20).toNatClampNeg p1)) 32) (x20).toNatClampNeg p2)) 33 (upd ((va_up (va_up A19 31 (upd (A19 31) (x20).toNatClampNeg p1)) 32 (upd ((va_up A19 31 (upd (A19 31) (x20).toNatClampNeg p1)) 32) (x20).toNatClampNeg p2)) 33) (x20).toNatClampNeg p3)) 34) (x20).toNatClampNeg x29)) 35) (x20).toNatClampNeg (-1))) 35 (x20).toNatClampNeg := (rdA).symm
          refine lv_aload_n hx hb dX12_sight_96 rfl (lv_at hl 0 rfl) ?_
          refine lv_dup hx hb dX12_sight_97 rfl ?_
          refine va_get (ci := 12) (v := .int x20) (C := RX12) (T := TX12) (N := 57) hx hb hg inX12 hown hK hP 0 atM_0 rfl 53 (by decide) (hg _ mw_1161) (fun _ h9 => h9) (congrArg (fun z => some (Value.int z)) (e21.symm)) dX12_sight_98 ?_
          refine lv_iconst (v := 1) hx hb dX12_sight_101 (by decide) ?_
          refine lv_iadd hx hb dX12_sight_102 ?_
          refine lv_topi (fun x34 e35 => ?_)
          have r36 : rg x34 1 20 := rg_add e35 r24 ((rg_k (by decide)) : rg 1 1 1) (by decide)
          refine va_put (ci := 12) (v := .int x34) (ty := .int) (C := RX12) (T := TX12) (N := 57) hx hb hg inX12 tyX12 tyX12_ok nmX12 hown hK hP hD hS 0 atM_0 rfl 53 (by decide) (hg _ mw_1161) (fun _ h9 => h9) rfl (by decide +kernel) rfl rfl (Nat.le_of_ble_eq_true rfl) dX12_sight_103 (fun H locs hP hD hS => ?_)
          have hq := hq.put 17 (x := x34) (by decide) (rg_w r36 (by decide))
          rw [setFM_17] at hP hD
          refine lv_aload_n hx hb dX12_sight_106 rfl (lv_at hl 0 rfl) ?_
          refine va_get (ci := 12) (v := .int x34) (C := RX12) (T := TX12) (N := 57) hx hb hg inX12 hown hK hP 0 atM_0 rfl 53 (by decide) (hg _ mw_1161) (fun _ h9 => h9) (congrArg (fun z => some (Value.int z)) (rfl)) dX12_sight_107 ?_
          refine lv_iconst (v := 1) hx hb dX12_sight_110 (by decide) ?_
          refine lv_isub hx hb dX12_sight_111 ?_
          refine lv_topi (fun x37 e38 => ?_)
          have r39 : rg x37 0 19 := rg_sub e38 r36 ((rg_k (by decide)) : rg 1 1 1) (by decide)
          exact hret (x37) ((upd F19 17 x34), L19, (va_up (va_up (va_up (va_up (va_up A19 31 (upd (A19 31) (x20).toNatClampNeg p1)) 32 (upd ((va_up A19 31 (upd (A19 31) (x20).toNatClampNeg p1)) 32) (x20).toNatClampNeg p2)) 33 (upd ((va_up (va_up A19 31 (upd (A19 31) (x20).toNatClampNeg p1)) 32 (upd ((va_up A19 31 (upd (A19 31) (x20).toNatClampNeg p1)) 32) (x20).toNatClampNeg p2)) 33) (x20).toNatClampNeg p3)) 34 (upd ((va_up (va_up (va_up A19 31 (upd (A19 31) (x20).toNatClampNeg p1)) 32 (upd ((va_up A19 31 (upd (A19 31) (x20).toNatClampNeg p1)) 32) (x20).toNatClampNeg p2)) 33 (upd ((va_up (va_up A19 31 (upd (A19 31) (x20).toNatClampNeg p1)) 32 (upd ((va_up A19 31 (upd (A19 31) (x20).toNatClampNeg p1)) 32) (x20).toNatClampNeg p2)) 33) (x20).toNatClampNeg p3)) 34) (x20).toNatClampNeg x29)) 35 (upd ((va_up (va_up (va_up (va_up A19 31 (upd (A19 31) (x20).toNatClampNeg p1)) 32 (upd ((va_up A19 31 (upd (A19 31) (x20).toNatClampNeg p1)) 32) (x20).toNatClampNeg p2)) 33 (upd ((va_up (va_up A19 31 (upd (A19 31) (x20).toNatClampNeg p1)) 32 (upd ((va_up A19 31 (upd (A19 31) (x20).toNatClampNeg p1)) 32) (x20).toNatClampNeg p2)) 33) (x20).toNatClampNeg p3)) 34 (upd ((va_up (va_up (va_up A19 31 (upd (A19 31) (x20).toNatClampNeg p1)) 32 (upd ((va_up A19 31 (upd (A19 31) (x20).toNatClampNeg p1)) 32) (x20).toNatClampNeg p2)) 33 (upd ((va_up (va_up A19 31 (upd (A19 31) (x20).toNatClampNeg p1)) 32 (upd ((va_up A19 31 (upd (A19 31) (x20).toNatClampNeg p1)) 32) (x20).toNatClampNeg p2)) 33) (x20).toNatClampNeg p3)) 34) (x20).toNatClampNeg x29)) 35) (x20).toNatClampNeg (-1))), B19) H locs 112 ls rfl dX12_sight_112 hP hD hS ⟨hq, (rg_w r39 (by decide))⟩
        · skip
          have r25 : rg x20 20 20 := rg_eq1 c23 (r22 : rg x20 0 20) ((rg_k (by decide)) : rg 20 20 20) (by decide)
          exact J41 (F19) (L19) (A19) (B19) H locs ls hq hP hD hS (lv_sub hl [] rfl)
      refine lv_icmp_eq (tgt := 32) hx hb dX12_sight_21 (by decide) (fun c40 => ?_) (fun c40 => ?_)
      · skip
        have r41 : rg p3 (-1) (-1) := rg_eq1 c40 ((rg_top _) : rg p3 (-2147483648) 2147483647) ((rg_k (by decide)) : rg (-1) (-1) (-1)) (by decide)
        exact J32 (F) (L) (A) (B) H locs ls (rg_w r41 (by decide)) hq hP hD hS (lv_sub hl [0, 1, 2, 3] rfl)
      · skip
        refine lv_aload_n hx hb dX12_sight_24 rfl (lv_at hl 0 rfl) ?_
        refine lv_iload_n hx hb dX12_sight_25 rfl (lv_at hl 3 rfl) ?_
        refine callv_i (As := [.int p3]) (rest := []) hC (c_X12_isHorse_0 l D cA H.size ad F L A B (p3) hq.1) (cwV 1 hg (g_V mw_1395 mw_1392 mw_1394 ms_68 mw_20) rfl rfl rfl (by decide +kernel) ⟨(Nat.le_of_ble_eq_true rfl), (Nat.le_of_ble_eq_true rfl)⟩) hP hD hS hA atM_0 rfl rfl hl.1 rfl (Nat.le_of_ble_eq_true rfl) dX12_sight_26 ⟨Nat.zero_le _, Nat.zero_le _⟩ (fun x42 u H locs hw hP hD hS => ?_)
        obtain ⟨r43, g44, g45⟩ := hw
        have hP : va_P D classes (wM cA ad F L A B) H := hP
        have hD : va_D Af (wM cA ad F L A B) := hD
        refine lv_if_eq (tgt := 41) hx hb dX12_sight_29 (by decide) (fun c46 => ?_) (fun c46 => ?_)
        · skip
          have r47 : rg x42 0 0 := rg_eq1 c46 (r43 : rg x42 0 1) ((rg_k (by decide)) : rg 0 0 0) (by decide)
          exact J41 (F) (L) (A) (B) H locs ls hq hP hD hS (lv_sub hl [] rfl)
        · skip
          have g48 := g44.resolve_left c46
          exact J32 (F) (L) (A) (B) H locs ls (rg_w g48 (by decide)) hq hP hD hS (lv_sub hl [0, 1, 2, 3] rfl)
abbrev rm_X12_untell_0 : Room := { frames := 1, cells := 0, slots := 0, locals := 22 }
set_option maxHeartbeats 4000000 in
set_option maxRecDepth 100000 in
theorem c_X12_untell_0 (l : Launch) (D : va_G) (cA : Nat → ClassId) (sz : Nat) (ad : Nat → Nat) (F : Nat → Int32) (L : Nat → Int64) (A : Nat → Nat → Int32) (B : Nat → Nat → Int64) (p1 : Int32) (hT : typM F A) : Met l yX12_untell (Cond.code yX12_untell cX12_untell 2 (some .boolean) :: GW) rm_X12_untell_0 (mPc D classes (tysM cA) (wM cA ad F L A B) sz [.ref (ad 0), .int p1]) (mQi (S := SW) D classes (tysM cA) (wM cA ad F L A B) sz (wfM cA ad) (fun r u => qM [] [35] F A u.1 u.2.2.1 ∧ rg r 0 1 ∧ (r = 0 ∨ (rg p1 0 19)))) 0 0 (va_A (wM cA ad F L A B) sz) := by
  refine met_i (own := "ShoeingDayModel") (by decide +kernel) rfl (Nat.le_of_ble_eq_true rfl) ?_
  intro p e s m args below meth c Q Af ls hC hP hD hS hA hl hret
  have hx := hC.1
  have hb := hC.2.1
  have hown := hC.2.2.2.1
  have hg := hC.g
  have hK := hC.K
  have hl : lv_has ls 2 [(0, .ref (ad 0)), (1, .int p1)] := hl
  have hq : qM [] [35] F A F A := qM.rf hT
  obtain ⟨H, hH⟩ : ∃ H, H = s.heap := ⟨_, rfl⟩
  have hP : va_P D classes (wM cA ad F L A B) H := by rw [hH]; exact hP
  have hS : va_S Af s.heap H [] := by rw [hH]; exact hS
  obtain ⟨locs, hlo⟩ : ∃ q : List Loc, q = [] := ⟨_, rfl⟩
  rw [← hH, ← hlo]
  rw [← hlo] at hS
  refine lv_iload_n hx hb dX12_untell_0 rfl (lv_at hl 1 rfl) ?_
  refine lv_iconst (v := 0) hx hb dX12_untell_1 (by decide) ?_
  refine lv_aload_n hx hb dX12_untell_2 rfl (lv_at hl 0 rfl) ?_
  refine va_get (ci := 12) (v := .int (F 17)) (C := RX12) (T := TX12) (N := 57) hx hb hg inX12 hown hK hP 0 atM_0 rfl 53 (by decide) (hg _ mw_1161) (fun _ h9 => h9) rfl dX12_untell_3 ?_
  refine lv_topi (fun x1 e2 => ?_)
  have r3 : rg x1 0 20 := rg_e e2 (hq.1.1 17)
  refine lv_iconst (v := 1) hx hb dX12_untell_6 (by decide) ?_
  refine lv_isub hx hb dX12_untell_7 ?_
  refine lv_topi (fun x4 e5 => ?_)
  have r6 : rg x4 (-1) 19 := rg_sub e5 r3 ((rg_k (by decide)) : rg 1 1 1) (by decide)
  refine calls_i (As := [.int p1, .int 0, .int x4]) (rest := []) hC (c_X12_isIn l D (tysM cA) (wM cA ad F L A B) H.size (p1) (0) (x4) (rg_k (by decide)) (rg_w r6 (by decide))) (cwS 3 hg (g_S mw_1391 mw_1389 mw_1390 mw_20) rfl rfl rfl (by decide +kernel) ⟨(Nat.le_of_ble_eq_true rfl), (Nat.le_of_ble_eq_true rfl)⟩) hP hD hS hA rfl hl.1 rfl (Nat.le_of_ble_eq_true rfl) dX12_untell_8 ⟨Nat.zero_le _, Nat.zero_le _⟩ (fun x7 u H locs hw hP hD hS => ?_)
  obtain ⟨r8, g9, g10⟩ := hw
  have hP : va_P D classes (wM cA ad F L A B) H := hP
  have hD : va_D Af (wM cA ad F L A B) := hD
  have J23 : ∀ (F11 : Nat → Int32) (L11 : Nat → Int64) (A11 : Nat → Nat → Int32) (B11 : Nat → Nat → Int64) (H : Heap) (locs : List Loc) (ls : Array Slot), qM [] [35] F A F11 A11 → va_P D classes (wM cA ad F11 L11 A11 B11) H → va_D Af (wM cA ad F11 L11 A11 B11) → va_S Af s.heap H locs → lv_has ls 2 [] → W p l e rm_X12_untell_0 s m args below meth c H locs 0 0 Q (F0 m 23 ls []) := by
    intro F11 L11 A11 B11 H locs ls hq hP hD hS hl
    refine lv_iconst (v := 0) hx hb dX12_untell_23 (by decide) ?_
    exact hret (0) (F11, L11, A11, B11) H locs 24 ls rfl dX12_untell_24 hP hD hS ⟨hq, (rg_k (by decide)), Or.inl rfl⟩
  refine lv_if_eq (tgt := 23) hx hb dX12_untell_11 (by decide) (fun c12 => ?_) (fun c12 => ?_)
  · skip
    have r13 : rg x7 0 0 := rg_eq1 c12 (r8 : rg x7 0 1) ((rg_k (by decide)) : rg 0 0 0) (by decide)
    exact J23 (F) (L) (A) (B) H locs ls hq hP hD hS (lv_sub hl [] rfl)
  · skip
    have g14 := g9.resolve_left c12
    have r15 : rg p1 0 2147483647 := rg_le2 g14.1 ((rg_k (by decide)) : rg 0 0 0) ((rg_top _) : rg p1 (-2147483648) 2147483647)
    have r16 : rg p1 0 19 := rg_le1 g14.2 (r15 : rg p1 0 2147483647) (r6 : rg x4 (-1) 19)
    have r17 : rg x4 0 19 := rg_le2 g14.2 (r15 : rg p1 0 2147483647) (r6 : rg x4 (-1) 19)
    refine lv_aload_n hx hb dX12_untell_14 rfl (lv_at hl 0 rfl) ?_
    refine va_get (ci := 12) (v := .ref (ad 35)) (C := RX12) (T := TX12) (N := 57) hx hb hg inX12 hown hK hP 0 atM_0 rfl 52 (by decide) (hg _ mw_1160) (fun _ h9 => h9) rfl dX12_untell_15 ?_
    refine lv_iload_n hx hb dX12_untell_18 rfl (lv_at hl 1 rfl) ?_
    refine va_iald hx hb hK hP 35 34 atM_35 tyM_35 (in_rg r16 (by decide)) dX12_untell_19 ?_
    refine lv_topi (fun x18 e19 => ?_)
    refine lv_if_lt (tgt := 25) hx hb dX12_untell_20 (by decide) (fun c20 => ?_) (fun c20 => ?_)
    · skip
      have r21 : rg x18 (-2147483648) (-1) := rg_lt1 (iL c20) ((rg_top _) : rg x18 (-2147483648) 2147483647) ((rg_k (by decide)) : rg 0 0 0)
      refine lv_aload_n hx hb dX12_untell_25 rfl (lv_at hl 0 rfl) ?_
      refine va_get (ci := 12) (v := .ref (ad 35)) (C := RX12) (T := TX12) (N := 57) hx hb hg inX12 hown hK hP 0 atM_0 rfl 52 (by decide) (hg _ mw_1160) (fun _ h9 => h9) rfl dX12_untell_26 ?_
      refine lv_iload_n hx hb dX12_untell_29 rfl (lv_at hl 1 rfl) ?_
      refine lv_aload_n hx hb dX12_untell_30 rfl (lv_at hl 0 rfl) ?_
      refine va_get (ci := 12) (v := .int (F 18)) (C := RX12) (T := TX12) (N := 57) hx hb hg inX12 hown hK hP 0 atM_0 rfl 54 (by decide) (hg _ mw_1162) (fun _ h9 => h9) rfl dX12_untell_31 ?_
      refine lv_topi (fun x23 e24 => ?_)
      have r25 : rg x23 0 100000 := rg_e e24 (hq.1.1 18)
      refine va_iast hx hb hK hP hD hS 35 34 atM_35 tyM_35 (in_rg r16 (by decide)) dX12_untell_34 (fun H locs hP hD hS => ?_)
      have hq := hq.ast 35 (p1).toNatClampNeg (x := x23) (by decide) (rg_top _)
      rw [setM_35] at hP hD
      have k26 : x23 = (va_up A 35 (upd (A 35) (p1).toNatClampNeg x23)) 35 (p1).toNatClampNeg := (rdA).symm
      refine lv_iconst (v := 1) hx hb dX12_untell_35 (by decide) ?_
      exact hret (1) (F, L, (va_up A 35 (upd (A 35) (p1).toNatClampNeg x23)), B) H locs 36 ls rfl dX12_untell_36 hP hD hS ⟨hq, (rg_k (by decide)), Or.inr r16⟩
    · skip
      have r22 : rg x18 0 2147483647 := rg_le2 (iNL c20) ((rg_k (by decide)) : rg 0 0 0) ((rg_top _) : rg x18 (-2147483648) 2147483647)
      exact J23 (F) (L) (A) (B) H locs ls hq hP hD hS (lv_sub hl [] rfl)
