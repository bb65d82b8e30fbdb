abbrev rm_X12_grows_0 : Room := { frames := 0, cells := 0, slots := 0, locals := 0 }
set_option maxHeartbeats 4000000 in
set_option maxRecDepth 100000 in
theorem c_X12_grows_0 (l : Launch) (D : va_G) (cA : Nat → ClassId) (sz : Nat) (ad : Nat → Nat) (F : Nat → Int32) (L : Nat → Int64) (A : Nat → Nat → Int32) (B : Nat → Nat → Int64)  (hT : typM F A) : Met l yX12_grows (Cond.code yX12_grows cX12_grows 4 (some .int) :: GW) rm_X12_grows_0 (mPc D classes (tysM cA) (wM cA ad F L A B) sz [.ref (ad 0)]) (mQi (S := SW) D classes (tysM cA) (wM cA ad F L A B) sz (wfM cA ad) (fun r u => qM [] [23, 24, 25] F A u.1 u.2.2.1)) 0 0 (va_A (wM cA ad F L A B) sz) := by
  sorry
abbrev rm_X12_up : Room := { frames := 0, cells := 0, slots := 0, locals := 0 }
set_option maxHeartbeats 4000000 in
set_option maxRecDepth 100000 in
theorem c_X12_up (l : Launch) (D : va_G) (tys : List (ClassId × FieldType)) (ws : va_W) (sz : Nat) (p0 : Int32) (p1 : Int32) (hp1 : rg p1 1 31) : Met l yX12_up (Cond.code yX12_up cX12_up 2 (some .int) :: GW) rm_X12_up (mPc D classes tys (ws) sz [.int p0, .int p1]) (mQi (S := Unit) D classes tys (ws) sz (fun _ : Unit => ws) (fun r u => True)) 0 0 (va_A (ws) sz) := by
  refine met_i (own := "ShoeingDayModel") (by decide +kernel) rfl (Nat.le_of_ble_eq_true rfl) ?_
  intro p e s m args below meth c Q Af ls hC hP hD hS hA hl hret
  have hx := hC.1
  have hb := hC.2.1
  have hown := hC.2.2.2.1
  have hg := hC.g
  have hK := hC.K
  have hl : lv_has ls 2 [(0, .int p0), (1, .int p1)] := hl
  obtain ⟨H, hH⟩ : ∃ H, H = s.heap := ⟨_, rfl⟩
  have hP : va_P D classes (ws) H := by rw [hH]; exact hP
  have hS : va_S Af s.heap H [] := by rw [hH]; exact hS
  obtain ⟨locs, hlo⟩ : ∃ q : List Loc, q = [] := ⟨_, rfl⟩
  rw [← hH, ← hlo]
  rw [← hlo] at hS
  refine lv_iload_n hx hb dX12_up_0 rfl (lv_at hl 0 rfl) ?_
  refine lv_iload_n hx hb dX12_up_1 rfl (lv_at hl 1 rfl) ?_
  refine lv_iadd hx hb dX12_up_2 ?_
  refine lv_topi (fun x1 e2 => ?_)
  refine lv_iconst (v := 1) hx hb dX12_up_3 (by decide) ?_
  refine lv_isub hx hb dX12_up_4 ?_
  refine lv_topi (fun x3 e4 => ?_)
  refine lv_iload_n hx hb dX12_up_5 rfl (lv_at hl 1 rfl) ?_
  refine lv_idiv hx hb dX12_up_6 (ne0_rg hp1 (by decide)) ?_
  refine lv_topi (fun x5 e6 => ?_)
  exact hret (x5) () H locs 7 ls rfl dX12_up_7 hP hD hS trivial
abbrev rm_X12_isDay_0 : Room := { frames := 1, cells := 0, slots := 0, locals := 24 }
set_option maxHeartbeats 4000000 in
set_option maxRecDepth 100000 in
theorem c_X12_isDay_0 (l : Launch) (D : va_G) (cA : Nat → ClassId) (sz : Nat) (ad : Nat → Nat) (F : Nat → Int32) (L : Nat → Int64) (A : Nat → Nat → Int32) (B : Nat → Nat → Int64) (p1 : Int32) (p2 : Int32) (hT : typM F A) (hp1 : rg p1 1 80) (hp2 : rg p2 1 9) : Met l yX12_isDay (Cond.code yX12_isDay cX12_isDay 6 (some .boolean) :: GW) rm_X12_isDay_0 (mPc D classes (tysM cA) (wM cA ad F L A B) sz [.ref (ad 0), .int p1, .int p2]) (mQi (S := SW) D classes (tysM cA) (wM cA ad F L A B) sz (wfM cA ad) (fun r u => qM [12] [23, 24, 25] F A u.1 u.2.2.1 ∧ rg r 0 1)) 0 0 (va_A (wM cA ad F L A B) sz) := by
  sorry
abbrev rm_X12_layPart_0 : Room := { frames := 2, cells := 0, slots := 0, locals := 49 }
set_option maxHeartbeats 4000000 in
set_option maxRecDepth 100000 in
theorem c_X12_layPart_0 (l : Launch) (D : va_G) (cA : Nat → ClassId) (sz : Nat) (ad : Nat → Nat) (F : Nat → Int32) (L : Nat → Int64) (A : Nat → Nat → Int32) (B : Nat → Nat → Int64) (p1 : Int32) (hT : typM F A) (hp1 : rg p1 1 9) : Met l yX12_layPart (Cond.code yX12_layPart cX12_layPart 3 none :: GW) rm_X12_layPart_0 (mPc D classes (tysM cA) (wM cA ad F L A B) sz [.ref (ad 0), .int p1]) (mQv (S := SW) D classes (tysM cA) (wM cA ad F L A B) sz (wfM cA ad) (fun u => qM [12] [23, 24, 25, 26] F A u.1 u.2.2.1)) 0 0 (va_A (wM cA ad F L A B) sz) := by
  refine met_v (own := "ShoeingDayModel") (by decide +kernel) rfl (Nat.le_of_ble_eq_true rfl) ?_
  intro p e s m args below meth c Q Af ls hC hP hD hS hA hl hret
  have hx := hC.1
  have hb := hC.2.1
  have hown := hC.2.2.2.1
  have hg := hC.g
  have hK := hC.K
  have hl : lv_has ls 3 [(0, .ref (ad 0)), (1, .int p1)] := hl
  have hq : qM [12] [23, 24, 25, 26] F A F A := qM.rf hT
  obtain ⟨H, hH⟩ : ∃ H, H = s.heap := ⟨_, rfl⟩
  have hP : va_P D classes (wM cA ad F L A B) H := by rw [hH]; exact hP
  have hS : va_S Af s.heap H [] := by rw [hH]; exact hS
  obtain ⟨locs, hlo⟩ : ∃ q : List Loc, q = [] := ⟨_, rfl⟩
  rw [← hH, ← hlo]
  rw [← hlo] at hS
  refine lv_iconst (v := 0) hx hb dX12_layPart_0 (by decide) ?_
  refine lv_istore_n (lv' := [(2, .int 0), (0, .ref (ad 0)), (1, .int p1)]) hx hb dX12_layPart_1 rfl hl (by decide) rfl (fun ls hl => ?_)
  have J2 : ∀ (n2 : Nat) (a1 : Int32) (F3 : Nat → Int32) (L3 : Nat → Int64) (A3 : Nat → Nat → Int32) (B3 : Nat → Nat → Int64) (H : Heap) (locs : List Loc) (ls : Array Slot), (80 - a1.toInt).toNat < n2 → rg a1 0 80 → qM [12] [23, 24, 25, 26] F A F3 A3 → va_P D classes (wM cA ad F3 L3 A3 B3) H → va_D Af (wM cA ad F3 L3 A3 B3) → va_S Af s.heap H locs → lv_has ls 3 [(0, .ref (ad 0)), (1, .int p1), (2, .int a1)] → W p l e rm_X12_layPart_0 s m args below meth c H locs 0 0 Q (F0 m 2 ls []) := by
    intro n2
    induction n2 with
    | zero =>
      intro _ _ _ _ _ _ _ _ hn
      exact absurd hn (Nat.not_lt_zero _)
    | succ n2 ih2 =>
      intro a1 F3 L3 A3 B3 H locs ls hn2 r2 hq hP hD hS hl
      refine lv_iload_n hx hb dX12_layPart_2 rfl (lv_at hl 2 rfl) ?_
      refine lv_bipush (v := 80) hx hb dX12_layPart_3 (by decide) ?_
      refine lv_icmp_ge (tgt := 62) hx hb dX12_layPart_5 (by decide) (fun c4 => ?_) (fun c4 => ?_)
      · skip
        have r5 : rg a1 80 80 := rg_le2 (iE c4) ((rg_k (by decide)) : rg 80 80 80) (r2 : rg a1 0 80)
        exact hret (F3, L3, A3, B3) H locs 62 ls dX12_layPart_62 hP hD hS hq
      · skip
        have r6 : rg a1 0 79 := rg_lt1 (iNE c4) (r2 : rg a1 0 80) ((rg_k (by decide)) : rg 80 80 80)
        refine lv_aload_n hx hb dX12_layPart_8 rfl (lv_at hl 0 rfl) ?_
        refine va_get (ci := 12) (v := .ref (ad 26)) (C := RX12) (T := TX12) (N := 57) hx hb hg inX12 hown hK hP 0 atM_0 rfl 38 (by decide) (hg _ mw_1146) (fun _ h9 => h9) rfl dX12_layPart_9 ?_
        refine lv_iload_n hx hb dX12_layPart_12 rfl (lv_at hl 2 rfl) ?_
        refine lv_aload_n hx hb dX12_layPart_13 rfl (lv_at hl 0 rfl) ?_
        refine va_get (ci := 12) (v := .ref (ad 16)) (C := RX12) (T := TX12) (N := 57) hx hb hg inX12 hown hK hP 0 atM_0 rfl 26 (by decide) (hg _ mw_1134) (fun _ h9 => h9) rfl dX12_layPart_14 ?_
        refine lv_iload_n hx hb dX12_layPart_17 rfl (lv_at hl 2 rfl) ?_
        refine va_iald hx hb hK hP 16 15 atM_16 tyM_16 (in_rg r6 (by decide)) dX12_layPart_18 ?_
        refine lv_topi (fun x7 e8 => ?_)
        refine lv_iload_n hx hb dX12_layPart_19 rfl (lv_at hl 1 rfl) ?_
        refine calls_i (As := [.int x7, .int p1]) (rest := [.int a1, .ref (ad 26)]) hC (c_X12_cut l D (tysM cA) (wM cA ad F3 L3 A3 B3) H.size (x7) (p1) hp1) (cwS 2 hg (g_S mw_1493 mw_1491 mw_1492 mw_20) rfl rfl rfl (by decide +kernel) ⟨(Nat.le_of_ble_eq_true rfl), (Nat.le_of_ble_eq_true rfl)⟩) hP hD hS hA rfl hl.1 rfl (Nat.le_of_ble_eq_true rfl) dX12_layPart_20 ⟨Nat.zero_le _, Nat.zero_le _⟩ (fun x9 u H locs hw hP hD hS => ?_)
        have hP : va_P D classes (wM cA ad F3 L3 A3 B3) H := hP
        have hD : va_D Af (wM cA ad F3 L3 A3 B3) := hD
        refine va_iast hx hb hK hP hD hS 26 25 atM_26 tyM_26 (in_rg r6 (by decide)) dX12_layPart_23 (fun H locs hP hD hS => ?_)
        have hq := hq.ast 26 (a1).toNatClampNeg (x := x9) (by decide) (rg_top _)
        rw [setM_26] at hP hD
        have k10 : x9 = (va_up A3 26 (upd (A3 26) (a1).toNatClampNeg x9)) 26 (a1).toNatClampNeg := (rdA).symm
        refine lv_aload_n hx hb dX12_layPart_24 rfl (lv_at hl 0 rfl) ?_
        refine va_get (ci := 12) (v := .ref (ad 16)) (C := RX12) (T := TX12) (N := 57) hx hb hg inX12 hown hK hP 0 atM_0 rfl 26 (by decide) (hg _ mw_1134) (fun _ h9 => h9) rfl dX12_layPart_25 ?_
        refine lv_iload_n hx hb dX12_layPart_28 rfl (lv_at hl 2 rfl) ?_
        refine va_iald hx hb hK hP 16 15 atM_16 tyM_16 (in_rg r6 (by decide)) dX12_layPart_29 ?_
        refine tope (mv (by decide) (e8)) ?_
        refine lv_iload_n hx hb dX12_layPart_30 rfl (lv_at hl 1 rfl) ?_
        refine lv_irem hx hb dX12_layPart_31 (ne0_rg hp1 (by decide)) ?_
        refine lv_topi (fun x11 e12 => ?_)
        have J56 : ∀ (F13 : Nat → Int32) (L13 : Nat → Int64) (A13 : Nat → Nat → Int32) (B13 : Nat → Nat → Int64) (H : Heap) (locs : List Loc) (ls : Array Slot), qM [12] [23, 24, 25, 26] F A F13 A13 → va_P D classes (wM cA ad F13 L13 A13 B13) H → va_D Af (wM cA ad F13 L13 A13 B13) → va_S Af s.heap H locs → lv_has ls 3 [(0, .ref (ad 0)), (1, .int p1), (2, .int a1)] → W p l e rm_X12_layPart_0 s m args below meth c H locs 0 0 Q (F0 m 56 ls []) := by
          intro F13 L13 A13 B13 H locs ls hq hP hD hS hl
          obtain ⟨x14, e15⟩ : ∃ y : Int32, y = a1 + 1 := ⟨_, rfl⟩
          have r16 : rg x14 1 80 := rg_add e15 r6 (rg_k (by decide) : rg 1 1 1) (by decide)
          refine lv_iinc (v := x14) (lv' := [(2, .int x14), (0, .ref (ad 0)), (1, .int p1)]) hx hb dX12_layPart_56 hl (k := 2) rfl (by rw [e15]; rfl) (by decide) rfl (fun ls hl => ?_)
          refine lv_goto (tgt := 2) hx hb dX12_layPart_59 (by decide) ?_
          exact ih2 (x14) (F13) (L13) (A13) (B13) H locs ls (by have h0 : (1 : Int32).toInt = 1 := rfl; have h1 := ti_addk e15 r6 (by decide); have h2 : rg x14 0 80 := (rg_w r16 (by decide)); unfold rg at h2; omega) (rg_w r16 (by decide)) hq hP hD hS (lv_sub hl [1, 2, 0] rfl)
        refine lv_if_le (tgt := 56) hx hb dX12_layPart_32 (by decide) (fun c17 => ?_) (fun c17 => ?_)
        · skip
          have r18 : rg x11 (-2147483648) 0 := rg_le1 (iE c17) ((rg_top _) : rg x11 (-2147483648) 2147483647) ((rg_k (by decide)) : rg 0 0 0)
          exact J56 (F3) (L3) ((va_up A3 26 (upd (A3 26) (a1).toNatClampNeg x9))) (B3) H locs ls hq hP hD hS (lv_sub hl [0, 1, 2] rfl)
        · skip
          have r19 : rg x11 1 2147483647 := rg_lt2 (iNE c17) ((rg_k (by decide)) : rg 0 0 0) ((rg_top _) : rg x11 (-2147483648) 2147483647)
          refine lv_aload_n hx hb dX12_layPart_35 rfl (lv_at hl 0 rfl) ?_
          refine lv_iload_n hx hb dX12_layPart_36 rfl (lv_at hl 2 rfl) ?_
          refine lv_iconst (v := 1) hx hb dX12_layPart_37 (by decide) ?_
          refine lv_iadd hx hb dX12_layPart_38 ?_
          refine lv_topi (fun x20 e21 => ?_)
          have r22 : rg x20 1 80 := rg_add e21 r6 ((rg_k (by decide)) : rg 1 1 1) (by decide)
          refine lv_iload_n hx hb dX12_layPart_39 rfl (lv_at hl 1 rfl) ?_
          refine callv_i (As := [.int x20, .int p1]) (rest := []) hC (c_X12_isDay_0 l D cA H.size ad F3 L3 (va_up A3 26 (upd (A3 26) (a1).toNatClampNeg x9)) B3 (x20) (p1) hq.1 r22 hp1) (cwV 2 hg (g_V mw_1497 mw_1494 mw_1496 ms_84 mw_20) rfl rfl rfl (by decide +kernel) ⟨(Nat.le_of_ble_eq_true rfl), (Nat.le_of_ble_eq_true rfl)⟩) hP hD hS hA atM_0 rfl rfl hl.1 rfl (Nat.le_of_ble_eq_true rfl) dX12_layPart_40 ⟨Nat.zero_le _, Nat.zero_le _⟩ (fun x23 u H locs hw hP hD hS => ?_)
          obtain ⟨F24, L24, A24, B24⟩ := u
          try dsimp only at hw
          obtain ⟨hq24, r25⟩ := hw
          have hq := hq.call hq24 (by decide)
          have hP : va_P D classes (wM cA ad F24 L24 A24 B24) H := hP
          have hD : va_D Af (wM cA ad F24 L24 A24 B24) := hD
          refine lv_if_ne (tgt := 56) hx hb dX12_layPart_43 (by decide) (fun c26 => ?_) (fun c26 => ?_)
          · skip
            have r27 : rg x23 1 1 := (rg_ne1 c26 (r25 : rg x23 0 1) ((rg_k (by decide)) : rg 0 0 0)).1 rfl
            exact J56 (F24) (L24) (A24) (B24) H locs ls hq hP hD hS (lv_sub hl [0, 1, 2] rfl)
          · skip
            have r28 : rg x23 0 0 := rg_eq1 c26 (r25 : rg x23 0 1) ((rg_k (by decide)) : rg 0 0 0) (by decide)
            refine lv_aload_n hx hb dX12_layPart_46 rfl (lv_at hl 0 rfl) ?_
            refine va_get (ci := 12) (v := .ref (ad 26)) (C := RX12) (T := TX12) (N := 57) hx hb hg inX12 hown hK hP 0 atM_0 rfl 38 (by decide) (hg _ mw_1146) (fun _ h9 => h9) rfl dX12_layPart_47 ?_
            refine lv_iload_n hx hb dX12_layPart_50 rfl (lv_at hl 2 rfl) ?_
            refine lv_dup2_11 hx hb dX12_layPart_51 rfl rfl ?_
            refine va_iald hx hb hK hP 26 25 atM_26 tyM_26 (in_rg r6 (by decide)) dX12_layPart_52 ?_
            refine tope ((k10).trans (congrFun (hq24.2.2 26 (by decide)) _).symm) ?_
            refine lv_iconst (v := 1) hx hb dX12_layPart_53 (by decide) ?_
            refine lv_iadd hx hb dX12_layPart_54 ?_
            refine lv_topi (fun x29 e30 => ?_)
            refine va_iast hx hb hK hP hD hS 26 25 atM_26 tyM_26 (in_rg r6 (by decide)) dX12_layPart_55 (fun H locs hP hD hS => ?_)
            have hq := hq.ast 26 (a1).toNatClampNeg (x := x29) (by decide) (rg_top _)
            rw [setM_26] at hP hD
            have k31 : x29 = (va_up A24 26 (upd (A24 26) (a1).toNatClampNeg x29)) 26 (a1).toNatClampNeg := (rdA).symm
            exact J56 (F24) (L24) ((va_up A24 26 (upd (A24 26) (a1).toNatClampNeg x29))) (B24) H locs ls hq hP hD hS (lv_sub hl [0, 1, 2] rfl)
  exact J2 _ (0) (F) (L) (A) (B) H locs ls (Nat.lt_succ_self _) (rg_k (by decide)) hq hP hD hS (lv_sub hl [1, 2, 0] rfl)
abbrev rm_X12_parted_0 : Room := { frames := 3, cells := 0, slots := 0, locals := 71 }
set_option maxHeartbeats 4000000 in
set_option maxRecDepth 100000 in
theorem c_X12_parted_0 (l : Launch) (D : va_G) (cA : Nat → ClassId) (sz : Nat) (ad : Nat → Nat) (F : Nat → Int32) (L : Nat → Int64) (A : Nat → Nat → Int32) (B : Nat → Nat → Int64) (p1 : Int32) (p2 : Int32) (p3 : Int32) (p4 : Int32) (hT : typM F A) : Met l yX12_parted (Cond.code yX12_parted cX12_parted 7 (some .int) :: GW) rm_X12_parted_0 (mPc D classes (tysM cA) (wM cA ad F L A B) sz [.ref (ad 0), .int p1, .int p2, .int p3, .int p4]) (mQi (S := SW) D classes (tysM cA) (wM cA ad F L A B) sz (wfM cA ad) (fun r u => qM [12] [16, 23, 24, 25, 26] F A u.1 u.2.2.1)) 0 0 (va_A (wM cA ad F L A B) sz) := by
  refine met_i (own := "ShoeingDayModel") (by decide +kernel) rfl (Nat.le_of_ble_eq_true rfl) ?_
  intro p e s m args below meth c Q Af ls hC hP hD hS hA hl hret
  have hx := hC.1
  have hb := hC.2.1
  have hown := hC.2.2.2.1
  have hg := hC.g
  have hK := hC.K
  have hl : lv_has ls 7 [(0, .ref (ad 0)), (1, .int p1), (2, .int p2), (3, .int p3), (4, .int p4)] := hl
  have hq : qM [12] [16, 23, 24, 25, 26] F A F A := qM.rf hT
  obtain ⟨H, hH⟩ : ∃ H, H = s.heap := ⟨_, rfl⟩
  have hP : va_P D classes (wM cA ad F L A B) H := by rw [hH]; exact hP
  have hS : va_S Af s.heap H [] := by rw [hH]; exact hS
  obtain ⟨locs, hlo⟩ : ∃ q : List Loc, q = [] := ⟨_, rfl⟩
  rw [← hH, ← hlo]
  rw [← hlo] at hS
  refine lv_iload_n hx hb dX12_parted_0 rfl (lv_at hl 1 rfl) ?_
  refine lv_iconst (v := 1) hx hb dX12_parted_1 (by decide) ?_
  refine lv_bipush (v := 9) hx hb dX12_parted_2 (by decide) ?_
  refine calls_i (As := [.int p1, .int 1, .int 9]) (rest := []) hC (c_X12_isIn l D (tysM cA) (wM cA ad F L A B) H.size (p1) (1) (9) (rg_k (by decide)) (rg_k (by decide))) (cwS 3 hg (g_S mw_1391 mw_1389 mw_1390 mw_20) rfl rfl rfl (by decide +kernel) ⟨(Nat.le_of_ble_eq_true rfl), (Nat.le_of_ble_eq_true rfl)⟩) hP hD hS hA rfl hl.1 rfl (Nat.le_of_ble_eq_true rfl) dX12_parted_4 ⟨Nat.zero_le _, Nat.zero_le _⟩ (fun x1 u H locs hw hP hD hS => ?_)
  obtain ⟨r2, g3, g4⟩ := hw
  have hP : va_P D classes (wM cA ad F L A B) H := hP
  have hD : va_D Af (wM cA ad F L A B) := hD
  have J38 : ∀ (F5 : Nat → Int32) (L5 : Nat → Int64) (A5 : Nat → Nat → Int32) (B5 : Nat → Nat → Int64) (H : Heap) (locs : List Loc) (ls : Array Slot), qM [12] [16, 23, 24, 25, 26] F A F5 A5 → va_P D classes (wM cA ad F5 L5 A5 B5) H → va_D Af (wM cA ad F5 L5 A5 B5) → va_S Af s.heap H locs → lv_has ls 7 [] → W p l e rm_X12_parted_0 s m args below meth c H locs 0 0 Q (F0 m 38 ls []) := by
    intro F5 L5 A5 B5 H locs ls hq hP hD hS hl
    refine lv_iconst (v := (-1)) hx hb dX12_parted_38 (by decide) ?_
    exact hret ((-1)) (F5, L5, A5, B5) H locs 39 ls rfl dX12_parted_39 hP hD hS hq
  refine lv_if_eq (tgt := 38) hx hb dX12_parted_7 (by decide) (fun c6 => ?_) (fun c6 => ?_)
  · skip
    have r7 : rg x1 0 0 := rg_eq1 c6 (r2 : rg x1 0 1) ((rg_k (by decide)) : rg 0 0 0) (by decide)
    exact J38 (F) (L) (A) (B) H locs ls hq hP hD hS (lv_sub hl [] rfl)
  · skip
    have g8 := g3.resolve_left c6
    have r9 : rg p1 1 2147483647 := rg_le2 g8.1 ((rg_k (by decide)) : rg 1 1 1) ((rg_top _) : rg p1 (-2147483648) 2147483647)
    have r10 : rg p1 1 9 := rg_le1 g8.2 (r9 : rg p1 1 2147483647) ((rg_k (by decide)) : rg 9 9 9)
    refine lv_iload_n hx hb dX12_parted_10 rfl (lv_at hl 2 rfl) ?_
    refine lv_iconst (v := 0) hx hb dX12_parted_11 (by decide) ?_
    refine lv_iload_n hx hb dX12_parted_12 rfl (lv_at hl 1 rfl) ?_
    refine lv_iconst (v := 1) hx hb dX12_parted_13 (by decide) ?_
    refine lv_isub hx hb dX12_parted_14 ?_
    refine lv_topi (fun x11 e12 => ?_)
    have r13 : rg x11 0 8 := rg_sub e12 r10 ((rg_k (by decide)) : rg 1 1 1) (by decide)
    refine calls_i (As := [.int p2, .int 0, .int x11]) (rest := []) hC (c_X12_isIn l D (tysM cA) (wM cA ad F L A B) H.size (p2) (0) (x11) (rg_k (by decide)) (rg_w r13 (by decide))) (cwS 3 hg (g_S mw_1391 mw_1389 mw_1390 mw_20) rfl rfl rfl (by decide +kernel) ⟨(Nat.le_of_ble_eq_true rfl), (Nat.le_of_ble_eq_true rfl)⟩) hP hD hS hA rfl hl.1 rfl (Nat.le_of_ble_eq_true rfl) dX12_parted_15 ⟨Nat.zero_le _, Nat.zero_le _⟩ (fun x14 u H locs hw hP hD hS => ?_)
    obtain ⟨r15, g16, g17⟩ := hw
    have hP : va_P D classes (wM cA ad F L A B) H := hP
    have hD : va_D Af (wM cA ad F L A B) := hD
    refine lv_if_eq (tgt := 38) hx hb dX12_parted_18 (by decide) (fun c18 => ?_) (fun c18 => ?_)
    · skip
      have r19 : rg x14 0 0 := rg_eq1 c18 (r15 : rg x14 0 1) ((rg_k (by decide)) : rg 0 0 0) (by decide)
      exact J38 (F) (L) (A) (B) H locs ls hq hP hD hS (lv_sub hl [] rfl)
    · skip
      have g20 := g16.resolve_left c18
      have r21 : rg p2 0 2147483647 := rg_le2 g20.1 ((rg_k (by decide)) : rg 0 0 0) ((rg_top _) : rg p2 (-2147483648) 2147483647)
      have r22 : rg p2 0 8 := rg_le1 g20.2 (r21 : rg p2 0 2147483647) (r13 : rg x11 0 8)
      refine lv_aload_n hx hb dX12_parted_21 rfl (lv_at hl 0 rfl) ?_
      refine lv_iload_n hx hb dX12_parted_22 rfl (lv_at hl 3 rfl) ?_
      refine callv_i (As := [.int p3]) (rest := []) hC (c_X12_isSmith_0 l D cA H.size ad F L A B (p3) hq.1) (cwV 1 hg (g_V mw_1384 mw_1381 mw_1383 ms_66 mw_20) rfl rfl rfl (by decide +kernel) ⟨(Nat.le_of_ble_eq_true rfl), (Nat.le_of_ble_eq_true rfl)⟩) hP hD hS hA atM_0 rfl rfl hl.1 rfl (Nat.le_of_ble_eq_true rfl) dX12_parted_23 ⟨Nat.zero_le _, Nat.zero_le _⟩ (fun x23 u H locs hw hP hD hS => ?_)
      obtain ⟨r24, g25⟩ := hw
      have hP : va_P D classes (wM cA ad F L A B) H := hP
      have hD : va_D Af (wM cA ad F L A B) := hD
      refine lv_if_eq (tgt := 38) hx hb dX12_parted_26 (by decide) (fun c26 => ?_) (fun c26 => ?_)
      · skip
        have r27 : rg x23 0 0 := rg_eq1 c26 (r24 : rg x23 0 1) ((rg_k (by decide)) : rg 0 0 0) (by decide)
        exact J38 (F) (L) (A) (B) H locs ls hq hP hD hS (lv_sub hl [] rfl)
      · skip
        have g28 := g25.resolve_left c26
        refine lv_aload_n hx hb dX12_parted_29 rfl (lv_at hl 0 rfl) ?_
        refine lv_iload hx hb dX12_parted_30 (lv_at hl 4 rfl) ?_
        refine callv_i (As := [.int p4]) (rest := []) hC (c_X12_isHorse_0 l D cA H.size ad F L A B (p4) hq.1) (cwV 1 hg (g_V mw_1395 mw_1392 mw_1394 ms_68 mw_20) rfl rfl rfl (by decide +kernel) ⟨(Nat.le_of_ble_eq_true rfl), (Nat.le_of_ble_eq_true rfl)⟩) hP hD hS hA atM_0 rfl rfl hl.1 rfl (Nat.le_of_ble_eq_true rfl) dX12_parted_32 ⟨Nat.zero_le _, Nat.zero_le _⟩ (fun x29 u H locs hw hP hD hS => ?_)
        obtain ⟨r30, g31⟩ := hw
        have hP : va_P D classes (wM cA ad F L A B) H := hP
        have hD : va_D Af (wM cA ad F L A B) := hD
        refine lv_if_ne (tgt := 40) hx hb dX12_parted_35 (by decide) (fun c32 => ?_) (fun c32 => ?_)
        · skip
          have g33 := g31.resolve_left c32
          refine lv_aload_n hx hb dX12_parted_40 rfl (lv_at hl 0 rfl) ?_
          refine callv_v (As := []) (rest := []) hC (c_X12_layNow_0 l D cA H.size ad F L A B  hq.1) (cwV 0 hg (g_V mw_1407 mw_1404 mw_1406 ms_70 mw_20) rfl rfl rfl (by decide +kernel) ⟨(Nat.le_of_ble_eq_true rfl), (Nat.le_of_ble_eq_true rfl)⟩) hP hD hS hA atM_0 rfl rfl hl.1 rfl (Nat.le_of_ble_eq_true rfl) dX12_parted_41 ⟨Nat.zero_le _, Nat.zero_le _⟩ (fun  u H locs hw hP hD hS => ?_)
          obtain ⟨F35, L35, A35, B35⟩ := u
          try dsimp only at hw
          have hq35 := hw
          have hq := hq.call hq35 (by decide)
          have hP : va_P D classes (wM cA ad F35 L35 A35 B35) H := hP
          have hD : va_D Af (wM cA ad F35 L35 A35 B35) := hD
          refine lv_iconst (v := 0) hx hb dX12_parted_44 (by decide) ?_
          refine lv_istore (lv' := [(5, .int 0), (0, .ref (ad 0)), (1, .int p1), (2, .int p2), (3, .int p3), (4, .int p4)]) hx hb dX12_parted_45 hl (by decide) rfl (fun ls hl => ?_)
          have J47 : ∀ (n47 : Nat) (a36 : Int32) (F38 : Nat → Int32) (L38 : Nat → Int64) (A38 : Nat → Nat → Int32) (B38 : Nat → Nat → Int64) (H : Heap) (locs : List Loc) (ls : Array Slot), (9 - a36.toInt).toNat < n47 → rg a36 0 9 → qM [12] [16, 23, 24, 25, 26] F A F38 A38 → va_P D classes (wM cA ad F38 L38 A38 B38) H → va_D Af (wM cA ad F38 L38 A38 B38) → va_S Af s.heap H locs → lv_has ls 7 [(0, .ref (ad 0)), (1, .int p1), (2, .int p2), (3, .int p3), (4, .int p4), (5, .int a36)] → W p l e rm_X12_parted_0 s m args below meth c H locs 0 0 Q (F0 m 47 ls []) := by
            intro n47
            induction n47 with
            | zero =>
              intro _ _ _ _ _ _ _ _ hn
              exact absurd hn (Nat.not_lt_zero _)
            | succ n47 ih47 =>
              intro a36 F38 L38 A38 B38 H locs ls hn47 r37 hq hP hD hS hl
              refine lv_iload hx hb dX12_parted_47 (lv_at hl 5 rfl) ?_
              refine lv_iload_n hx hb dX12_parted_49 rfl (lv_at hl 2 rfl) ?_
              refine lv_icmp_gt (tgt := 100) hx hb dX12_parted_50 (by decide) (fun c39 => ?_) (fun c39 => ?_)
              · skip
                have r40 : rg a36 1 9 := rg_lt2 (iL c39) (r22 : rg p2 0 8) (r37 : rg a36 0 9)
                refine lv_aload_n hx hb dX12_parted_100 rfl (lv_at hl 0 rfl) ?_
                refine va_get (ci := 12) (v := .ref (ad 26)) (C := RX12) (T := TX12) (N := 57) hx hb hg inX12 hown hK hP 0 atM_0 rfl 38 (by decide) (hg _ mw_1146) (fun _ h9 => h9) rfl dX12_parted_101 ?_
                refine lv_bipush (v := 10) hx hb dX12_parted_104 (by decide) ?_
                refine lv_iload_n hx hb dX12_parted_106 rfl (lv_at hl 3 rfl) ?_
                refine lv_imul hx hb dX12_parted_107 ?_
                refine lv_topi (fun x42 e43 => ?_)
                have r44 : rg x42 0 70 := rg_mul e43 ((rg_k (by decide)) : rg 10 10 10) g28 (by decide)
                refine lv_iload hx hb dX12_parted_108 (lv_at hl 4 rfl) ?_
                refine lv_iadd hx hb dX12_parted_110 ?_
                refine lv_topi (fun x45 e46 => ?_)
                have r47 : rg x45 0 79 := rg_add e46 r44 g33 (by decide)
                refine va_iald hx hb hK hP 26 25 atM_26 tyM_26 (in_rg r47 (by decide)) dX12_parted_111 ?_
                refine lv_topi (fun x48 e49 => ?_)
                exact hret (x48) (F38, L38, A38, B38) H locs 112 ls rfl dX12_parted_112 hP hD hS hq
              · skip
                have r41 : rg a36 0 8 := rg_le1 (iNL c39) (r37 : rg a36 0 9) (r22 : rg p2 0 8)
                refine lv_aload_n hx hb dX12_parted_53 rfl (lv_at hl 0 rfl) ?_
                refine lv_iload_n hx hb dX12_parted_54 rfl (lv_at hl 1 rfl) ?_
                refine lv_iload hx hb dX12_parted_55 (lv_at hl 5 rfl) ?_
                refine lv_isub hx hb dX12_parted_57 ?_
                refine lv_topi (fun x50 e51 => ?_)
                have r52 : rg x50 1 9 := sub_pos (r10 : rg p1 1 9) r41 e12 g20.2 (iNL c39) e51
                refine callv_v (As := [.int x50]) (rest := []) hC (c_X12_layPart_0 l D cA H.size ad F38 L38 A38 B38 (x50) hq.1 r52) (cwV 1 hg (g_V mw_1490 mw_1487 mw_1489 ms_83 mw_20) rfl rfl rfl (by decide +kernel) ⟨(Nat.le_of_ble_eq_true rfl), (Nat.le_of_ble_eq_true rfl)⟩) hP hD hS hA atM_0 rfl rfl hl.1 rfl (Nat.le_of_ble_eq_true rfl) dX12_parted_58 ⟨Nat.zero_le _, Nat.zero_le _⟩ (fun  u H locs hw hP hD hS => ?_)
                obtain ⟨F53, L53, A53, B53⟩ := u
                try dsimp only at hw
                have hq53 := hw
                have hq := hq.call hq53 (by decide)
                have hP : va_P D classes (wM cA ad F53 L53 A53 B53) H := hP
                have hD : va_D Af (wM cA ad F53 L53 A53 B53) := hD
                refine lv_iconst (v := 0) hx hb dX12_parted_61 (by decide) ?_
                refine lv_istore (lv' := [(6, .int 0), (0, .ref (ad 0)), (1, .int p1), (2, .int p2), (3, .int p3), (4, .int p4), (5, .int a36)]) hx hb dX12_parted_62 hl (by decide) rfl (fun ls hl => ?_)
                have J64 : ∀ (n64 : Nat) (a54 : Int32) (F56 : Nat → Int32) (L56 : Nat → Int64) (A56 : Nat → Nat → Int32) (B56 : Nat → Nat → Int64) (H : Heap) (locs : List Loc) (ls : Array Slot), (80 - a54.toInt).toNat < n64 → rg a54 0 80 → qM [12] [16, 23, 24, 25, 26] F A F56 A56 → va_P D classes (wM cA ad F56 L56 A56 B56) H → va_D Af (wM cA ad F56 L56 A56 B56) → va_S Af s.heap H locs → lv_has ls 7 [(0, .ref (ad 0)), (1, .int p1), (2, .int p2), (3, .int p3), (4, .int p4), (5, .int a36), (6, .int a54)] → W p l e rm_X12_parted_0 s m args below meth c H locs 0 0 Q (F0 m 64 ls []) := by
                  intro n64
                  induction n64 with
                  | zero =>
                    intro _ _ _ _ _ _ _ _ hn
                    exact absurd hn (Nat.not_lt_zero _)
                  | succ n64 ih64 =>
                    intro a54 F56 L56 A56 B56 H locs ls hn64 r55 hq hP hD hS hl
                    refine lv_iload hx hb dX12_parted_64 (lv_at hl 6 rfl) ?_
                    refine lv_bipush (v := 80) hx hb dX12_parted_66 (by decide) ?_
                    refine lv_icmp_ge (tgt := 94) hx hb dX12_parted_68 (by decide) (fun c57 => ?_) (fun c57 => ?_)
                    · skip
                      have r58 : rg a54 80 80 := rg_le2 (iE c57) ((rg_k (by decide)) : rg 80 80 80) (r55 : rg a54 0 80)
                      obtain ⟨x60, e61⟩ : ∃ y : Int32, y = a36 + 1 := ⟨_, rfl⟩
                      have r62 : rg x60 1 9 := rg_add e61 r41 (rg_k (by decide) : rg 1 1 1) (by decide)
                      refine lv_iinc (v := x60) (lv' := [(5, .int x60), (0, .ref (ad 0)), (1, .int p1), (2, .int p2), (3, .int p3), (4, .int p4), (6, .int a54)]) hx hb dX12_parted_94 hl (k := 5) rfl (by rw [e61]; rfl) (by decide) rfl (fun ls hl => ?_)
                      refine lv_goto (tgt := 47) hx hb dX12_parted_97 (by decide) ?_
                      exact ih47 (x60) (F56) (L56) (A56) (B56) H locs ls (by have h0 : (1 : Int32).toInt = 1 := rfl; have h1 := ti_addk e61 r41 (by decide); have h2 : rg x60 0 9 := (rg_w r62 (by decide)); unfold rg at h2; omega) (rg_w r62 (by decide)) hq hP hD hS (lv_sub hl [1, 2, 3, 4, 5, 0] rfl)
                    · skip
                      have r59 : rg a54 0 79 := rg_lt1 (iNE c57) (r55 : rg a54 0 80) ((rg_k (by decide)) : rg 80 80 80)
                      refine lv_aload_n hx hb dX12_parted_71 rfl (lv_at hl 0 rfl) ?_
                      refine va_get (ci := 12) (v := .ref (ad 16)) (C := RX12) (T := TX12) (N := 57) hx hb hg inX12 hown hK hP 0 atM_0 rfl 26 (by decide) (hg _ mw_1134) (fun _ h9 => h9) rfl dX12_parted_72 ?_
                      refine lv_iload hx hb dX12_parted_75 (lv_at hl 6 rfl) ?_
                      refine lv_dup2_11 hx hb dX12_parted_77 rfl rfl ?_
                      refine va_iald hx hb hK hP 16 15 atM_16 tyM_16 (in_rg r59 (by decide)) dX12_parted_78 ?_
                      refine lv_topi (fun x63 e64 => ?_)
                      refine lv_aload_n hx hb dX12_parted_79 rfl (lv_at hl 0 rfl) ?_
                      refine va_get (ci := 12) (v := .ref (ad 26)) (C := RX12) (T := TX12) (N := 57) hx hb hg inX12 hown hK hP 0 atM_0 rfl 38 (by decide) (hg _ mw_1146) (fun _ h9 => h9) rfl dX12_parted_80 ?_
                      refine lv_iload hx hb dX12_parted_83 (lv_at hl 6 rfl) ?_
                      refine va_iald hx hb hK hP 26 25 atM_26 tyM_26 (in_rg r59 (by decide)) dX12_parted_85 ?_
                      refine lv_topi (fun x65 e66 => ?_)
                      refine lv_isub hx hb dX12_parted_86 ?_
                      refine lv_topi (fun x67 e68 => ?_)
                      refine va_iast hx hb hK hP hD hS 16 15 atM_16 tyM_16 (in_rg r59 (by decide)) dX12_parted_87 (fun H locs hP hD hS => ?_)
                      have hq := hq.ast 16 (a54).toNatClampNeg (x := x67) (by decide) (rg_top _)
                      rw [setM_16] at hP hD
                      have k69 : x67 = (va_up A56 16 (upd (A56 16) (a54).toNatClampNeg x67)) 16 (a54).toNatClampNeg := (rdA).symm
                      obtain ⟨x70, e71⟩ : ∃ y : Int32, y = a54 + 1 := ⟨_, rfl⟩
                      have r72 : rg x70 1 80 := rg_add e71 r59 (rg_k (by decide) : rg 1 1 1) (by decide)
                      refine lv_iinc (v := x70) (lv' := [(6, .int x70), (0, .ref (ad 0)), (1, .int p1), (2, .int p2), (3, .int p3), (4, .int p4), (5, .int a36)]) hx hb dX12_parted_88 hl (k := 6) rfl (by rw [e71]; rfl) (by decide) rfl (fun ls hl => ?_)
                      refine lv_goto (tgt := 64) hx hb dX12_parted_91 (by decide) ?_
                      exact ih64 (x70) (F56) (L56) ((va_up A56 16 (upd (A56 16) (a54).toNatClampNeg x67))) (B56) H locs ls (by have h0 : (1 : Int32).toInt = 1 := rfl; have h1 := ti_addk e71 r59 (by decide); have h2 : rg x70 0 80 := (rg_w r72 (by decide)); unfold rg at h2; omega) (rg_w r72 (by decide)) hq hP hD hS (lv_sub hl [1, 2, 3, 4, 5, 6, 0] rfl)
                exact J64 _ (0) (F53) (L53) (A53) (B53) H locs ls (Nat.lt_succ_self _) (rg_k (by decide)) hq hP hD hS (lv_sub hl [1, 2, 3, 4, 5, 6, 0] rfl)
          exact J47 _ (0) (F35) (L35) (A35) (B35) H locs ls (Nat.lt_succ_self _) (rg_k (by decide)) hq hP hD hS (lv_sub hl [1, 2, 3, 4, 5, 0] rfl)
        · skip
          have r34 : rg x29 0 0 := rg_eq1 c32 (r30 : rg x29 0 1) ((rg_k (by decide)) : rg 0 0 0) (by decide)
          exact J38 (F) (L) (A) (B) H locs ls hq hP hD hS (lv_sub hl [] rfl)
abbrev rm_X12_findEven_0 : Room := { frames := 1, cells := 0, slots := 0, locals := 23 }
set_option maxHeartbeats 4000000 in
set_option maxRecDepth 100000 in
theorem c_X12_findEven_0 (l : Launch) (D : va_G) (cA : Nat → ClassId) (sz : Nat) (ad : Nat → Nat) (F : Nat → Int32) (L : Nat → Int64) (A : Nat → Nat → Int32) (B : Nat → Nat → Int64)  (hT : typM F A) : Met l yX12_findEven (Cond.code yX12_findEven cX12_findEven 5 (some .int) :: GW) rm_X12_findEven_0 (mPc D classes (tysM cA) (wM cA ad F L A B) sz [.ref (ad 0)]) (mQi (S := SW) D classes (tysM cA) (wM cA ad F L A B) sz (wfM cA ad) (fun r u => qM [13] [16] F A u.1 u.2.2.1 ∧ rg r 0 2147483647)) 0 0 (va_A (wM cA ad F L A B) sz) := by
  refine met_i (own := "ShoeingDayModel") (by decide +kernel) rfl (Nat.le_of_ble_eq_true rfl) ?_
  intro p e s m args below meth c Q Af ls hC hP hD hS hA hl hret
  have hx := hC.1
  have hb := hC.2.1
  have hown := hC.2.2.2.1
  have hg := hC.g
  have hK := hC.K
  have hl : lv_has ls 5 [(0, .ref (ad 0))] := hl
  have hq : qM [13] [16] F A F A := qM.rf hT
  obtain ⟨H, hH⟩ : ∃ H, H = s.heap := ⟨_, rfl⟩
  have hP : va_P D classes (wM cA ad F L A B) H := by rw [hH]; exact hP
  have hS : va_S Af s.heap H [] := by rw [hH]; exact hS
  obtain ⟨locs, hlo⟩ : ∃ q : List Loc, q = [] := ⟨_, rfl⟩
  rw [← hH, ← hlo]
  rw [← hlo] at hS
  refine lv_aload_n hx hb dX12_findEven_0 rfl (lv_at hl 0 rfl) ?_
  refine callv_v (As := []) (rest := []) hC (c_X12_layNow_0 l D cA H.size ad F L A B  hq.1) (cwV 0 hg (g_V mw_1407 mw_1404 mw_1406 ms_70 mw_20) rfl rfl rfl (by decide +kernel) ⟨(Nat.le_of_ble_eq_true rfl), (Nat.le_of_ble_eq_true rfl)⟩) hP hD hS hA atM_0 rfl rfl hl.1 rfl (Nat.le_of_ble_eq_true rfl) dX12_findEven_1 ⟨Nat.zero_le _, Nat.zero_le _⟩ (fun  u H locs hw hP hD hS => ?_)
  obtain ⟨F1, L1, A1, B1⟩ := u
  try dsimp only at hw
  have hq1 := hw
  have hq := hq.call hq1 (by decide)
  have hP : va_P D classes (wM cA ad F1 L1 A1 B1) H := hP
  have hD : va_D Af (wM cA ad F1 L1 A1 B1) := hD
  refine lv_iconst (v := 0) hx hb dX12_findEven_4 (by decide) ?_
  refine lv_istore_n (lv' := [(1, .int 0), (0, .ref (ad 0))]) hx hb dX12_findEven_5 rfl hl (by decide) rfl (fun ls hl => ?_)
  refine lv_aload_n hx hb dX12_findEven_6 rfl (lv_at hl 1 rfl) ?_
  refine lv_iconst (v := 0) hx hb dX12_findEven_7 (by decide) ?_
  refine va_put (ci := 12) (v := .int 0) (ty := .int) (C := RX12) (T := TX12) (N := 57) hx hb hg inX12 tyX12 tyX12_ok nmX12 hown hK hP hD hS 0 atM_0 rfl 40 (by decide) (hg _ mw_1148) (fun _ h9 => h9) rfl (by decide +kernel) rfl rfl (Nat.le_of_ble_eq_true rfl) dX12_findEven_8 (fun H locs hP hD hS => ?_)
  have hq := hq.put 13 (x := 0) (by decide) (rg_k (by decide))
  rw [setFM_13] at hP hD
  refine lv_iconst (v := 1) hx hb dX12_findEven_11 (by decide) ?_
  refine lv_istore_n (lv' := [(2, .int 1), (1, .int 0), (0, .ref (ad 0))]) hx hb dX12_findEven_12 rfl hl (by decide) rfl (fun ls hl => ?_)
  have J13 : ∀ (n13 : Nat) (a2 : Int32) (a4 : Int32) (F6 : Nat → Int32) (L6 : Nat → Int64) (A6 : Nat → Nat → Int32) (B6 : Nat → Nat → Int64) (H : Heap) (locs : List Loc) (ls : Array Slot), (256 - a4.toInt).toNat < n13 → rg a2 0 2147483647 → rg a4 1 256 → qM [13] [16] F A F6 A6 → va_P D classes (wM cA ad F6 L6 A6 B6) H → va_D Af (wM cA ad F6 L6 A6 B6) → va_S Af s.heap H locs → lv_has ls 5 [(0, .ref (ad 0)), (1, .int a2), (2, .int a4)] → W p l e rm_X12_findEven_0 s m args below meth c H locs 0 0 Q (F0 m 13 ls []) := by
    intro n13
    induction n13 with
    | zero =>
      intro _ _ _ _ _ _ _ _ _ hn
      exact absurd hn (Nat.not_lt_zero _)
    | succ n13 ih13 =>
      intro a2 a4 F6 L6 A6 B6 H locs ls hn13 r3 r5 hq hP hD hS hl
      refine lv_iload_n hx hb dX12_findEven_13 rfl (lv_at hl 2 rfl) ?_
      refine lv_iconst (v := 1) hx hb dX12_findEven_14 (by decide) ?_
      refine lv_aload_n hx hb dX12_findEven_15 rfl (lv_at hl 0 rfl) ?_
      refine callv_i (As := []) (rest := [.int 1, .int a4]) hC (c_X12_smithMany_0 l D cA H.size ad F6 L6 A6 B6  hq.1) (cwV 0 hg (g_V mw_1388 mw_1385 mw_1387 ms_67 mw_20) rfl rfl rfl (by decide +kernel) ⟨(Nat.le_of_ble_eq_true rfl), (Nat.le_of_ble_eq_true rfl)⟩) hP hD hS hA atM_0 rfl rfl hl.1 rfl (Nat.le_of_ble_eq_true rfl) dX12_findEven_16 ⟨Nat.zero_le _, Nat.zero_le _⟩ (fun x7 u H locs hw hP hD hS => ?_)
      have r8 := hw
      have hP : va_P D classes (wM cA ad F6 L6 A6 B6) H := hP
      have hD : va_D Af (wM cA ad F6 L6 A6 B6) := hD
      refine lv_ishl hx hb dX12_findEven_19 ?_
      refine lv_topi (fun x9 e10 => ?_)
      have r11 : rg x9 1 256 := rg_shl1 e10 r8 (by decide)
      refine lv_icmp_ge (tgt := 112) hx hb dX12_findEven_20 (by decide) (fun c12 => ?_) (fun c12 => ?_)
      · skip
        refine lv_iload_n hx hb dX12_findEven_112 rfl (lv_at hl 1 rfl) ?_
        exact hret (a2) (F6, L6, A6, B6) H locs 113 ls rfl dX12_findEven_113 hP hD hS ⟨hq, r3⟩
      · skip
        have r13 : rg a4 1 255 := rg_lt1 (iNE c12) (r5 : rg a4 1 256) (r11 : rg x9 1 256)
        have r14 : rg x9 2 256 := rg_lt2 (iNE c12) (r5 : rg a4 1 256) (r11 : rg x9 1 256)
        refine lv_iconst (v := 0) hx hb dX12_findEven_23 (by decide) ?_
        refine lv_istore_n (lv' := [(3, .int 0), (0, .ref (ad 0)), (1, .int a2), (2, .int a4)]) hx hb dX12_findEven_24 rfl hl (by decide) rfl (fun ls hl => ?_)
        refine lv_iconst (v := 0) hx hb dX12_findEven_25 (by decide) ?_
        refine lv_istore (lv' := [(4, .int 0), (3, .int 0), (0, .ref (ad 0)), (1, .int a2), (2, .int a4)]) hx hb dX12_findEven_26 hl (by decide) rfl (fun ls hl => ?_)
        have J28 : ∀ (n28 : Nat) (a15 : Int32) (a16 : Int32) (F18 : Nat → Int32) (L18 : Nat → Int64) (A18 : Nat → Nat → Int32) (B18 : Nat → Nat → Int64) (H : Heap) (locs : List Loc) (ls : Array Slot), (8 - a16.toInt).toNat < n28 → rg a16 0 8 → qM [13] [16] F A F18 A18 → va_P D classes (wM cA ad F18 L18 A18 B18) H → va_D Af (wM cA ad F18 L18 A18 B18) → va_S Af s.heap H locs → lv_has ls 5 [(0, .ref (ad 0)), (1, .int a2), (2, .int a4), (3, .int a15), (4, .int a16)] → W p l e rm_X12_findEven_0 s m args below meth c H locs 0 0 Q (F0 m 28 ls []) := by
          intro n28
          induction n28 with
          | zero =>
            intro _ _ _ _ _ _ _ _ _ hn
            exact absurd hn (Nat.not_lt_zero _)
          | succ n28 ih28 =>
            intro a15 a16 F18 L18 A18 B18 H locs ls hn28 r17 hq hP hD hS hl
            refine lv_iload hx hb dX12_findEven_28 (lv_at hl 4 rfl) ?_
            refine lv_aload_n hx hb dX12_findEven_30 rfl (lv_at hl 0 rfl) ?_
            refine callv_i (As := []) (rest := [.int a16]) hC (c_X12_smithMany_0 l D cA H.size ad F18 L18 A18 B18  hq.1) (cwV 0 hg (g_V mw_1388 mw_1385 mw_1387 ms_67 mw_20) rfl rfl rfl (by decide +kernel) ⟨(Nat.le_of_ble_eq_true rfl), (Nat.le_of_ble_eq_true rfl)⟩) hP hD hS hA atM_0 rfl rfl hl.1 rfl (Nat.le_of_ble_eq_true rfl) dX12_findEven_31 ⟨Nat.zero_le _, Nat.zero_le _⟩ (fun x19 u H locs hw hP hD hS => ?_)
            have r20 := hw
            have hP : va_P D classes (wM cA ad F18 L18 A18 B18) H := hP
            have hD : va_D Af (wM cA ad F18 L18 A18 B18) := hD
            refine lv_icmp_ge (tgt := 79) hx hb dX12_findEven_34 (by decide) (fun c21 => ?_) (fun c21 => ?_)
            · skip
              refine lv_iload_n hx hb dX12_findEven_79 rfl (lv_at hl 3 rfl) ?_
              refine lv_iload_n hx hb dX12_findEven_80 rfl (lv_at hl 2 rfl) ?_
              refine calls_i (As := [.int a4]) (rest := [.int a15]) hC (c_X12_bitsOf l D (tysM cA) (wM cA ad F18 L18 A18 B18) H.size (a4)) (cwS 1 hg (g_S mw_1462 mw_1460 mw_1461 mw_20) rfl rfl rfl (by decide +kernel) ⟨(Nat.le_of_ble_eq_true rfl), (Nat.le_of_ble_eq_true rfl)⟩) hP hD hS hA rfl hl.1 rfl (Nat.le_of_ble_eq_true rfl) dX12_findEven_81 ⟨Nat.zero_le _, Nat.zero_le _⟩ (fun x24 u H locs hw hP hD hS => ?_)
              have e25 := hw
              have hP : va_P D classes (wM cA ad F18 L18 A18 B18) H := hP
              have hD : va_D Af (wM cA ad F18 L18 A18 B18) := hD
              have r26 : rg x24 1 31 := rg_bits1 hw r13 (by decide)
              refine calls_i (As := [.int a15, .int x24]) (rest := []) hC (c_X12_up l D (tysM cA) (wM cA ad F18 L18 A18 B18) H.size (a15) (x24) r26) (cwS 2 hg (g_S mw_1500 mw_1498 mw_1499 mw_20) rfl rfl rfl (by decide +kernel) ⟨(Nat.le_of_ble_eq_true rfl), (Nat.le_of_ble_eq_true rfl)⟩) hP hD hS hA rfl hl.1 rfl (Nat.le_of_ble_eq_true rfl) dX12_findEven_84 ⟨Nat.zero_le _, Nat.zero_le _⟩ (fun x27 u H locs hw hP hD hS => ?_)
              have hP : va_P D classes (wM cA ad F18 L18 A18 B18) H := hP
              have hD : va_D Af (wM cA ad F18 L18 A18 B18) := hD
              refine lv_istore (lv' := [(4, .int x27), (0, .ref (ad 0)), (1, .int a2), (2, .int a4), (3, .int a15)]) hx hb dX12_findEven_87 hl (by decide) rfl (fun ls hl => ?_)
              refine lv_iload hx hb dX12_findEven_89 (lv_at hl 0 rfl) ?_
              refine lv_iload_n hx hb dX12_findEven_91 rfl (lv_at hl 2 rfl) ?_
              have J106 : ∀ (a28 : Int32) (F30 : Nat → Int32) (L30 : Nat → Int64) (A30 : Nat → Nat → Int32) (B30 : Nat → Nat → Int64) (H : Heap) (locs : List Loc) (ls : Array Slot), rg a28 0 2147483647 → qM [13] [16] F A F30 A30 → va_P D classes (wM cA ad F30 L30 A30 B30) H → va_D Af (wM cA ad F30 L30 A30 B30) → va_S Af s.heap H locs → lv_has ls 5 [(0, .ref (ad 0)), (1, .int a28), (2, .int a4)] → W p l e rm_X12_findEven_0 s m args below meth c H locs 0 0 Q (F0 m 106 ls []) := by
                intro a28 F30 L30 A30 B30 H locs ls r29 hq hP hD hS hl
                obtain ⟨x31, e32⟩ : ∃ y : Int32, y = a4 + 1 := ⟨_, rfl⟩
                have r33 : rg x31 2 256 := rg_add e32 r13 (rg_k (by decide) : rg 1 1 1) (by decide)
                refine lv_iinc (v := x31) (lv' := [(2, .int x31), (0, .ref (ad 0)), (1, .int a28)]) hx hb dX12_findEven_106 hl (k := 2) rfl (by rw [e32]; rfl) (by decide) rfl (fun ls hl => ?_)
                refine lv_goto (tgt := 13) hx hb dX12_findEven_109 (by decide) ?_
                exact ih13 (a28) (x31) (F30) (L30) (A30) (B30) H locs ls (by have h0 : (1 : Int32).toInt = 1 := rfl; have h1 := ti_addk e32 r13 (by decide); have h2 : rg x31 1 256 := (rg_w r33 (by decide)); unfold rg at h2; omega) r29 (rg_w r33 (by decide)) hq hP hD hS (lv_sub hl [1, 2, 0] rfl)
              refine lv_icmp_gt (tgt := 98) hx hb dX12_findEven_92 (by decide) (fun c34 => ?_) (fun c34 => ?_)
              · skip
                have r35 : rg a2 0 2147483646 := rg_lt1 (iL c34) (r3 : rg a2 0 2147483647) ((rg_top _) : rg x27 (-2147483648) 2147483647)
                have r36 : rg x27 1 2147483647 := rg_lt2 (iL c34) (r3 : rg a2 0 2147483647) ((rg_top _) : rg x27 (-2147483648) 2147483647)
                refine lv_iload hx hb dX12_findEven_98 (lv_at hl 0 rfl) ?_
                refine lv_istore_n (lv' := [(1, .int x27), (4, .int x27), (0, .ref (ad 0)), (2, .int a4), (3, .int a15)]) hx hb dX12_findEven_100 rfl hl (by decide) rfl (fun ls hl => ?_)
                refine lv_aload_n hx hb dX12_findEven_101 rfl (lv_at hl 2 rfl) ?_
                refine lv_iload_n hx hb dX12_findEven_102 rfl (lv_at hl 3 rfl) ?_
                refine va_put (ci := 12) (v := .int a4) (ty := .int) (C := RX12) (T := TX12) (N := 57) hx hb hg inX12 tyX12 tyX12_ok nmX12 hown hK hP hD hS 0 atM_0 rfl 40 (by decide) (hg _ mw_1148) (fun _ h9 => h9) rfl (by decide +kernel) rfl rfl (Nat.le_of_ble_eq_true rfl) dX12_findEven_103 (fun H locs hP hD hS => ?_)
                have hq := hq.put 13 (x := a4) (by decide) (rg_top _)
                rw [setFM_13] at hP hD
                exact J106 (x27) ((upd F18 13 a4)) (L18) (A18) (B18) H locs ls (rg_w r36 (by decide)) hq hP hD hS (lv_sub hl [2, 0, 3] rfl)
              · skip
                refine lv_goto (tgt := 106) hx hb dX12_findEven_95 (by decide) ?_
                exact J106 (a2) (F18) (L18) (A18) (B18) H locs ls r3 hq hP hD hS (lv_sub hl [1, 2, 3] rfl)
            · skip
              have r22 : rg a16 0 7 := rg_lt1 (iNE c21) (r17 : rg a16 0 8) (r20 : rg x19 0 8)
              have r23 : rg x19 1 8 := rg_lt2 (iNE c21) (r17 : rg a16 0 8) (r20 : rg x19 0 8)
              refine lv_iconst (v := 1) hx hb dX12_findEven_37 (by decide) ?_
              refine lv_iload hx hb dX12_findEven_38 (lv_at hl 4 rfl) ?_
              refine lv_ishl hx hb dX12_findEven_40 ?_
              refine lv_topi (fun x37 e38 => ?_)
              have r39 : rg x37 1 128 := rg_shl1 e38 r22 (by decide)
              refine lv_aload_n hx hb dX12_findEven_41 rfl (lv_at hl 0 rfl) ?_
              refine va_get (ci := 12) (v := .ref (ad 9)) (C := RX12) (T := TX12) (N := 57) hx hb hg inX12 hown hK hP 0 atM_0 rfl 17 (by decide) (hg _ mw_1125) (fun _ h9 => h9) rfl dX12_findEven_42 ?_
              refine lv_bipush (v := 8) hx hb dX12_findEven_45 (by decide) ?_
              refine lv_aload_n hx hb dX12_findEven_47 rfl (lv_at hl 0 rfl) ?_
              refine va_get (ci := 12) (v := .int (F18 8)) (C := RX12) (T := TX12) (N := 57) hx hb hg inX12 hown hK hP 0 atM_0 rfl 24 (by decide) (hg _ mw_1132) (fun _ h9 => h9) rfl dX12_findEven_48 ?_
              refine lv_topi (fun x40 e41 => ?_)
              have r42 : rg x40 0 1 := rg_e e41 (hq.1.1 8)
              refine lv_imul hx hb dX12_findEven_51 ?_
              refine lv_topi (fun x43 e44 => ?_)
              have r45 : rg x43 0 8 := rg_mul e44 ((rg_k (by decide)) : rg 8 8 8) r42 (by decide)
              refine lv_iload hx hb dX12_findEven_52 (lv_at hl 4 rfl) ?_
              refine lv_iadd hx hb dX12_findEven_54 ?_
              refine lv_topi (fun x46 e47 => ?_)
              have r48 : rg x46 0 15 := rg_add e47 r45 r22 (by decide)
              refine va_iald hx hb hK hP 9 8 atM_9 tyM_9 (in_rg r48 (by decide)) dX12_findEven_55 ?_
              refine lv_topi (fun x49 e50 => ?_)
              refine lv_ior hx hb dX12_findEven_56 ?_
              refine lv_topi (fun x51 e52 => ?_)
              refine lv_iload_n hx hb dX12_findEven_57 rfl (lv_at hl 2 rfl) ?_
              refine lv_iconst (v := (-1)) hx hb dX12_findEven_58 (by decide) ?_
              refine lv_ixor hx hb dX12_findEven_59 ?_
              refine lv_topi (fun x53 e54 => ?_)
              refine lv_iand hx hb dX12_findEven_60 ?_
              refine lv_topi (fun x55 e56 => ?_)
              have J73 : ∀ (a57 : Int32) (F58 : Nat → Int32) (L58 : Nat → Int64) (A58 : Nat → Nat → Int32) (B58 : Nat → Nat → Int64) (H : Heap) (locs : List Loc) (ls : Array Slot), qM [13] [16] F A F58 A58 → F58 8 = x40 → va_P D classes (wM cA ad F58 L58 A58 B58) H → va_D Af (wM cA ad F58 L58 A58 B58) → va_S Af s.heap H locs → lv_has ls 5 [(0, .ref (ad 0)), (1, .int a2), (2, .int a4), (3, .int a57), (4, .int a16)] → W p l e rm_X12_findEven_0 s m args below meth c H locs 0 0 Q (F0 m 73 ls []) := by
                intro a57 F58 L58 A58 B58 H locs ls hq f59 hP hD hS hl
                obtain ⟨x60, e61⟩ : ∃ y : Int32, y = a16 + 1 := ⟨_, rfl⟩
                have r62 : rg x60 1 8 := rg_add e61 r22 (rg_k (by decide) : rg 1 1 1) (by decide)
                refine lv_iinc (v := x60) (lv' := [(4, .int x60), (0, .ref (ad 0)), (1, .int a2), (2, .int a4), (3, .int a57)]) hx hb dX12_findEven_73 hl (k := 4) rfl (by rw [e61]; rfl) (by decide) rfl (fun ls hl => ?_)
                refine lv_goto (tgt := 28) hx hb dX12_findEven_76 (by decide) ?_
                exact ih28 (a57) (x60) (F58) (L58) (A58) (B58) H locs ls (by have h0 : (1 : Int32).toInt = 1 := rfl; have h1 := ti_addk e61 r22 (by decide); have h2 : rg x60 0 8 := (rg_w r62 (by decide)); unfold rg at h2; omega) (rg_w r62 (by decide)) hq hP hD hS (lv_sub hl [1, 2, 3, 4, 0] rfl)
              refine lv_if_ne (tgt := 73) hx hb dX12_findEven_61 (by decide) (fun c63 => ?_) (fun c63 => ?_)
              · skip
                exact J73 (a15) (F18) (L18) (A18) (B18) H locs ls hq (e41.symm) hP hD hS (lv_sub hl [0, 1, 2, 3, 4] rfl)
              · skip
                have r64 : rg x55 0 0 := rg_eq1 c63 ((rg_top _) : rg x55 (-2147483648) 2147483647) ((rg_k (by decide)) : rg 0 0 0) (by decide)
                refine lv_iload_n hx hb dX12_findEven_64 rfl (lv_at hl 3 rfl) ?_
                refine lv_aload_n hx hb dX12_findEven_65 rfl (lv_at hl 0 rfl) ?_
                refine lv_iload hx hb dX12_findEven_66 (lv_at hl 4 rfl) ?_
                refine callv_i (As := [.int a16]) (rest := [.int a15]) hC (c_X12_smithSum_0 l D cA H.size ad F18 L18 A18 B18 (a16) hq.1 r22) (cwV 1 hg (g_V mw_1415 mw_1412 mw_1414 ms_72 mw_20) rfl rfl rfl (by decide +kernel) ⟨(Nat.le_of_ble_eq_true rfl), (Nat.le_of_ble_eq_true rfl)⟩) hP hD hS hA atM_0 rfl rfl hl.1 rfl (Nat.le_of_ble_eq_true rfl) dX12_findEven_68 ⟨Nat.zero_le _, Nat.zero_le _⟩ (fun x65 u H locs hw hP hD hS => ?_)
                have hP : va_P D classes (wM cA ad F18 L18 A18 B18) H := hP
                have hD : va_D Af (wM cA ad F18 L18 A18 B18) := hD
                refine lv_iadd hx hb dX12_findEven_71 ?_
                refine lv_topi (fun x66 e67 => ?_)
                refine lv_istore_n (lv' := [(3, .int x66), (0, .ref (ad 0)), (1, .int a2), (2, .int a4), (4, .int a16)]) hx hb dX12_findEven_72 rfl hl (by decide) rfl (fun ls hl => ?_)
                exact J73 (x66) (F18) (L18) (A18) (B18) H locs ls hq (e41.symm) hP hD hS (lv_sub hl [1, 2, 3, 0, 4] rfl)
        exact J28 _ (0) (0) (F6) (L6) (A6) (B6) H locs ls (Nat.lt_succ_self _) (rg_k (by decide)) hq hP hD hS (lv_sub hl [2, 3, 4, 1, 0] rfl)
  exact J13 _ (0) (1) ((upd F1 13 (0 : Int32))) (L1) (A1) (B1) H locs ls (Nat.lt_succ_self _) (rg_k (by decide)) (rg_k (by decide)) hq hP hD hS (lv_sub hl [2, 1, 0] rfl)
abbrev rm_X12_even_0 : Room := { frames := 2, cells := 0, slots := 0, locals := 47 }
set_option maxHeartbeats 4000000 in
set_option maxRecDepth 100000 in
theorem c_X12_even_0 (l : Launch) (D : va_G) (cA : Nat → ClassId) (sz : Nat) (ad : Nat → Nat) (F : Nat → Int32) (L : Nat → Int64) (A : Nat → Nat → Int32) (B : Nat → Nat → Int64)  (hT : typM F A) : Met l yX12_even (Cond.code yX12_even cX12_even 1 (some .int) :: GW) rm_X12_even_0 (mPc D classes (tysM cA) (wM cA ad F L A B) sz [.ref (ad 0)]) (mQi (S := SW) D classes (tysM cA) (wM cA ad F L A B) sz (wfM cA ad) (fun r u => qM [13] [16] F A u.1 u.2.2.1 ∧ rg r 0 2147483647)) 0 0 (va_A (wM cA ad F L A B) sz) := by
  refine met_i (own := "ShoeingDayModel") (by decide +kernel) rfl (Nat.le_of_ble_eq_true rfl) ?_
  intro p e s m args below meth c Q Af ls hC hP hD hS hA hl hret
  have hx := hC.1
  have hb := hC.2.1
  have hown := hC.2.2.2.1
  have hg := hC.g
  have hK := hC.K
  have hl : lv_has ls 1 [(0, .ref (ad 0))] := hl
  have hq : qM [13] [16] F A F A := qM.rf hT
  obtain ⟨H, hH⟩ : ∃ H, H = s.heap := ⟨_, rfl⟩
  have hP : va_P D classes (wM cA ad F L A B) H := by rw [hH]; exact hP
  have hS : va_S Af s.heap H [] := by rw [hH]; exact hS
  obtain ⟨locs, hlo⟩ : ∃ q : List Loc, q = [] := ⟨_, rfl⟩
  rw [← hH, ← hlo]
  rw [← hlo] at hS
  refine lv_aload_n hx hb dX12_even_0 rfl (lv_at hl 0 rfl) ?_
  refine callv_i (As := []) (rest := []) hC (c_X12_findEven_0 l D cA H.size ad F L A B  hq.1) (cwV 0 hg (g_V mw_1516 mw_1513 mw_1515 ms_87 mw_20) rfl rfl rfl (by decide +kernel) ⟨(Nat.le_of_ble_eq_true rfl), (Nat.le_of_ble_eq_true rfl)⟩) hP hD hS hA atM_0 rfl rfl hl.1 rfl (Nat.le_of_ble_eq_true rfl) dX12_even_1 ⟨Nat.zero_le _, Nat.zero_le _⟩ (fun x1 u H locs hw hP hD hS => ?_)
  obtain ⟨F2, L2, A2, B2⟩ := u
  try dsimp only at hw
  obtain ⟨hq2, r3⟩ := hw
  have hq := hq.call hq2 (by decide)
  have hP : va_P D classes (wM cA ad F2 L2 A2 B2) H := hP
  have hD : va_D Af (wM cA ad F2 L2 A2 B2) := hD
  exact hret (x1) (F2, L2, A2, B2) H locs 4 ls rfl dX12_even_4 hP hD hS ⟨hq, r3⟩
abbrev rm_X12_proof_0 : Room := { frames := 2, cells := 0, slots := 0, locals := 47 }
set_option maxHeartbeats 4000000 in
set_option maxRecDepth 100000 in
theorem c_X12_proof_0 (l : Launch) (D : va_G) (cA : Nat → ClassId) (sz : Nat) (ad : Nat → Nat) (F : Nat → Int32) (L : Nat → Int64) (A : Nat → Nat → Int32) (B : Nat → Nat → Int64)  (hT : typM F A) : Met l yX12_proof (Cond.code yX12_proof cX12_proof 1 (some .int) :: GW) rm_X12_proof_0 (mPc D classes (tysM cA) (wM cA ad F L A B) sz [.ref (ad 0)]) (mQi (S := SW) D classes (tysM cA) (wM cA ad F L A B) sz (wfM cA ad) (fun r u => qM [13] [16] F A u.1 u.2.2.1)) 0 0 (va_A (wM cA ad F L A B) sz) := by
  refine met_i (own := "ShoeingDayModel") (by decide +kernel) rfl (Nat.le_of_ble_eq_true rfl) ?_
  intro p e s m args below meth c Q Af ls hC hP hD hS hA hl hret
  have hx := hC.1
  have hb := hC.2.1
  have hown := hC.2.2.2.1
  have hg := hC.g
  have hK := hC.K
  have hl : lv_has ls 1 [(0, .ref (ad 0))] := hl
  have hq : qM [13] [16] F A F A := qM.rf hT
  obtain ⟨H, hH⟩ : ∃ H, H = s.heap := ⟨_, rfl⟩
  have hP : va_P D classes (wM cA ad F L A B) H := by rw [hH]; exact hP
  have hS : va_S Af s.heap H [] := by rw [hH]; exact hS
  obtain ⟨locs, hlo⟩ : ∃ q : List Loc, q = [] := ⟨_, rfl⟩
  rw [← hH, ← hlo]
  rw [← hlo] at hS
  refine lv_aload_n hx hb dX12_proof_0 rfl (lv_at hl 0 rfl) ?_
  refine callv_i (As := []) (rest := []) hC (c_X12_findEven_0 l D cA H.size ad F L A B  hq.1) (cwV 0 hg (g_V mw_1516 mw_1513 mw_1515 ms_87 mw_20) rfl rfl rfl (by decide +kernel) ⟨(Nat.le_of_ble_eq_true rfl), (Nat.le_of_ble_eq_true rfl)⟩) hP hD hS hA atM_0 rfl rfl hl.1 rfl (Nat.le_of_ble_eq_true rfl) dX12_proof_1 ⟨Nat.zero_le _, Nat.zero_le _⟩ (fun x1 u H locs hw hP hD hS => ?_)
  obtain ⟨F2, L2, A2, B2⟩ := u
  try dsimp only at hw
  obtain ⟨hq2, r3⟩ := hw
  have hq := hq.call hq2 (by decide)
  have hP : va_P D classes (wM cA ad F2 L2 A2 B2) H := hP
  have hD : va_D Af (wM cA ad F2 L2 A2 B2) := hD
  refine lv_pop hx hb dX12_proof_4 rfl ?_
  refine lv_aload_n hx hb dX12_proof_5 rfl (lv_at hl 0 rfl) ?_
  refine va_get (ci := 12) (v := .int (F2 13)) (C := RX12) (T := TX12) (N := 57) hx hb hg inX12 hown hK hP 0 atM_0 rfl 40 (by decide) (hg _ mw_1148) (fun _ h9 => h9) rfl dX12_proof_6 ?_
  refine lv_topi (fun x4 e5 => ?_)
  exact hret (x4) (F2, L2, A2, B2) H locs 9 ls rfl dX12_proof_9 hP hD hS hq
abbrev rm_X12_keepAct_0 : Room := { frames := 0, cells := 0, slots := 0, locals := 0 }
set_option maxHeartbeats 4000000 in
set_option maxRecDepth 100000 in
theorem c_X12_keepAct_0 (l : Launch) (D : va_G) (cA : Nat → ClassId) (sz : Nat) (ad : Nat → Nat) (F : Nat → Int32) (L : Nat → Int64) (A : Nat → Nat → Int32) (B : Nat → Nat → Int64)  (hT : typM F A) (hI : xM F) : Met l yX12_keepAct (Cond.code yX12_keepAct cX12_keepAct 2 none :: GW) rm_X12_keepAct_0 (mPc D classes (tysM cA) (wM cA ad F L A B) sz [.ref (ad 0)]) (mQv (S := SW) D classes (tysM cA) (wM cA ad F L A B) sz (wfM cA ad) (fun u => qM [14, 15] [27] F A u.1 u.2.2.1 ∧ xM u.1)) 0 0 (va_A (wM cA ad F L A B) sz) := by
  refine met_v (own := "ShoeingDayModel") (by decide +kernel) rfl (Nat.le_of_ble_eq_true rfl) ?_
  intro p e s m args below meth c Q Af ls hC hP hD hS hA hl hret
  have hx := hC.1
  have hb := hC.2.1
  have hown := hC.2.2.2.1
  have hg := hC.g
  have hK := hC.K
  have hl : lv_has ls 2 [(0, .ref (ad 0))] := hl
  have hq : qM [14, 15] [27] F A F A := qM.rf hT
  obtain ⟨H, hH⟩ : ∃ H, H = s.heap := ⟨_, rfl⟩
  have hP : va_P D classes (wM cA ad F L A B) H := by rw [hH]; exact hP
  have hS : va_S Af s.heap H [] := by rw [hH]; exact hS
  obtain ⟨locs, hlo⟩ : ∃ q : List Loc, q = [] := ⟨_, rfl⟩
  rw [← hH, ← hlo]
  rw [← hlo] at hS
  refine lv_aload_n hx hb dX12_keepAct_0 rfl (lv_at hl 0 rfl) ?_
  refine va_get (ci := 12) (v := .int (F 14)) (C := RX12) (T := TX12) (N := 57) hx hb hg inX12 hown hK hP 0 atM_0 rfl 42 (by decide) (hg _ mw_1150) (fun _ h9 => h9) rfl dX12_keepAct_1 ?_
  refine lv_topi (fun x1 e2 => ?_)
  have r3 : rg x1 0 40 := rg_e e2 (hq.1.1 14)
  refine lv_bipush (v := 40) hx hb dX12_keepAct_4 (by decide) ?_
  have J49 : ∀ (F4 : Nat → Int32) (L4 : Nat → Int64) (A4 : Nat → Nat → Int32) (B4 : Nat → Nat → Int64) (a5 : Int32) (H : Heap) (locs : List Loc) (ls : Array Slot), qM [14, 15] [27] F A F4 A4 → F4 14 = a5 → rg a5 0 39 → va_P D classes (wM cA ad F4 L4 A4 B4) H → va_D Af (wM cA ad F4 L4 A4 B4) → va_S Af s.heap H locs → lv_has ls 2 [(0, .ref (ad 0))] → W p l e rm_X12_keepAct_0 s m args below meth c H locs 0 0 Q (F0 m 49 ls []) := by
    intro F4 L4 A4 B4 a5 H locs ls hq f6 r7 hP hD hS hl
    refine lv_iconst (v := 0) hx hb dX12_keepAct_49 (by decide) ?_
    refine lv_istore_n (lv' := [(1, .int 0), (0, .ref (ad 0))]) hx hb dX12_keepAct_50 rfl hl (by decide) rfl (fun ls hl => ?_)
    have J51 : ∀ (n51 : Nat) (a8 : Int32) (F10 : Nat → Int32) (L10 : Nat → Int64) (A10 : Nat → Nat → Int32) (B10 : Nat → Nat → Int64) (H : Heap) (locs : List Loc) (ls : Array Slot), (80 - a8.toInt).toNat < n51 → rg a8 0 80 → qM [14, 15] [27] F A F10 A10 → F10 14 = a5 → va_P D classes (wM cA ad F10 L10 A10 B10) H → va_D Af (wM cA ad F10 L10 A10 B10) → va_S Af s.heap H locs → lv_has ls 2 [(0, .ref (ad 0)), (1, .int a8)] → W p l e rm_X12_keepAct_0 s m args below meth c H locs 0 0 Q (F0 m 51 ls []) := by
      intro n51
      induction n51 with
      | zero =>
        intro _ _ _ _ _ _ _ _ hn
        exact absurd hn (Nat.not_lt_zero _)
      | succ n51 ih51 =>
        intro a8 F10 L10 A10 B10 H locs ls hn51 r9 hq f11 hP hD hS hl
        refine lv_iload_n hx hb dX12_keepAct_51 rfl (lv_at hl 1 rfl) ?_
        refine lv_bipush (v := 80) hx hb dX12_keepAct_52 (by decide) ?_
        refine lv_icmp_ge (tgt := 83) hx hb dX12_keepAct_54 (by decide) (fun c12 => ?_) (fun c12 => ?_)
        · skip
          have r13 : rg a8 80 80 := rg_le2 (iE c12) ((rg_k (by decide)) : rg 80 80 80) (r9 : rg a8 0 80)
          refine lv_aload_n hx hb dX12_keepAct_83 rfl (lv_at hl 0 rfl) ?_
          refine va_get (ci := 12) (v := .ref (ad 27)) (C := RX12) (T := TX12) (N := 57) hx hb hg inX12 hown hK hP 0 atM_0 rfl 41 (by decide) (hg _ mw_1149) (fun _ h9 => h9) rfl dX12_keepAct_84 ?_
          refine lv_bipush (v := 81) hx hb dX12_keepAct_87 (by decide) ?_
          refine lv_aload_n hx hb dX12_keepAct_89 rfl (lv_at hl 0 rfl) ?_
          refine va_get (ci := 12) (v := .int a5) (C := RX12) (T := TX12) (N := 57) hx hb hg inX12 hown hK hP 0 atM_0 rfl 42 (by decide) (hg _ mw_1150) (fun _ h9 => h9) (congrArg (fun z => some (Value.int z)) (f11)) dX12_keepAct_90 ?_
          refine lv_imul hx hb dX12_keepAct_93 ?_
          refine lv_topi (fun x15 e16 => ?_)
          have r17 : rg x15 0 3159 := rg_mul e16 ((rg_k (by decide)) : rg 81 81 81) r7 (by decide)
          refine lv_bipush (v := 80) hx hb dX12_keepAct_94 (by decide) ?_
          refine lv_iadd hx hb dX12_keepAct_96 ?_
          refine lv_topi (fun x18 e19 => ?_)
          have r20 : rg x18 80 3239 := rg_add e19 r17 ((rg_k (by decide)) : rg 80 80 80) (by decide)
          refine lv_aload_n hx hb dX12_keepAct_97 rfl (lv_at hl 0 rfl) ?_
          refine va_get (ci := 12) (v := .int (F10 10)) (C := RX12) (T := TX12) (N := 57) hx hb hg inX12 hown hK hP 0 atM_0 rfl 28 (by decide) (hg _ mw_1136) (fun _ h9 => h9) rfl dX12_keepAct_98 ?_
          refine lv_topi (fun x21 e22 => ?_)
          refine va_iast hx hb hK hP hD hS 27 26 atM_27 tyM_27 (in_rg r20 (by decide)) dX12_keepAct_101 (fun H locs hP hD hS => ?_)
          have hq := hq.ast 27 (x18).toNatClampNeg (x := x21) (by decide) (rg_top _)
          rw [setM_27] at hP hD
          have k23 : x21 = (va_up A10 27 (upd (A10 27) (x18).toNatClampNeg x21)) 27 (x18).toNatClampNeg := (rdA).symm
          refine lv_aload_n hx hb dX12_keepAct_102 rfl (lv_at hl 0 rfl) ?_
          refine lv_dup hx hb dX12_keepAct_103 rfl ?_
          refine va_get (ci := 12) (v := .int a5) (C := RX12) (T := TX12) (N := 57) hx hb hg inX12 hown hK hP 0 atM_0 rfl 42 (by decide) (hg _ mw_1150) (fun _ h9 => h9) (congrArg (fun z => some (Value.int z)) (f11)) dX12_keepAct_104 ?_
          refine lv_iconst (v := 1) hx hb dX12_keepAct_107 (by decide) ?_
          refine lv_iadd hx hb dX12_keepAct_108 ?_
          refine lv_topi (fun x24 e25 => ?_)
          have r26 : rg x24 1 40 := rg_add e25 r7 ((rg_k (by decide)) : rg 1 1 1) (by decide)
          refine va_put (ci := 12) (v := .int x24) (ty := .int) (C := RX12) (T := TX12) (N := 57) hx hb hg inX12 tyX12 tyX12_ok nmX12 hown hK hP hD hS 0 atM_0 rfl 42 (by decide) (hg _ mw_1150) (fun _ h9 => h9) rfl (by decide +kernel) rfl rfl (Nat.le_of_ble_eq_true rfl) dX12_keepAct_109 (fun H locs hP hD hS => ?_)
          have hq := hq.put 14 (x := x24) (by decide) (rg_w r26 (by decide))
          rw [setFM_14] at hP hD
          refine lv_aload_n hx hb dX12_keepAct_112 rfl (lv_at hl 0 rfl) ?_
          refine lv_iconst (v := 0) hx hb dX12_keepAct_113 (by decide) ?_
          refine va_put (ci := 12) (v := .int 0) (ty := .int) (C := RX12) (T := TX12) (N := 57) hx hb hg inX12 tyX12 tyX12_ok nmX12 hown hK hP hD hS 0 atM_0 rfl 43 (by decide) (hg _ mw_1151) (fun _ h9 => h9) rfl (by decide +kernel) rfl rfl (Nat.le_of_ble_eq_true rfl) dX12_keepAct_114 (fun H locs hP hD hS => ?_)
          have hq := hq.put 15 (x := 0) (by decide) (rg_k (by decide))
          rw [setFM_15] at hP hD
          exact hret ((upd (upd F10 14 x24) 15 (0 : Int32)), L10, (va_up A10 27 (upd (A10 27) (x18).toNatClampNeg x21)), B10) H locs 117 ls dX12_keepAct_117 hP hD hS ⟨hq, (xM.of (a := x24) (b := (0 : Int32)) (rfl) (rfl) (by have h1 := (r26 : rg x24 1 40); have h2 := ((rg_k (by decide)) : rg (0 : Int32) 0 0); unfold rg at h1 h2; omega))⟩
        · skip
          have r14 : rg a8 0 79 := rg_lt1 (iNE c12) (r9 : rg a8 0 80) ((rg_k (by decide)) : rg 80 80 80)
          refine lv_aload_n hx hb dX12_keepAct_57 rfl (lv_at hl 0 rfl) ?_
          refine va_get (ci := 12) (v := .ref (ad 27)) (C := RX12) (T := TX12) (N := 57) hx hb hg inX12 hown hK hP 0 atM_0 rfl 41 (by decide) (hg _ mw_1149) (fun _ h9 => h9) rfl dX12_keepAct_58 ?_
          refine lv_bipush (v := 81) hx hb dX12_keepAct_61 (by decide) ?_
          refine lv_aload_n hx hb dX12_keepAct_63 rfl (lv_at hl 0 rfl) ?_
          refine va_get (ci := 12) (v := .int a5) (C := RX12) (T := TX12) (N := 57) hx hb hg inX12 hown hK hP 0 atM_0 rfl 42 (by decide) (hg _ mw_1150) (fun _ h9 => h9) (congrArg (fun z => some (Value.int z)) (f11)) dX12_keepAct_64 ?_
          refine lv_imul hx hb dX12_keepAct_67 ?_
          refine lv_topi (fun x27 e28 => ?_)
          have r29 : rg x27 0 3159 := rg_mul e28 ((rg_k (by decide)) : rg 81 81 81) r7 (by decide)
          refine lv_iload_n hx hb dX12_keepAct_68 rfl (lv_at hl 1 rfl) ?_
          refine lv_iadd hx hb dX12_keepAct_69 ?_
          refine lv_topi (fun x30 e31 => ?_)
          have r32 : rg x30 0 3238 := rg_add e31 r29 r14 (by decide)
          refine lv_aload_n hx hb dX12_keepAct_70 rfl (lv_at hl 0 rfl) ?_
          refine va_get (ci := 12) (v := .ref (ad 17)) (C := RX12) (T := TX12) (N := 57) hx hb hg inX12 hown hK hP 0 atM_0 rfl 27 (by decide) (hg _ mw_1135) (fun _ h9 => h9) rfl dX12_keepAct_71 ?_
          refine lv_iload_n hx hb dX12_keepAct_74 rfl (lv_at hl 1 rfl) ?_
          refine va_iald hx hb hK hP 17 16 atM_17 tyM_17 (in_rg r14 (by decide)) dX12_keepAct_75 ?_
          refine lv_topi (fun x33 e34 => ?_)
          refine va_iast hx hb hK hP hD hS 27 26 atM_27 tyM_27 (in_rg r32 (by decide)) dX12_keepAct_76 (fun H locs hP hD hS => ?_)
          have hq := hq.ast 27 (x30).toNatClampNeg (x := x33) (by decide) (rg_top _)
          rw [setM_27] at hP hD
          have k35 : x33 = (va_up A10 27 (upd (A10 27) (x30).toNatClampNeg x33)) 27 (x30).toNatClampNeg := (rdA).symm
          obtain ⟨x36, e37⟩ : ∃ y : Int32, y = a8 + 1 := ⟨_, rfl⟩
          have r38 : rg x36 1 80 := rg_add e37 r14 (rg_k (by decide) : rg 1 1 1) (by decide)
          refine lv_iinc (v := x36) (lv' := [(1, .int x36), (0, .ref (ad 0))]) hx hb dX12_keepAct_77 hl (k := 1) rfl (by rw [e37]; rfl) (by decide) rfl (fun ls hl => ?_)
          refine lv_goto (tgt := 51) hx hb dX12_keepAct_80 (by decide) ?_
          exact ih51 (x36) (F10) (L10) ((va_up A10 27 (upd (A10 27) (x30).toNatClampNeg x33))) (B10) H locs ls (by have h0 : (1 : Int32).toInt = 1 := rfl; have h1 := ti_addk e37 r14 (by decide); have h2 : rg x36 0 80 := (rg_w r38 (by decide)); unfold rg at h2; omega) (rg_w r38 (by decide)) hq (f11) hP hD hS (lv_sub hl [1, 0] rfl)
    exact J51 _ (0) (F4) (L4) (A4) (B4) H locs ls (Nat.lt_succ_self _) (rg_k (by decide)) hq (f6) hP hD hS (lv_sub hl [1, 0] rfl)
  refine lv_icmp_ne (tgt := 49) hx hb dX12_keepAct_6 (by decide) (fun c39 => ?_) (fun c39 => ?_)
  · skip
    have r40 : rg x1 0 39 := (rg_ne1 c39 (r3 : rg x1 0 40) ((rg_k (by decide)) : rg 40 40 40)).2 rfl
    exact J49 (F) (L) (A) (B) (x1) H locs ls hq (e2.symm) r40 hP hD hS (lv_sub hl [0] rfl)
  · skip
    have r41 : rg x1 40 40 := rg_eq1 c39 (r3 : rg x1 0 40) ((rg_k (by decide)) : rg 40 40 40) (by decide)
    refine lv_iconst (v := 0) hx hb dX12_keepAct_9 (by decide) ?_
    refine lv_istore_n (lv' := [(1, .int 0), (0, .ref (ad 0))]) hx hb dX12_keepAct_10 rfl hl (by decide) rfl (fun ls hl => ?_)
    have J11 : ∀ (n11 : Nat) (a42 : Int32) (F44 : Nat → Int32) (L44 : Nat → Int64) (A44 : Nat → Nat → Int32) (B44 : Nat → Nat → Int64) (H : Heap) (locs : List Loc) (ls : Array Slot), (3240 - a42.toInt).toNat < n11 → rg a42 0 3240 → qM [14, 15] [27] F A F44 A44 → xM F44 → F44 14 = x1 → va_P D classes (wM cA ad F44 L44 A44 B44) H → va_D Af (wM cA ad F44 L44 A44 B44) → va_S Af s.heap H locs → lv_has ls 2 [(0, .ref (ad 0)), (1, .int a42)] → W p l e rm_X12_keepAct_0 s m args below meth c H locs 0 0 Q (F0 m 11 ls []) := by
      intro n11
      induction n11 with
      | zero =>
        intro _ _ _ _ _ _ _ _ hn
        exact absurd hn (Nat.not_lt_zero _)
      | succ n11 ih11 =>
        intro a42 F44 L44 A44 B44 H locs ls hn11 r43 hq i45 f46 hP hD hS hl
        refine lv_iload_n hx hb dX12_keepAct_11 rfl (lv_at hl 1 rfl) ?_
        refine lv_sipush (v := 3240) hx hb dX12_keepAct_12 (by decide) ?_
        refine lv_icmp_ge (tgt := 39) hx hb dX12_keepAct_15 (by decide) (fun c47 => ?_) (fun c47 => ?_)
        · skip
          have r48 : rg a42 3240 3240 := rg_le2 (iE c47) ((rg_k (by decide)) : rg 3240 3240 3240) (r43 : rg a42 0 3240)
          refine lv_aload_n hx hb dX12_keepAct_39 rfl (lv_at hl 0 rfl) ?_
          refine lv_dup hx hb dX12_keepAct_40 rfl ?_
          refine va_get (ci := 12) (v := .int x1) (C := RX12) (T := TX12) (N := 57) hx hb hg inX12 hown hK hP 0 atM_0 rfl 42 (by decide) (hg _ mw_1150) (fun _ h9 => h9) (congrArg (fun z => some (Value.int z)) (f46)) dX12_keepAct_41 ?_
          refine lv_iconst (v := 1) hx hb dX12_keepAct_44 (by decide) ?_
          refine lv_isub hx hb dX12_keepAct_45 ?_
          refine lv_topi (fun x50 e51 => ?_)
          have r52 : rg x50 39 39 := rg_sub e51 r41 ((rg_k (by decide)) : rg 1 1 1) (by decide)
          refine va_put (ci := 12) (v := .int x50) (ty := .int) (C := RX12) (T := TX12) (N := 57) hx hb hg inX12 tyX12 tyX12_ok nmX12 hown hK hP hD hS 0 atM_0 rfl 42 (by decide) (hg _ mw_1150) (fun _ h9 => h9) rfl (by decide +kernel) rfl rfl (Nat.le_of_ble_eq_true rfl) dX12_keepAct_46 (fun H locs hP hD hS => ?_)
          have hq := hq.put 14 (x := x50) (by decide) (rg_w r52 (by decide))
          rw [setFM_14] at hP hD
          exact J49 ((upd F44 14 x50)) (L44) (A44) (B44) (x50) H locs ls hq (rfl) (rg_w r52 (by decide)) hP hD hS (lv_sub hl [0] rfl)
        · skip
          have r49 : rg a42 0 3239 := rg_lt1 (iNE c47) (r43 : rg a42 0 3240) ((rg_k (by decide)) : rg 3240 3240 3240)
          refine lv_aload_n hx hb dX12_keepAct_18 rfl (lv_at hl 0 rfl) ?_
          refine va_get (ci := 12) (v := .ref (ad 27)) (C := RX12) (T := TX12) (N := 57) hx hb hg inX12 hown hK hP 0 atM_0 rfl 41 (by decide) (hg _ mw_1149) (fun _ h9 => h9) rfl dX12_keepAct_19 ?_
          refine lv_iload_n hx hb dX12_keepAct_22 rfl (lv_at hl 1 rfl) ?_
          refine lv_aload_n hx hb dX12_keepAct_23 rfl (lv_at hl 0 rfl) ?_
          refine va_get (ci := 12) (v := .ref (ad 27)) (C := RX12) (T := TX12) (N := 57) hx hb hg inX12 hown hK hP 0 atM_0 rfl 41 (by decide) (hg _ mw_1149) (fun _ h9 => h9) rfl dX12_keepAct_24 ?_
          refine lv_iload_n hx hb dX12_keepAct_27 rfl (lv_at hl 1 rfl) ?_
          refine lv_bipush (v := 81) hx hb dX12_keepAct_28 (by decide) ?_
          refine lv_iadd hx hb dX12_keepAct_30 ?_
          refine lv_topi (fun x53 e54 => ?_)
          have r55 : rg x53 81 3320 := rg_add e54 r49 ((rg_k (by decide)) : rg 81 81 81) (by decide)
          refine va_iald hx hb hK hP 27 26 atM_27 tyM_27 (in_rg r55 (by decide)) dX12_keepAct_31 ?_
          refine lv_topi (fun x56 e57 => ?_)
          refine va_iast hx hb hK hP hD hS 27 26 atM_27 tyM_27 (in_rg r49 (by decide)) dX12_keepAct_32 (fun H locs hP hD hS => ?_)
          have hq := hq.ast 27 (a42).toNatClampNeg (x := x56) (by decide) (rg_top _)
          rw [setM_27] at hP hD
          have k58 : x56 = (va_up A44 27 (upd (A44 27) (a42).toNatClampNeg x56)) 27 (a42).toNatClampNeg := (rdA).symm
          obtain ⟨x59, e60⟩ : ∃ y : Int32, y = a42 + 1 := ⟨_, rfl⟩
          have r61 : rg x59 1 3240 := rg_add e60 r49 (rg_k (by decide) : rg 1 1 1) (by decide)
          refine lv_iinc (v := x59) (lv' := [(1, .int x59), (0, .ref (ad 0))]) hx hb dX12_keepAct_33 hl (k := 1) rfl (by rw [e60]; rfl) (by decide) rfl (fun ls hl => ?_)
          refine lv_goto (tgt := 11) hx hb dX12_keepAct_36 (by decide) ?_
          exact ih11 (x59) (F44) (L44) ((va_up A44 27 (upd (A44 27) (a42).toNatClampNeg x56))) (B44) H locs ls (by have h0 : (1 : Int32).toInt = 1 := rfl; have h1 := ti_addk e60 r49 (by decide); have h2 : rg x59 0 3240 := (rg_w r61 (by decide)); unfold rg at h2; omega) (rg_w r61 (by decide)) hq i45 (f46) hP hD hS (lv_sub hl [1, 0] rfl)
    exact J11 _ (0) (F) (L) (A) (B) H locs ls (Nat.lt_succ_self _) (rg_k (by decide)) hq hI (e2.symm) hP hD hS (lv_sub hl [1, 0] rfl)
abbrev rm_X12_keepNow_0 : Room := { frames := 0, cells := 0, slots := 0, locals := 0 }
set_option maxHeartbeats 4000000 in
set_option maxRecDepth 100000 in
theorem c_X12_keepNow_0 (l : Launch) (D : va_G) (cA : Nat → ClassId) (sz : Nat) (ad : Nat → Nat) (F : Nat → Int32) (L : Nat → Int64) (A : Nat → Nat → Int32) (B : Nat → Nat → Int64)  (hT : typM F A) : Met l yX12_keepNow (Cond.code yX12_keepNow cX12_keepNow 2 none :: GW) rm_X12_keepNow_0 (mPc D classes (tysM cA) (wM cA ad F L A B) sz [.ref (ad 0)]) (mQv (S := SW) D classes (tysM cA) (wM cA ad F L A B) sz (wfM cA ad) (fun u => qM [] [17] F A u.1 u.2.2.1)) 0 0 (va_A (wM cA ad F L A B) sz) := by
  refine met_v (own := "ShoeingDayModel") (by decide +kernel) rfl (Nat.le_of_ble_eq_true rfl) ?_
  intro p e s m args below meth c Q Af ls hC hP hD hS hA hl hret
  have hx := hC.1
  have hb := hC.2.1
  have hown := hC.2.2.2.1
  have hg := hC.g
  have hK := hC.K
  have hl : lv_has ls 2 [(0, .ref (ad 0))] := hl
  have hq : qM [] [17] F A F A := qM.rf hT
  obtain ⟨H, hH⟩ : ∃ H, H = s.heap := ⟨_, rfl⟩
  have hP : va_P D classes (wM cA ad F L A B) H := by rw [hH]; exact hP
  have hS : va_S Af s.heap H [] := by rw [hH]; exact hS
  obtain ⟨locs, hlo⟩ : ∃ q : List Loc, q = [] := ⟨_, rfl⟩
  rw [← hH, ← hlo]
  rw [← hlo] at hS
  refine lv_iconst (v := 0) hx hb dX12_keepNow_0 (by decide) ?_
  refine lv_istore_n (lv' := [(1, .int 0), (0, .ref (ad 0))]) hx hb dX12_keepNow_1 rfl hl (by decide) rfl (fun ls hl => ?_)
  have J2 : ∀ (n2 : Nat) (a1 : Int32) (F3 : Nat → Int32) (L3 : Nat → Int64) (A3 : Nat → Nat → Int32) (B3 : Nat → Nat → Int64) (H : Heap) (locs : List Loc) (ls : Array Slot), (80 - a1.toInt).toNat < n2 → rg a1 0 80 → qM [] [17] F A F3 A3 → va_P D classes (wM cA ad F3 L3 A3 B3) H → va_D Af (wM cA ad F3 L3 A3 B3) → va_S Af s.heap H locs → lv_has ls 2 [(0, .ref (ad 0)), (1, .int a1)] → W p l e rm_X12_keepNow_0 s m args below meth c H locs 0 0 Q (F0 m 2 ls []) := by
    intro n2
    induction n2 with
    | zero =>
      intro _ _ _ _ _ _ _ _ hn
      exact absurd hn (Nat.not_lt_zero _)
    | succ n2 ih2 =>
      intro a1 F3 L3 A3 B3 H locs ls hn2 r2 hq hP hD hS hl
      refine lv_iload_n hx hb dX12_keepNow_2 rfl (lv_at hl 1 rfl) ?_
      refine lv_bipush (v := 80) hx hb dX12_keepNow_3 (by decide) ?_
      refine lv_icmp_ge (tgt := 26) hx hb dX12_keepNow_5 (by decide) (fun c4 => ?_) (fun c4 => ?_)
      · skip
        have r5 : rg a1 80 80 := rg_le2 (iE c4) ((rg_k (by decide)) : rg 80 80 80) (r2 : rg a1 0 80)
        exact hret (F3, L3, A3, B3) H locs 26 ls dX12_keepNow_26 hP hD hS hq
      · skip
        have r6 : rg a1 0 79 := rg_lt1 (iNE c4) (r2 : rg a1 0 80) ((rg_k (by decide)) : rg 80 80 80)
        refine lv_aload_n hx hb dX12_keepNow_8 rfl (lv_at hl 0 rfl) ?_
        refine va_get (ci := 12) (v := .ref (ad 17)) (C := RX12) (T := TX12) (N := 57) hx hb hg inX12 hown hK hP 0 atM_0 rfl 27 (by decide) (hg _ mw_1135) (fun _ h9 => h9) rfl dX12_keepNow_9 ?_
        refine lv_iload_n hx hb dX12_keepNow_12 rfl (lv_at hl 1 rfl) ?_
        refine lv_aload_n hx hb dX12_keepNow_13 rfl (lv_at hl 0 rfl) ?_
        refine va_get (ci := 12) (v := .ref (ad 16)) (C := RX12) (T := TX12) (N := 57) hx hb hg inX12 hown hK hP 0 atM_0 rfl 26 (by decide) (hg _ mw_1134) (fun _ h9 => h9) rfl dX12_keepNow_14 ?_
        refine lv_iload_n hx hb dX12_keepNow_17 rfl (lv_at hl 1 rfl) ?_
        refine va_iald hx hb hK hP 16 15 atM_16 tyM_16 (in_rg r6 (by decide)) dX12_keepNow_18 ?_
        refine lv_topi (fun x7 e8 => ?_)
        refine va_iast hx hb hK hP hD hS 17 16 atM_17 tyM_17 (in_rg r6 (by decide)) dX12_keepNow_19 (fun H locs hP hD hS => ?_)
        have hq := hq.ast 17 (a1).toNatClampNeg (x := x7) (by decide) (rg_top _)
        rw [setM_17] at hP hD
        have k9 : x7 = (va_up A3 17 (upd (A3 17) (a1).toNatClampNeg x7)) 17 (a1).toNatClampNeg := (rdA).symm
        obtain ⟨x10, e11⟩ : ∃ y : Int32, y = a1 + 1 := ⟨_, rfl⟩
        have r12 : rg x10 1 80 := rg_add e11 r6 (rg_k (by decide) : rg 1 1 1) (by decide)
        refine lv_iinc (v := x10) (lv' := [(1, .int x10), (0, .ref (ad 0))]) hx hb dX12_keepNow_20 hl (k := 1) rfl (by rw [e11]; rfl) (by decide) rfl (fun ls hl => ?_)
        refine lv_goto (tgt := 2) hx hb dX12_keepNow_23 (by decide) ?_
        exact ih2 (x10) (F3) (L3) ((va_up A3 17 (upd (A3 17) (a1).toNatClampNeg x7))) (B3) H locs ls (by have h0 : (1 : Int32).toInt = 1 := rfl; have h1 := ti_addk e11 r6 (by decide); have h2 : rg x10 0 80 := (rg_w r12 (by decide)); unfold rg at h2; omega) (rg_w r12 (by decide)) hq hP hD hS (lv_sub hl [1, 0] rfl)
  exact J2 _ (0) (F) (L) (A) (B) H locs ls (Nat.lt_succ_self _) (rg_k (by decide)) hq hP hD hS (lv_sub hl [1, 0] rfl)
abbrev rm_X12_run_0 : Room := { frames := 4, cells := 0, slots := 0, locals := 98 }
set_option maxHeartbeats 4000000 in
set_option maxRecDepth 100000 in
theorem c_X12_run_0 (l : Launch) (D : va_G) (cA : Nat → ClassId) (sz : Nat) (ad : Nat → Nat) (F : Nat → Int32) (L : Nat → Int64) (A : Nat → Nat → Int32) (B : Nat → Nat → Int64) (p1 : Int32) (hT : typM F A) (hI : xM F) : Met l yX12_run (Cond.code yX12_run cX12_run 5 (some .int) :: GW) rm_X12_run_0 (mPc D classes (tysM cA) (wM cA ad F L A B) sz [.ref (ad 0), .int p1]) (mQi (S := SW) D classes (tysM cA) (wM cA ad F L A B) sz (wfM cA ad) (fun r u => qM [10, 14, 15] [16, 17, 18, 19, 20, 27] F A u.1 u.2.2.1 ∧ xM u.1)) 0 0 (va_A (wM cA ad F L A B) sz) := by
  sorry
abbrev rm_X12_more_0 : Room := { frames := 2, cells := 0, slots := 0, locals := 43 }
set_option maxHeartbeats 4000000 in
set_option maxRecDepth 100000 in
theorem c_X12_more_0 (l : Launch) (D : va_G) (cA : Nat → ClassId) (sz : Nat) (ad : Nat → Nat) (F : Nat → Int32) (L : Nat → Int64) (A : Nat → Nat → Int32) (B : Nat → Nat → Int64) (p1 : Int32) (p2 : Int32) (p3 : Int32) (hT : typM F A) (hI : xM F) : Met l yX12_more (Cond.code yX12_more cX12_more 4 (some .int) :: GW) rm_X12_more_0 (mPc D classes (tysM cA) (wM cA ad F L A B) sz [.ref (ad 0), .int p1, .int p2, .int p3]) (mQi (S := SW) D classes (tysM cA) (wM cA ad F L A B) sz (wfM cA ad) (fun r u => qM [14, 15] [17, 27] F A u.1 u.2.2.1 ∧ xM u.1 ∧ rg r (-1) 99)) 0 0 (va_A (wM cA ad F L A B) sz) := by
  refine met_i (own := "ShoeingDayModel") (by decide +kernel) rfl (Nat.le_of_ble_eq_true rfl) ?_
  intro p e s m args below meth c Q Af ls hC hP hD hS hA hl hret
  have hx := hC.1
  have hb := hC.2.1
  have hown := hC.2.2.2.1
  have hg := hC.g
  have hK := hC.K
  have hl : lv_has ls 4 [(0, .ref (ad 0)), (1, .int p1), (2, .int p2), (3, .int p3)] := hl
  have hq : qM [14, 15] [17, 27] F A F A := qM.rf hT
  obtain ⟨H, hH⟩ : ∃ H, H = s.heap := ⟨_, rfl⟩
  have hP : va_P D classes (wM cA ad F L A B) H := by rw [hH]; exact hP
  have hS : va_S Af s.heap H [] := by rw [hH]; exact hS
  obtain ⟨locs, hlo⟩ : ∃ q : List Loc, q = [] := ⟨_, rfl⟩
  rw [← hH, ← hlo]
  rw [← hlo] at hS
  refine lv_aload_n hx hb dX12_more_0 rfl (lv_at hl 0 rfl) ?_
  refine lv_iload_n hx hb dX12_more_1 rfl (lv_at hl 1 rfl) ?_
  refine callv_i (As := [.int p1]) (rest := []) hC (c_X12_isSmith_0 l D cA H.size ad F L A B (p1) hq.1) (cwV 1 hg (g_V mw_1384 mw_1381 mw_1383 ms_66 mw_20) rfl rfl rfl (by decide +kernel) ⟨(Nat.le_of_ble_eq_true rfl), (Nat.le_of_ble_eq_true rfl)⟩) hP hD hS hA atM_0 rfl rfl hl.1 rfl (Nat.le_of_ble_eq_true rfl) dX12_more_2 ⟨Nat.zero_le _, Nat.zero_le _⟩ (fun x1 u H locs hw hP hD hS => ?_)
  obtain ⟨r2, g3⟩ := hw
  have hP : va_P D classes (wM cA ad F L A B) H := hP
  have hD : va_D Af (wM cA ad F L A B) := hD
  have J49 : ∀ (F4 : Nat → Int32) (L4 : Nat → Int64) (A4 : Nat → Nat → Int32) (B4 : Nat → Nat → Int64) (H : Heap) (locs : List Loc) (ls : Array Slot), qM [14, 15] [17, 27] F A F4 A4 → xM F4 → va_P D classes (wM cA ad F4 L4 A4 B4) H → va_D Af (wM cA ad F4 L4 A4 B4) → va_S Af s.heap H locs → lv_has ls 4 [] → W p l e rm_X12_more_0 s m args below meth c H locs 0 0 Q (F0 m 49 ls []) := by
    intro F4 L4 A4 B4 H locs ls hq i5 hP hD hS hl
    refine lv_iconst (v := (-1)) hx hb dX12_more_49 (by decide) ?_
    exact hret ((-1)) (F4, L4, A4, B4) H locs 50 ls rfl dX12_more_50 hP hD hS ⟨hq, i5, (rg_k (by decide))⟩
  refine lv_if_eq (tgt := 49) hx hb dX12_more_5 (by decide) (fun c6 => ?_) (fun c6 => ?_)
  · skip
    have r7 : rg x1 0 0 := rg_eq1 c6 (r2 : rg x1 0 1) ((rg_k (by decide)) : rg 0 0 0) (by decide)
    exact J49 (F) (L) (A) (B) H locs ls hq hI hP hD hS (lv_sub hl [] rfl)
  · skip
    have g8 := g3.resolve_left c6
    refine lv_aload_n hx hb dX12_more_8 rfl (lv_at hl 0 rfl) ?_
    refine lv_iload_n hx hb dX12_more_9 rfl (lv_at hl 2 rfl) ?_
    refine callv_i (As := [.int p2]) (rest := []) hC (c_X12_isHorse_0 l D cA H.size ad F L A B (p2) hq.1) (cwV 1 hg (g_V mw_1395 mw_1392 mw_1394 ms_68 mw_20) rfl rfl rfl (by decide +kernel) ⟨(Nat.le_of_ble_eq_true rfl), (Nat.le_of_ble_eq_true rfl)⟩) hP hD hS hA atM_0 rfl rfl hl.1 rfl (Nat.le_of_ble_eq_true rfl) dX12_more_10 ⟨Nat.zero_le _, Nat.zero_le _⟩ (fun x9 u H locs hw hP hD hS => ?_)
    obtain ⟨r10, g11⟩ := hw
    have hP : va_P D classes (wM cA ad F L A B) H := hP
    have hD : va_D Af (wM cA ad F L A B) := hD
    refine lv_if_eq (tgt := 49) hx hb dX12_more_13 (by decide) (fun c12 => ?_) (fun c12 => ?_)
    · skip
      have r13 : rg x9 0 0 := rg_eq1 c12 (r10 : rg x9 0 1) ((rg_k (by decide)) : rg 0 0 0) (by decide)
      exact J49 (F) (L) (A) (B) H locs ls hq hI hP hD hS (lv_sub hl [] rfl)
    · skip
      have g14 := g11.resolve_left c12
      refine lv_iload_n hx hb dX12_more_16 rfl (lv_at hl 3 rfl) ?_
      refine lv_bipush (v := (-99)) hx hb dX12_more_17 (by decide) ?_
      refine lv_bipush (v := 99) hx hb dX12_more_19 (by decide) ?_
      refine calls_i (As := [.int p3, .int (-99), .int 99]) (rest := []) hC (c_X12_isIn l D (tysM cA) (wM cA ad F L A B) H.size (p3) ((-99)) (99) (rg_k (by decide)) (rg_k (by decide))) (cwS 3 hg (g_S mw_1391 mw_1389 mw_1390 mw_20) rfl rfl rfl (by decide +kernel) ⟨(Nat.le_of_ble_eq_true rfl), (Nat.le_of_ble_eq_true rfl)⟩) hP hD hS hA rfl hl.1 rfl (Nat.le_of_ble_eq_true rfl) dX12_more_21 ⟨Nat.zero_le _, Nat.zero_le _⟩ (fun x15 u H locs hw hP hD hS => ?_)
      obtain ⟨r16, g17, g18⟩ := hw
      have hP : va_P D classes (wM cA ad F L A B) H := hP
      have hD : va_D Af (wM cA ad F L A B) := hD
      refine lv_if_eq (tgt := 49) hx hb dX12_more_24 (by decide) (fun c19 => ?_) (fun c19 => ?_)
      · skip
        have r20 : rg x15 0 0 := rg_eq1 c19 (r16 : rg x15 0 1) ((rg_k (by decide)) : rg 0 0 0) (by decide)
        exact J49 (F) (L) (A) (B) H locs ls hq hI hP hD hS (lv_sub hl [] rfl)
      · skip
        have g21 := g17.resolve_left c19
        have r22 : rg p3 (-99) 2147483647 := rg_le2 g21.1 ((rg_k (by decide)) : rg (-99) (-99) (-99)) ((rg_top _) : rg p3 (-2147483648) 2147483647)
        have r23 : rg p3 (-99) 99 := rg_le1 g21.2 (r22 : rg p3 (-99) 2147483647) ((rg_k (by decide)) : rg 99 99 99)
        refine lv_aload_n hx hb dX12_more_27 rfl (lv_at hl 0 rfl) ?_
        refine va_get (ci := 12) (v := .ref (ad 17)) (C := RX12) (T := TX12) (N := 57) hx hb hg inX12 hown hK hP 0 atM_0 rfl 27 (by decide) (hg _ mw_1135) (fun _ h9 => h9) rfl dX12_more_28 ?_
        refine lv_bipush (v := 10) hx hb dX12_more_31 (by decide) ?_
        refine lv_iload_n hx hb dX12_more_33 rfl (lv_at hl 1 rfl) ?_
        refine lv_imul hx hb dX12_more_34 ?_
        refine lv_topi (fun x24 e25 => ?_)
        have r26 : rg x24 0 70 := rg_mul e25 ((rg_k (by decide)) : rg 10 10 10) g8 (by decide)
        refine lv_iload_n hx hb dX12_more_35 rfl (lv_at hl 2 rfl) ?_
        refine lv_iadd hx hb dX12_more_36 ?_
        refine lv_topi (fun x27 e28 => ?_)
        have r29 : rg x27 0 79 := rg_add e28 r26 g14 (by decide)
        refine va_iald hx hb hK hP 17 16 atM_17 tyM_17 (in_rg r29 (by decide)) dX12_more_37 ?_
        refine lv_topi (fun x30 e31 => ?_)
        refine lv_iload_n hx hb dX12_more_38 rfl (lv_at hl 3 rfl) ?_
        refine lv_iadd hx hb dX12_more_39 ?_
        refine lv_topi (fun x32 e33 => ?_)
        refine lv_iconst (v := 0) hx hb dX12_more_40 (by decide) ?_
        refine lv_bipush (v := 99) hx hb dX12_more_41 (by decide) ?_
        refine calls_i (As := [.int x32, .int 0, .int 99]) (rest := []) hC (c_X12_isIn l D (tysM cA) (wM cA ad F L A B) H.size (x32) (0) (99) (rg_k (by decide)) (rg_k (by decide))) (cwS 3 hg (g_S mw_1391 mw_1389 mw_1390 mw_20) rfl rfl rfl (by decide +kernel) ⟨(Nat.le_of_ble_eq_true rfl), (Nat.le_of_ble_eq_true rfl)⟩) hP hD hS hA rfl hl.1 rfl (Nat.le_of_ble_eq_true rfl) dX12_more_43 ⟨Nat.zero_le _, Nat.zero_le _⟩ (fun x34 u H locs hw hP hD hS => ?_)
        obtain ⟨r35, g36, g37⟩ := hw
        have hP : va_P D classes (wM cA ad F L A B) H := hP
        have hD : va_D Af (wM cA ad F L A B) := hD
        refine lv_if_ne (tgt := 51) hx hb dX12_more_46 (by decide) (fun c38 => ?_) (fun c38 => ?_)
        · skip
          have g39 := g36.resolve_left c38
          have r40 : rg x32 0 2147483647 := rg_le2 g39.1 ((rg_k (by decide)) : rg 0 0 0) ((rg_top _) : rg x32 (-2147483648) 2147483647)
          have r41 : rg x32 0 99 := rg_le1 g39.2 (r40 : rg x32 0 2147483647) ((rg_k (by decide)) : rg 99 99 99)
          refine lv_aload_n hx hb dX12_more_51 rfl (lv_at hl 0 rfl) ?_
          refine callv_v (As := []) (rest := []) hC (c_X12_keepAct_0 l D cA H.size ad F L A B  hq.1 hI) (cwV 0 hg (g_V mw_1540 mw_1537 mw_1539 ms_89 mw_20) rfl rfl rfl (by decide +kernel) ⟨(Nat.le_of_ble_eq_true rfl), (Nat.le_of_ble_eq_true rfl)⟩) hP hD hS hA atM_0 rfl rfl hl.1 rfl (Nat.le_of_ble_eq_true rfl) dX12_more_52 ⟨Nat.zero_le _, Nat.zero_le _⟩ (fun  u H locs hw hP hD hS => ?_)
          obtain ⟨F43, L43, A43, B43⟩ := u
          try dsimp only at hw
          obtain ⟨hq43, i44⟩ := hw
          have hq := hq.call hq43 (by decide)
          have hP : va_P D classes (wM cA ad F43 L43 A43 B43) H := hP
          have hD : va_D Af (wM cA ad F43 L43 A43 B43) := hD
          refine lv_aload_n hx hb dX12_more_55 rfl (lv_at hl 0 rfl) ?_
          refine va_get (ci := 12) (v := .ref (ad 17)) (C := RX12) (T := TX12) (N := 57) hx hb hg inX12 hown hK hP 0 atM_0 rfl 27 (by decide) (hg _ mw_1135) (fun _ h9 => h9) rfl dX12_more_56 ?_
          refine lv_bipush (v := 10) hx hb dX12_more_59 (by decide) ?_
          refine lv_iload_n hx hb dX12_more_61 rfl (lv_at hl 1 rfl) ?_
          refine lv_imul hx hb dX12_more_62 ?_
          refine tope e25 ?_
          refine lv_iload_n hx hb dX12_more_63 rfl (lv_at hl 2 rfl) ?_
          refine lv_iadd hx hb dX12_more_64 ?_
          refine tope e28 ?_
          refine lv_dup2_11 hx hb dX12_more_65 rfl rfl ?_
          refine va_iald hx hb hK hP 17 16 atM_17 tyM_17 (in_rg r29 (by decide)) dX12_more_66 ?_
          refine tope ((e31).trans (congrFun (hq43.2.2 17 (by decide)) _).symm) ?_
          refine lv_iload_n hx hb dX12_more_67 rfl (lv_at hl 3 rfl) ?_
          refine lv_iadd hx hb dX12_more_68 ?_
          refine tope e33 ?_
          refine va_iast hx hb hK hP hD hS 17 16 atM_17 tyM_17 (in_rg r29 (by decide)) dX12_more_69 (fun H locs hP hD hS => ?_)
          have hq := hq.ast 17 (x27).toNatClampNeg (x := x32) (by decide) (rg_top _)
          rw [setM_17] at hP hD
          have k45 : x32 = (va_up A43 17 (upd (A43 17) (x27).toNatClampNeg x32)) 17 (x27).toNatClampNeg := (rdA).symm
          refine lv_aload_n hx hb dX12_more_70 rfl (lv_at hl 0 rfl) ?_
          refine va_get (ci := 12) (v := .ref (ad 17)) (C := RX12) (T := TX12) (N := 57) hx hb hg inX12 hown hK hP 0 atM_0 rfl 27 (by decide) (hg _ mw_1135) (fun _ h9 => h9) rfl dX12_more_71 ?_
          refine lv_bipush (v := 10) hx hb dX12_more_74 (by decide) ?_
          refine lv_iload_n hx hb dX12_more_76 rfl (lv_at hl 1 rfl) ?_
          refine lv_imul hx hb dX12_more_77 ?_
          refine tope e25 ?_
          refine lv_iload_n hx hb dX12_more_78 rfl (lv_at hl 2 rfl) ?_
          refine lv_iadd hx hb dX12_more_79 ?_
          refine tope e28 ?_
          refine va_iald hx hb hK hP 17 16 atM_17 tyM_17 (in_rg r29 (by decide)) dX12_more_80 ?_
          refine tope (k45) ?_
          exact hret (x32) (F43, L43, (va_up A43 17 (upd (A43 17) (x27).toNatClampNeg x32)), B43) H locs 81 ls rfl dX12_more_81 hP hD hS ⟨hq, i44, (rg_w r41 (by decide))⟩
        · skip
          have r42 : rg x34 0 0 := rg_eq1 c38 (r35 : rg x34 0 1) ((rg_k (by decide)) : rg 0 0 0) (by decide)
          exact J49 (F) (L) (A) (B) H locs ls hq hI hP hD hS (lv_sub hl [] rfl)
abbrev rm_X12_breaks_0 : Room := { frames := 2, cells := 0, slots := 0, locals := 43 }
set_option maxHeartbeats 4000000 in
set_option maxRecDepth 100000 in
theorem c_X12_breaks_0 (l : Launch) (D : va_G) (cA : Nat → ClassId) (sz : Nat) (ad : Nat → Nat) (F : Nat → Int32) (L : Nat → Int64) (A : Nat → Nat → Int32) (B : Nat → Nat → Int64) (p1 : Int32) (p2 : Int32) (hT : typM F A) (hI : xM F) : Met l yX12_breaks (Cond.code yX12_breaks cX12_breaks 5 (some .int) :: GW) rm_X12_breaks_0 (mPc D classes (tysM cA) (wM cA ad F L A B) sz [.ref (ad 0), .int p1, .int p2]) (mQi (S := SW) D classes (tysM cA) (wM cA ad F L A B) sz (wfM cA ad) (fun r u => qM [14, 15] [17, 27] F A u.1 u.2.2.1 ∧ xM u.1)) 0 0 (va_A (wM cA ad F L A B) sz) := by
  refine met_i (own := "ShoeingDayModel") (by decide +kernel) rfl (Nat.le_of_ble_eq_true rfl) ?_
  intro p e s m args below meth c Q Af ls hC hP hD hS hA hl hret
  have hx := hC.1
  have hb := hC.2.1
  have hown := hC.2.2.2.1
  have hg := hC.g
  have hK := hC.K
  have hl : lv_has ls 5 [(0, .ref (ad 0)), (1, .int p1), (2, .int p2)] := hl
  have hq : qM [14, 15] [17, 27] F A F A := qM.rf hT
  obtain ⟨H, hH⟩ : ∃ H, H = s.heap := ⟨_, rfl⟩
  have hP : va_P D classes (wM cA ad F L A B) H := by rw [hH]; exact hP
  have hS : va_S Af s.heap H [] := by rw [hH]; exact hS
  obtain ⟨locs, hlo⟩ : ∃ q : List Loc, q = [] := ⟨_, rfl⟩
  rw [← hH, ← hlo]
  rw [← hlo] at hS
  refine lv_aload_n hx hb dX12_breaks_0 rfl (lv_at hl 0 rfl) ?_
  refine lv_iload_n hx hb dX12_breaks_1 rfl (lv_at hl 1 rfl) ?_
  refine callv_i (As := [.int p1]) (rest := []) hC (c_X12_isSmith_0 l D cA H.size ad F L A B (p1) hq.1) (cwV 1 hg (g_V mw_1384 mw_1381 mw_1383 ms_66 mw_20) rfl rfl rfl (by decide +kernel) ⟨(Nat.le_of_ble_eq_true rfl), (Nat.le_of_ble_eq_true rfl)⟩) hP hD hS hA atM_0 rfl rfl hl.1 rfl (Nat.le_of_ble_eq_true rfl) dX12_breaks_2 ⟨Nat.zero_le _, Nat.zero_le _⟩ (fun x1 u H locs hw hP hD hS => ?_)
  obtain ⟨r2, g3⟩ := hw
  have hP : va_P D classes (wM cA ad F L A B) H := hP
  have hD : va_D Af (wM cA ad F L A B) := hD
  have J21 : ∀ (F4 : Nat → Int32) (L4 : Nat → Int64) (A4 : Nat → Nat → Int32) (B4 : Nat → Nat → Int64) (H : Heap) (locs : List Loc) (ls : Array Slot), qM [14, 15] [17, 27] F A F4 A4 → xM F4 → va_P D classes (wM cA ad F4 L4 A4 B4) H → va_D Af (wM cA ad F4 L4 A4 B4) → va_S Af s.heap H locs → lv_has ls 5 [] → W p l e rm_X12_breaks_0 s m args below meth c H locs 0 0 Q (F0 m 21 ls []) := by
    intro F4 L4 A4 B4 H locs ls hq i5 hP hD hS hl
    refine lv_iconst (v := (-1)) hx hb dX12_breaks_21 (by decide) ?_
    exact hret ((-1)) (F4, L4, A4, B4) H locs 22 ls rfl dX12_breaks_22 hP hD hS ⟨hq, i5⟩
  refine lv_if_eq (tgt := 21) hx hb dX12_breaks_5 (by decide) (fun c6 => ?_) (fun c6 => ?_)
  · skip
    have r7 : rg x1 0 0 := rg_eq1 c6 (r2 : rg x1 0 1) ((rg_k (by decide)) : rg 0 0 0) (by decide)
    exact J21 (F) (L) (A) (B) H locs ls hq hI hP hD hS (lv_sub hl [] rfl)
  · skip
    have g8 := g3.resolve_left c6
    refine lv_aload_n hx hb dX12_breaks_8 rfl (lv_at hl 0 rfl) ?_
    refine lv_iload_n hx hb dX12_breaks_9 rfl (lv_at hl 2 rfl) ?_
    refine callv_i (As := [.int p2]) (rest := []) hC (c_X12_isSmith_0 l D cA H.size ad F L A B (p2) hq.1) (cwV 1 hg (g_V mw_1384 mw_1381 mw_1383 ms_66 mw_20) rfl rfl rfl (by decide +kernel) ⟨(Nat.le_of_ble_eq_true rfl), (Nat.le_of_ble_eq_true rfl)⟩) hP hD hS hA atM_0 rfl rfl hl.1 rfl (Nat.le_of_ble_eq_true rfl) dX12_breaks_10 ⟨Nat.zero_le _, Nat.zero_le _⟩ (fun x9 u H locs hw hP hD hS => ?_)
    obtain ⟨r10, g11⟩ := hw
    have hP : va_P D classes (wM cA ad F L A B) H := hP
    have hD : va_D Af (wM cA ad F L A B) := hD
    refine lv_if_eq (tgt := 21) hx hb dX12_breaks_13 (by decide) (fun c12 => ?_) (fun c12 => ?_)
    · skip
      have r13 : rg x9 0 0 := rg_eq1 c12 (r10 : rg x9 0 1) ((rg_k (by decide)) : rg 0 0 0) (by decide)
      exact J21 (F) (L) (A) (B) H locs ls hq hI hP hD hS (lv_sub hl [] rfl)
    · skip
      have g14 := g11.resolve_left c12
      refine lv_iload_n hx hb dX12_breaks_16 rfl (lv_at hl 1 rfl) ?_
      refine lv_iload_n hx hb dX12_breaks_17 rfl (lv_at hl 2 rfl) ?_
      refine lv_icmp_ne (tgt := 23) hx hb dX12_breaks_18 (by decide) (fun c15 => ?_) (fun c15 => ?_)
      · skip
        refine lv_iconst (v := 0) hx hb dX12_breaks_23 (by decide) ?_
        refine lv_istore_n (lv' := [(3, .int 0), (0, .ref (ad 0)), (1, .int p1), (2, .int p2)]) hx hb dX12_breaks_24 rfl hl (by decide) rfl (fun ls hl => ?_)
        have J25 : ∀ (n25 : Nat) (a16 : Int32) (F18 : Nat → Int32) (L18 : Nat → Int64) (A18 : Nat → Nat → Int32) (B18 : Nat → Nat → Int64) (H : Heap) (locs : List Loc) (ls : Array Slot), (10 - a16.toInt).toNat < n25 → rg a16 0 10 → qM [14, 15] [17, 27] F A F18 A18 → xM F18 → va_P D classes (wM cA ad F18 L18 A18 B18) H → va_D Af (wM cA ad F18 L18 A18 B18) → va_S Af s.heap H locs → lv_has ls 5 [(0, .ref (ad 0)), (1, .int p1), (2, .int p2), (3, .int a16)] → W p l e rm_X12_breaks_0 s m args below meth c H locs 0 0 Q (F0 m 25 ls []) := by
          intro n25
          induction n25 with
          | zero =>
            intro _ _ _ _ _ _ _ _ hn
            exact absurd hn (Nat.not_lt_zero _)
          | succ n25 ih25 =>
            intro a16 F18 L18 A18 B18 H locs ls hn25 r17 hq i19 hP hD hS hl
            refine lv_iload_n hx hb dX12_breaks_25 rfl (lv_at hl 3 rfl) ?_
            refine lv_bipush (v := 10) hx hb dX12_breaks_26 (by decide) ?_
            refine lv_icmp_ge (tgt := 67) hx hb dX12_breaks_28 (by decide) (fun c20 => ?_) (fun c20 => ?_)
            · skip
              have r21 : rg a16 10 10 := rg_le2 (iE c20) ((rg_k (by decide)) : rg 10 10 10) (r17 : rg a16 0 10)
              refine lv_aload_n hx hb dX12_breaks_67 rfl (lv_at hl 0 rfl) ?_
              refine callv_v (As := []) (rest := []) hC (c_X12_keepAct_0 l D cA H.size ad F18 L18 A18 B18  hq.1 i19) (cwV 0 hg (g_V mw_1540 mw_1537 mw_1539 ms_89 mw_20) rfl rfl rfl (by decide +kernel) ⟨(Nat.le_of_ble_eq_true rfl), (Nat.le_of_ble_eq_true rfl)⟩) hP hD hS hA atM_0 rfl rfl hl.1 rfl (Nat.le_of_ble_eq_true rfl) dX12_breaks_68 ⟨Nat.zero_le _, Nat.zero_le _⟩ (fun  u H locs hw hP hD hS => ?_)
              obtain ⟨F23, L23, A23, B23⟩ := u
              try dsimp only at hw
              obtain ⟨hq23, i24⟩ := hw
              have hq := hq.call hq23 (by decide)
              have hP : va_P D classes (wM cA ad F23 L23 A23 B23) H := hP
              have hD : va_D Af (wM cA ad F23 L23 A23 B23) := hD
              refine lv_iconst (v := 0) hx hb dX12_breaks_71 (by decide) ?_
              refine lv_istore_n (lv' := [(3, .int 0), (0, .ref (ad 0)), (1, .int p1), (2, .int p2)]) hx hb dX12_breaks_72 rfl hl (by decide) rfl (fun ls hl => ?_)
              refine lv_iconst (v := 0) hx hb dX12_breaks_73 (by decide) ?_
              refine lv_istore (lv' := [(4, .int 0), (3, .int 0), (0, .ref (ad 0)), (1, .int p1), (2, .int p2)]) hx hb dX12_breaks_74 hl (by decide) rfl (fun ls hl => ?_)
              have J76 : ∀ (n76 : Nat) (a25 : Int32) (a26 : Int32) (F28 : Nat → Int32) (L28 : Nat → Int64) (A28 : Nat → Nat → Int32) (B28 : Nat → Nat → Int64) (H : Heap) (locs : List Loc) (ls : Array Slot), (10 - a26.toInt).toNat < n76 → rg a26 0 10 → qM [14, 15] [17, 27] F A F28 A28 → xM F28 → va_P D classes (wM cA ad F28 L28 A28 B28) H → va_D Af (wM cA ad F28 L28 A28 B28) → va_S Af s.heap H locs → lv_has ls 5 [(0, .ref (ad 0)), (1, .int p1), (2, .int p2), (3, .int a25), (4, .int a26)] → W p l e rm_X12_breaks_0 s m args below meth c H locs 0 0 Q (F0 m 76 ls []) := by
                intro n76
                induction n76 with
                | zero =>
                  intro _ _ _ _ _ _ _ _ _ hn
                  exact absurd hn (Nat.not_lt_zero _)
                | succ n76 ih76 =>
                  intro a25 a26 F28 L28 A28 B28 H locs ls hn76 r27 hq i29 hP hD hS hl
                  refine lv_iload hx hb dX12_breaks_76 (lv_at hl 4 rfl) ?_
                  refine lv_bipush (v := 10) hx hb dX12_breaks_78 (by decide) ?_
                  refine lv_icmp_ge (tgt := 144) hx hb dX12_breaks_80 (by decide) (fun c30 => ?_) (fun c30 => ?_)
                  · skip
                    have r31 : rg a26 10 10 := rg_le2 (iE c30) ((rg_k (by decide)) : rg 10 10 10) (r27 : rg a26 0 10)
                    refine lv_iload_n hx hb dX12_breaks_144 rfl (lv_at hl 3 rfl) ?_
                    exact hret (a25) (F28, L28, A28, B28) H locs 145 ls rfl dX12_breaks_145 hP hD hS ⟨hq, i29⟩
                  · skip
                    have r32 : rg a26 0 9 := rg_lt1 (iNE c30) (r27 : rg a26 0 10) ((rg_k (by decide)) : rg 10 10 10)
                    refine lv_iload_n hx hb dX12_breaks_83 rfl (lv_at hl 3 rfl) ?_
                    refine lv_aload_n hx hb dX12_breaks_84 rfl (lv_at hl 0 rfl) ?_
                    refine va_get (ci := 12) (v := .ref (ad 17)) (C := RX12) (T := TX12) (N := 57) hx hb hg inX12 hown hK hP 0 atM_0 rfl 27 (by decide) (hg _ mw_1135) (fun _ h9 => h9) rfl dX12_breaks_85 ?_
                    refine lv_bipush (v := 10) hx hb dX12_breaks_88 (by decide) ?_
                    refine lv_iload_n hx hb dX12_breaks_90 rfl (lv_at hl 1 rfl) ?_
                    refine lv_imul hx hb dX12_breaks_91 ?_
                    refine lv_topi (fun x33 e34 => ?_)
                    have r35 : rg x33 0 70 := rg_mul e34 ((rg_k (by decide)) : rg 10 10 10) g8 (by decide)
                    refine lv_iload hx hb dX12_breaks_92 (lv_at hl 4 rfl) ?_
                    refine lv_iadd hx hb dX12_breaks_94 ?_
                    refine lv_topi (fun x36 e37 => ?_)
                    have r38 : rg x36 0 79 := rg_add e37 r35 r32 (by decide)
                    refine va_iald hx hb hK hP 17 16 atM_17 tyM_17 (in_rg r38 (by decide)) dX12_breaks_95 ?_
                    refine lv_topi (fun x39 e40 => ?_)
                    refine lv_iadd hx hb dX12_breaks_96 ?_
                    refine lv_topi (fun x41 e42 => ?_)
                    refine lv_istore_n (lv' := [(3, .int x41), (0, .ref (ad 0)), (1, .int p1), (2, .int p2), (4, .int a26)]) hx hb dX12_breaks_97 rfl hl (by decide) rfl (fun ls hl => ?_)
                    refine lv_aload_n hx hb dX12_breaks_98 rfl (lv_at hl 1 rfl) ?_
                    refine va_get (ci := 12) (v := .ref (ad 17)) (C := RX12) (T := TX12) (N := 57) hx hb hg inX12 hown hK hP 0 atM_0 rfl 27 (by decide) (hg _ mw_1135) (fun _ h9 => h9) rfl dX12_breaks_99 ?_
                    refine lv_bipush (v := 10) hx hb dX12_breaks_102 (by decide) ?_
                    refine lv_iload_n hx hb dX12_breaks_104 rfl (lv_at hl 3 rfl) ?_
                    refine lv_imul hx hb dX12_breaks_105 ?_
                    refine lv_topi (fun x43 e44 => ?_)
                    have r45 : rg x43 0 70 := rg_mul e44 ((rg_k (by decide)) : rg 10 10 10) g14 (by decide)
                    refine lv_iload hx hb dX12_breaks_106 (lv_at hl 4 rfl) ?_
                    refine lv_iadd hx hb dX12_breaks_108 ?_
                    refine lv_topi (fun x46 e47 => ?_)
                    have r48 : rg x46 0 79 := rg_add e47 r45 r32 (by decide)
                    refine lv_dup2_11 hx hb dX12_breaks_109 rfl rfl ?_
                    refine va_iald hx hb hK hP 17 16 atM_17 tyM_17 (in_rg r48 (by decide)) dX12_breaks_110 ?_
                    refine lv_topi (fun x49 e50 => ?_)
                    refine lv_aload_n hx hb dX12_breaks_111 rfl (lv_at hl 1 rfl) ?_
                    refine va_get (ci := 12) (v := .ref (ad 17)) (C := RX12) (T := TX12) (N := 57) hx hb hg inX12 hown hK hP 0 atM_0 rfl 27 (by decide) (hg _ mw_1135) (fun _ h9 => h9) rfl dX12_breaks_112 ?_
                    refine lv_bipush (v := 10) hx hb dX12_breaks_115 (by decide) ?_
                    refine lv_iload_n hx hb dX12_breaks_117 rfl (lv_at hl 2 rfl) ?_
                    refine lv_imul hx hb dX12_breaks_118 ?_
                    refine tope e34 ?_
                    refine lv_iload hx hb dX12_breaks_119 (lv_at hl 4 rfl) ?_
                    refine lv_iadd hx hb dX12_breaks_121 ?_
                    refine tope e37 ?_
                    refine va_iald hx hb hK hP 17 16 atM_17 tyM_17 (in_rg r38 (by decide)) dX12_breaks_122 ?_
                    refine tope (e40) ?_
                    refine lv_iadd hx hb dX12_breaks_123 ?_
                    refine lv_topi (fun x51 e52 => ?_)
                    refine va_iast hx hb hK hP hD hS 17 16 atM_17 tyM_17 (in_rg r48 (by decide)) dX12_breaks_124 (fun H locs hP hD hS => ?_)
                    have hq := hq.ast 17 (x46).toNatClampNeg (x := x51) (by decide) (rg_top _)
                    rw [setM_17] at hP hD
                    have k53 : x51 = (va_up A28 17 (upd (A28 17) (x46).toNatClampNeg x51)) 17 (x46).toNatClampNeg := (rdA).symm
                    refine lv_aload_n hx hb dX12_breaks_125 rfl (lv_at hl 1 rfl) ?_
                    refine va_get (ci := 12) (v := .ref (ad 17)) (C := RX12) (T := TX12) (N := 57) hx hb hg inX12 hown hK hP 0 atM_0 rfl 27 (by decide) (hg _ mw_1135) (fun _ h9 => h9) rfl dX12_breaks_126 ?_
                    refine lv_bipush (v := 10) hx hb dX12_breaks_129 (by decide) ?_
                    refine lv_iload_n hx hb dX12_breaks_131 rfl (lv_at hl 2 rfl) ?_
                    refine lv_imul hx hb dX12_breaks_132 ?_
                    refine tope e34 ?_
                    refine lv_iload hx hb dX12_breaks_133 (lv_at hl 4 rfl) ?_
                    refine lv_iadd hx hb dX12_breaks_135 ?_
                    refine tope e37 ?_
                    refine lv_iconst (v := 0) hx hb dX12_breaks_136 (by decide) ?_
                    refine va_iast hx hb hK hP hD hS 17 16 atM_17 tyM_17 (in_rg r38 (by decide)) dX12_breaks_137 (fun H locs hP hD hS => ?_)
                    have hq := hq.ast 17 (x36).toNatClampNeg (x := 0) (by decide) (rg_k (by decide))
                    rw [setM_17] at hP hD
                    have k54 : (0 : Int32) = (va_up (va_up A28 17 (upd (A28 17) (x46).toNatClampNeg x51)) 17 (upd ((va_up A28 17 (upd (A28 17) (x46).toNatClampNeg x51)) 17) (x36).toNatClampNeg 0)) 17 (x36).toNatClampNeg := (rdA).symm
                    obtain ⟨x55, e56⟩ : ∃ y : Int32, y = a26 + 1 := ⟨_, rfl⟩
                    have r57 : rg x55 1 10 := rg_add e56 r32 (rg_k (by decide) : rg 1 1 1) (by decide)
                    refine lv_iinc (v := x55) (lv' := [(4, .int x55), (3, .int x41), (0, .ref (ad 0)), (1, .int p1), (2, .int p2)]) hx hb dX12_breaks_138 hl (k := 4) rfl (by rw [e56]; rfl) (by decide) rfl (fun ls hl => ?_)
                    refine lv_goto (tgt := 76) hx hb dX12_breaks_141 (by decide) ?_
                    exact ih76 (x41) (x55) (F28) (L28) ((va_up (va_up A28 17 (upd (A28 17) (x46).toNatClampNeg x51)) 17 (upd ((va_up A28 17 (upd (A28 17) (x46).toNatClampNeg x51)) 17) (x36).toNatClampNeg 0))) (B28) H locs ls (by have h0 : (1 : Int32).toInt = 1 := rfl; have h1 := ti_addk e56 r32 (by decide); have h2 : rg x55 0 10 := (rg_w r57 (by decide)); unfold rg at h2; omega) (rg_w r57 (by decide)) hq i29 hP hD hS (lv_sub hl [2, 3, 4, 1, 0] rfl)
              exact J76 _ (0) (0) (F23) (L23) (A23) (B23) H locs ls (Nat.lt_succ_self _) (rg_k (by decide)) hq i24 hP hD hS (lv_sub hl [2, 3, 4, 1, 0] rfl)
            · skip
              have r22 : rg a16 0 9 := rg_lt1 (iNE c20) (r17 : rg a16 0 10) ((rg_k (by decide)) : rg 10 10 10)
              refine lv_aload_n hx hb dX12_breaks_31 rfl (lv_at hl 0 rfl) ?_
              refine va_get (ci := 12) (v := .ref (ad 17)) (C := RX12) (T := TX12) (N := 57) hx hb hg inX12 hown hK hP 0 atM_0 rfl 27 (by decide) (hg _ mw_1135) (fun _ h9 => h9) rfl dX12_breaks_32 ?_
              refine lv_bipush (v := 10) hx hb dX12_breaks_35 (by decide) ?_
              refine lv_iload_n hx hb dX12_breaks_37 rfl (lv_at hl 1 rfl) ?_
              refine lv_imul hx hb dX12_breaks_38 ?_
              refine lv_topi (fun x58 e59 => ?_)
              have r60 : rg x58 0 70 := rg_mul e59 ((rg_k (by decide)) : rg 10 10 10) g8 (by decide)
              refine lv_iload_n hx hb dX12_breaks_39 rfl (lv_at hl 3 rfl) ?_
              refine lv_iadd hx hb dX12_breaks_40 ?_
              refine lv_topi (fun x61 e62 => ?_)
              have r63 : rg x61 0 79 := rg_add e62 r60 r22 (by decide)
              refine va_iald hx hb hK hP 17 16 atM_17 tyM_17 (in_rg r63 (by decide)) dX12_breaks_41 ?_
              refine lv_topi (fun x64 e65 => ?_)
              refine lv_aload_n hx hb dX12_breaks_42 rfl (lv_at hl 0 rfl) ?_
              refine va_get (ci := 12) (v := .ref (ad 17)) (C := RX12) (T := TX12) (N := 57) hx hb hg inX12 hown hK hP 0 atM_0 rfl 27 (by decide) (hg _ mw_1135) (fun _ h9 => h9) rfl dX12_breaks_43 ?_
              refine lv_bipush (v := 10) hx hb dX12_breaks_46 (by decide) ?_
              refine lv_iload_n hx hb dX12_breaks_48 rfl (lv_at hl 2 rfl) ?_
              refine lv_imul hx hb dX12_breaks_49 ?_
              refine lv_topi (fun x66 e67 => ?_)
              have r68 : rg x66 0 70 := rg_mul e67 ((rg_k (by decide)) : rg 10 10 10) g14 (by decide)
              refine lv_iload_n hx hb dX12_breaks_50 rfl (lv_at hl 3 rfl) ?_
              refine lv_iadd hx hb dX12_breaks_51 ?_
              refine lv_topi (fun x69 e70 => ?_)
              have r71 : rg x69 0 79 := rg_add e70 r68 r22 (by decide)
              refine va_iald hx hb hK hP 17 16 atM_17 tyM_17 (in_rg r71 (by decide)) dX12_breaks_52 ?_
              refine lv_topi (fun x72 e73 => ?_)
              refine lv_iadd hx hb dX12_breaks_53 ?_
              refine lv_topi (fun x74 e75 => ?_)
              refine lv_bipush (v := 99) hx hb dX12_breaks_54 (by decide) ?_
              refine lv_icmp_le (tgt := 61) hx hb dX12_breaks_56 (by decide) (fun c76 => ?_) (fun c76 => ?_)
              · skip
                have r77 : rg x74 (-2147483648) 99 := rg_le1 (iE c76) ((rg_top _) : rg x74 (-2147483648) 2147483647) ((rg_k (by decide)) : rg 99 99 99)
                obtain ⟨x79, e80⟩ : ∃ y : Int32, y = a16 + 1 := ⟨_, rfl⟩
                have r81 : rg x79 1 10 := rg_add e80 r22 (rg_k (by decide) : rg 1 1 1) (by decide)
                refine lv_iinc (v := x79) (lv' := [(3, .int x79), (0, .ref (ad 0)), (1, .int p1), (2, .int p2)]) hx hb dX12_breaks_61 hl (k := 3) rfl (by rw [e80]; rfl) (by decide) rfl (fun ls hl => ?_)
                refine lv_goto (tgt := 25) hx hb dX12_breaks_64 (by decide) ?_
                exact ih25 (x79) (F18) (L18) (A18) (B18) H locs ls (by have h0 : (1 : Int32).toInt = 1 := rfl; have h1 := ti_addk e80 r22 (by decide); have h2 : rg x79 0 10 := (rg_w r81 (by decide)); unfold rg at h2; omega) (rg_w r81 (by decide)) hq i19 hP hD hS (lv_sub hl [1, 2, 3, 0] rfl)
              · skip
                have r78 : rg x74 100 2147483647 := rg_lt2 (iNE c76) ((rg_k (by decide)) : rg 99 99 99) ((rg_top _) : rg x74 (-2147483648) 2147483647)
                refine lv_iconst (v := (-1)) hx hb dX12_breaks_59 (by decide) ?_
                exact hret ((-1)) (F18, L18, A18, B18) H locs 60 ls rfl dX12_breaks_60 hP hD hS ⟨hq, i19⟩
        exact J25 _ (0) (F) (L) (A) (B) H locs ls (Nat.lt_succ_self _) (rg_k (by decide)) hq hI hP hD hS (lv_sub hl [1, 2, 3, 0] rfl)
      · skip
        exact J21 (F) (L) (A) (B) H locs ls hq hI hP hD hS (lv_sub hl [] rfl)
abbrev rm_X12_exchange_0 : Room := { frames := 0, cells := 0, slots := 0, locals := 0 }
set_option maxHeartbeats 4000000 in
set_option maxRecDepth 100000 in
theorem c_X12_exchange_0 (l : Launch) (D : va_G) (cA : Nat → ClassId) (sz : Nat) (ad : Nat → Nat) (F : Nat → Int32) (L : Nat → Int64) (A : Nat → Nat → Int32) (B : Nat → Nat → Int64)  (hT : typM F A) : Met l yX12_exchange (Cond.code yX12_exchange cX12_exchange 4 none :: GW) rm_X12_exchange_0 (mPc D classes (tysM cA) (wM cA ad F L A B) sz [.ref (ad 0)]) (mQv (S := SW) D classes (tysM cA) (wM cA ad F L A B) sz (wfM cA ad) (fun u => qM [10] [17, 27] F A u.1 u.2.2.1)) 0 0 (va_A (wM cA ad F L A B) sz) := by
  refine met_v (own := "ShoeingDayModel") (by decide +kernel) rfl (Nat.le_of_ble_eq_true rfl) ?_
  intro p e s m args below meth c Q Af ls hC hP hD hS hA hl hret
  have hx := hC.1
  have hb := hC.2.1
  have hown := hC.2.2.2.1
  have hg := hC.g
  have hK := hC.K
  have hl : lv_has ls 4 [(0, .ref (ad 0))] := hl
  have hq : qM [10] [17, 27] F A F A := qM.rf hT
  obtain ⟨H, hH⟩ : ∃ H, H = s.heap := ⟨_, rfl⟩
  have hP : va_P D classes (wM cA ad F L A B) H := by rw [hH]; exact hP
  have hS : va_S Af s.heap H [] := by rw [hH]; exact hS
  obtain ⟨locs, hlo⟩ : ∃ q : List Loc, q = [] := ⟨_, rfl⟩
  rw [← hH, ← hlo]
  rw [← hlo] at hS
  refine lv_bipush (v := 81) hx hb dX12_exchange_0 (by decide) ?_
  refine lv_aload_n hx hb dX12_exchange_2 rfl (lv_at hl 0 rfl) ?_
  refine va_get (ci := 12) (v := .int (F 14)) (C := RX12) (T := TX12) (N := 57) hx hb hg inX12 hown hK hP 0 atM_0 rfl 42 (by decide) (hg _ mw_1150) (fun _ h9 => h9) rfl dX12_exchange_3 ?_
  refine lv_topi (fun x1 e2 => ?_)
  have r3 : rg x1 0 40 := rg_e e2 (hq.1.1 14)
  refine lv_imul hx hb dX12_exchange_6 ?_
  refine lv_topi (fun x4 e5 => ?_)
  have r6 : rg x4 0 3240 := rg_mul e5 ((rg_k (by decide)) : rg 81 81 81) r3 (by decide)
  refine lv_istore_n (lv' := [(1, .int x4), (0, .ref (ad 0))]) hx hb dX12_exchange_7 rfl hl (by decide) rfl (fun ls hl => ?_)
  refine lv_iconst (v := 0) hx hb dX12_exchange_8 (by decide) ?_
  refine lv_istore_n (lv' := [(2, .int 0), (1, .int x4), (0, .ref (ad 0))]) hx hb dX12_exchange_9 rfl hl (by decide) rfl (fun ls hl => ?_)
  have J10 : ∀ (n10 : Nat) (a7 : Int32) (F9 : Nat → Int32) (L9 : Nat → Int64) (A9 : Nat → Nat → Int32) (B9 : Nat → Nat → Int64) (H : Heap) (locs : List Loc) (ls : Array Slot), (80 - a7.toInt).toNat < n10 → rg a7 0 80 → qM [10] [17, 27] F A F9 A9 → va_P D classes (wM cA ad F9 L9 A9 B9) H → va_D Af (wM cA ad F9 L9 A9 B9) → va_S Af s.heap H locs → lv_has ls 4 [(0, .ref (ad 0)), (1, .int x4), (2, .int a7)] → W p l e rm_X12_exchange_0 s m args below meth c H locs 0 0 Q (F0 m 10 ls []) := by
    intro n10
    induction n10 with
    | zero =>
      intro _ _ _ _ _ _ _ _ hn
      exact absurd hn (Nat.not_lt_zero _)
    | succ n10 ih10 =>
      intro a7 F9 L9 A9 B9 H locs ls hn10 r8 hq hP hD hS hl
      refine lv_iload_n hx hb dX12_exchange_10 rfl (lv_at hl 2 rfl) ?_
      refine lv_bipush (v := 80) hx hb dX12_exchange_11 (by decide) ?_
      refine lv_icmp_ge (tgt := 52) hx hb dX12_exchange_13 (by decide) (fun c10 => ?_) (fun c10 => ?_)
      · skip
        have r11 : rg a7 80 80 := rg_le2 (iE c10) ((rg_k (by decide)) : rg 80 80 80) (r8 : rg a7 0 80)
        refine lv_aload_n hx hb dX12_exchange_52 rfl (lv_at hl 0 rfl) ?_
        refine va_get (ci := 12) (v := .ref (ad 27)) (C := RX12) (T := TX12) (N := 57) hx hb hg inX12 hown hK hP 0 atM_0 rfl 41 (by decide) (hg _ mw_1149) (fun _ h9 => h9) rfl dX12_exchange_53 ?_
        refine lv_iload_n hx hb dX12_exchange_56 rfl (lv_at hl 1 rfl) ?_
        refine lv_bipush (v := 80) hx hb dX12_exchange_57 (by decide) ?_
        refine lv_iadd hx hb dX12_exchange_59 ?_
        refine lv_topi (fun x13 e14 => ?_)
        have r15 : rg x13 80 3320 := rg_add e14 r6 ((rg_k (by decide)) : rg 80 80 80) (by decide)
        refine va_iald hx hb hK hP 27 26 atM_27 tyM_27 (in_rg r15 (by decide)) dX12_exchange_60 ?_
        refine lv_topi (fun x16 e17 => ?_)
        refine lv_istore_n (lv' := [(2, .int x16), (0, .ref (ad 0)), (1, .int x4)]) hx hb dX12_exchange_61 rfl hl (by decide) rfl (fun ls hl => ?_)
        refine lv_aload_n hx hb dX12_exchange_62 rfl (lv_at hl 1 rfl) ?_
        refine va_get (ci := 12) (v := .ref (ad 27)) (C := RX12) (T := TX12) (N := 57) hx hb hg inX12 hown hK hP 0 atM_0 rfl 41 (by decide) (hg _ mw_1149) (fun _ h9 => h9) rfl dX12_exchange_63 ?_
        refine lv_iload_n hx hb dX12_exchange_66 rfl (lv_at hl 2 rfl) ?_
        refine lv_bipush (v := 80) hx hb dX12_exchange_67 (by decide) ?_
        refine lv_iadd hx hb dX12_exchange_69 ?_
        refine tope e14 ?_
        refine lv_aload_n hx hb dX12_exchange_70 rfl (lv_at hl 1 rfl) ?_
        refine va_get (ci := 12) (v := .int (F9 10)) (C := RX12) (T := TX12) (N := 57) hx hb hg inX12 hown hK hP 0 atM_0 rfl 28 (by decide) (hg _ mw_1136) (fun _ h9 => h9) rfl dX12_exchange_71 ?_
        refine lv_topi (fun x18 e19 => ?_)
        refine va_iast hx hb hK hP hD hS 27 26 atM_27 tyM_27 (in_rg r15 (by decide)) dX12_exchange_74 (fun H locs hP hD hS => ?_)
        have hq := hq.ast 27 (x13).toNatClampNeg (x := x18) (by decide) (rg_top _)
        rw [setM_27] at hP hD
        have k20 : x18 = (va_up A9 27 (upd (A9 27) (x13).toNatClampNeg x18)) 27 (x13).toNatClampNeg := (rdA).symm
        refine lv_aload_n hx hb dX12_exchange_75 rfl (lv_at hl 1 rfl) ?_
        refine lv_iload_n hx hb dX12_exchange_76 rfl (lv_at hl 0 rfl) ?_
        refine va_put (ci := 12) (v := .int x16) (ty := .int) (C := RX12) (T := TX12) (N := 57) hx hb hg inX12 tyX12 tyX12_ok nmX12 hown hK hP hD hS 0 atM_0 rfl 28 (by decide) (hg _ mw_1136) (fun _ h9 => h9) rfl (by decide +kernel) rfl rfl (Nat.le_of_ble_eq_true rfl) dX12_exchange_77 (fun H locs hP hD hS => ?_)
        have hq := hq.put 10 (x := x16) (by decide) (rg_top _)
        rw [setFM_10] at hP hD
        exact hret ((upd F9 10 x16), L9, (va_up A9 27 (upd (A9 27) (x13).toNatClampNeg x18)), B9) H locs 80 ls dX12_exchange_80 hP hD hS hq
      · skip
        have r12 : rg a7 0 79 := rg_lt1 (iNE c10) (r8 : rg a7 0 80) ((rg_k (by decide)) : rg 80 80 80)
        refine lv_aload_n hx hb dX12_exchange_16 rfl (lv_at hl 0 rfl) ?_
        refine va_get (ci := 12) (v := .ref (ad 27)) (C := RX12) (T := TX12) (N := 57) hx hb hg inX12 hown hK hP 0 atM_0 rfl 41 (by decide) (hg _ mw_1149) (fun _ h9 => h9) rfl dX12_exchange_17 ?_
        refine lv_iload_n hx hb dX12_exchange_20 rfl (lv_at hl 1 rfl) ?_
        refine lv_iload_n hx hb dX12_exchange_21 rfl (lv_at hl 2 rfl) ?_
        refine lv_iadd hx hb dX12_exchange_22 ?_
        refine lv_topi (fun x21 e22 => ?_)
        have r23 : rg x21 0 3319 := rg_add e22 r6 r12 (by decide)
        refine va_iald hx hb hK hP 27 26 atM_27 tyM_27 (in_rg r23 (by decide)) dX12_exchange_23 ?_
        refine lv_topi (fun x24 e25 => ?_)
        refine lv_istore_n (lv' := [(3, .int x24), (0, .ref (ad 0)), (1, .int x4), (2, .int a7)]) hx hb dX12_exchange_24 rfl hl (by decide) rfl (fun ls hl => ?_)
        refine lv_aload_n hx hb dX12_exchange_25 rfl (lv_at hl 1 rfl) ?_
        refine va_get (ci := 12) (v := .ref (ad 27)) (C := RX12) (T := TX12) (N := 57) hx hb hg inX12 hown hK hP 0 atM_0 rfl 41 (by decide) (hg _ mw_1149) (fun _ h9 => h9) rfl dX12_exchange_26 ?_
        refine lv_iload_n hx hb dX12_exchange_29 rfl (lv_at hl 2 rfl) ?_
        refine lv_iload_n hx hb dX12_exchange_30 rfl (lv_at hl 3 rfl) ?_
        refine lv_iadd hx hb dX12_exchange_31 ?_
        refine tope e22 ?_
        refine lv_aload_n hx hb dX12_exchange_32 rfl (lv_at hl 1 rfl) ?_
        refine va_get (ci := 12) (v := .ref (ad 17)) (C := RX12) (T := TX12) (N := 57) hx hb hg inX12 hown hK hP 0 atM_0 rfl 27 (by decide) (hg _ mw_1135) (fun _ h9 => h9) rfl dX12_exchange_33 ?_
        refine lv_iload_n hx hb dX12_exchange_36 rfl (lv_at hl 3 rfl) ?_
        refine va_iald hx hb hK hP 17 16 atM_17 tyM_17 (in_rg r12 (by decide)) dX12_exchange_37 ?_
        refine lv_topi (fun x26 e27 => ?_)
        refine va_iast hx hb hK hP hD hS 27 26 atM_27 tyM_27 (in_rg r23 (by decide)) dX12_exchange_38 (fun H locs hP hD hS => ?_)
        have hq := hq.ast 27 (x21).toNatClampNeg (x := x26) (by decide) (rg_top _)
        rw [setM_27] at hP hD
        have k28 : x26 = (va_up A9 27 (upd (A9 27) (x21).toNatClampNeg x26)) 27 (x21).toNatClampNeg := (rdA).symm
        refine lv_aload_n hx hb dX12_exchange_39 rfl (lv_at hl 1 rfl) ?_
        refine va_get (ci := 12) (v := .ref (ad 17)) (C := RX12) (T := TX12) (N := 57) hx hb hg inX12 hown hK hP 0 atM_0 rfl 27 (by decide) (hg _ mw_1135) (fun _ h9 => h9) rfl dX12_exchange_40 ?_
        refine lv_iload_n hx hb dX12_exchange_43 rfl (lv_at hl 3 rfl) ?_
        refine lv_iload_n hx hb dX12_exchange_44 rfl (lv_at hl 0 rfl) ?_
        refine va_iast hx hb hK hP hD hS 17 16 atM_17 tyM_17 (in_rg r12 (by decide)) dX12_exchange_45 (fun H locs hP hD hS => ?_)
        have hq := hq.ast 17 (a7).toNatClampNeg (x := x24) (by decide) (rg_top _)
        rw [setM_17] at hP hD
        have k29 : x24 = (va_up (va_up A9 27 (upd (A9 27) (x21).toNatClampNeg x26)) 17 (upd ((va_up A9 27 (upd (A9 27) (x21).toNatClampNeg x26)) 17) (a7).toNatClampNeg x24)) 17 (a7).toNatClampNeg := (rdA).symm
        obtain ⟨x30, e31⟩ : ∃ y : Int32, y = a7 + 1 := ⟨_, rfl⟩
        have r32 : rg x30 1 80 := rg_add e31 r12 (rg_k (by decide) : rg 1 1 1) (by decide)
        refine lv_iinc (v := x30) (lv' := [(2, .int x30), (3, .int x24), (0, .ref (ad 0)), (1, .int x4)]) hx hb dX12_exchange_46 hl (k := 3) rfl (by rw [e31]; rfl) (by decide) rfl (fun ls hl => ?_)
        refine lv_goto (tgt := 10) hx hb dX12_exchange_49 (by decide) ?_
        exact ih10 (x30) (F9) (L9) ((va_up (va_up A9 27 (upd (A9 27) (x21).toNatClampNeg x26)) 17 (upd ((va_up A9 27 (upd (A9 27) (x21).toNatClampNeg x26)) 17) (a7).toNatClampNeg x24))) (B9) H locs ls (by have h0 : (1 : Int32).toInt = 1 := rfl; have h1 := ti_addk e31 r12 (by decide); have h2 : rg x30 0 80 := (rg_w r32 (by decide)); unfold rg at h2; omega) (rg_w r32 (by decide)) hq hP hD hS (lv_sub hl [2, 3, 0] rfl)
  exact J10 _ (0) (F) (L) (A) (B) H locs ls (Nat.lt_succ_self _) (rg_k (by decide)) hq hP hD hS (lv_sub hl [2, 1, 0] rfl)
abbrev rm_X12_undo_0 : Room := { frames := 1, cells := 0, slots := 0, locals := 23 }
set_option maxHeartbeats 4000000 in
set_option maxRecDepth 100000 in
theorem c_X12_undo_0 (l : Launch) (D : va_G) (cA : Nat → ClassId) (sz : Nat) (ad : Nat → Nat) (F : Nat → Int32) (L : Nat → Int64) (A : Nat → Nat → Int32) (B : Nat → Nat → Int64)  (hT : typM F A) (hI : xM F) : Met l yX12_undo (Cond.code yX12_undo cX12_undo 1 (some .boolean) :: GW) rm_X12_undo_0 (mPc D classes (tysM cA) (wM cA ad F L A B) sz [.ref (ad 0)]) (mQi (S := SW) D classes (tysM cA) (wM cA ad F L A B) sz (wfM cA ad) (fun r u => qM [10, 14, 15] [17, 27] F A u.1 u.2.2.1 ∧ xM u.1 ∧ rg r 0 1)) 0 0 (va_A (wM cA ad F L A B) sz) := by
  refine met_i (own := "ShoeingDayModel") (by decide +kernel) rfl (Nat.le_of_ble_eq_true rfl) ?_
  intro p e s m args below meth c Q Af ls hC hP hD hS hA hl hret
  have hx := hC.1
  have hb := hC.2.1
  have hown := hC.2.2.2.1
  have hg := hC.g
  have hK := hC.K
  have hl : lv_has ls 1 [(0, .ref (ad 0))] := hl
  have hq : qM [10, 14, 15] [17, 27] F A F A := qM.rf hT
  obtain ⟨H, hH⟩ : ∃ H, H = s.heap := ⟨_, rfl⟩
  have hP : va_P D classes (wM cA ad F L A B) H := by rw [hH]; exact hP
  have hS : va_S Af s.heap H [] := by rw [hH]; exact hS
  obtain ⟨locs, hlo⟩ : ∃ q : List Loc, q = [] := ⟨_, rfl⟩
  rw [← hH, ← hlo]
  rw [← hlo] at hS
  refine lv_aload_n hx hb dX12_undo_0 rfl (lv_at hl 0 rfl) ?_
  refine va_get (ci := 12) (v := .int (F 14)) (C := RX12) (T := TX12) (N := 57) hx hb hg inX12 hown hK hP 0 atM_0 rfl 42 (by decide) (hg _ mw_1150) (fun _ h9 => h9) rfl dX12_undo_1 ?_
  refine lv_topi (fun x1 e2 => ?_)
  have r3 : rg x1 0 40 := rg_e e2 (hq.1.1 14)
  refine lv_if_ne (tgt := 9) hx hb dX12_undo_4 (by decide) (fun c4 => ?_) (fun c4 => ?_)
  · skip
    have r5 : rg x1 1 40 := (rg_ne1 c4 (r3 : rg x1 0 40) ((rg_k (by decide)) : rg 0 0 0)).1 rfl
    refine lv_aload_n hx hb dX12_undo_9 rfl (lv_at hl 0 rfl) ?_
    refine lv_dup hx hb dX12_undo_10 rfl ?_
    refine va_get (ci := 12) (v := .int x1) (C := RX12) (T := TX12) (N := 57) hx hb hg inX12 hown hK hP 0 atM_0 rfl 42 (by decide) (hg _ mw_1150) (fun _ h9 => h9) (congrArg (fun z => some (Value.int z)) (e2.symm)) dX12_undo_11 ?_
    refine lv_iconst (v := 1) hx hb dX12_undo_14 (by decide) ?_
    refine lv_isub hx hb dX12_undo_15 ?_
    refine lv_topi (fun x7 e8 => ?_)
    have r9 : rg x7 0 39 := rg_sub e8 r5 ((rg_k (by decide)) : rg 1 1 1) (by decide)
    refine va_put (ci := 12) (v := .int x7) (ty := .int) (C := RX12) (T := TX12) (N := 57) hx hb hg inX12 tyX12 tyX12_ok nmX12 hown hK hP hD hS 0 atM_0 rfl 42 (by decide) (hg _ mw_1150) (fun _ h9 => h9) rfl (by decide +kernel) rfl rfl (Nat.le_of_ble_eq_true rfl) dX12_undo_16 (fun H locs hP hD hS => ?_)
    have hq := hq.put 14 (x := x7) (by decide) (rg_w r9 (by decide))
    rw [setFM_14] at hP hD
    refine lv_aload_n hx hb dX12_undo_19 rfl (lv_at hl 0 rfl) ?_
    refine lv_dup hx hb dX12_undo_20 rfl ?_
    refine va_get (ci := 12) (v := .int (F 15)) (C := RX12) (T := TX12) (N := 57) hx hb hg inX12 hown hK hP 0 atM_0 rfl 43 (by decide) (hg _ mw_1151) (fun _ h9 => h9) rfl dX12_undo_21 ?_
    refine lv_topi (fun x10 e11 => ?_)
    have r12 : rg x10 0 39 := xM.u hI e2 r5 e11
    refine lv_iconst (v := 1) hx hb dX12_undo_24 (by decide) ?_
    refine lv_iadd hx hb dX12_undo_25 ?_
    refine lv_topi (fun x13 e14 => ?_)
    have r15 : rg x13 1 40 := rg_add e14 r12 ((rg_k (by decide)) : rg 1 1 1) (by decide)
    refine va_put (ci := 12) (v := .int x13) (ty := .int) (C := RX12) (T := TX12) (N := 57) hx hb hg inX12 tyX12 tyX12_ok nmX12 hown hK hP hD hS 0 atM_0 rfl 43 (by decide) (hg _ mw_1151) (fun _ h9 => h9) rfl (by decide +kernel) rfl rfl (Nat.le_of_ble_eq_true rfl) dX12_undo_26 (fun H locs hP hD hS => ?_)
    have hq := hq.put 15 (x := x13) (by decide) (rg_w r15 (by decide))
    rw [setFM_15] at hP hD
    refine lv_aload_n hx hb dX12_undo_29 rfl (lv_at hl 0 rfl) ?_
    refine callv_v (As := []) (rest := []) hC (c_X12_exchange_0 l D cA H.size ad (upd (upd F 14 x7) 15 x13) L A B  hq.1) (cwV 0 hg (g_V mw_1528 mw_1525 mw_1527 ms_88 mw_20) rfl rfl rfl (by decide +kernel) ⟨(Nat.le_of_ble_eq_true rfl), (Nat.le_of_ble_eq_true rfl)⟩) hP hD hS hA atM_0 rfl rfl hl.1 rfl (Nat.le_of_ble_eq_true rfl) dX12_undo_30 ⟨Nat.zero_le _, Nat.zero_le _⟩ (fun  u H locs hw hP hD hS => ?_)
    obtain ⟨F16, L16, A16, B16⟩ := u
    try dsimp only at hw
    have hq16 := hw
    have hq := hq.call hq16 (by decide)
    have hP : va_P D classes (wM cA ad F16 L16 A16 B16) H := hP
    have hD : va_D Af (wM cA ad F16 L16 A16 B16) := hD
    refine lv_iconst (v := 1) hx hb dX12_undo_33 (by decide) ?_
    exact hret (1) (F16, L16, A16, B16) H locs 34 ls rfl dX12_undo_34 hP hD hS ⟨hq, (xM.of (a := x7) (b := x13) ((hq16.2.1 14 (by decide)).trans (rfl)) ((hq16.2.1 15 (by decide)).trans (rfl)) (xM.tb hI e2 e11 e8 r5 e14 r12)), (rg_k (by decide))⟩
  · skip
    have r6 : rg x1 0 0 := rg_eq1 c4 (r3 : rg x1 0 40) ((rg_k (by decide)) : rg 0 0 0) (by decide)
    refine lv_iconst (v := 0) hx hb dX12_undo_7 (by decide) ?_
    exact hret (0) (F, L, A, B) H locs 8 ls rfl dX12_undo_8 hP hD hS ⟨hq, hI, (rg_k (by decide))⟩
abbrev rm_X12_redo_0 : Room := { frames := 1, cells := 0, slots := 0, locals := 23 }
set_option maxHeartbeats 4000000 in
set_option maxRecDepth 100000 in
theorem c_X12_redo_0 (l : Launch) (D : va_G) (cA : Nat → ClassId) (sz : Nat) (ad : Nat → Nat) (F : Nat → Int32) (L : Nat → Int64) (A : Nat → Nat → Int32) (B : Nat → Nat → Int64)  (hT : typM F A) (hI : xM F) : Met l yX12_redo (Cond.code yX12_redo cX12_redo 1 (some .boolean) :: GW) rm_X12_redo_0 (mPc D classes (tysM cA) (wM cA ad F L A B) sz [.ref (ad 0)]) (mQi (S := SW) D classes (tysM cA) (wM cA ad F L A B) sz (wfM cA ad) (fun r u => qM [10, 14, 15] [17, 27] F A u.1 u.2.2.1 ∧ xM u.1 ∧ rg r 0 1)) 0 0 (va_A (wM cA ad F L A B) sz) := by
  refine met_i (own := "ShoeingDayModel") (by decide +kernel) rfl (Nat.le_of_ble_eq_true rfl) ?_
  intro p e s m args below meth c Q Af ls hC hP hD hS hA hl hret
  have hx := hC.1
  have hb := hC.2.1
  have hown := hC.2.2.2.1
  have hg := hC.g
  have hK := hC.K
  have hl : lv_has ls 1 [(0, .ref (ad 0))] := hl
  have hq : qM [10, 14, 15] [17, 27] F A F A := qM.rf hT
  obtain ⟨H, hH⟩ : ∃ H, H = s.heap := ⟨_, rfl⟩
  have hP : va_P D classes (wM cA ad F L A B) H := by rw [hH]; exact hP
  have hS : va_S Af s.heap H [] := by rw [hH]; exact hS
  obtain ⟨locs, hlo⟩ : ∃ q : List Loc, q = [] := ⟨_, rfl⟩
  rw [← hH, ← hlo]
  rw [← hlo] at hS
  refine lv_aload_n hx hb dX12_redo_0 rfl (lv_at hl 0 rfl) ?_
  refine va_get (ci := 12) (v := .int (F 15)) (C := RX12) (T := TX12) (N := 57) hx hb hg inX12 hown hK hP 0 atM_0 rfl 43 (by decide) (hg _ mw_1151) (fun _ h9 => h9) rfl dX12_redo_1 ?_
  refine lv_topi (fun x1 e2 => ?_)
  have r3 : rg x1 0 40 := rg_e e2 (hq.1.1 15)
  refine lv_if_ne (tgt := 9) hx hb dX12_redo_4 (by decide) (fun c4 => ?_) (fun c4 => ?_)
  · skip
    have r5 : rg x1 1 40 := (rg_ne1 c4 (r3 : rg x1 0 40) ((rg_k (by decide)) : rg 0 0 0)).1 rfl
    refine lv_aload_n hx hb dX12_redo_9 rfl (lv_at hl 0 rfl) ?_
    refine callv_v (As := []) (rest := []) hC (c_X12_exchange_0 l D cA H.size ad F L A B  hq.1) (cwV 0 hg (g_V mw_1528 mw_1525 mw_1527 ms_88 mw_20) rfl rfl rfl (by decide +kernel) ⟨(Nat.le_of_ble_eq_true rfl), (Nat.le_of_ble_eq_true rfl)⟩) hP hD hS hA atM_0 rfl rfl hl.1 rfl (Nat.le_of_ble_eq_true rfl) dX12_redo_10 ⟨Nat.zero_le _, Nat.zero_le _⟩ (fun  u H locs hw hP hD hS => ?_)
    obtain ⟨F7, L7, A7, B7⟩ := u
    try dsimp only at hw
    have hq7 := hw
    have hq := hq.call hq7 (by decide)
    have hP : va_P D classes (wM cA ad F7 L7 A7 B7) H := hP
    have hD : va_D Af (wM cA ad F7 L7 A7 B7) := hD
    refine lv_aload_n hx hb dX12_redo_13 rfl (lv_at hl 0 rfl) ?_
    refine lv_dup hx hb dX12_redo_14 rfl ?_
    refine va_get (ci := 12) (v := .int (F7 14)) (C := RX12) (T := TX12) (N := 57) hx hb hg inX12 hown hK hP 0 atM_0 rfl 42 (by decide) (hg _ mw_1150) (fun _ h9 => h9) rfl dX12_redo_15 ?_
    refine lv_topi (fun x8 e9 => ?_)
    have r10 : rg x8 0 39 := xM.d (xM.fr hI (hq7.2.1 14 (by decide)) (hq7.2.1 15 (by decide))) ((hq7.2.1 15 (by decide)).trans (e2.symm)).symm r5 e9
    refine lv_iconst (v := 1) hx hb dX12_redo_18 (by decide) ?_
    refine lv_iadd hx hb dX12_redo_19 ?_
    refine lv_topi (fun x11 e12 => ?_)
    have r13 : rg x11 1 40 := rg_add e12 r10 ((rg_k (by decide)) : rg 1 1 1) (by decide)
    refine va_put (ci := 12) (v := .int x11) (ty := .int) (C := RX12) (T := TX12) (N := 57) hx hb hg inX12 tyX12 tyX12_ok nmX12 hown hK hP hD hS 0 atM_0 rfl 42 (by decide) (hg _ mw_1150) (fun _ h9 => h9) rfl (by decide +kernel) rfl rfl (Nat.le_of_ble_eq_true rfl) dX12_redo_20 (fun H locs hP hD hS => ?_)
    have hq := hq.put 14 (x := x11) (by decide) (rg_w r13 (by decide))
    rw [setFM_14] at hP hD
    refine lv_aload_n hx hb dX12_redo_23 rfl (lv_at hl 0 rfl) ?_
    refine lv_dup hx hb dX12_redo_24 rfl ?_
    refine va_get (ci := 12) (v := .int x1) (C := RX12) (T := TX12) (N := 57) hx hb hg inX12 hown hK hP 0 atM_0 rfl 43 (by decide) (hg _ mw_1151) (fun _ h9 => h9) (congrArg (fun z => some (Value.int z)) ((hq7.2.1 15 (by decide)).trans (e2.symm))) dX12_redo_25 ?_
    refine lv_iconst (v := 1) hx hb dX12_redo_28 (by decide) ?_
    refine lv_isub hx hb dX12_redo_29 ?_
    refine lv_topi (fun x14 e15 => ?_)
    have r16 : rg x14 0 39 := rg_sub e15 r5 ((rg_k (by decide)) : rg 1 1 1) (by decide)
    refine va_put (ci := 12) (v := .int x14) (ty := .int) (C := RX12) (T := TX12) (N := 57) hx hb hg inX12 tyX12 tyX12_ok nmX12 hown hK hP hD hS 0 atM_0 rfl 43 (by decide) (hg _ mw_1151) (fun _ h9 => h9) rfl (by decide +kernel) rfl rfl (Nat.le_of_ble_eq_true rfl) dX12_redo_30 (fun H locs hP hD hS => ?_)
    have hq := hq.put 15 (x := x14) (by decide) (rg_w r16 (by decide))
    rw [setFM_15] at hP hD
    refine lv_iconst (v := 1) hx hb dX12_redo_33 (by decide) ?_
    exact hret (1) ((upd (upd F7 14 x11) 15 x14), L7, A7, B7) H locs 34 ls rfl dX12_redo_34 hP hD hS ⟨hq, (xM.of (a := x11) (b := x14) (rfl) (rfl) (xM.da hI (e9.trans (hq7.2.1 14 (by decide))) e2 e12 r10 e15 r5)), (rg_k (by decide))⟩
  · skip
    have r6 : rg x1 0 0 := rg_eq1 c4 (r3 : rg x1 0 40) ((rg_k (by decide)) : rg 0 0 0) (by decide)
    refine lv_iconst (v := 0) hx hb dX12_redo_7 (by decide) ?_
    exact hret (0) (F, L, A, B) H locs 8 ls rfl dX12_redo_8 hP hD hS ⟨hq, hI, (rg_k (by decide))⟩
abbrev rm_X12_round_0 : Room := { frames := 1, cells := 0, slots := 0, locals := 22 }
set_option maxHeartbeats 4000000 in
set_option maxRecDepth 100000 in
theorem c_X12_round_0 (l : Launch) (D : va_G) (cA : Nat → ClassId) (sz : Nat) (ad : Nat → Nat) (F : Nat → Int32) (L : Nat → Int64) (A : Nat → Nat → Int32) (B : Nat → Nat → Int64) (p1 : Int32) (hT : typM F A) : Met l yX12_round (Cond.code yX12_round cX12_round 2 (some .int) :: GW) rm_X12_round_0 (mPc D classes (tysM cA) (wM cA ad F L A B) sz [.ref (ad 0), .int p1]) (mQi (S := SW) D classes (tysM cA) (wM cA ad F L A B) sz (wfM cA ad) (fun r u => qM [16] [28, 29] F A u.1 u.2.2.1 ∧ rg r (-1) 11)) 0 0 (va_A (wM cA ad F L A B) sz) := by
  refine met_i (own := "ShoeingDayModel") (by decide +kernel) rfl (Nat.le_of_ble_eq_true rfl) ?_
  intro p e s m args below meth c Q Af ls hC hP hD hS hA hl hret
  have hx := hC.1
  have hb := hC.2.1
  have hown := hC.2.2.2.1
  have hg := hC.g
  have hK := hC.K
  have hl : lv_has ls 2 [(0, .ref (ad 0)), (1, .int p1)] := hl
  have hq : qM [16] [28, 29] F A F A := qM.rf hT
  obtain ⟨H, hH⟩ : ∃ H, H = s.heap := ⟨_, rfl⟩
  have hP : va_P D classes (wM cA ad F L A B) H := by rw [hH]; exact hP
  have hS : va_S Af s.heap H [] := by rw [hH]; exact hS
  obtain ⟨locs, hlo⟩ : ∃ q : List Loc, q = [] := ⟨_, rfl⟩
  rw [← hH, ← hlo]
  rw [← hlo] at hS
  refine lv_iload_n hx hb dX12_round_0 rfl (lv_at hl 1 rfl) ?_
  refine lv_iconst (v := 1) hx hb dX12_round_1 (by decide) ?_
  refine lv_bipush (v := 99) hx hb dX12_round_2 (by decide) ?_
  refine calls_i (As := [.int p1, .int 1, .int 99]) (rest := []) hC (c_X12_isIn l D (tysM cA) (wM cA ad F L A B) H.size (p1) (1) (99) (rg_k (by decide)) (rg_k (by decide))) (cwS 3 hg (g_S mw_1391 mw_1389 mw_1390 mw_20) rfl rfl rfl (by decide +kernel) ⟨(Nat.le_of_ble_eq_true rfl), (Nat.le_of_ble_eq_true rfl)⟩) hP hD hS hA rfl hl.1 rfl (Nat.le_of_ble_eq_true rfl) dX12_round_4 ⟨Nat.zero_le _, Nat.zero_le _⟩ (fun x1 u H locs hw hP hD hS => ?_)
  obtain ⟨r2, g3, g4⟩ := hw
  have hP : va_P D classes (wM cA ad F L A B) H := hP
  have hD : va_D Af (wM cA ad F L A B) := hD
  have J19 : ∀ (F5 : Nat → Int32) (L5 : Nat → Int64) (A5 : Nat → Nat → Int32) (B5 : Nat → Nat → Int64) (H : Heap) (locs : List Loc) (ls : Array Slot), qM [16] [28, 29] F A F5 A5 → va_P D classes (wM cA ad F5 L5 A5 B5) H → va_D Af (wM cA ad F5 L5 A5 B5) → va_S Af s.heap H locs → lv_has ls 2 [] → W p l e rm_X12_round_0 s m args below meth c H locs 0 0 Q (F0 m 19 ls []) := by
    intro F5 L5 A5 B5 H locs ls hq hP hD hS hl
    refine lv_iconst (v := (-1)) hx hb dX12_round_19 (by decide) ?_
    exact hret ((-1)) (F5, L5, A5, B5) H locs 20 ls rfl dX12_round_20 hP hD hS ⟨hq, (rg_k (by decide))⟩
  refine lv_if_eq (tgt := 19) hx hb dX12_round_7 (by decide) (fun c6 => ?_) (fun c6 => ?_)
  · skip
    have r7 : rg x1 0 0 := rg_eq1 c6 (r2 : rg x1 0 1) ((rg_k (by decide)) : rg 0 0 0) (by decide)
    exact J19 (F) (L) (A) (B) H locs ls hq hP hD hS (lv_sub hl [] rfl)
  · skip
    have g8 := g3.resolve_left c6
    have r9 : rg p1 1 2147483647 := rg_le2 g8.1 ((rg_k (by decide)) : rg 1 1 1) ((rg_top _) : rg p1 (-2147483648) 2147483647)
    have r10 : rg p1 1 99 := rg_le1 g8.2 (r9 : rg p1 1 2147483647) ((rg_k (by decide)) : rg 99 99 99)
    refine lv_aload_n hx hb dX12_round_10 rfl (lv_at hl 0 rfl) ?_
    refine va_get (ci := 12) (v := .int (F 16)) (C := RX12) (T := TX12) (N := 57) hx hb hg inX12 hown hK hP 0 atM_0 rfl 47 (by decide) (hg _ mw_1155) (fun _ h9 => h9) rfl dX12_round_11 ?_
    refine lv_topi (fun x11 e12 => ?_)
    have r13 : rg x11 0 12 := rg_e e12 (hq.1.1 16)
    refine lv_bipush (v := 12) hx hb dX12_round_14 (by decide) ?_
    refine lv_icmp_ne (tgt := 21) hx hb dX12_round_16 (by decide) (fun c14 => ?_) (fun c14 => ?_)
    · skip
      have r15 : rg x11 0 11 := (rg_ne1 c14 (r13 : rg x11 0 12) ((rg_k (by decide)) : rg 12 12 12)).2 rfl
      refine lv_aload_n hx hb dX12_round_21 rfl (lv_at hl 0 rfl) ?_
      refine va_get (ci := 12) (v := .ref (ad 28)) (C := RX12) (T := TX12) (N := 57) hx hb hg inX12 hown hK hP 0 atM_0 rfl 44 (by decide) (hg _ mw_1152) (fun _ h9 => h9) rfl dX12_round_22 ?_
      refine lv_aload_n hx hb dX12_round_25 rfl (lv_at hl 0 rfl) ?_
      refine va_get (ci := 12) (v := .int x11) (C := RX12) (T := TX12) (N := 57) hx hb hg inX12 hown hK hP 0 atM_0 rfl 47 (by decide) (hg _ mw_1155) (fun _ h9 => h9) (congrArg (fun z => some (Value.int z)) (e12.symm)) dX12_round_26 ?_
      refine lv_iload_n hx hb dX12_round_29 rfl (lv_at hl 1 rfl) ?_
      refine va_iast hx hb hK hP hD hS 28 27 atM_28 tyM_28 (in_rg r15 (by decide)) dX12_round_30 (fun H locs hP hD hS => ?_)
      have hq := hq.ast 28 (x11).toNatClampNeg (x := p1) (by decide) (rg_top _)
      rw [setM_28] at hP hD
      have k17 : p1 = (va_up A 28 (upd (A 28) (x11).toNatClampNeg p1)) 28 (x11).toNatClampNeg := (rdA).symm
      refine lv_aload_n hx hb dX12_round_31 rfl (lv_at hl 0 rfl) ?_
      refine va_get (ci := 12) (v := .ref (ad 29)) (C := RX12) (T := TX12) (N := 57) hx hb hg inX12 hown hK hP 0 atM_0 rfl 45 (by decide) (hg _ mw_1153) (fun _ h9 => h9) rfl dX12_round_32 ?_
      refine lv_aload_n hx hb dX12_round_35 rfl (lv_at hl 0 rfl) ?_
      refine va_get (ci := 12) (v := .int x11) (C := RX12) (T := TX12) (N := 57) hx hb hg inX12 hown hK hP 0 atM_0 rfl 47 (by decide) (hg _ mw_1155) (fun _ h9 => h9) (congrArg (fun z => some (Value.int z)) (e12.symm)) dX12_round_36 ?_
      refine lv_iconst (v := 0) hx hb dX12_round_39 (by decide) ?_
      refine va_iast hx hb hK hP hD hS 29 28 atM_29 tyM_29 (in_rg r15 (by decide)) dX12_round_40 (fun H locs hP hD hS => ?_)
      have hq := hq.ast 29 (x11).toNatClampNeg (x := 0) (by decide) (rg_k (by decide))
      rw [setM_29] at hP hD
      have k18 : (0 : Int32) = (va_up (va_up A 28 (upd (A 28) (x11).toNatClampNeg p1)) 29 (upd ((va_up A 28 (upd (A 28) (x11).toNatClampNeg p1)) 29) (x11).toNatClampNeg 0)) 29 (x11).toNatClampNeg := (rdA).symm
      refine lv_aload_n hx hb dX12_round_41 rfl (lv_at hl 0 rfl) ?_
      refine lv_dup hx hb dX12_round_42 rfl ?_
      refine va_get (ci := 12) (v := .int x11) (C := RX12) (T := TX12) (N := 57) hx hb hg inX12 hown hK hP 0 atM_0 rfl 47 (by decide) (hg _ mw_1155) (fun _ h9 => h9) (congrArg (fun z => some (Value.int z)) (e12.symm)) dX12_round_43 ?_
      refine lv_iconst (v := 1) hx hb dX12_round_46 (by decide) ?_
      refine lv_iadd hx hb dX12_round_47 ?_
      refine lv_topi (fun x19 e20 => ?_)
      have r21 : rg x19 1 12 := rg_add e20 r15 ((rg_k (by decide)) : rg 1 1 1) (by decide)
      refine va_put (ci := 12) (v := .int x19) (ty := .int) (C := RX12) (T := TX12) (N := 57) hx hb hg inX12 tyX12 tyX12_ok nmX12 hown hK hP hD hS 0 atM_0 rfl 47 (by decide) (hg _ mw_1155) (fun _ h9 => h9) rfl (by decide +kernel) rfl rfl (Nat.le_of_ble_eq_true rfl) dX12_round_48 (fun H locs hP hD hS => ?_)
      have hq := hq.put 16 (x := x19) (by decide) (rg_w r21 (by decide))
      rw [setFM_16] at hP hD
      refine lv_aload_n hx hb dX12_round_51 rfl (lv_at hl 0 rfl) ?_
      refine va_get (ci := 12) (v := .int x19) (C := RX12) (T := TX12) (N := 57) hx hb hg inX12 hown hK hP 0 atM_0 rfl 47 (by decide) (hg _ mw_1155) (fun _ h9 => h9) (congrArg (fun z => some (Value.int z)) (rfl)) dX12_round_52 ?_
      refine lv_iconst (v := 1) hx hb dX12_round_55 (by decide) ?_
      refine lv_isub hx hb dX12_round_56 ?_
      refine lv_topi (fun x22 e23 => ?_)
      have r24 : rg x22 0 11 := rg_sub e23 r21 ((rg_k (by decide)) : rg 1 1 1) (by decide)
      exact hret (x22) ((upd F 16 x19), L, (va_up (va_up A 28 (upd (A 28) (x11).toNatClampNeg p1)) 29 (upd ((va_up A 28 (upd (A 28) (x11).toNatClampNeg p1)) 29) (x11).toNatClampNeg 0)), B) H locs 57 ls rfl dX12_round_57 hP hD hS ⟨hq, (rg_w r24 (by decide))⟩
    · skip
      have r16 : rg x11 12 12 := rg_eq1 c14 (r13 : rg x11 0 12) ((rg_k (by decide)) : rg 12 12 12) (by decide)
      exact J19 (F) (L) (A) (B) H locs ls hq hP hD hS (lv_sub hl [] rfl)
