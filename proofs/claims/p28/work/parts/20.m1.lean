abbrev rm_X12_must_0 : Room := { frames := 2, cells := 0, slots := 0, locals := 43 }
set_option maxHeartbeats 4000000 in
set_option maxRecDepth 100000 in
theorem c_X12_must_0 (l : Launch) (D : va_G) (cA : Nat → ClassId) (sz : Nat) (ad : Nat → Nat) (F : Nat → Int32) (L : Nat → Int64) (A : Nat → Nat → Int32) (B : Nat → Nat → Int64) (p1 : Int32) (hT : typM F A) (hp1 : rg p1 0 1) (hJ : pI F) : Met l yX12_must (Cond.code yX12_must cX12_must 2 none :: GW) rm_X12_must_0 (mPc D classes (tysM cA) (wM cA ad F L A B) sz [.ref (ad 0), .int p1]) (mQv (S := SW) D classes (tysM cA) (wM cA ad F L A B) sz (wfM cA ad) (fun u => qM [2, 3, 4, 5, 6, 7] [] F A u.1 u.2.2.1 ∧ pR F u.1)) 0 0 (va_A (wM cA ad F L A B) sz) := by
  refine met_v (own := "ShoeingDayModel") (by decide +kernel) rfl (Nat.le_of_ble_eq_true rfl) ?_
  intro p e s m args below meth c Q Af ls hC hP hD hS hA hl hret
  have hx := hC.1
  have hb := hC.2.1
  have hown := hC.2.2.2.1
  have hg := hC.g
  have hK := hC.K
  have hl : lv_has ls 2 [(0, .ref (ad 0)), (1, .int p1)] := hl
  have hq : qM [2, 3, 4, 5, 6, 7] [] F A F A := qM.rf hT
  obtain ⟨H, hH⟩ : ∃ H, H = s.heap := ⟨_, rfl⟩
  have hP : va_P D classes (wM cA ad F L A B) H := by rw [hH]; exact hP
  have hS : va_S Af s.heap H [] := by rw [hH]; exact hS
  obtain ⟨locs, hlo⟩ : ∃ q : List Loc, q = [] := ⟨_, rfl⟩
  rw [← hH, ← hlo]
  rw [← hlo] at hS
  refine lv_aload_n hx hb dX12_must_0 rfl (lv_at hl 0 rfl) ?_
  refine callv_i (As := []) (rest := []) hC (c_X12_isGood_0 l D cA H.size ad F L A B  hq.1) (cwV 0 hg (g_V mw_1312 mw_1309 mw_1311 ms_50 mw_20) rfl rfl rfl (by decide +kernel) ⟨(Nat.le_of_ble_eq_true rfl), (Nat.le_of_ble_eq_true rfl)⟩) hP hD hS hA atM_0 rfl rfl hl.1 rfl (Nat.le_of_ble_eq_true rfl) dX12_must_1 ⟨Nat.zero_le _, Nat.zero_le _⟩ (fun x1 u H locs hw hP hD hS => ?_)
  obtain ⟨r2, g3⟩ := hw
  have hP : va_P D classes (wM cA ad F L A B) H := hP
  have hD : va_D Af (wM cA ad F L A B) := hD
  refine lv_if_ne (tgt := 8) hx hb dX12_must_4 (by decide) (fun c4 => ?_) (fun c4 => ?_)
  · skip
    have r5 : rg x1 1 1 := (rg_ne1 c4 (r2 : rg x1 0 1) ((rg_k (by decide)) : rg 0 0 0)).1 rfl
    refine lv_iload_n hx hb dX12_must_8 rfl (lv_at hl 1 rfl) ?_
    refine lv_if_eq (tgt := 19) hx hb dX12_must_9 (by decide) (fun c7 => ?_) (fun c7 => ?_)
    · skip
      have r8 : rg p1 0 0 := rg_eq1 c7 (hp1 : rg p1 0 1) ((rg_k (by decide)) : rg 0 0 0) (by decide)
      refine lv_aload_n hx hb dX12_must_19 rfl (lv_at hl 0 rfl) ?_
      refine callv_v (As := []) (rest := []) hC (c_X12_misplaced_0 l D cA H.size ad F L A B  hq.1) (cwV 0 hg (g_V mw_1328 mw_1325 mw_1327 ms_54 mw_20) rfl rfl rfl (by decide +kernel) ⟨(Nat.le_of_ble_eq_true rfl), (Nat.le_of_ble_eq_true rfl)⟩) hP hD hS hA atM_0 rfl rfl hl.1 rfl (Nat.le_of_ble_eq_true rfl) dX12_must_20 ⟨Nat.zero_le _, Nat.zero_le _⟩ (fun  u H locs hw hP hD hS => ?_)
      obtain ⟨F10, L10, A10, B10⟩ := u
      try dsimp only at hw
      obtain ⟨hq10, g11⟩ := hw
      have hq := hq.call hq10 (by decide)
      have hP : va_P D classes (wM cA ad F10 L10 A10 B10) H := hP
      have hD : va_D Af (wM cA ad F10 L10 A10 B10) := hD
      exact hret (F10, L10, A10, B10) H locs 23 ls dX12_must_23 hP hD hS ⟨hq, (pR.fr (pR.rf hJ) (hq10.2.1 4 (by decide)) (hq10.2.1 5 (by decide)) (hq10.2.1 1 (by decide)) (hq10.2.1 6 (by decide)))⟩
    · skip
      have r9 : rg p1 1 1 := (rg_ne1 c7 (hp1 : rg p1 0 1) ((rg_k (by decide)) : rg 0 0 0)).1 rfl
      refine lv_aload_n hx hb dX12_must_12 rfl (lv_at hl 0 rfl) ?_
      refine callv_v (As := []) (rest := []) hC (c_X12_goOn_0 l D cA H.size ad F L A B  hq.1 ((pR.rf hJ)).1.2.1) (cwV 0 hg (g_V mw_1288 mw_1285 mw_1287 ms_48 mw_20) rfl rfl rfl (by decide +kernel) ⟨(Nat.le_of_ble_eq_true rfl), (Nat.le_of_ble_eq_true rfl)⟩) hP hD hS hA atM_0 rfl rfl hl.1 rfl (Nat.le_of_ble_eq_true rfl) dX12_must_13 ⟨Nat.zero_le _, Nat.zero_le _⟩ (fun  u H locs hw hP hD hS => ?_)
      obtain ⟨F12, L12, A12, B12⟩ := u
      try dsimp only at hw
      obtain ⟨hq12, g13⟩ := hw
      have hq := hq.call hq12 (by decide)
      have hP : va_P D classes (wM cA ad F12 L12 A12 B12) H := hP
      have hD : va_D Af (wM cA ad F12 L12 A12 B12) := hD
      refine lv_goto (tgt := 23) hx hb dX12_must_16 (by decide) ?_
      exact hret (F12, L12, A12, B12) H locs 23 ls dX12_must_23 hP hD hS ⟨hq, (pR.go (pR.rf hJ) g13)⟩
  · skip
    have r6 : rg x1 0 0 := rg_eq1 c4 (r2 : rg x1 0 1) ((rg_k (by decide)) : rg 0 0 0) (by decide)
    exact hret (F, L, A, B) H locs 7 ls dX12_must_7 hP hD hS ⟨hq, (pR.rf hJ)⟩
abbrev rm_X12_numeral_0 : Room := { frames := 2, cells := 0, slots := 0, locals := 43 }
set_option maxHeartbeats 4000000 in
set_option maxRecDepth 100000 in
theorem c_X12_numeral_0 (l : Launch) (D : va_G) (cA : Nat → ClassId) (sz : Nat) (ad : Nat → Nat) (F : Nat → Int32) (L : Nat → Int64) (A : Nat → Nat → Int32) (B : Nat → Nat → Int64) (p1 : Int32) (p2 : Int32) (hT : typM F A) (hp1 : rg p1 0 0) (hp2 : rg p2 99 9999) (hJ : pI F) : Met l yX12_numeral (Cond.code yX12_numeral cX12_numeral 4 (some .int) :: GW) rm_X12_numeral_0 (mPc D classes (tysM cA) (wM cA ad F L A B) sz [.ref (ad 0), .int p1, .int p2]) (mQi (S := SW) D classes (tysM cA) (wM cA ad F L A B) sz (wfM cA ad) (fun r u => qM [2, 3, 4, 5, 6, 7] [] F A u.1 u.2.2.1 ∧ pR F u.1)) 0 0 (va_A (wM cA ad F L A B) sz) := by
  refine met_i (own := "ShoeingDayModel") (by decide +kernel) rfl (Nat.le_of_ble_eq_true rfl) ?_
  intro p e s m args below meth c Q Af ls hC hP hD hS hA hl hret
  have hx := hC.1
  have hb := hC.2.1
  have hown := hC.2.2.2.1
  have hg := hC.g
  have hK := hC.K
  have hl : lv_has ls 4 [(0, .ref (ad 0)), (1, .int p1), (2, .int p2)] := hl
  have hq : qM [2, 3, 4, 5, 6, 7] [] F A F A := qM.rf hT
  obtain ⟨H, hH⟩ : ∃ H, H = s.heap := ⟨_, rfl⟩
  have hP : va_P D classes (wM cA ad F L A B) H := by rw [hH]; exact hP
  have hS : va_S Af s.heap H [] := by rw [hH]; exact hS
  obtain ⟨locs, hlo⟩ : ∃ q : List Loc, q = [] := ⟨_, rfl⟩
  rw [← hH, ← hlo]
  rw [← hlo] at hS
  refine lv_aload_n hx hb dX12_numeral_0 rfl (lv_at hl 0 rfl) ?_
  refine callv_i (As := []) (rest := []) hC (c_X12_isGood_0 l D cA H.size ad F L A B  hq.1) (cwV 0 hg (g_V mw_1312 mw_1309 mw_1311 ms_50 mw_20) rfl rfl rfl (by decide +kernel) ⟨(Nat.le_of_ble_eq_true rfl), (Nat.le_of_ble_eq_true rfl)⟩) hP hD hS hA atM_0 rfl rfl hl.1 rfl (Nat.le_of_ble_eq_true rfl) dX12_numeral_1 ⟨Nat.zero_le _, Nat.zero_le _⟩ (fun x1 u H locs hw hP hD hS => ?_)
  obtain ⟨r2, g3⟩ := hw
  have hP : va_P D classes (wM cA ad F L A B) H := hP
  have hD : va_D Af (wM cA ad F L A B) := hD
  refine lv_if_ne (tgt := 9) hx hb dX12_numeral_4 (by decide) (fun c4 => ?_) (fun c4 => ?_)
  · skip
    have r5 : rg x1 1 1 := (rg_ne1 c4 (r2 : rg x1 0 1) ((rg_k (by decide)) : rg 0 0 0)).1 rfl
    refine lv_aload_n hx hb dX12_numeral_9 rfl (lv_at hl 0 rfl) ?_
    refine va_get (ci := 12) (v := .int (F 6)) (C := RX12) (T := TX12) (N := 57) hx hb hg inX12 hown hK hP 0 atM_0 rfl 8 (by decide) (hg _ mw_1116) (fun _ h9 => h9) rfl dX12_numeral_10 ?_
    refine lv_topi (fun x7 e8 => ?_)
    have r9 : rg x7 0 5 := rg_e e8 (hq.1.1 6)
    refine lv_iconst (v := 4) hx hb dX12_numeral_13 (by decide) ?_
    have J21 : ∀ (F10 : Nat → Int32) (L10 : Nat → Int64) (A10 : Nat → Nat → Int32) (B10 : Nat → Nat → Int64) (H : Heap) (locs : List Loc) (ls : Array Slot), qM [2, 3, 4, 5, 6, 7] [] F A F10 A10 → pR F F10 → va_P D classes (wM cA ad F10 L10 A10 B10) H → va_D Af (wM cA ad F10 L10 A10 B10) → va_S Af s.heap H locs → lv_has ls 4 [(0, .ref (ad 0)), (1, .int p1), (2, .int p2)] → W p l e rm_X12_numeral_0 s m args below meth c H locs 0 0 Q (F0 m 21 ls []) := by
      intro F10 L10 A10 B10 H locs ls hq i11 hP hD hS hl
      refine lv_aload_n hx hb dX12_numeral_21 rfl (lv_at hl 0 rfl) ?_
      refine callv_i (As := []) (rest := []) hC (c_X12_isGood_0 l D cA H.size ad F10 L10 A10 B10  hq.1) (cwV 0 hg (g_V mw_1312 mw_1309 mw_1311 ms_50 mw_20) rfl rfl rfl (by decide +kernel) ⟨(Nat.le_of_ble_eq_true rfl), (Nat.le_of_ble_eq_true rfl)⟩) hP hD hS hA atM_0 rfl rfl hl.1 rfl (Nat.le_of_ble_eq_true rfl) dX12_numeral_22 ⟨Nat.zero_le _, Nat.zero_le _⟩ (fun x12 u H locs hw hP hD hS => ?_)
      obtain ⟨r13, g14⟩ := hw
      have hP : va_P D classes (wM cA ad F10 L10 A10 B10) H := hP
      have hD : va_D Af (wM cA ad F10 L10 A10 B10) := hD
      have J53 : ∀ (F15 : Nat → Int32) (L15 : Nat → Int64) (A15 : Nat → Nat → Int32) (B15 : Nat → Nat → Int64) (H : Heap) (locs : List Loc) (ls : Array Slot), qM [2, 3, 4, 5, 6, 7] [] F A F15 A15 → pR F F15 → va_P D classes (wM cA ad F15 L15 A15 B15) H → va_D Af (wM cA ad F15 L15 A15 B15) → va_S Af s.heap H locs → lv_has ls 4 [(0, .ref (ad 0)), (1, .int p1)] → W p l e rm_X12_numeral_0 s m args below meth c H locs 0 0 Q (F0 m 53 ls []) := by
        intro F15 L15 A15 B15 H locs ls hq i16 hP hD hS hl
        refine lv_aload_n hx hb dX12_numeral_53 rfl (lv_at hl 0 rfl) ?_
        refine va_get (ci := 12) (v := .int (F15 7)) (C := RX12) (T := TX12) (N := 57) hx hb hg inX12 hown hK hP 0 atM_0 rfl 9 (by decide) (hg _ mw_1117) (fun _ h9 => h9) rfl dX12_numeral_54 ?_
        refine lv_topi (fun x17 e18 => ?_)
        refine lv_istore_n (lv' := [(3, .int x17), (0, .ref (ad 0)), (1, .int p1)]) hx hb dX12_numeral_57 rfl hl (by decide) rfl (fun ls hl => ?_)
        refine lv_aload_n hx hb dX12_numeral_58 rfl (lv_at hl 1 rfl) ?_
        refine callv_i (As := []) (rest := []) hC (c_X12_isGood_0 l D cA H.size ad F15 L15 A15 B15  hq.1) (cwV 0 hg (g_V mw_1312 mw_1309 mw_1311 ms_50 mw_20) rfl rfl rfl (by decide +kernel) ⟨(Nat.le_of_ble_eq_true rfl), (Nat.le_of_ble_eq_true rfl)⟩) hP hD hS hA atM_0 rfl rfl hl.1 rfl (Nat.le_of_ble_eq_true rfl) dX12_numeral_59 ⟨Nat.zero_le _, Nat.zero_le _⟩ (fun x19 u H locs hw hP hD hS => ?_)
        obtain ⟨r20, g21⟩ := hw
        have hP : va_P D classes (wM cA ad F15 L15 A15 B15) H := hP
        have hD : va_D Af (wM cA ad F15 L15 A15 B15) := hD
        have J69 : ∀ (F22 : Nat → Int32) (L22 : Nat → Int64) (A22 : Nat → Nat → Int32) (B22 : Nat → Nat → Int64) (H : Heap) (locs : List Loc) (ls : Array Slot), qM [2, 3, 4, 5, 6, 7] [] F A F22 A22 → pR F F22 → va_P D classes (wM cA ad F22 L22 A22 B22) H → va_D Af (wM cA ad F22 L22 A22 B22) → va_S Af s.heap H locs → lv_has ls 4 [(0, .ref (ad 0)), (1, .int p1), (3, .int x17)] → W p l e rm_X12_numeral_0 s m args below meth c H locs 0 0 Q (F0 m 69 ls []) := by
          intro F22 L22 A22 B22 H locs ls hq i23 hP hD hS hl
          refine lv_aload_n hx hb dX12_numeral_69 rfl (lv_at hl 0 rfl) ?_
          refine callv_i (As := []) (rest := []) hC (c_X12_isGood_0 l D cA H.size ad F22 L22 A22 B22  hq.1) (cwV 0 hg (g_V mw_1312 mw_1309 mw_1311 ms_50 mw_20) rfl rfl rfl (by decide +kernel) ⟨(Nat.le_of_ble_eq_true rfl), (Nat.le_of_ble_eq_true rfl)⟩) hP hD hS hA atM_0 rfl rfl hl.1 rfl (Nat.le_of_ble_eq_true rfl) dX12_numeral_70 ⟨Nat.zero_le _, Nat.zero_le _⟩ (fun x24 u H locs hw hP hD hS => ?_)
          obtain ⟨r25, g26⟩ := hw
          have hP : va_P D classes (wM cA ad F22 L22 A22 B22) H := hP
          have hD : va_D Af (wM cA ad F22 L22 A22 B22) := hD
          refine lv_if_eq (tgt := 80) hx hb dX12_numeral_73 (by decide) (fun c27 => ?_) (fun c27 => ?_)
          · skip
            have r28 : rg x24 0 0 := rg_eq1 c27 (r25 : rg x24 0 1) ((rg_k (by decide)) : rg 0 0 0) (by decide)
            refine lv_iload_n hx hb dX12_numeral_80 rfl (lv_at hl 1 rfl) ?_
            exact hret (p1) (F22, L22, A22, B22) H locs 81 ls rfl dX12_numeral_81 hP hD hS ⟨hq, i23⟩
          · skip
            have r29 : rg x24 1 1 := (rg_ne1 c27 (r25 : rg x24 0 1) ((rg_k (by decide)) : rg 0 0 0)).1 rfl
            refine lv_iload_n hx hb dX12_numeral_76 rfl (lv_at hl 2 rfl) ?_
            refine lv_goto (tgt := 81) hx hb dX12_numeral_77 (by decide) ?_
            exact hret (x17) (F22, L22, A22, B22) H locs 81 ls rfl dX12_numeral_81 hP hD hS ⟨hq, i23⟩
        refine lv_if_eq (tgt := 69) hx hb dX12_numeral_62 (by decide) (fun c30 => ?_) (fun c30 => ?_)
        · skip
          have r31 : rg x19 0 0 := rg_eq1 c30 (r20 : rg x19 0 1) ((rg_k (by decide)) : rg 0 0 0) (by decide)
          exact J69 (F15) (L15) (A15) (B15) H locs ls hq i16 hP hD hS (lv_sub hl [1, 2, 0] rfl)
        · skip
          have r32 : rg x19 1 1 := (rg_ne1 c30 (r20 : rg x19 0 1) ((rg_k (by decide)) : rg 0 0 0)).1 rfl
          refine lv_aload_n hx hb dX12_numeral_65 rfl (lv_at hl 1 rfl) ?_
          refine callv_v (As := []) (rest := []) hC (c_X12_goOn_0 l D cA H.size ad F15 L15 A15 B15  hq.1 (i16).1.2.1) (cwV 0 hg (g_V mw_1288 mw_1285 mw_1287 ms_48 mw_20) rfl rfl rfl (by decide +kernel) ⟨(Nat.le_of_ble_eq_true rfl), (Nat.le_of_ble_eq_true rfl)⟩) hP hD hS hA atM_0 rfl rfl hl.1 rfl (Nat.le_of_ble_eq_true rfl) dX12_numeral_66 ⟨Nat.zero_le _, Nat.zero_le _⟩ (fun  u H locs hw hP hD hS => ?_)
          obtain ⟨F33, L33, A33, B33⟩ := u
          try dsimp only at hw
          obtain ⟨hq33, g34⟩ := hw
          have hq := hq.call hq33 (by decide)
          have hP : va_P D classes (wM cA ad F33 L33 A33 B33) H := hP
          have hD : va_D Af (wM cA ad F33 L33 A33 B33) := hD
          exact J69 (F33) (L33) (A33) (B33) H locs ls hq (pR.go i16 g34) hP hD hS (lv_sub hl [1, 2, 0] rfl)
      refine lv_if_eq (tgt := 53) hx hb dX12_numeral_25 (by decide) (fun c35 => ?_) (fun c35 => ?_)
      · skip
        have r36 : rg x12 0 0 := rg_eq1 c35 (r13 : rg x12 0 1) ((rg_k (by decide)) : rg 0 0 0) (by decide)
        exact J53 (F10) (L10) (A10) (B10) H locs ls hq i11 hP hD hS (lv_sub hl [0, 1] rfl)
      · skip
        have r37 : rg x12 1 1 := (rg_ne1 c35 (r13 : rg x12 0 1) ((rg_k (by decide)) : rg 0 0 0)).1 rfl
        refine lv_aload_n hx hb dX12_numeral_28 rfl (lv_at hl 0 rfl) ?_
        refine va_get (ci := 12) (v := .int (F10 7)) (C := RX12) (T := TX12) (N := 57) hx hb hg inX12 hown hK hP 0 atM_0 rfl 9 (by decide) (hg _ mw_1117) (fun _ h9 => h9) rfl dX12_numeral_29 ?_
        refine lv_topi (fun x38 e39 => ?_)
        refine lv_iload_n hx hb dX12_numeral_32 rfl (lv_at hl 1 rfl) ?_
        have J44 : ∀ (F40 : Nat → Int32) (L40 : Nat → Int64) (A40 : Nat → Nat → Int32) (B40 : Nat → Nat → Int64) (H : Heap) (locs : List Loc) (ls : Array Slot), qM [2, 3, 4, 5, 6, 7] [] F A F40 A40 → pR F F40 → F40 7 = x38 → va_P D classes (wM cA ad F40 L40 A40 B40) H → va_D Af (wM cA ad F40 L40 A40 B40) → va_S Af s.heap H locs → lv_has ls 4 [(0, .ref (ad 0)), (1, .int p1)] → W p l e rm_X12_numeral_0 s m args below meth c H locs 0 0 Q (F0 m 44 ls []) := by
          intro F40 L40 A40 B40 H locs ls hq i41 f42 hP hD hS hl
          refine lv_aload_n hx hb dX12_numeral_44 rfl (lv_at hl 0 rfl) ?_
          refine lv_iconst (v := 4) hx hb dX12_numeral_45 (by decide) ?_
          refine lv_aload_n hx hb dX12_numeral_46 rfl (lv_at hl 0 rfl) ?_
          refine va_get (ci := 12) (v := .int (F40 4)) (C := RX12) (T := TX12) (N := 57) hx hb hg inX12 hown hK hP 0 atM_0 rfl 6 (by decide) (hg _ mw_1114) (fun _ h9 => h9) rfl dX12_numeral_47 ?_
          refine lv_topi (fun x43 e44 => ?_)
          have r45 : rg x43 0 1700 := rg_e e44 (hq.1.1 4)
          refine callv_v (As := [.int 4, .int x43]) (rest := []) hC (c_X12_fails_0 l D cA H.size ad F40 L40 A40 B40 (4) (x43) hq.1 (rg_k (by decide)) r45) (cwV 2 hg (g_V mw_1332 mw_1329 mw_1331 ms_55 mw_20) rfl rfl rfl (by decide +kernel) ⟨(Nat.le_of_ble_eq_true rfl), (Nat.le_of_ble_eq_true rfl)⟩) hP hD hS hA atM_0 rfl rfl hl.1 rfl (Nat.le_of_ble_eq_true rfl) dX12_numeral_50 ⟨Nat.zero_le _, Nat.zero_le _⟩ (fun  u H locs hw hP hD hS => ?_)
          obtain ⟨F46, L46, A46, B46⟩ := u
          try dsimp only at hw
          obtain ⟨hq46, g47⟩ := hw
          have hq := hq.call hq46 (by decide)
          have hP : va_P D classes (wM cA ad F46 L46 A46 B46) H := hP
          have hD : va_D Af (wM cA ad F46 L46 A46 B46) := hD
          exact J53 (F46) (L46) (A46) (B46) H locs ls hq (pR.fr i41 (hq46.2.1 4 (by decide)) (hq46.2.1 5 (by decide)) (hq46.2.1 1 (by decide)) (hq46.2.1 6 (by decide))) hP hD hS (lv_sub hl [0, 1] rfl)
        refine lv_icmp_lt (tgt := 44) hx hb dX12_numeral_33 (by decide) (fun c48 => ?_) (fun c48 => ?_)
        · skip
          have r49 : rg x38 (-2147483648) (-1) := rg_lt1 (iL c48) ((rg_top _) : rg x38 (-2147483648) 2147483647) (hp1 : rg p1 0 0)
          exact J44 (F10) (L10) (A10) (B10) H locs ls hq i11 (e39.symm) hP hD hS (lv_sub hl [0, 1] rfl)
        · skip
          have r50 : rg x38 0 2147483647 := rg_le2 (iNL c48) (hp1 : rg p1 0 0) ((rg_top _) : rg x38 (-2147483648) 2147483647)
          refine lv_aload_n hx hb dX12_numeral_36 rfl (lv_at hl 0 rfl) ?_
          refine va_get (ci := 12) (v := .int x38) (C := RX12) (T := TX12) (N := 57) hx hb hg inX12 hown hK hP 0 atM_0 rfl 9 (by decide) (hg _ mw_1117) (fun _ h9 => h9) (congrArg (fun z => some (Value.int z)) (e39.symm)) dX12_numeral_37 ?_
          refine lv_iload_n hx hb dX12_numeral_40 rfl (lv_at hl 2 rfl) ?_
          refine lv_icmp_le (tgt := 53) hx hb dX12_numeral_41 (by decide) (fun c51 => ?_) (fun c51 => ?_)
          · skip
            have r52 : rg x38 0 9999 := rg_le1 (iE c51) (r50 : rg x38 0 2147483647) (hp2 : rg p2 99 9999)
            exact J53 (F10) (L10) (A10) (B10) H locs ls hq i11 hP hD hS (lv_sub hl [0, 1] rfl)
          · skip
            have r53 : rg x38 100 2147483647 := rg_lt2 (iNE c51) (hp2 : rg p2 99 9999) (r50 : rg x38 0 2147483647)
            exact J44 (F10) (L10) (A10) (B10) H locs ls hq i11 (e39.symm) hP hD hS (lv_sub hl [0, 1] rfl)
    refine lv_icmp_eq (tgt := 21) hx hb dX12_numeral_14 (by decide) (fun c54 => ?_) (fun c54 => ?_)
    · skip
      have r55 : rg x7 4 4 := rg_eq1 c54 (r9 : rg x7 0 5) ((rg_k (by decide)) : rg 4 4 4) (by decide)
      exact J21 (F) (L) (A) (B) H locs ls hq (pR.rf hJ) hP hD hS (lv_sub hl [0, 1, 2] rfl)
    · skip
      refine lv_aload_n hx hb dX12_numeral_17 rfl (lv_at hl 0 rfl) ?_
      refine callv_v (As := []) (rest := []) hC (c_X12_misplaced_0 l D cA H.size ad F L A B  hq.1) (cwV 0 hg (g_V mw_1328 mw_1325 mw_1327 ms_54 mw_20) rfl rfl rfl (by decide +kernel) ⟨(Nat.le_of_ble_eq_true rfl), (Nat.le_of_ble_eq_true rfl)⟩) hP hD hS hA atM_0 rfl rfl hl.1 rfl (Nat.le_of_ble_eq_true rfl) dX12_numeral_18 ⟨Nat.zero_le _, Nat.zero_le _⟩ (fun  u H locs hw hP hD hS => ?_)
      obtain ⟨F56, L56, A56, B56⟩ := u
      try dsimp only at hw
      obtain ⟨hq56, g57⟩ := hw
      have hq := hq.call hq56 (by decide)
      have hP : va_P D classes (wM cA ad F56 L56 A56 B56) H := hP
      have hD : va_D Af (wM cA ad F56 L56 A56 B56) := hD
      exact J21 (F56) (L56) (A56) (B56) H locs ls hq (pR.fr (pR.rf hJ) (hq56.2.1 4 (by decide)) (hq56.2.1 5 (by decide)) (hq56.2.1 1 (by decide)) (hq56.2.1 6 (by decide))) hP hD hS (lv_sub hl [0, 1, 2] rfl)
  · skip
    have r6 : rg x1 0 0 := rg_eq1 c4 (r2 : rg x1 0 1) ((rg_k (by decide)) : rg 0 0 0) (by decide)
    refine lv_iload_n hx hb dX12_numeral_7 rfl (lv_at hl 1 rfl) ?_
    exact hret (p1) (F, L, A, B) H locs 8 ls rfl dX12_numeral_8 hP hD hS ⟨hq, (pR.rf hJ)⟩
abbrev rm_X12_fresh_0 : Room := { frames := 2, cells := 0, slots := 0, locals := 43 }
set_option maxHeartbeats 4000000 in
set_option maxRecDepth 100000 in
theorem c_X12_fresh_0 (l : Launch) (D : va_G) (cA : Nat → ClassId) (sz : Nat) (ad : Nat → Nat) (F : Nat → Int32) (L : Nat → Int64) (A : Nat → Nat → Int32) (B : Nat → Nat → Int64) (p1 : Int32) (hT : typM F A) (hp1 : rg p1 0 1) (hJ : pI F) : Met l yX12_fresh (Cond.code yX12_fresh cX12_fresh 4 (some .long) :: GW) rm_X12_fresh_0 (mPc D classes (tysM cA) (wM cA ad F L A B) sz [.ref (ad 0), .int p1]) (mQl (S := SW) D classes (tysM cA) (wM cA ad F L A B) sz (wfM cA ad) (fun r u => qM [2, 3, 4, 5, 6, 7] [] F A u.1 u.2.2.1 ∧ pR F u.1)) 0 0 (va_A (wM cA ad F L A B) sz) := by
  refine met_l (own := "ShoeingDayModel") (by decide +kernel) rfl (Nat.le_of_ble_eq_true rfl) ?_
  intro p e s m args below meth c Q Af ls hC hP hD hS hA hl hret
  have hx := hC.1
  have hb := hC.2.1
  have hown := hC.2.2.2.1
  have hg := hC.g
  have hK := hC.K
  have hl : lv_has ls 4 [(0, .ref (ad 0)), (1, .int p1)] := hl
  have hq : qM [2, 3, 4, 5, 6, 7] [] F A F A := qM.rf hT
  obtain ⟨H, hH⟩ : ∃ H, H = s.heap := ⟨_, rfl⟩
  have hP : va_P D classes (wM cA ad F L A B) H := by rw [hH]; exact hP
  have hS : va_S Af s.heap H [] := by rw [hH]; exact hS
  obtain ⟨locs, hlo⟩ : ∃ q : List Loc, q = [] := ⟨_, rfl⟩
  rw [← hH, ← hlo]
  rw [← hlo] at hS
  refine lv_aload_n hx hb dX12_fresh_0 rfl (lv_at hl 0 rfl) ?_
  refine callv_i (As := []) (rest := []) hC (c_X12_isGood_0 l D cA H.size ad F L A B  hq.1) (cwV 0 hg (g_V mw_1312 mw_1309 mw_1311 ms_50 mw_20) rfl rfl rfl (by decide +kernel) ⟨(Nat.le_of_ble_eq_true rfl), (Nat.le_of_ble_eq_true rfl)⟩) hP hD hS hA atM_0 rfl rfl hl.1 rfl (Nat.le_of_ble_eq_true rfl) dX12_fresh_1 ⟨Nat.zero_le _, Nat.zero_le _⟩ (fun x1 u H locs hw hP hD hS => ?_)
  obtain ⟨r2, g3⟩ := hw
  have hP : va_P D classes (wM cA ad F L A B) H := hP
  have hD : va_D Af (wM cA ad F L A B) := hD
  refine lv_if_ne (tgt := 9) hx hb dX12_fresh_4 (by decide) (fun c4 => ?_) (fun c4 => ?_)
  · skip
    have r5 : rg x1 1 1 := (rg_ne1 c4 (r2 : rg x1 0 1) ((rg_k (by decide)) : rg 0 0 0)).1 rfl
    refine lv_aload_n hx hb dX12_fresh_9 rfl (lv_at hl 0 rfl) ?_
    refine va_get (ci := 12) (v := .int (F 6)) (C := RX12) (T := TX12) (N := 57) hx hb hg inX12 hown hK hP 0 atM_0 rfl 8 (by decide) (hg _ mw_1116) (fun _ h9 => h9) rfl dX12_fresh_10 ?_
    refine lv_topi (fun x7 e8 => ?_)
    have r9 : rg x7 0 5 := rg_e e8 (hq.1.1 6)
    refine lv_iconst (v := 2) hx hb dX12_fresh_13 (by decide) ?_
    have J37 : ∀ (F10 : Nat → Int32) (L10 : Nat → Int64) (A10 : Nat → Nat → Int32) (B10 : Nat → Nat → Int64) (H : Heap) (locs : List Loc) (ls : Array Slot), qM [2, 3, 4, 5, 6, 7] [] F A F10 A10 → pR F F10 → va_P D classes (wM cA ad F10 L10 A10 B10) H → va_D Af (wM cA ad F10 L10 A10 B10) → va_S Af s.heap H locs → lv_has ls 4 [(0, .ref (ad 0))] → W p l e rm_X12_fresh_0 s m args below meth c H locs 0 0 Q (F0 m 37 ls []) := by
      intro F10 L10 A10 B10 H locs ls hq i11 hP hD hS hl
      refine lv_aload_n hx hb dX12_fresh_37 rfl (lv_at hl 0 rfl) ?_
      refine va_get (ci := 12) (v := .long (L10 0)) (C := RX12) (T := TX12) (N := 57) hx hb hg inX12 hown hK hP 0 atM_0 rfl 10 (by decide) (hg _ mw_1118) (fun _ h9 => h9) rfl dX12_fresh_38 ?_
      refine lv_topl (fun z12 e13 => ?_)
      refine lv_lstore_n (lv' := [(2, .long z12), (0, .ref (ad 0))]) hx hb dX12_fresh_41 rfl hl (by decide) rfl (fun ls hl => ?_)
      refine lv_aload_n hx hb dX12_fresh_42 rfl (lv_at hl 1 rfl) ?_
      refine callv_i (As := []) (rest := []) hC (c_X12_isGood_0 l D cA H.size ad F10 L10 A10 B10  hq.1) (cwV 0 hg (g_V mw_1312 mw_1309 mw_1311 ms_50 mw_20) rfl rfl rfl (by decide +kernel) ⟨(Nat.le_of_ble_eq_true rfl), (Nat.le_of_ble_eq_true rfl)⟩) hP hD hS hA atM_0 rfl rfl hl.1 rfl (Nat.le_of_ble_eq_true rfl) dX12_fresh_43 ⟨Nat.zero_le _, Nat.zero_le _⟩ (fun x14 u H locs hw hP hD hS => ?_)
      obtain ⟨r15, g16⟩ := hw
      have hP : va_P D classes (wM cA ad F10 L10 A10 B10) H := hP
      have hD : va_D Af (wM cA ad F10 L10 A10 B10) := hD
      have J53 : ∀ (F17 : Nat → Int32) (L17 : Nat → Int64) (A17 : Nat → Nat → Int32) (B17 : Nat → Nat → Int64) (H : Heap) (locs : List Loc) (ls : Array Slot), qM [2, 3, 4, 5, 6, 7] [] F A F17 A17 → pR F F17 → va_P D classes (wM cA ad F17 L17 A17 B17) H → va_D Af (wM cA ad F17 L17 A17 B17) → va_S Af s.heap H locs → lv_has ls 4 [(2, .long z12)] → W p l e rm_X12_fresh_0 s m args below meth c H locs 0 0 Q (F0 m 53 ls []) := by
        intro F17 L17 A17 B17 H locs ls hq i18 hP hD hS hl
        refine lv_lload_n hx hb dX12_fresh_53 rfl (lv_at hl 0 rfl) ?_
        exact hret (z12) (F17, L17, A17, B17) H locs 54 ls dX12_fresh_54 hP hD hS ⟨hq, i18⟩
      refine lv_if_eq (tgt := 53) hx hb dX12_fresh_46 (by decide) (fun c19 => ?_) (fun c19 => ?_)
      · skip
        have r20 : rg x14 0 0 := rg_eq1 c19 (r15 : rg x14 0 1) ((rg_k (by decide)) : rg 0 0 0) (by decide)
        exact J53 (F10) (L10) (A10) (B10) H locs ls hq i11 hP hD hS (lv_sub hl [0] rfl)
      · skip
        have r21 : rg x14 1 1 := (rg_ne1 c19 (r15 : rg x14 0 1) ((rg_k (by decide)) : rg 0 0 0)).1 rfl
        refine lv_aload_n hx hb dX12_fresh_49 rfl (lv_at hl 1 rfl) ?_
        refine callv_v (As := []) (rest := []) hC (c_X12_goOn_0 l D cA H.size ad F10 L10 A10 B10  hq.1 (i11).1.2.1) (cwV 0 hg (g_V mw_1288 mw_1285 mw_1287 ms_48 mw_20) rfl rfl rfl (by decide +kernel) ⟨(Nat.le_of_ble_eq_true rfl), (Nat.le_of_ble_eq_true rfl)⟩) hP hD hS hA atM_0 rfl rfl hl.1 rfl (Nat.le_of_ble_eq_true rfl) dX12_fresh_50 ⟨Nat.zero_le _, Nat.zero_le _⟩ (fun  u H locs hw hP hD hS => ?_)
        obtain ⟨F22, L22, A22, B22⟩ := u
        try dsimp only at hw
        obtain ⟨hq22, g23⟩ := hw
        have hq := hq.call hq22 (by decide)
        have hP : va_P D classes (wM cA ad F22 L22 A22 B22) H := hP
        have hD : va_D Af (wM cA ad F22 L22 A22 B22) := hD
        exact J53 (F22) (L22) (A22) (B22) H locs ls hq (pR.go i11 g23) hP hD hS (lv_sub hl [0] rfl)
    refine lv_icmp_eq (tgt := 24) hx hb dX12_fresh_14 (by decide) (fun c24 => ?_) (fun c24 => ?_)
    · skip
      have r25 : rg x7 2 2 := rg_eq1 c24 (r9 : rg x7 0 5) ((rg_k (by decide)) : rg 2 2 2) (by decide)
      refine lv_iload_n hx hb dX12_fresh_24 rfl (lv_at hl 1 rfl) ?_
      refine lv_if_eq (tgt := 37) hx hb dX12_fresh_25 (by decide) (fun c26 => ?_) (fun c26 => ?_)
      · skip
        have r27 : rg p1 0 0 := rg_eq1 c26 (hp1 : rg p1 0 1) ((rg_k (by decide)) : rg 0 0 0) (by decide)
        exact J37 (F) (L) (A) (B) H locs ls hq (pR.rf hJ) hP hD hS (lv_sub hl [0] rfl)
      · skip
        have r28 : rg p1 1 1 := (rg_ne1 c26 (hp1 : rg p1 0 1) ((rg_k (by decide)) : rg 0 0 0)).1 rfl
        refine lv_aload_n hx hb dX12_fresh_28 rfl (lv_at hl 0 rfl) ?_
        refine lv_iconst (v := 3) hx hb dX12_fresh_29 (by decide) ?_
        refine lv_aload_n hx hb dX12_fresh_30 rfl (lv_at hl 0 rfl) ?_
        refine va_get (ci := 12) (v := .int (F 4)) (C := RX12) (T := TX12) (N := 57) hx hb hg inX12 hown hK hP 0 atM_0 rfl 6 (by decide) (hg _ mw_1114) (fun _ h9 => h9) rfl dX12_fresh_31 ?_
        refine lv_topi (fun x29 e30 => ?_)
        have r31 : rg x29 0 1700 := rg_e e30 (hq.1.1 4)
        refine callv_v (As := [.int 3, .int x29]) (rest := []) hC (c_X12_fails_0 l D cA H.size ad F L A B (3) (x29) hq.1 (rg_k (by decide)) r31) (cwV 2 hg (g_V mw_1332 mw_1329 mw_1331 ms_55 mw_20) rfl rfl rfl (by decide +kernel) ⟨(Nat.le_of_ble_eq_true rfl), (Nat.le_of_ble_eq_true rfl)⟩) hP hD hS hA atM_0 rfl rfl hl.1 rfl (Nat.le_of_ble_eq_true rfl) dX12_fresh_34 ⟨Nat.zero_le _, Nat.zero_le _⟩ (fun  u H locs hw hP hD hS => ?_)
        obtain ⟨F32, L32, A32, B32⟩ := u
        try dsimp only at hw
        obtain ⟨hq32, g33⟩ := hw
        have hq := hq.call hq32 (by decide)
        have hP : va_P D classes (wM cA ad F32 L32 A32 B32) H := hP
        have hD : va_D Af (wM cA ad F32 L32 A32 B32) := hD
        exact J37 (F32) (L32) (A32) (B32) H locs ls hq (pR.fr (pR.rf hJ) (hq32.2.1 4 (by decide)) (hq32.2.1 5 (by decide)) (hq32.2.1 1 (by decide)) (hq32.2.1 6 (by decide))) hP hD hS (lv_sub hl [0] rfl)
    · skip
      refine lv_aload_n hx hb dX12_fresh_17 rfl (lv_at hl 0 rfl) ?_
      refine callv_v (As := []) (rest := []) hC (c_X12_misplaced_0 l D cA H.size ad F L A B  hq.1) (cwV 0 hg (g_V mw_1328 mw_1325 mw_1327 ms_54 mw_20) rfl rfl rfl (by decide +kernel) ⟨(Nat.le_of_ble_eq_true rfl), (Nat.le_of_ble_eq_true rfl)⟩) hP hD hS hA atM_0 rfl rfl hl.1 rfl (Nat.le_of_ble_eq_true rfl) dX12_fresh_18 ⟨Nat.zero_le _, Nat.zero_le _⟩ (fun  u H locs hw hP hD hS => ?_)
      obtain ⟨F34, L34, A34, B34⟩ := u
      try dsimp only at hw
      obtain ⟨hq34, g35⟩ := hw
      have hq := hq.call hq34 (by decide)
      have hP : va_P D classes (wM cA ad F34 L34 A34 B34) H := hP
      have hD : va_D Af (wM cA ad F34 L34 A34 B34) := hD
      refine lv_goto (tgt := 37) hx hb dX12_fresh_21 (by decide) ?_
      exact J37 (F34) (L34) (A34) (B34) H locs ls hq (pR.fr (pR.rf hJ) (hq34.2.1 4 (by decide)) (hq34.2.1 5 (by decide)) (hq34.2.1 1 (by decide)) (hq34.2.1 6 (by decide))) hP hD hS (lv_sub hl [0] rfl)
  · skip
    have r6 : rg x1 0 0 := rg_eq1 c4 (r2 : rg x1 0 1) ((rg_k (by decide)) : rg 0 0 0) (by decide)
    refine lv_lconst (v := 0) hx hb dX12_fresh_7 rfl ?_
    exact hret ((0 : Int64)) (F, L, A, B) H locs 8 ls dX12_fresh_8 hP hD hS ⟨hq, (pR.rf hJ)⟩
abbrev rm_X12_horseHere_0 : Room := { frames := 0, cells := 0, slots := 0, locals := 0 }
set_option maxHeartbeats 4000000 in
set_option maxRecDepth 100000 in
theorem c_X12_horseHere_0 (l : Launch) (D : va_G) (cA : Nat → ClassId) (sz : Nat) (ad : Nat → Nat) (F : Nat → Int32) (L : Nat → Int64) (A : Nat → Nat → Int32) (B : Nat → Nat → Int64)  (hT : typM F A) : Met l yX12_horseHere (Cond.code yX12_horseHere cX12_horseHere 2 (some .int) :: GW) rm_X12_horseHere_0 (mPc D classes (tysM cA) (wM cA ad F L A B) sz [.ref (ad 0)]) (mQi (S := Unit) D classes (tysM cA) (wM cA ad F L A B) sz (fun _ : Unit => wM cA ad F L A B) (fun r u => rg r (-1) 9)) 0 0 (va_A (wM cA ad F L A B) sz) := by
  refine met_i (own := "ShoeingDayModel") (by decide +kernel) rfl (Nat.le_of_ble_eq_true rfl) ?_
  intro p e s m args below meth c Q Af ls hC hP hD hS hA hl hret
  have hx := hC.1
  have hb := hC.2.1
  have hown := hC.2.2.2.1
  have hg := hC.g
  have hK := hC.K
  have hl : lv_has ls 2 [(0, .ref (ad 0))] := hl
  have hq : qM [] [] F A F A := qM.rf hT
  obtain ⟨H, hH⟩ : ∃ H, H = s.heap := ⟨_, rfl⟩
  have hP : va_P D classes (wM cA ad F L A B) H := by rw [hH]; exact hP
  have hS : va_S Af s.heap H [] := by rw [hH]; exact hS
  obtain ⟨locs, hlo⟩ : ∃ q : List Loc, q = [] := ⟨_, rfl⟩
  rw [← hH, ← hlo]
  rw [← hlo] at hS
  refine lv_iconst (v := 0) hx hb dX12_horseHere_0 (by decide) ?_
  refine lv_istore_n (lv' := [(1, .int 0), (0, .ref (ad 0))]) hx hb dX12_horseHere_1 rfl hl (by decide) rfl (fun ls hl => ?_)
  have J2 : ∀ (n2 : Nat) (a1 : Int32) (H : Heap) (locs : List Loc) (ls : Array Slot), (10 - a1.toInt).toNat < n2 → rg a1 0 10 → va_P D classes (wM cA ad F L A B) H → va_D Af (wM cA ad F L A B) → va_S Af s.heap H locs → lv_has ls 2 [(0, .ref (ad 0)), (1, .int a1)] → W p l e rm_X12_horseHere_0 s m args below meth c H locs 0 0 Q (F0 m 2 ls []) := by
    intro n2
    induction n2 with
    | zero =>
      intro _ _ _ _ hn
      exact absurd hn (Nat.not_lt_zero _)
    | succ n2 ih2 =>
      intro a1 H locs ls hn2 r2 hP hD hS hl
      refine lv_iload_n hx hb dX12_horseHere_2 rfl (lv_at hl 1 rfl) ?_
      refine lv_aload_n hx hb dX12_horseHere_3 rfl (lv_at hl 0 rfl) ?_
      refine va_get (ci := 12) (v := .ref (ad 4)) (C := RX12) (T := TX12) (N := 57) hx hb hg inX12 hown hK hP 0 atM_0 rfl 12 (by decide) (hg _ mw_1120) (fun _ h9 => h9) rfl dX12_horseHere_4 ?_
      refine lv_aload_n hx hb dX12_horseHere_7 rfl (lv_at hl 0 rfl) ?_
      refine va_get (ci := 12) (v := .int (F 9)) (C := RX12) (T := TX12) (N := 57) hx hb hg inX12 hown hK hP 0 atM_0 rfl 25 (by decide) (hg _ mw_1133) (fun _ h9 => h9) rfl dX12_horseHere_8 ?_
      refine lv_topi (fun x3 e4 => ?_)
      have r5 : rg x3 0 1 := rg_e e4 (hq.1.1 9)
      refine va_iald hx hb hK hP 4 3 atM_4 tyM_4 (in_rg r5 (by decide)) dX12_horseHere_11 ?_
      refine lv_topi (fun x6 e7 => ?_)
      have r8 : rg x6 0 10 := rg_e e7 (hq.1.2 4 _)
      refine lv_icmp_ge (tgt := 53) hx hb dX12_horseHere_12 (by decide) (fun c9 => ?_) (fun c9 => ?_)
      · skip
        refine lv_iconst (v := (-1)) hx hb dX12_horseHere_53 (by decide) ?_
        exact hret ((-1)) () H locs 54 ls rfl dX12_horseHere_54 hP hD hS (rg_k (by decide))
      · skip
        have r10 : rg a1 0 9 := rg_lt1 (iNE c9) (r2 : rg a1 0 10) (r8 : rg x6 0 10)
        have r11 : rg x6 1 10 := rg_lt2 (iNE c9) (r2 : rg a1 0 10) (r8 : rg x6 0 10)
        refine lv_aload_n hx hb dX12_horseHere_15 rfl (lv_at hl 0 rfl) ?_
        refine va_get (ci := 12) (v := .int (F 6)) (C := RX12) (T := TX12) (N := 57) hx hb hg inX12 hown hK hP 0 atM_0 rfl 8 (by decide) (hg _ mw_1116) (fun _ h9 => h9) rfl dX12_horseHere_16 ?_
        refine lv_topi (fun x12 e13 => ?_)
        have r14 : rg x12 0 5 := rg_e e13 (hq.1.1 6)
        refine lv_iconst (v := 2) hx hb dX12_horseHere_19 (by decide) ?_
        have J47 : ∀ (H : Heap) (locs : List Loc) (ls : Array Slot), va_P D classes (wM cA ad F L A B) H → va_D Af (wM cA ad F L A B) → va_S Af s.heap H locs → lv_has ls 2 [(0, .ref (ad 0)), (1, .int a1)] → W p l e rm_X12_horseHere_0 s m args below meth c H locs 0 0 Q (F0 m 47 ls []) := by
          intro H locs ls hP hD hS hl
          obtain ⟨x15, e16⟩ : ∃ y : Int32, y = a1 + 1 := ⟨_, rfl⟩
          have r17 : rg x15 1 10 := rg_add e16 r10 (rg_k (by decide) : rg 1 1 1) (by decide)
          refine lv_iinc (v := x15) (lv' := [(1, .int x15), (0, .ref (ad 0))]) hx hb dX12_horseHere_47 hl (k := 1) rfl (by rw [e16]; rfl) (by decide) rfl (fun ls hl => ?_)
          refine lv_goto (tgt := 2) hx hb dX12_horseHere_50 (by decide) ?_
          exact ih2 (x15) H locs ls (by have h0 : (1 : Int32).toInt = 1 := rfl; have h1 := ti_addk e16 r10 (by decide); have h2 : rg x15 0 10 := (rg_w r17 (by decide)); unfold rg at h2; omega) (rg_w r17 (by decide)) hP hD hS (lv_sub hl [1, 0] rfl)
        refine lv_icmp_ne (tgt := 47) hx hb dX12_horseHere_20 (by decide) (fun c18 => ?_) (fun c18 => ?_)
        · skip
          exact J47  H locs ls  hP hD hS (lv_sub hl [0, 1] rfl)
        · skip
          have r19 : rg x12 2 2 := rg_eq1 c18 (r14 : rg x12 0 5) ((rg_k (by decide)) : rg 2 2 2) (by decide)
          refine lv_aload_n hx hb dX12_horseHere_23 rfl (lv_at hl 0 rfl) ?_
          refine va_get (ci := 12) (v := .ref (ad 15)) (C := RX12) (T := TX12) (N := 57) hx hb hg inX12 hown hK hP 0 atM_0 rfl 23 (by decide) (hg _ mw_1131) (fun _ h9 => h9) rfl dX12_horseHere_24 ?_
          refine lv_bipush (v := 10) hx hb dX12_horseHere_27 (by decide) ?_
          refine lv_aload_n hx hb dX12_horseHere_29 rfl (lv_at hl 0 rfl) ?_
          refine va_get (ci := 12) (v := .int x3) (C := RX12) (T := TX12) (N := 57) hx hb hg inX12 hown hK hP 0 atM_0 rfl 25 (by decide) (hg _ mw_1133) (fun _ h9 => h9) (congrArg (fun z => some (Value.int z)) (e4.symm)) dX12_horseHere_30 ?_
          refine lv_imul hx hb dX12_horseHere_33 ?_
          refine lv_topi (fun x20 e21 => ?_)
          have r22 : rg x20 0 10 := rg_mul e21 ((rg_k (by decide)) : rg 10 10 10) r5 (by decide)
          refine lv_iload_n hx hb dX12_horseHere_34 rfl (lv_at hl 1 rfl) ?_
          refine lv_iadd hx hb dX12_horseHere_35 ?_
          refine lv_topi (fun x23 e24 => ?_)
          have r25 : rg x23 0 19 := rg_add e24 r22 r10 (by decide)
          refine va_lald hx hb hK hP 15 14 atM_15 tyM_15 (in_rg r25 (by decide)) dX12_horseHere_36 ?_
          refine lv_topl (fun z26 _ => ?_)
          refine lv_aload_n hx hb dX12_horseHere_37 rfl (lv_at hl 0 rfl) ?_
          refine va_get (ci := 12) (v := .long (L 0)) (C := RX12) (T := TX12) (N := 57) hx hb hg inX12 hown hK hP 0 atM_0 rfl 10 (by decide) (hg _ mw_1118) (fun _ h9 => h9) rfl dX12_horseHere_38 ?_
          refine lv_topl (fun z27 e28 => ?_)
          refine W.lcmp hx hb dX12_horseHere_41 ?_
          refine lv_topi (fun x29 e30 => ?_)
          refine lv_if_ne (tgt := 47) hx hb dX12_horseHere_42 (by decide) (fun c31 => ?_) (fun c31 => ?_)
          · skip
            exact J47  H locs ls  hP hD hS (lv_sub hl [0, 1] rfl)
          · skip
            have r32 : rg x29 0 0 := rg_eq1 c31 ((rg_top _) : rg x29 (-2147483648) 2147483647) ((rg_k (by decide)) : rg 0 0 0) (by decide)
            refine lv_iload_n hx hb dX12_horseHere_45 rfl (lv_at hl 1 rfl) ?_
            exact hret (a1) () H locs 46 ls rfl dX12_horseHere_46 hP hD hS (rg_w r10 (by decide))
  exact J2 _ (0) H locs ls (Nat.lt_succ_self _) (rg_k (by decide)) hP hD hS (lv_sub hl [1, 0] rfl)
abbrev rm_X12_readHorse_0 : Room := { frames := 3, cells := 0, slots := 0, locals := 66 }
set_option maxHeartbeats 4000000 in
set_option maxRecDepth 100000 in
theorem c_X12_readHorse_0 (l : Launch) (D : va_G) (cA : Nat → ClassId) (sz : Nat) (ad : Nat → Nat) (F : Nat → Int32) (L : Nat → Int64) (A : Nat → Nat → Int32) (B : Nat → Nat → Int64)  (hT : typM F A) (hJ : pI F) (hM7 : rg (A 4 (F 9).toNatClampNeg) 0 9) : Met l yX12_readHorse (Cond.code yX12_readHorse cX12_readHorse 1 none :: GW) rm_X12_readHorse_0 (mPc D classes (tysM cA) (wM cA ad F L A B) sz [.ref (ad 0)]) (mQv (S := SW) D classes (tysM cA) (wM cA ad F L A B) sz (wfM cA ad) (fun u => qM [2, 3, 4, 5, 6, 7] [4, 15] F A u.1 u.2.2.1 ∧ pR F u.1)) 0 0 (va_A (wM cA ad F L A B) sz) := by
  refine met_v (own := "ShoeingDayModel") (by decide +kernel) rfl (Nat.le_of_ble_eq_true rfl) ?_
  intro p e s m args below meth c Q Af ls hC hP hD hS hA hl hret
  have hx := hC.1
  have hb := hC.2.1
  have hown := hC.2.2.2.1
  have hg := hC.g
  have hK := hC.K
  have hl : lv_has ls 1 [(0, .ref (ad 0))] := hl
  have hq : qM [2, 3, 4, 5, 6, 7] [4, 15] F A F A := qM.rf hT
  obtain ⟨H, hH⟩ : ∃ H, H = s.heap := ⟨_, rfl⟩
  have hP : va_P D classes (wM cA ad F L A B) H := by rw [hH]; exact hP
  have hS : va_S Af s.heap H [] := by rw [hH]; exact hS
  obtain ⟨locs, hlo⟩ : ∃ q : List Loc, q = [] := ⟨_, rfl⟩
  rw [← hH, ← hlo]
  rw [← hlo] at hS
  refine lv_aload_n hx hb dX12_readHorse_0 rfl (lv_at hl 0 rfl) ?_
  refine va_get (ci := 12) (v := .ref (ad 15)) (C := RX12) (T := TX12) (N := 57) hx hb hg inX12 hown hK hP 0 atM_0 rfl 23 (by decide) (hg _ mw_1131) (fun _ h9 => h9) rfl dX12_readHorse_1 ?_
  refine lv_bipush (v := 10) hx hb dX12_readHorse_4 (by decide) ?_
  refine lv_aload_n hx hb dX12_readHorse_6 rfl (lv_at hl 0 rfl) ?_
  refine va_get (ci := 12) (v := .int (F 9)) (C := RX12) (T := TX12) (N := 57) hx hb hg inX12 hown hK hP 0 atM_0 rfl 25 (by decide) (hg _ mw_1133) (fun _ h9 => h9) rfl dX12_readHorse_7 ?_
  refine lv_topi (fun x1 e2 => ?_)
  have r3 : rg x1 0 1 := rg_e e2 (hq.1.1 9)
  refine lv_imul hx hb dX12_readHorse_10 ?_
  refine lv_topi (fun x4 e5 => ?_)
  have r6 : rg x4 0 10 := rg_mul e5 ((rg_k (by decide)) : rg 10 10 10) r3 (by decide)
  refine lv_aload_n hx hb dX12_readHorse_11 rfl (lv_at hl 0 rfl) ?_
  refine va_get (ci := 12) (v := .ref (ad 4)) (C := RX12) (T := TX12) (N := 57) hx hb hg inX12 hown hK hP 0 atM_0 rfl 12 (by decide) (hg _ mw_1120) (fun _ h9 => h9) rfl dX12_readHorse_12 ?_
  refine lv_aload_n hx hb dX12_readHorse_15 rfl (lv_at hl 0 rfl) ?_
  refine va_get (ci := 12) (v := .int x1) (C := RX12) (T := TX12) (N := 57) hx hb hg inX12 hown hK hP 0 atM_0 rfl 25 (by decide) (hg _ mw_1133) (fun _ h9 => h9) (congrArg (fun z => some (Value.int z)) (e2.symm)) dX12_readHorse_16 ?_
  refine va_iald hx hb hK hP 4 3 atM_4 tyM_4 (in_rg r3 (by decide)) dX12_readHorse_19 ?_
  refine lv_topi (fun x7 e8 => ?_)
  have r9 : rg x7 0 9 := rg_e (e8.trans ((congrFun rfl _).trans (by rw [e2]))) hM7
  refine lv_iadd hx hb dX12_readHorse_20 ?_
  refine lv_topi (fun x10 e11 => ?_)
  have r12 : rg x10 0 19 := rg_add e11 r6 r9 (by decide)
  refine lv_aload_n hx hb dX12_readHorse_21 rfl (lv_at hl 0 rfl) ?_
  refine lv_aload_n hx hb dX12_readHorse_22 rfl (lv_at hl 0 rfl) ?_
  refine callv_i (As := []) (rest := [.ref (ad 0), .int x10, .ref (ad 15)]) hC (c_X12_horseHere_0 l D cA H.size ad F L A B  hq.1) (cwV 0 hg (g_V mw_1360 mw_1357 mw_1359 ms_62 mw_20) rfl rfl rfl (by decide +kernel) ⟨(Nat.le_of_ble_eq_true rfl), (Nat.le_of_ble_eq_true rfl)⟩) hP hD hS hA atM_0 rfl rfl hl.1 rfl (Nat.le_of_ble_eq_true rfl) dX12_readHorse_23 ⟨Nat.zero_le _, Nat.zero_le _⟩ (fun x13 u H locs hw hP hD hS => ?_)
  have r14 := hw
  have hP : va_P D classes (wM cA ad F L A B) H := hP
  have hD : va_D Af (wM cA ad F L A B) := hD
  have J34 : ∀ (a15 : Int32) (F17 : Nat → Int32) (L17 : Nat → Int64) (A17 : Nat → Nat → Int32) (B17 : Nat → Nat → Int64) (H : Heap) (locs : List Loc) (ls : Array Slot), rg a15 0 1 → qM [2, 3, 4, 5, 6, 7] [4, 15] F A F17 A17 → A17 4 = A 4 → pR F F17 → F17 9 = x1 → va_P D classes (wM cA ad F17 L17 A17 B17) H → va_D Af (wM cA ad F17 L17 A17 B17) → va_S Af s.heap H locs → lv_has ls 1 [(0, .ref (ad 0))] → W p l e rm_X12_readHorse_0 s m args below meth c H locs 0 0 Q (F0 m 34 ls [.int a15, .ref (ad 0), .int x10, .ref (ad 15)]) := by
    intro a15 F17 L17 A17 B17 H locs ls r16 hq k18 i19 f20 hP hD hS hl
    refine callv_l (As := [.int a15]) (rest := [.int x10, .ref (ad 15)]) hC (c_X12_fresh_0 l D cA H.size ad F17 L17 A17 B17 (a15) hq.1 r16 (i19).1) (cwV 1 hg (g_V mw_1344 mw_1341 mw_1343 ms_58 mw_20) rfl rfl rfl (by decide +kernel) ⟨(Nat.le_of_ble_eq_true rfl), (Nat.le_of_ble_eq_true rfl)⟩) hP hD hS hA atM_0 rfl rfl hl.1 rfl (Nat.le_of_ble_eq_true rfl) dX12_readHorse_34 ⟨Nat.zero_le _, Nat.zero_le _⟩ (fun z21 u H locs hw hP hD hS => ?_)
    obtain ⟨F22, L22, A22, B22⟩ := u
    try dsimp only at hw
    obtain ⟨hq22, g23⟩ := hw
    have hq := hq.call hq22 (by decide)
    have hP : va_P D classes (wM cA ad F22 L22 A22 B22) H := hP
    have hD : va_D Af (wM cA ad F22 L22 A22 B22) := hD
    refine va_last hx hb hK hP hD hS 15 14 atM_15 tyM_15 (in_rg r12 (by decide)) dX12_readHorse_37 (fun H locs hP hD hS => ?_)
    rw [setBM_15] at hP hD
    refine lv_aload_n hx hb dX12_readHorse_38 rfl (lv_at hl 0 rfl) ?_
    refine va_get (ci := 12) (v := .ref (ad 4)) (C := RX12) (T := TX12) (N := 57) hx hb hg inX12 hown hK hP 0 atM_0 rfl 12 (by decide) (hg _ mw_1120) (fun _ h9 => h9) rfl dX12_readHorse_39 ?_
    refine lv_aload_n hx hb dX12_readHorse_42 rfl (lv_at hl 0 rfl) ?_
    refine va_get (ci := 12) (v := .int x1) (C := RX12) (T := TX12) (N := 57) hx hb hg inX12 hown hK hP 0 atM_0 rfl 25 (by decide) (hg _ mw_1133) (fun _ h9 => h9) (congrArg (fun z => some (Value.int z)) ((hq22.2.1 9 (by decide)).trans (f20))) dX12_readHorse_43 ?_
    refine lv_dup2_11 hx hb dX12_readHorse_46 rfl rfl ?_
    refine va_iald hx hb hK hP 4 3 atM_4 tyM_4 (in_rg r3 (by decide)) dX12_readHorse_47 ?_
    refine lv_topi (fun x24 e25 => ?_)
    have r26 : rg x24 0 9 := rg_e (e25.trans ((congrFun ((hq22.2.2 4 (by decide)).trans k18) _).trans (by rw [e2]))) hM7
    refine lv_iconst (v := 1) hx hb dX12_readHorse_48 (by decide) ?_
    refine lv_iadd hx hb dX12_readHorse_49 ?_
    refine lv_topi (fun x27 e28 => ?_)
    have r29 : rg x27 1 10 := rg_add e28 r26 ((rg_k (by decide)) : rg 1 1 1) (by decide)
    refine va_iast hx hb hK hP hD hS 4 3 atM_4 tyM_4 (in_rg r3 (by decide)) dX12_readHorse_50 (fun H locs hP hD hS => ?_)
    have hq := hq.ast 4 (x1).toNatClampNeg (x := x27) (by decide) (rg_w r29 (by decide))
    rw [setM_4] at hP hD
    have k30 : x27 = (va_up A22 4 (upd (A22 4) (x1).toNatClampNeg x27)) 4 (x1).toNatClampNeg := (rdA).symm
    exact hret (F22, L22, (va_up A22 4 (upd (A22 4) (x1).toNatClampNeg x27)), (va_up B22 15 (vp_updL (B22 15) (x10).toNatClampNeg z21))) H locs 51 ls dX12_readHorse_51 hP hD hS ⟨hq, (pR.tr i19 g23)⟩
  refine lv_if_lt (tgt := 33) hx hb dX12_readHorse_26 (by decide) (fun c31 => ?_) (fun c31 => ?_)
  · skip
    have r32 : rg x13 (-1) (-1) := rg_lt1 (iL c31) (r14 : rg x13 (-1) 9) ((rg_k (by decide)) : rg 0 0 0)
    refine lv_iconst (v := 0) hx hb dX12_readHorse_33 (by decide) ?_
    exact J34 (0) (F) (L) (A) (B) H locs ls (rg_k (by decide)) hq (rfl) (pR.rf hJ) (e2.symm) hP hD hS (lv_sub hl [0] rfl)
  · skip
    have r33 : rg x13 0 9 := rg_le2 (iNL c31) ((rg_k (by decide)) : rg 0 0 0) (r14 : rg x13 (-1) 9)
    refine lv_iconst (v := 1) hx hb dX12_readHorse_29 (by decide) ?_
    refine lv_goto (tgt := 34) hx hb dX12_readHorse_30 (by decide) ?_
    exact J34 (1) (F) (L) (A) (B) H locs ls (rg_k (by decide)) hq (rfl) (pR.rf hJ) (e2.symm) hP hD hS (lv_sub hl [0] rfl)
abbrev rm_X12_known_0_h : Room := { frames := 2, cells := 0, slots := 0, locals := 43 }
set_option maxHeartbeats 4000000 in
set_option maxRecDepth 100000 in
theorem c_X12_known_0_h (l : Launch) (D : va_G) (cA : Nat → ClassId) (sz : Nat) (ad : Nat → Nat) (F : Nat → Int32) (L : Nat → Int64) (A : Nat → Nat → Int32) (B : Nat → Nat → Int64) (p1 : Int32) (hT : typM F A) (hp1 : rg p1 (-1) 9) (hJ : pI F) : Met l yX12_known (Cond.code yX12_known cX12_known 2 (some .int) :: GW) rm_X12_known_0_h (mPc D classes (tysM cA) (wM cA ad F L A B) sz [.ref (ad 0), .int p1]) (mQi (S := SW) D classes (tysM cA) (wM cA ad F L A B) sz (wfM cA ad) (fun r u => qM [2, 3, 4, 5, 6, 7] [] F A u.1 u.2.2.1 ∧ pR F u.1 ∧ rg r 0 9)) 0 0 (va_A (wM cA ad F L A B) sz) := by
  refine met_i (own := "ShoeingDayModel") (by decide +kernel) rfl (Nat.le_of_ble_eq_true rfl) ?_
  intro p e s m args below meth c Q Af ls hC hP hD hS hA hl hret
  have hx := hC.1
  have hb := hC.2.1
  have hown := hC.2.2.2.1
  have hg := hC.g
  have hK := hC.K
  have hl : lv_has ls 2 [(0, .ref (ad 0)), (1, .int p1)] := hl
  have hq : qM [2, 3, 4, 5, 6, 7] [] F A F A := qM.rf hT
  obtain ⟨H, hH⟩ : ∃ H, H = s.heap := ⟨_, rfl⟩
  have hP : va_P D classes (wM cA ad F L A B) H := by rw [hH]; exact hP
  have hS : va_S Af s.heap H [] := by rw [hH]; exact hS
  obtain ⟨locs, hlo⟩ : ∃ q : List Loc, q = [] := ⟨_, rfl⟩
  rw [← hH, ← hlo]
  rw [← hlo] at hS
  refine lv_aload_n hx hb dX12_known_0 rfl (lv_at hl 0 rfl) ?_
  refine callv_i (As := []) (rest := []) hC (c_X12_isGood_0 l D cA H.size ad F L A B  hq.1) (cwV 0 hg (g_V mw_1312 mw_1309 mw_1311 ms_50 mw_20) rfl rfl rfl (by decide +kernel) ⟨(Nat.le_of_ble_eq_true rfl), (Nat.le_of_ble_eq_true rfl)⟩) hP hD hS hA atM_0 rfl rfl hl.1 rfl (Nat.le_of_ble_eq_true rfl) dX12_known_1 ⟨Nat.zero_le _, Nat.zero_le _⟩ (fun x1 u H locs hw hP hD hS => ?_)
  obtain ⟨r2, g3⟩ := hw
  have hP : va_P D classes (wM cA ad F L A B) H := hP
  have hD : va_D Af (wM cA ad F L A B) := hD
  refine lv_if_ne (tgt := 9) hx hb dX12_known_4 (by decide) (fun c4 => ?_) (fun c4 => ?_)
  · skip
    have r5 : rg x1 1 1 := (rg_ne1 c4 (r2 : rg x1 0 1) ((rg_k (by decide)) : rg 0 0 0)).1 rfl
    refine lv_aload_n hx hb dX12_known_9 rfl (lv_at hl 0 rfl) ?_
    refine va_get (ci := 12) (v := .int (F 6)) (C := RX12) (T := TX12) (N := 57) hx hb hg inX12 hown hK hP 0 atM_0 rfl 8 (by decide) (hg _ mw_1116) (fun _ h9 => h9) rfl dX12_known_10 ?_
    refine lv_topi (fun x7 e8 => ?_)
    have r9 : rg x7 0 5 := rg_e e8 (hq.1.1 6)
    refine lv_iconst (v := 2) hx hb dX12_known_13 (by decide) ?_
    have J37 : ∀ (F10 : Nat → Int32) (L10 : Nat → Int64) (A10 : Nat → Nat → Int32) (B10 : Nat → Nat → Int64) (H : Heap) (locs : List Loc) (ls : Array Slot), qM [2, 3, 4, 5, 6, 7] [] F A F10 A10 → pR F F10 → va_P D classes (wM cA ad F10 L10 A10 B10) H → va_D Af (wM cA ad F10 L10 A10 B10) → va_S Af s.heap H locs → lv_has ls 2 [(0, .ref (ad 0)), (1, .int p1)] → W p l e rm_X12_known_0_h s m args below meth c H locs 0 0 Q (F0 m 37 ls []) := by
      intro F10 L10 A10 B10 H locs ls hq i11 hP hD hS hl
      refine lv_aload_n hx hb dX12_known_37 rfl (lv_at hl 0 rfl) ?_
      refine callv_i (As := []) (rest := []) hC (c_X12_isGood_0 l D cA H.size ad F10 L10 A10 B10  hq.1) (cwV 0 hg (g_V mw_1312 mw_1309 mw_1311 ms_50 mw_20) rfl rfl rfl (by decide +kernel) ⟨(Nat.le_of_ble_eq_true rfl), (Nat.le_of_ble_eq_true rfl)⟩) hP hD hS hA atM_0 rfl rfl hl.1 rfl (Nat.le_of_ble_eq_true rfl) dX12_known_38 ⟨Nat.zero_le _, Nat.zero_le _⟩ (fun x12 u H locs hw hP hD hS => ?_)
      obtain ⟨r13, g14⟩ := hw
      have hP : va_P D classes (wM cA ad F10 L10 A10 B10) H := hP
      have hD : va_D Af (wM cA ad F10 L10 A10 B10) := hD
      have J48 : ∀ (F15 : Nat → Int32) (L15 : Nat → Int64) (A15 : Nat → Nat → Int32) (B15 : Nat → Nat → Int64) (H : Heap) (locs : List Loc) (ls : Array Slot), qM [2, 3, 4, 5, 6, 7] [] F A F15 A15 → pR F F15 → va_P D classes (wM cA ad F15 L15 A15 B15) H → va_D Af (wM cA ad F15 L15 A15 B15) → va_S Af s.heap H locs → lv_has ls 2 [(1, .int p1)] → W p l e rm_X12_known_0_h s m args below meth c H locs 0 0 Q (F0 m 48 ls []) := by
        intro F15 L15 A15 B15 H locs ls hq i16 hP hD hS hl
        refine lv_iload_n hx hb dX12_known_48 rfl (lv_at hl 0 rfl) ?_
        refine lv_if_ge (tgt := 56) hx hb dX12_known_49 (by decide) (fun c17 => ?_) (fun c17 => ?_)
        · skip
          have r18 : rg p1 0 9 := rg_le2 (iE c17) ((rg_k (by decide)) : rg 0 0 0) (hp1 : rg p1 (-1) 9)
          refine lv_iload_n hx hb dX12_known_56 rfl (lv_at hl 0 rfl) ?_
          exact hret (p1) (F15, L15, A15, B15) H locs 57 ls rfl dX12_known_57 hP hD hS ⟨hq, i16, r18⟩
        · skip
          have r19 : rg p1 (-1) (-1) := rg_lt1 (iNE c17) (hp1 : rg p1 (-1) 9) ((rg_k (by decide)) : rg 0 0 0)
          refine lv_iconst (v := 0) hx hb dX12_known_52 (by decide) ?_
          refine lv_goto (tgt := 57) hx hb dX12_known_53 (by decide) ?_
          exact hret (0) (F15, L15, A15, B15) H locs 57 ls rfl dX12_known_57 hP hD hS ⟨hq, i16, (rg_k (by decide))⟩
      refine lv_if_eq (tgt := 48) hx hb dX12_known_41 (by decide) (fun c20 => ?_) (fun c20 => ?_)
      · skip
        have r21 : rg x12 0 0 := rg_eq1 c20 (r13 : rg x12 0 1) ((rg_k (by decide)) : rg 0 0 0) (by decide)
        exact J48 (F10) (L10) (A10) (B10) H locs ls hq i11 hP hD hS (lv_sub hl [1] rfl)
      · skip
        have r22 : rg x12 1 1 := (rg_ne1 c20 (r13 : rg x12 0 1) ((rg_k (by decide)) : rg 0 0 0)).1 rfl
        refine lv_aload_n hx hb dX12_known_44 rfl (lv_at hl 0 rfl) ?_
        refine callv_v (As := []) (rest := []) hC (c_X12_goOn_0 l D cA H.size ad F10 L10 A10 B10  hq.1 (i11).1.2.1) (cwV 0 hg (g_V mw_1288 mw_1285 mw_1287 ms_48 mw_20) rfl rfl rfl (by decide +kernel) ⟨(Nat.le_of_ble_eq_true rfl), (Nat.le_of_ble_eq_true rfl)⟩) hP hD hS hA atM_0 rfl rfl hl.1 rfl (Nat.le_of_ble_eq_true rfl) dX12_known_45 ⟨Nat.zero_le _, Nat.zero_le _⟩ (fun  u H locs hw hP hD hS => ?_)
        obtain ⟨F23, L23, A23, B23⟩ := u
        try dsimp only at hw
        obtain ⟨hq23, g24⟩ := hw
        have hq := hq.call hq23 (by decide)
        have hP : va_P D classes (wM cA ad F23 L23 A23 B23) H := hP
        have hD : va_D Af (wM cA ad F23 L23 A23 B23) := hD
        exact J48 (F23) (L23) (A23) (B23) H locs ls hq (pR.go i11 g24) hP hD hS (lv_sub hl [1] rfl)
    refine lv_icmp_eq (tgt := 24) hx hb dX12_known_14 (by decide) (fun c25 => ?_) (fun c25 => ?_)
    · skip
      have r26 : rg x7 2 2 := rg_eq1 c25 (r9 : rg x7 0 5) ((rg_k (by decide)) : rg 2 2 2) (by decide)
      refine lv_iload_n hx hb dX12_known_24 rfl (lv_at hl 1 rfl) ?_
      refine lv_if_ge (tgt := 37) hx hb dX12_known_25 (by decide) (fun c27 => ?_) (fun c27 => ?_)
      · skip
        have r28 : rg p1 0 9 := rg_le2 (iE c27) ((rg_k (by decide)) : rg 0 0 0) (hp1 : rg p1 (-1) 9)
        exact J37 (F) (L) (A) (B) H locs ls hq (pR.rf hJ) hP hD hS (lv_sub hl [0, 1] rfl)
      · skip
        have r29 : rg p1 (-1) (-1) := rg_lt1 (iNE c27) (hp1 : rg p1 (-1) 9) ((rg_k (by decide)) : rg 0 0 0)
        refine lv_aload_n hx hb dX12_known_28 rfl (lv_at hl 0 rfl) ?_
        refine lv_iconst (v := 5) hx hb dX12_known_29 (by decide) ?_
        refine lv_aload_n hx hb dX12_known_30 rfl (lv_at hl 0 rfl) ?_
        refine va_get (ci := 12) (v := .int (F 4)) (C := RX12) (T := TX12) (N := 57) hx hb hg inX12 hown hK hP 0 atM_0 rfl 6 (by decide) (hg _ mw_1114) (fun _ h9 => h9) rfl dX12_known_31 ?_
        refine lv_topi (fun x30 e31 => ?_)
        have r32 : rg x30 0 1700 := rg_e e31 (hq.1.1 4)
        refine callv_v (As := [.int 5, .int x30]) (rest := []) hC (c_X12_fails_0 l D cA H.size ad F L A B (5) (x30) hq.1 (rg_k (by decide)) r32) (cwV 2 hg (g_V mw_1332 mw_1329 mw_1331 ms_55 mw_20) rfl rfl rfl (by decide +kernel) ⟨(Nat.le_of_ble_eq_true rfl), (Nat.le_of_ble_eq_true rfl)⟩) hP hD hS hA atM_0 rfl rfl hl.1 rfl (Nat.le_of_ble_eq_true rfl) dX12_known_34 ⟨Nat.zero_le _, Nat.zero_le _⟩ (fun  u H locs hw hP hD hS => ?_)
        obtain ⟨F33, L33, A33, B33⟩ := u
        try dsimp only at hw
        obtain ⟨hq33, g34⟩ := hw
        have hq := hq.call hq33 (by decide)
        have hP : va_P D classes (wM cA ad F33 L33 A33 B33) H := hP
        have hD : va_D Af (wM cA ad F33 L33 A33 B33) := hD
        exact J37 (F33) (L33) (A33) (B33) H locs ls hq (pR.fr (pR.rf hJ) (hq33.2.1 4 (by decide)) (hq33.2.1 5 (by decide)) (hq33.2.1 1 (by decide)) (hq33.2.1 6 (by decide))) hP hD hS (lv_sub hl [0, 1] rfl)
    · skip
      refine lv_aload_n hx hb dX12_known_17 rfl (lv_at hl 0 rfl) ?_
      refine callv_v (As := []) (rest := []) hC (c_X12_misplaced_0 l D cA H.size ad F L A B  hq.1) (cwV 0 hg (g_V mw_1328 mw_1325 mw_1327 ms_54 mw_20) rfl rfl rfl (by decide +kernel) ⟨(Nat.le_of_ble_eq_true rfl), (Nat.le_of_ble_eq_true rfl)⟩) hP hD hS hA atM_0 rfl rfl hl.1 rfl (Nat.le_of_ble_eq_true rfl) dX12_known_18 ⟨Nat.zero_le _, Nat.zero_le _⟩ (fun  u H locs hw hP hD hS => ?_)
      obtain ⟨F35, L35, A35, B35⟩ := u
      try dsimp only at hw
      obtain ⟨hq35, g36⟩ := hw
      have hq := hq.call hq35 (by decide)
      have hP : va_P D classes (wM cA ad F35 L35 A35 B35) H := hP
      have hD : va_D Af (wM cA ad F35 L35 A35 B35) := hD
      refine lv_goto (tgt := 37) hx hb dX12_known_21 (by decide) ?_
      exact J37 (F35) (L35) (A35) (B35) H locs ls hq (pR.fr (pR.rf hJ) (hq35.2.1 4 (by decide)) (hq35.2.1 5 (by decide)) (hq35.2.1 1 (by decide)) (hq35.2.1 6 (by decide))) hP hD hS (lv_sub hl [0, 1] rfl)
  · skip
    have r6 : rg x1 0 0 := rg_eq1 c4 (r2 : rg x1 0 1) ((rg_k (by decide)) : rg 0 0 0) (by decide)
    refine lv_iconst (v := 0) hx hb dX12_known_7 (by decide) ?_
    exact hret (0) (F, L, A, B) H locs 8 ls rfl dX12_known_8 hP hD hS ⟨hq, (pR.rf hJ), (rg_k (by decide))⟩
abbrev rm_X12_known_0_s : Room := { frames := 2, cells := 0, slots := 0, locals := 43 }
set_option maxHeartbeats 4000000 in
set_option maxRecDepth 100000 in
theorem c_X12_known_0_s (l : Launch) (D : va_G) (cA : Nat → ClassId) (sz : Nat) (ad : Nat → Nat) (F : Nat → Int32) (L : Nat → Int64) (A : Nat → Nat → Int32) (B : Nat → Nat → Int64) (p1 : Int32) (hT : typM F A) (hp1 : rg p1 (-1) 7) (hJ : pI F) : Met l yX12_known (Cond.code yX12_known cX12_known 2 (some .int) :: GW) rm_X12_known_0_s (mPc D classes (tysM cA) (wM cA ad F L A B) sz [.ref (ad 0), .int p1]) (mQi (S := SW) D classes (tysM cA) (wM cA ad F L A B) sz (wfM cA ad) (fun r u => qM [2, 3, 4, 5, 6, 7] [] F A u.1 u.2.2.1 ∧ pR F u.1 ∧ rg r 0 7)) 0 0 (va_A (wM cA ad F L A B) sz) := by
  refine met_i (own := "ShoeingDayModel") (by decide +kernel) rfl (Nat.le_of_ble_eq_true rfl) ?_
  intro p e s m args below meth c Q Af ls hC hP hD hS hA hl hret
  have hx := hC.1
  have hb := hC.2.1
  have hown := hC.2.2.2.1
  have hg := hC.g
  have hK := hC.K
  have hl : lv_has ls 2 [(0, .ref (ad 0)), (1, .int p1)] := hl
  have hq : qM [2, 3, 4, 5, 6, 7] [] F A F A := qM.rf hT
  obtain ⟨H, hH⟩ : ∃ H, H = s.heap := ⟨_, rfl⟩
  have hP : va_P D classes (wM cA ad F L A B) H := by rw [hH]; exact hP
  have hS : va_S Af s.heap H [] := by rw [hH]; exact hS
  obtain ⟨locs, hlo⟩ : ∃ q : List Loc, q = [] := ⟨_, rfl⟩
  rw [← hH, ← hlo]
  rw [← hlo] at hS
  refine lv_aload_n hx hb dX12_known_0 rfl (lv_at hl 0 rfl) ?_
  refine callv_i (As := []) (rest := []) hC (c_X12_isGood_0 l D cA H.size ad F L A B  hq.1) (cwV 0 hg (g_V mw_1312 mw_1309 mw_1311 ms_50 mw_20) rfl rfl rfl (by decide +kernel) ⟨(Nat.le_of_ble_eq_true rfl), (Nat.le_of_ble_eq_true rfl)⟩) hP hD hS hA atM_0 rfl rfl hl.1 rfl (Nat.le_of_ble_eq_true rfl) dX12_known_1 ⟨Nat.zero_le _, Nat.zero_le _⟩ (fun x1 u H locs hw hP hD hS => ?_)
  obtain ⟨r2, g3⟩ := hw
  have hP : va_P D classes (wM cA ad F L A B) H := hP
  have hD : va_D Af (wM cA ad F L A B) := hD
  refine lv_if_ne (tgt := 9) hx hb dX12_known_4 (by decide) (fun c4 => ?_) (fun c4 => ?_)
  · skip
    have r5 : rg x1 1 1 := (rg_ne1 c4 (r2 : rg x1 0 1) ((rg_k (by decide)) : rg 0 0 0)).1 rfl
    refine lv_aload_n hx hb dX12_known_9 rfl (lv_at hl 0 rfl) ?_
    refine va_get (ci := 12) (v := .int (F 6)) (C := RX12) (T := TX12) (N := 57) hx hb hg inX12 hown hK hP 0 atM_0 rfl 8 (by decide) (hg _ mw_1116) (fun _ h9 => h9) rfl dX12_known_10 ?_
    refine lv_topi (fun x7 e8 => ?_)
    have r9 : rg x7 0 5 := rg_e e8 (hq.1.1 6)
    refine lv_iconst (v := 2) hx hb dX12_known_13 (by decide) ?_
    have J37 : ∀ (F10 : Nat → Int32) (L10 : Nat → Int64) (A10 : Nat → Nat → Int32) (B10 : Nat → Nat → Int64) (H : Heap) (locs : List Loc) (ls : Array Slot), qM [2, 3, 4, 5, 6, 7] [] F A F10 A10 → pR F F10 → va_P D classes (wM cA ad F10 L10 A10 B10) H → va_D Af (wM cA ad F10 L10 A10 B10) → va_S Af s.heap H locs → lv_has ls 2 [(0, .ref (ad 0)), (1, .int p1)] → W p l e rm_X12_known_0_s s m args below meth c H locs 0 0 Q (F0 m 37 ls []) := by
      intro F10 L10 A10 B10 H locs ls hq i11 hP hD hS hl
      refine lv_aload_n hx hb dX12_known_37 rfl (lv_at hl 0 rfl) ?_
      refine callv_i (As := []) (rest := []) hC (c_X12_isGood_0 l D cA H.size ad F10 L10 A10 B10  hq.1) (cwV 0 hg (g_V mw_1312 mw_1309 mw_1311 ms_50 mw_20) rfl rfl rfl (by decide +kernel) ⟨(Nat.le_of_ble_eq_true rfl), (Nat.le_of_ble_eq_true rfl)⟩) hP hD hS hA atM_0 rfl rfl hl.1 rfl (Nat.le_of_ble_eq_true rfl) dX12_known_38 ⟨Nat.zero_le _, Nat.zero_le _⟩ (fun x12 u H locs hw hP hD hS => ?_)
      obtain ⟨r13, g14⟩ := hw
      have hP : va_P D classes (wM cA ad F10 L10 A10 B10) H := hP
      have hD : va_D Af (wM cA ad F10 L10 A10 B10) := hD
      have J48 : ∀ (F15 : Nat → Int32) (L15 : Nat → Int64) (A15 : Nat → Nat → Int32) (B15 : Nat → Nat → Int64) (H : Heap) (locs : List Loc) (ls : Array Slot), qM [2, 3, 4, 5, 6, 7] [] F A F15 A15 → pR F F15 → va_P D classes (wM cA ad F15 L15 A15 B15) H → va_D Af (wM cA ad F15 L15 A15 B15) → va_S Af s.heap H locs → lv_has ls 2 [(1, .int p1)] → W p l e rm_X12_known_0_s s m args below meth c H locs 0 0 Q (F0 m 48 ls []) := by
        intro F15 L15 A15 B15 H locs ls hq i16 hP hD hS hl
        refine lv_iload_n hx hb dX12_known_48 rfl (lv_at hl 0 rfl) ?_
        refine lv_if_ge (tgt := 56) hx hb dX12_known_49 (by decide) (fun c17 => ?_) (fun c17 => ?_)
        · skip
          have r18 : rg p1 0 7 := rg_le2 (iE c17) ((rg_k (by decide)) : rg 0 0 0) (hp1 : rg p1 (-1) 7)
          refine lv_iload_n hx hb dX12_known_56 rfl (lv_at hl 0 rfl) ?_
          exact hret (p1) (F15, L15, A15, B15) H locs 57 ls rfl dX12_known_57 hP hD hS ⟨hq, i16, r18⟩
        · skip
          have r19 : rg p1 (-1) (-1) := rg_lt1 (iNE c17) (hp1 : rg p1 (-1) 7) ((rg_k (by decide)) : rg 0 0 0)
          refine lv_iconst (v := 0) hx hb dX12_known_52 (by decide) ?_
          refine lv_goto (tgt := 57) hx hb dX12_known_53 (by decide) ?_
          exact hret (0) (F15, L15, A15, B15) H locs 57 ls rfl dX12_known_57 hP hD hS ⟨hq, i16, (rg_k (by decide))⟩
      refine lv_if_eq (tgt := 48) hx hb dX12_known_41 (by decide) (fun c20 => ?_) (fun c20 => ?_)
      · skip
        have r21 : rg x12 0 0 := rg_eq1 c20 (r13 : rg x12 0 1) ((rg_k (by decide)) : rg 0 0 0) (by decide)
        exact J48 (F10) (L10) (A10) (B10) H locs ls hq i11 hP hD hS (lv_sub hl [1] rfl)
      · skip
        have r22 : rg x12 1 1 := (rg_ne1 c20 (r13 : rg x12 0 1) ((rg_k (by decide)) : rg 0 0 0)).1 rfl
        refine lv_aload_n hx hb dX12_known_44 rfl (lv_at hl 0 rfl) ?_
        refine callv_v (As := []) (rest := []) hC (c_X12_goOn_0 l D cA H.size ad F10 L10 A10 B10  hq.1 (i11).1.2.1) (cwV 0 hg (g_V mw_1288 mw_1285 mw_1287 ms_48 mw_20) rfl rfl rfl (by decide +kernel) ⟨(Nat.le_of_ble_eq_true rfl), (Nat.le_of_ble_eq_true rfl)⟩) hP hD hS hA atM_0 rfl rfl hl.1 rfl (Nat.le_of_ble_eq_true rfl) dX12_known_45 ⟨Nat.zero_le _, Nat.zero_le _⟩ (fun  u H locs hw hP hD hS => ?_)
        obtain ⟨F23, L23, A23, B23⟩ := u
        try dsimp only at hw
        obtain ⟨hq23, g24⟩ := hw
        have hq := hq.call hq23 (by decide)
        have hP : va_P D classes (wM cA ad F23 L23 A23 B23) H := hP
        have hD : va_D Af (wM cA ad F23 L23 A23 B23) := hD
        exact J48 (F23) (L23) (A23) (B23) H locs ls hq (pR.go i11 g24) hP hD hS (lv_sub hl [1] rfl)
    refine lv_icmp_eq (tgt := 24) hx hb dX12_known_14 (by decide) (fun c25 => ?_) (fun c25 => ?_)
    · skip
      have r26 : rg x7 2 2 := rg_eq1 c25 (r9 : rg x7 0 5) ((rg_k (by decide)) : rg 2 2 2) (by decide)
      refine lv_iload_n hx hb dX12_known_24 rfl (lv_at hl 1 rfl) ?_
      refine lv_if_ge (tgt := 37) hx hb dX12_known_25 (by decide) (fun c27 => ?_) (fun c27 => ?_)
      · skip
        have r28 : rg p1 0 7 := rg_le2 (iE c27) ((rg_k (by decide)) : rg 0 0 0) (hp1 : rg p1 (-1) 7)
        exact J37 (F) (L) (A) (B) H locs ls hq (pR.rf hJ) hP hD hS (lv_sub hl [0, 1] rfl)
      · skip
        have r29 : rg p1 (-1) (-1) := rg_lt1 (iNE c27) (hp1 : rg p1 (-1) 7) ((rg_k (by decide)) : rg 0 0 0)
        refine lv_aload_n hx hb dX12_known_28 rfl (lv_at hl 0 rfl) ?_
        refine lv_iconst (v := 5) hx hb dX12_known_29 (by decide) ?_
        refine lv_aload_n hx hb dX12_known_30 rfl (lv_at hl 0 rfl) ?_
        refine va_get (ci := 12) (v := .int (F 4)) (C := RX12) (T := TX12) (N := 57) hx hb hg inX12 hown hK hP 0 atM_0 rfl 6 (by decide) (hg _ mw_1114) (fun _ h9 => h9) rfl dX12_known_31 ?_
        refine lv_topi (fun x30 e31 => ?_)
        have r32 : rg x30 0 1700 := rg_e e31 (hq.1.1 4)
        refine callv_v (As := [.int 5, .int x30]) (rest := []) hC (c_X12_fails_0 l D cA H.size ad F L A B (5) (x30) hq.1 (rg_k (by decide)) r32) (cwV 2 hg (g_V mw_1332 mw_1329 mw_1331 ms_55 mw_20) rfl rfl rfl (by decide +kernel) ⟨(Nat.le_of_ble_eq_true rfl), (Nat.le_of_ble_eq_true rfl)⟩) hP hD hS hA atM_0 rfl rfl hl.1 rfl (Nat.le_of_ble_eq_true rfl) dX12_known_34 ⟨Nat.zero_le _, Nat.zero_le _⟩ (fun  u H locs hw hP hD hS => ?_)
        obtain ⟨F33, L33, A33, B33⟩ := u
        try dsimp only at hw
        obtain ⟨hq33, g34⟩ := hw
        have hq := hq.call hq33 (by decide)
        have hP : va_P D classes (wM cA ad F33 L33 A33 B33) H := hP
        have hD : va_D Af (wM cA ad F33 L33 A33 B33) := hD
        exact J37 (F33) (L33) (A33) (B33) H locs ls hq (pR.fr (pR.rf hJ) (hq33.2.1 4 (by decide)) (hq33.2.1 5 (by decide)) (hq33.2.1 1 (by decide)) (hq33.2.1 6 (by decide))) hP hD hS (lv_sub hl [0, 1] rfl)
    · skip
      refine lv_aload_n hx hb dX12_known_17 rfl (lv_at hl 0 rfl) ?_
      refine callv_v (As := []) (rest := []) hC (c_X12_misplaced_0 l D cA H.size ad F L A B  hq.1) (cwV 0 hg (g_V mw_1328 mw_1325 mw_1327 ms_54 mw_20) rfl rfl rfl (by decide +kernel) ⟨(Nat.le_of_ble_eq_true rfl), (Nat.le_of_ble_eq_true rfl)⟩) hP hD hS hA atM_0 rfl rfl hl.1 rfl (Nat.le_of_ble_eq_true rfl) dX12_known_18 ⟨Nat.zero_le _, Nat.zero_le _⟩ (fun  u H locs hw hP hD hS => ?_)
      obtain ⟨F35, L35, A35, B35⟩ := u
      try dsimp only at hw
      obtain ⟨hq35, g36⟩ := hw
      have hq := hq.call hq35 (by decide)
      have hP : va_P D classes (wM cA ad F35 L35 A35 B35) H := hP
      have hD : va_D Af (wM cA ad F35 L35 A35 B35) := hD
      refine lv_goto (tgt := 37) hx hb dX12_known_21 (by decide) ?_
      exact J37 (F35) (L35) (A35) (B35) H locs ls hq (pR.fr (pR.rf hJ) (hq35.2.1 4 (by decide)) (hq35.2.1 5 (by decide)) (hq35.2.1 1 (by decide)) (hq35.2.1 6 (by decide))) hP hD hS (lv_sub hl [0, 1] rfl)
  · skip
    have r6 : rg x1 0 0 := rg_eq1 c4 (r2 : rg x1 0 1) ((rg_k (by decide)) : rg 0 0 0) (by decide)
    refine lv_iconst (v := 0) hx hb dX12_known_7 (by decide) ?_
    exact hret (0) (F, L, A, B) H locs 8 ls rfl dX12_known_8 hP hD hS ⟨hq, (pR.rf hJ), (rg_k (by decide))⟩
abbrev rm_X12_smithHere_0 : Room := { frames := 0, cells := 0, slots := 0, locals := 0 }
set_option maxHeartbeats 4000000 in
set_option maxRecDepth 100000 in
theorem c_X12_smithHere_0 (l : Launch) (D : va_G) (cA : Nat → ClassId) (sz : Nat) (ad : Nat → Nat) (F : Nat → Int32) (L : Nat → Int64) (A : Nat → Nat → Int32) (B : Nat → Nat → Int64)  (hT : typM F A) : Met l yX12_smithHere (Cond.code yX12_smithHere cX12_smithHere 2 (some .int) :: GW) rm_X12_smithHere_0 (mPc D classes (tysM cA) (wM cA ad F L A B) sz [.ref (ad 0)]) (mQi (S := Unit) D classes (tysM cA) (wM cA ad F L A B) sz (fun _ : Unit => wM cA ad F L A B) (fun r u => rg r (-1) 7)) 0 0 (va_A (wM cA ad F L A B) sz) := by
  refine met_i (own := "ShoeingDayModel") (by decide +kernel) rfl (Nat.le_of_ble_eq_true rfl) ?_
  intro p e s m args below meth c Q Af ls hC hP hD hS hA hl hret
  have hx := hC.1
  have hb := hC.2.1
  have hown := hC.2.2.2.1
  have hg := hC.g
  have hK := hC.K
  have hl : lv_has ls 2 [(0, .ref (ad 0))] := hl
  have hq : qM [] [] F A F A := qM.rf hT
  obtain ⟨H, hH⟩ : ∃ H, H = s.heap := ⟨_, rfl⟩
  have hP : va_P D classes (wM cA ad F L A B) H := by rw [hH]; exact hP
  have hS : va_S Af s.heap H [] := by rw [hH]; exact hS
  obtain ⟨locs, hlo⟩ : ∃ q : List Loc, q = [] := ⟨_, rfl⟩
  rw [← hH, ← hlo]
  rw [← hlo] at hS
  refine lv_iconst (v := 0) hx hb dX12_smithHere_0 (by decide) ?_
  refine lv_istore_n (lv' := [(1, .int 0), (0, .ref (ad 0))]) hx hb dX12_smithHere_1 rfl hl (by decide) rfl (fun ls hl => ?_)
  have J2 : ∀ (n2 : Nat) (a1 : Int32) (H : Heap) (locs : List Loc) (ls : Array Slot), (8 - a1.toInt).toNat < n2 → rg a1 0 8 → va_P D classes (wM cA ad F L A B) H → va_D Af (wM cA ad F L A B) → va_S Af s.heap H locs → lv_has ls 2 [(0, .ref (ad 0)), (1, .int a1)] → W p l e rm_X12_smithHere_0 s m args below meth c H locs 0 0 Q (F0 m 2 ls []) := by
    intro n2
    induction n2 with
    | zero =>
      intro _ _ _ _ hn
      exact absurd hn (Nat.not_lt_zero _)
    | succ n2 ih2 =>
      intro a1 H locs ls hn2 r2 hP hD hS hl
      refine lv_iload_n hx hb dX12_smithHere_2 rfl (lv_at hl 1 rfl) ?_
      refine lv_aload_n hx hb dX12_smithHere_3 rfl (lv_at hl 0 rfl) ?_
      refine va_get (ci := 12) (v := .ref (ad 3)) (C := RX12) (T := TX12) (N := 57) hx hb hg inX12 hown hK hP 0 atM_0 rfl 11 (by decide) (hg _ mw_1119) (fun _ h9 => h9) rfl dX12_smithHere_4 ?_
      refine lv_aload_n hx hb dX12_smithHere_7 rfl (lv_at hl 0 rfl) ?_
      refine va_get (ci := 12) (v := .int (F 9)) (C := RX12) (T := TX12) (N := 57) hx hb hg inX12 hown hK hP 0 atM_0 rfl 25 (by decide) (hg _ mw_1133) (fun _ h9 => h9) rfl dX12_smithHere_8 ?_
      refine lv_topi (fun x3 e4 => ?_)
      have r5 : rg x3 0 1 := rg_e e4 (hq.1.1 9)
      refine va_iald hx hb hK hP 3 2 atM_3 tyM_3 (in_rg r5 (by decide)) dX12_smithHere_11 ?_
      refine lv_topi (fun x6 e7 => ?_)
      have r8 : rg x6 0 8 := rg_e e7 (hq.1.2 3 _)
      refine lv_icmp_ge (tgt := 53) hx hb dX12_smithHere_12 (by decide) (fun c9 => ?_) (fun c9 => ?_)
      · skip
        refine lv_iconst (v := (-1)) hx hb dX12_smithHere_53 (by decide) ?_
        exact hret ((-1)) () H locs 54 ls rfl dX12_smithHere_54 hP hD hS (rg_k (by decide))
      · skip
        have r10 : rg a1 0 7 := rg_lt1 (iNE c9) (r2 : rg a1 0 8) (r8 : rg x6 0 8)
        have r11 : rg x6 1 8 := rg_lt2 (iNE c9) (r2 : rg a1 0 8) (r8 : rg x6 0 8)
        refine lv_aload_n hx hb dX12_smithHere_15 rfl (lv_at hl 0 rfl) ?_
        refine va_get (ci := 12) (v := .int (F 6)) (C := RX12) (T := TX12) (N := 57) hx hb hg inX12 hown hK hP 0 atM_0 rfl 8 (by decide) (hg _ mw_1116) (fun _ h9 => h9) rfl dX12_smithHere_16 ?_
        refine lv_topi (fun x12 e13 => ?_)
        have r14 : rg x12 0 5 := rg_e e13 (hq.1.1 6)
        refine lv_iconst (v := 2) hx hb dX12_smithHere_19 (by decide) ?_
        have J47 : ∀ (H : Heap) (locs : List Loc) (ls : Array Slot), va_P D classes (wM cA ad F L A B) H → va_D Af (wM cA ad F L A B) → va_S Af s.heap H locs → lv_has ls 2 [(0, .ref (ad 0)), (1, .int a1)] → W p l e rm_X12_smithHere_0 s m args below meth c H locs 0 0 Q (F0 m 47 ls []) := by
          intro H locs ls hP hD hS hl
          obtain ⟨x15, e16⟩ : ∃ y : Int32, y = a1 + 1 := ⟨_, rfl⟩
          have r17 : rg x15 1 8 := rg_add e16 r10 (rg_k (by decide) : rg 1 1 1) (by decide)
          refine lv_iinc (v := x15) (lv' := [(1, .int x15), (0, .ref (ad 0))]) hx hb dX12_smithHere_47 hl (k := 1) rfl (by rw [e16]; rfl) (by decide) rfl (fun ls hl => ?_)
          refine lv_goto (tgt := 2) hx hb dX12_smithHere_50 (by decide) ?_
          exact ih2 (x15) H locs ls (by have h0 : (1 : Int32).toInt = 1 := rfl; have h1 := ti_addk e16 r10 (by decide); have h2 : rg x15 0 8 := (rg_w r17 (by decide)); unfold rg at h2; omega) (rg_w r17 (by decide)) hP hD hS (lv_sub hl [1, 0] rfl)
        refine lv_icmp_ne (tgt := 47) hx hb dX12_smithHere_20 (by decide) (fun c18 => ?_) (fun c18 => ?_)
        · skip
          exact J47  H locs ls  hP hD hS (lv_sub hl [0, 1] rfl)
        · skip
          have r19 : rg x12 2 2 := rg_eq1 c18 (r14 : rg x12 0 5) ((rg_k (by decide)) : rg 2 2 2) (by decide)
          refine lv_aload_n hx hb dX12_smithHere_23 rfl (lv_at hl 0 rfl) ?_
          refine va_get (ci := 12) (v := .ref (ad 14)) (C := RX12) (T := TX12) (N := 57) hx hb hg inX12 hown hK hP 0 atM_0 rfl 22 (by decide) (hg _ mw_1130) (fun _ h9 => h9) rfl dX12_smithHere_24 ?_
          refine lv_bipush (v := 8) hx hb dX12_smithHere_27 (by decide) ?_
          refine lv_aload_n hx hb dX12_smithHere_29 rfl (lv_at hl 0 rfl) ?_
          refine va_get (ci := 12) (v := .int x3) (C := RX12) (T := TX12) (N := 57) hx hb hg inX12 hown hK hP 0 atM_0 rfl 25 (by decide) (hg _ mw_1133) (fun _ h9 => h9) (congrArg (fun z => some (Value.int z)) (e4.symm)) dX12_smithHere_30 ?_
          refine lv_imul hx hb dX12_smithHere_33 ?_
          refine lv_topi (fun x20 e21 => ?_)
          have r22 : rg x20 0 8 := rg_mul e21 ((rg_k (by decide)) : rg 8 8 8) r5 (by decide)
          refine lv_iload_n hx hb dX12_smithHere_34 rfl (lv_at hl 1 rfl) ?_
          refine lv_iadd hx hb dX12_smithHere_35 ?_
          refine lv_topi (fun x23 e24 => ?_)
          have r25 : rg x23 0 15 := rg_add e24 r22 r10 (by decide)
          refine va_lald hx hb hK hP 14 13 atM_14 tyM_14 (in_rg r25 (by decide)) dX12_smithHere_36 ?_
          refine lv_topl (fun z26 _ => ?_)
          refine lv_aload_n hx hb dX12_smithHere_37 rfl (lv_at hl 0 rfl) ?_
          refine va_get (ci := 12) (v := .long (L 0)) (C := RX12) (T := TX12) (N := 57) hx hb hg inX12 hown hK hP 0 atM_0 rfl 10 (by decide) (hg _ mw_1118) (fun _ h9 => h9) rfl dX12_smithHere_38 ?_
          refine lv_topl (fun z27 e28 => ?_)
          refine W.lcmp hx hb dX12_smithHere_41 ?_
          refine lv_topi (fun x29 e30 => ?_)
          refine lv_if_ne (tgt := 47) hx hb dX12_smithHere_42 (by decide) (fun c31 => ?_) (fun c31 => ?_)
          · skip
            exact J47  H locs ls  hP hD hS (lv_sub hl [0, 1] rfl)
          · skip
            have r32 : rg x29 0 0 := rg_eq1 c31 ((rg_top _) : rg x29 (-2147483648) 2147483647) ((rg_k (by decide)) : rg 0 0 0) (by decide)
            refine lv_iload_n hx hb dX12_smithHere_45 rfl (lv_at hl 1 rfl) ?_
            exact hret (a1) () H locs 46 ls rfl dX12_smithHere_46 hP hD hS (rg_w r10 (by decide))
  exact J2 _ (0) H locs ls (Nat.lt_succ_self _) (rg_k (by decide)) hP hD hS (lv_sub hl [1, 0] rfl)
abbrev rm_X12_readHours_0 : Room := { frames := 3, cells := 0, slots := 0, locals := 66 }
set_option maxHeartbeats 4000000 in
set_option maxRecDepth 100000 in
theorem c_X12_readHours_0 (l : Launch) (D : va_G) (cA : Nat → ClassId) (sz : Nat) (ad : Nat → Nat) (F : Nat → Int32) (L : Nat → Int64) (A : Nat → Nat → Int32) (B : Nat → Nat → Int64)  (hT : typM F A) (hJ : pI F) : Met l yX12_readHours (Cond.code yX12_readHours cX12_readHours 5 none :: GW) rm_X12_readHours_0 (mPc D classes (tysM cA) (wM cA ad F L A B) sz [.ref (ad 0)]) (mQv (S := SW) D classes (tysM cA) (wM cA ad F L A B) sz (wfM cA ad) (fun u => qM [2, 3, 4, 5, 6, 7] [5, 10, 12] F A u.1 u.2.2.1 ∧ pR F u.1)) 0 0 (va_A (wM cA ad F L A B) sz) := by
  refine met_v (own := "ShoeingDayModel") (by decide +kernel) rfl (Nat.le_of_ble_eq_true rfl) ?_
  intro p e s m args below meth c Q Af ls hC hP hD hS hA hl hret
  have hx := hC.1
  have hb := hC.2.1
  have hown := hC.2.2.2.1
  have hg := hC.g
  have hK := hC.K
  have hl : lv_has ls 5 [(0, .ref (ad 0))] := hl
  have hq : qM [2, 3, 4, 5, 6, 7] [5, 10, 12] F A F A := qM.rf hT
  obtain ⟨H, hH⟩ : ∃ H, H = s.heap := ⟨_, rfl⟩
  have hP : va_P D classes (wM cA ad F L A B) H := by rw [hH]; exact hP
  have hS : va_S Af s.heap H [] := by rw [hH]; exact hS
  obtain ⟨locs, hlo⟩ : ∃ q : List Loc, q = [] := ⟨_, rfl⟩
  rw [← hH, ← hlo]
  rw [← hlo] at hS
  refine lv_aload_n hx hb dX12_readHours_0 rfl (lv_at hl 0 rfl) ?_
  refine lv_aload_n hx hb dX12_readHours_1 rfl (lv_at hl 0 rfl) ?_
  refine callv_i (As := []) (rest := [.ref (ad 0)]) hC (c_X12_smithHere_0 l D cA H.size ad F L A B  hq.1) (cwV 0 hg (g_V mw_1340 mw_1337 mw_1339 ms_57 mw_20) rfl rfl rfl (by decide +kernel) ⟨(Nat.le_of_ble_eq_true rfl), (Nat.le_of_ble_eq_true rfl)⟩) hP hD hS hA atM_0 rfl rfl hl.1 rfl (Nat.le_of_ble_eq_true rfl) dX12_readHours_2 ⟨Nat.zero_le _, Nat.zero_le _⟩ (fun x1 u H locs hw hP hD hS => ?_)
  have r2 := hw
  have hP : va_P D classes (wM cA ad F L A B) H := hP
  have hD : va_D Af (wM cA ad F L A B) := hD
  refine callv_i (As := [.int x1]) (rest := []) hC (c_X12_known_0_s l D cA H.size ad F L A B (x1) hq.1 r2 ((pR.rf hJ)).1) (cwV 1 hg (g_V mw_1368 mw_1365 mw_1367 ms_64 mw_20) rfl rfl rfl (by decide +kernel) ⟨(Nat.le_of_ble_eq_true rfl), (Nat.le_of_ble_eq_true rfl)⟩) hP hD hS hA atM_0 rfl rfl hl.1 rfl (Nat.le_of_ble_eq_true rfl) dX12_readHours_5 ⟨Nat.zero_le _, Nat.zero_le _⟩ (fun x3 u H locs hw hP hD hS => ?_)
  obtain ⟨F4, L4, A4, B4⟩ := u
  try dsimp only at hw
  obtain ⟨hq4, g5, r6⟩ := hw
  have hq := hq.call hq4 (by decide)
  have hP : va_P D classes (wM cA ad F4 L4 A4 B4) H := hP
  have hD : va_D Af (wM cA ad F4 L4 A4 B4) := hD
  refine lv_istore_n (lv' := [(1, .int x3), (0, .ref (ad 0))]) hx hb dX12_readHours_8 rfl hl (by decide) rfl (fun ls hl => ?_)
  refine lv_aload_n hx hb dX12_readHours_9 rfl (lv_at hl 1 rfl) ?_
  refine callv_i (As := []) (rest := []) hC (c_X12_horseHere_0 l D cA H.size ad F4 L4 A4 B4  hq.1) (cwV 0 hg (g_V mw_1360 mw_1357 mw_1359 ms_62 mw_20) rfl rfl rfl (by decide +kernel) ⟨(Nat.le_of_ble_eq_true rfl), (Nat.le_of_ble_eq_true rfl)⟩) hP hD hS hA atM_0 rfl rfl hl.1 rfl (Nat.le_of_ble_eq_true rfl) dX12_readHours_10 ⟨Nat.zero_le _, Nat.zero_le _⟩ (fun x7 u H locs hw hP hD hS => ?_)
  have r8 := hw
  have hP : va_P D classes (wM cA ad F4 L4 A4 B4) H := hP
  have hD : va_D Af (wM cA ad F4 L4 A4 B4) := hD
  refine lv_istore_n (lv' := [(2, .int x7), (1, .int x3), (0, .ref (ad 0))]) hx hb dX12_readHours_13 rfl hl (by decide) rfl (fun ls hl => ?_)
  refine lv_bipush (v := 80) hx hb dX12_readHours_14 (by decide) ?_
  refine lv_aload_n hx hb dX12_readHours_16 rfl (lv_at hl 2 rfl) ?_
  refine va_get (ci := 12) (v := .int (F4 9)) (C := RX12) (T := TX12) (N := 57) hx hb hg inX12 hown hK hP 0 atM_0 rfl 25 (by decide) (hg _ mw_1133) (fun _ h9 => h9) rfl dX12_readHours_17 ?_
  refine lv_topi (fun x9 e10 => ?_)
  have r11 : rg x9 0 1 := rg_e e10 (hq.1.1 9)
  refine lv_imul hx hb dX12_readHours_20 ?_
  refine lv_topi (fun x12 e13 => ?_)
  have r14 : rg x12 0 80 := rg_mul e13 ((rg_k (by decide)) : rg 80 80 80) r11 (by decide)
  refine lv_bipush (v := 10) hx hb dX12_readHours_21 (by decide) ?_
  refine lv_iload_n hx hb dX12_readHours_23 rfl (lv_at hl 1 rfl) ?_
  refine lv_imul hx hb dX12_readHours_24 ?_
  refine lv_topi (fun x15 e16 => ?_)
  have r17 : rg x15 0 70 := rg_mul e16 ((rg_k (by decide)) : rg 10 10 10) r6 (by decide)
  refine lv_iadd hx hb dX12_readHours_25 ?_
  refine lv_topi (fun x18 e19 => ?_)
  have r20 : rg x18 0 150 := rg_add e19 r14 r17 (by decide)
  refine lv_iload_n hx hb dX12_readHours_26 rfl (lv_at hl 0 rfl) ?_
  have J35 : ∀ (a21 : Int32) (F23 : Nat → Int32) (L23 : Nat → Int64) (A23 : Nat → Nat → Int32) (B23 : Nat → Nat → Int64) (H : Heap) (locs : List Loc) (ls : Array Slot), rg a21 0 9 → qM [2, 3, 4, 5, 6, 7] [5, 10, 12] F A F23 A23 → pR F F23 → F23 9 = x9 → va_P D classes (wM cA ad F23 L23 A23 B23) H → va_D Af (wM cA ad F23 L23 A23 B23) → va_S Af s.heap H locs → lv_has ls 5 [(0, .ref (ad 0)), (2, .int x7)] → W p l e rm_X12_readHours_0 s m args below meth c H locs 0 0 Q (F0 m 35 ls [.int a21, .int x18]) := by
    intro a21 F23 L23 A23 B23 H locs ls r22 hq i24 f25 hP hD hS hl
    refine lv_iadd hx hb dX12_readHours_35 ?_
    refine lv_topi (fun x26 e27 => ?_)
    have r28 : rg x26 0 159 := rg_add e27 r20 r22 (by decide)
    refine lv_istore_n (lv' := [(3, .int x26), (0, .ref (ad 0)), (2, .int x7)]) hx hb dX12_readHours_36 rfl hl (by decide) rfl (fun ls hl => ?_)
    refine lv_aload_n hx hb dX12_readHours_37 rfl (lv_at hl 1 rfl) ?_
    refine callv_i (As := []) (rest := []) hC (c_X12_isGood_0 l D cA H.size ad F23 L23 A23 B23  hq.1) (cwV 0 hg (g_V mw_1312 mw_1309 mw_1311 ms_50 mw_20) rfl rfl rfl (by decide +kernel) ⟨(Nat.le_of_ble_eq_true rfl), (Nat.le_of_ble_eq_true rfl)⟩) hP hD hS hA atM_0 rfl rfl hl.1 rfl (Nat.le_of_ble_eq_true rfl) dX12_readHours_38 ⟨Nat.zero_le _, Nat.zero_le _⟩ (fun x29 u H locs hw hP hD hS => ?_)
    obtain ⟨r30, g31⟩ := hw
    have hP : va_P D classes (wM cA ad F23 L23 A23 B23) H := hP
    have hD : va_D Af (wM cA ad F23 L23 A23 B23) := hD
    have J66 : ∀ (F32 : Nat → Int32) (L32 : Nat → Int64) (A32 : Nat → Nat → Int32) (B32 : Nat → Nat → Int64) (H : Heap) (locs : List Loc) (ls : Array Slot), qM [2, 3, 4, 5, 6, 7] [5, 10, 12] F A F32 A32 → pR F F32 → F32 9 = x9 → va_P D classes (wM cA ad F32 L32 A32 B32) H → va_D Af (wM cA ad F32 L32 A32 B32) → va_S Af s.heap H locs → lv_has ls 5 [(0, .ref (ad 0)), (2, .int x7), (3, .int x26)] → W p l e rm_X12_readHours_0 s m args below meth c H locs 0 0 Q (F0 m 66 ls []) := by
      intro F32 L32 A32 B32 H locs ls hq i33 f34 hP hD hS hl
      refine lv_aload_n hx hb dX12_readHours_66 rfl (lv_at hl 0 rfl) ?_
      refine lv_iload_n hx hb dX12_readHours_67 rfl (lv_at hl 1 rfl) ?_
      refine callv_i (As := [.int x7]) (rest := []) hC (c_X12_known_0_h l D cA H.size ad F32 L32 A32 B32 (x7) hq.1 r8 (i33).1) (cwV 1 hg (g_V mw_1368 mw_1365 mw_1367 ms_64 mw_20) rfl rfl rfl (by decide +kernel) ⟨(Nat.le_of_ble_eq_true rfl), (Nat.le_of_ble_eq_true rfl)⟩) hP hD hS hA atM_0 rfl rfl hl.1 rfl (Nat.le_of_ble_eq_true rfl) dX12_readHours_68 ⟨Nat.zero_le _, Nat.zero_le _⟩ (fun x35 u H locs hw hP hD hS => ?_)
      obtain ⟨F36, L36, A36, B36⟩ := u
      try dsimp only at hw
      obtain ⟨hq36, g37, r38⟩ := hw
      have hq := hq.call hq36 (by decide)
      have hP : va_P D classes (wM cA ad F36 L36 A36 B36) H := hP
      have hD : va_D Af (wM cA ad F36 L36 A36 B36) := hD
      refine lv_pop hx hb dX12_readHours_71 rfl ?_
      refine lv_aload_n hx hb dX12_readHours_72 rfl (lv_at hl 0 rfl) ?_
      refine lv_iconst (v := 0) hx hb dX12_readHours_73 (by decide) ?_
      refine lv_bipush (v := 99) hx hb dX12_readHours_74 (by decide) ?_
      refine callv_i (As := [.int 0, .int 99]) (rest := []) hC (c_X12_numeral_0 l D cA H.size ad F36 L36 A36 B36 (0) (99) hq.1 (rg_k (by decide)) (rg_k (by decide)) ((pR.tr i33 g37)).1) (cwV 2 hg (g_V mw_1352 mw_1349 mw_1351 ms_60 mw_20) rfl rfl rfl (by decide +kernel) ⟨(Nat.le_of_ble_eq_true rfl), (Nat.le_of_ble_eq_true rfl)⟩) hP hD hS hA atM_0 rfl rfl hl.1 rfl (Nat.le_of_ble_eq_true rfl) dX12_readHours_76 ⟨Nat.zero_le _, Nat.zero_le _⟩ (fun x39 u H locs hw hP hD hS => ?_)
      obtain ⟨F40, L40, A40, B40⟩ := u
      try dsimp only at hw
      obtain ⟨hq40, g41⟩ := hw
      have hq := hq.call hq40 (by decide)
      have hP : va_P D classes (wM cA ad F40 L40 A40 B40) H := hP
      have hD : va_D Af (wM cA ad F40 L40 A40 B40) := hD
      refine lv_istore (lv' := [(4, .int x39), (0, .ref (ad 0)), (2, .int x7), (3, .int x26)]) hx hb dX12_readHours_79 hl (by decide) rfl (fun ls hl => ?_)
      refine lv_aload_n hx hb dX12_readHours_81 rfl (lv_at hl 1 rfl) ?_
      refine callv_i (As := []) (rest := []) hC (c_X12_isGood_0 l D cA H.size ad F40 L40 A40 B40  hq.1) (cwV 0 hg (g_V mw_1312 mw_1309 mw_1311 ms_50 mw_20) rfl rfl rfl (by decide +kernel) ⟨(Nat.le_of_ble_eq_true rfl), (Nat.le_of_ble_eq_true rfl)⟩) hP hD hS hA atM_0 rfl rfl hl.1 rfl (Nat.le_of_ble_eq_true rfl) dX12_readHours_82 ⟨Nat.zero_le _, Nat.zero_le _⟩ (fun x42 u H locs hw hP hD hS => ?_)
      obtain ⟨r43, g44⟩ := hw
      have hP : va_P D classes (wM cA ad F40 L40 A40 B40) H := hP
      have hD : va_D Af (wM cA ad F40 L40 A40 B40) := hD
      refine lv_if_ne (tgt := 89) hx hb dX12_readHours_85 (by decide) (fun c45 => ?_) (fun c45 => ?_)
      · skip
        have r46 : rg x42 1 1 := (rg_ne1 c45 (r43 : rg x42 0 1) ((rg_k (by decide)) : rg 0 0 0)).1 rfl
        refine lv_aload_n hx hb dX12_readHours_89 rfl (lv_at hl 1 rfl) ?_
        refine va_get (ci := 12) (v := .ref (ad 10)) (C := RX12) (T := TX12) (N := 57) hx hb hg inX12 hown hK hP 0 atM_0 rfl 18 (by decide) (hg _ mw_1126) (fun _ h9 => h9) rfl dX12_readHours_90 ?_
        refine lv_iload_n hx hb dX12_readHours_93 rfl (lv_at hl 3 rfl) ?_
        refine lv_iload hx hb dX12_readHours_94 (lv_at hl 0 rfl) ?_
        refine va_iast hx hb hK hP hD hS 10 9 atM_10 tyM_10 (in_rg r28 (by decide)) dX12_readHours_96 (fun H locs hP hD hS => ?_)
        have hq := hq.ast 10 (x26).toNatClampNeg (x := x39) (by decide) (rg_top _)
        rw [setM_10] at hP hD
        have k48 : x39 = (va_up A40 10 (upd (A40 10) (x26).toNatClampNeg x39)) 10 (x26).toNatClampNeg := (rdA).symm
        refine lv_aload_n hx hb dX12_readHours_97 rfl (lv_at hl 1 rfl) ?_
        refine va_get (ci := 12) (v := .ref (ad 12)) (C := RX12) (T := TX12) (N := 57) hx hb hg inX12 hown hK hP 0 atM_0 rfl 20 (by decide) (hg _ mw_1128) (fun _ h9 => h9) rfl dX12_readHours_98 ?_
        refine lv_iload_n hx hb dX12_readHours_101 rfl (lv_at hl 3 rfl) ?_
        refine lv_iconst (v := 1) hx hb dX12_readHours_102 (by decide) ?_
        refine va_zast hx hb hK hP hD hS 12 11 atM_12 tyM_12 (in_rg r28 (by decide)) dX12_readHours_103 (fun H locs hP hD hS => ?_)
        have hq := hq.ast 12 (x26).toNatClampNeg (x := (vp_nar .boolean 1)) (by decide) (rg_nz _)
        rw [setM_12] at hP hD
        refine lv_aload_n hx hb dX12_readHours_104 rfl (lv_at hl 1 rfl) ?_
        refine va_get (ci := 12) (v := .ref (ad 5)) (C := RX12) (T := TX12) (N := 57) hx hb hg inX12 hown hK hP 0 atM_0 rfl 13 (by decide) (hg _ mw_1121) (fun _ h9 => h9) rfl dX12_readHours_105 ?_
        refine lv_aload_n hx hb dX12_readHours_108 rfl (lv_at hl 1 rfl) ?_
        refine va_get (ci := 12) (v := .int x9) (C := RX12) (T := TX12) (N := 57) hx hb hg inX12 hown hK hP 0 atM_0 rfl 25 (by decide) (hg _ mw_1133) (fun _ h9 => h9) (congrArg (fun z => some (Value.int z)) ((hq40.2.1 9 (by decide)).trans ((hq36.2.1 9 (by decide)).trans (f34)))) dX12_readHours_109 ?_
        refine lv_dup2_11 hx hb dX12_readHours_112 rfl rfl ?_
        refine va_iald hx hb hK hP 5 4 atM_5 tyM_5 (in_rg r11 (by decide)) dX12_readHours_113 ?_
        refine lv_topi (fun x49 e50 => ?_)
        refine lv_iconst (v := 1) hx hb dX12_readHours_114 (by decide) ?_
        refine lv_iadd hx hb dX12_readHours_115 ?_
        refine lv_topi (fun x51 e52 => ?_)
        refine va_iast hx hb hK hP hD hS 5 4 atM_5 tyM_5 (in_rg r11 (by decide)) dX12_readHours_116 (fun H locs hP hD hS => ?_)
        have hq := hq.ast 5 (x9).toNatClampNeg (x := x51) (by decide) (rg_top _)
        rw [setM_5] at hP hD
        have k53 : x51 = (va_up (va_up (va_up A40 10 (upd (A40 10) (x26).toNatClampNeg x39)) 12 (upd ((va_up A40 10 (upd (A40 10) (x26).toNatClampNeg x39)) 12) (x26).toNatClampNeg (vp_nar .boolean 1))) 5 (upd ((va_up (va_up A40 10 (upd (A40 10) (x26).toNatClampNeg x39)) 12 (upd ((va_up A40 10 (upd (A40 10) (x26).toNatClampNeg x39)) 12) (x26).toNatClampNeg (vp_nar .boolean 1))) 5) (x9).toNatClampNeg x51)) 5 (x9).toNatClampNeg := (rdA).symm
        exact hret (F40, L40, (va_up (va_up (va_up A40 10 (upd (A40 10) (x26).toNatClampNeg x39)) 12 (upd ((va_up A40 10 (upd (A40 10) (x26).toNatClampNeg x39)) 12) (x26).toNatClampNeg (vp_nar .boolean 1))) 5 (upd ((va_up (va_up A40 10 (upd (A40 10) (x26).toNatClampNeg x39)) 12 (upd ((va_up A40 10 (upd (A40 10) (x26).toNatClampNeg x39)) 12) (x26).toNatClampNeg (vp_nar .boolean 1))) 5) (x9).toNatClampNeg x51)), B40) H locs 117 ls dX12_readHours_117 hP hD hS ⟨hq, (pR.tr (pR.tr i33 g37) g41)⟩
      · skip
        have r47 : rg x42 0 0 := rg_eq1 c45 (r43 : rg x42 0 1) ((rg_k (by decide)) : rg 0 0 0) (by decide)
        exact hret (F40, L40, A40, B40) H locs 88 ls dX12_readHours_88 hP hD hS ⟨hq, (pR.tr (pR.tr i33 g37) g41)⟩
    refine lv_if_eq (tgt := 66) hx hb dX12_readHours_41 (by decide) (fun c54 => ?_) (fun c54 => ?_)
    · skip
      have r55 : rg x29 0 0 := rg_eq1 c54 (r30 : rg x29 0 1) ((rg_k (by decide)) : rg 0 0 0) (by decide)
      exact J66 (F23) (L23) (A23) (B23) H locs ls hq i24 (f25) hP hD hS (lv_sub hl [1, 2, 0] rfl)
    · skip
      have r56 : rg x29 1 1 := (rg_ne1 c54 (r30 : rg x29 0 1) ((rg_k (by decide)) : rg 0 0 0)).1 rfl
      refine lv_iload_n hx hb dX12_readHours_44 rfl (lv_at hl 2 rfl) ?_
      refine lv_if_lt (tgt := 66) hx hb dX12_readHours_45 (by decide) (fun c57 => ?_) (fun c57 => ?_)
      · skip
        have r58 : rg x7 (-1) (-1) := rg_lt1 (iL c57) (r8 : rg x7 (-1) 9) ((rg_k (by decide)) : rg 0 0 0)
        exact J66 (F23) (L23) (A23) (B23) H locs ls hq i24 (f25) hP hD hS (lv_sub hl [1, 2, 0] rfl)
      · skip
        have r59 : rg x7 0 9 := rg_le2 (iNL c57) ((rg_k (by decide)) : rg 0 0 0) (r8 : rg x7 (-1) 9)
        refine lv_aload_n hx hb dX12_readHours_48 rfl (lv_at hl 1 rfl) ?_
        refine va_get (ci := 12) (v := .ref (ad 12)) (C := RX12) (T := TX12) (N := 57) hx hb hg inX12 hown hK hP 0 atM_0 rfl 20 (by decide) (hg _ mw_1128) (fun _ h9 => h9) rfl dX12_readHours_49 ?_
        refine lv_iload_n hx hb dX12_readHours_52 rfl (lv_at hl 0 rfl) ?_
        refine va_zald hx hb hK hP 12 11 atM_12 tyM_12 (in_rg r28 (by decide)) dX12_readHours_53 ?_
        refine lv_topi (fun x60 e61 => ?_)
        have r62 : rg x60 0 1 := rg_e e61 (hq.1.2 12 _)
        refine lv_if_eq (tgt := 66) hx hb dX12_readHours_54 (by decide) (fun c63 => ?_) (fun c63 => ?_)
        · skip
          have r64 : rg x60 0 0 := rg_eq1 c63 (r62 : rg x60 0 1) ((rg_k (by decide)) : rg 0 0 0) (by decide)
          exact J66 (F23) (L23) (A23) (B23) H locs ls hq i24 (f25) hP hD hS (lv_sub hl [1, 2, 0] rfl)
        · skip
          have r65 : rg x60 1 1 := (rg_ne1 c63 (r62 : rg x60 0 1) ((rg_k (by decide)) : rg 0 0 0)).1 rfl
          refine lv_aload_n hx hb dX12_readHours_57 rfl (lv_at hl 1 rfl) ?_
          refine lv_iconst (v := 3) hx hb dX12_readHours_58 (by decide) ?_
          refine lv_aload_n hx hb dX12_readHours_59 rfl (lv_at hl 1 rfl) ?_
          refine va_get (ci := 12) (v := .int (F23 4)) (C := RX12) (T := TX12) (N := 57) hx hb hg inX12 hown hK hP 0 atM_0 rfl 6 (by decide) (hg _ mw_1114) (fun _ h9 => h9) rfl dX12_readHours_60 ?_
          refine lv_topi (fun x66 e67 => ?_)
          have r68 : rg x66 0 1700 := rg_e e67 (hq.1.1 4)
          refine callv_v (As := [.int 3, .int x66]) (rest := []) hC (c_X12_fails_0 l D cA H.size ad F23 L23 A23 B23 (3) (x66) hq.1 (rg_k (by decide)) r68) (cwV 2 hg (g_V mw_1332 mw_1329 mw_1331 ms_55 mw_20) rfl rfl rfl (by decide +kernel) ⟨(Nat.le_of_ble_eq_true rfl), (Nat.le_of_ble_eq_true rfl)⟩) hP hD hS hA atM_0 rfl rfl hl.1 rfl (Nat.le_of_ble_eq_true rfl) dX12_readHours_63 ⟨Nat.zero_le _, Nat.zero_le _⟩ (fun  u H locs hw hP hD hS => ?_)
          obtain ⟨F69, L69, A69, B69⟩ := u
          try dsimp only at hw
          obtain ⟨hq69, g70⟩ := hw
          have hq := hq.call hq69 (by decide)
          have hP : va_P D classes (wM cA ad F69 L69 A69 B69) H := hP
          have hD : va_D Af (wM cA ad F69 L69 A69 B69) := hD
          exact J66 (F69) (L69) (A69) (B69) H locs ls hq (pR.fr i24 (hq69.2.1 4 (by decide)) (hq69.2.1 5 (by decide)) (hq69.2.1 1 (by decide)) (hq69.2.1 6 (by decide))) ((hq69.2.1 9 (by decide)).trans (f25)) hP hD hS (lv_sub hl [1, 2, 0] rfl)
  refine lv_if_ge (tgt := 34) hx hb dX12_readHours_27 (by decide) (fun c71 => ?_) (fun c71 => ?_)
  · skip
    have r72 : rg x7 0 9 := rg_le2 (iE c71) ((rg_k (by decide)) : rg 0 0 0) (r8 : rg x7 (-1) 9)
    refine lv_iload_n hx hb dX12_readHours_34 rfl (lv_at hl 0 rfl) ?_
    exact J35 (x7) (F4) (L4) (A4) (B4) H locs ls r72 hq (pR.tr (pR.rf hJ) g5) (e10.symm) hP hD hS (lv_sub hl [2, 0] rfl)
  · skip
    have r73 : rg x7 (-1) (-1) := rg_lt1 (iNE c71) (r8 : rg x7 (-1) 9) ((rg_k (by decide)) : rg 0 0 0)
    refine lv_iconst (v := 0) hx hb dX12_readHours_30 (by decide) ?_
    refine lv_goto (tgt := 35) hx hb dX12_readHours_31 (by decide) ?_
    exact J35 (0) (F4) (L4) (A4) (B4) H locs ls (rg_k (by decide)) hq (pR.tr (pR.rf hJ) g5) (e10.symm) hP hD hS (lv_sub hl [2, 0] rfl)
abbrev rm_X12_readLends_0 : Room := { frames := 3, cells := 0, slots := 0, locals := 64 }
set_option maxHeartbeats 4000000 in
set_option maxRecDepth 100000 in
theorem c_X12_readLends_0 (l : Launch) (D : va_G) (cA : Nat → ClassId) (sz : Nat) (ad : Nat → Nat) (F : Nat → Int32) (L : Nat → Int64) (A : Nat → Nat → Int32) (B : Nat → Nat → Int64)  (hT : typM F A) (hJ : pI F) : Met l yX12_readLends (Cond.code yX12_readLends cX12_readLends 3 none :: GW) rm_X12_readLends_0 (mPc D classes (tysM cA) (wM cA ad F L A B) sz [.ref (ad 0)]) (mQv (S := SW) D classes (tysM cA) (wM cA ad F L A B) sz (wfM cA ad) (fun u => qM [2, 3, 4, 5, 6, 7] [6, 9] F A u.1 u.2.2.1 ∧ pR F u.1)) 0 0 (va_A (wM cA ad F L A B) sz) := by
  refine met_v (own := "ShoeingDayModel") (by decide +kernel) rfl (Nat.le_of_ble_eq_true rfl) ?_
  intro p e s m args below meth c Q Af ls hC hP hD hS hA hl hret
  have hx := hC.1
  have hb := hC.2.1
  have hown := hC.2.2.2.1
  have hg := hC.g
  have hK := hC.K
  have hl : lv_has ls 3 [(0, .ref (ad 0))] := hl
  have hq : qM [2, 3, 4, 5, 6, 7] [6, 9] F A F A := qM.rf hT
  obtain ⟨H, hH⟩ : ∃ H, H = s.heap := ⟨_, rfl⟩
  have hP : va_P D classes (wM cA ad F L A B) H := by rw [hH]; exact hP
  have hS : va_S Af s.heap H [] := by rw [hH]; exact hS
  obtain ⟨locs, hlo⟩ : ∃ q : List Loc, q = [] := ⟨_, rfl⟩
  rw [← hH, ← hlo]
  rw [← hlo] at hS
  refine lv_aload_n hx hb dX12_readLends_0 rfl (lv_at hl 0 rfl) ?_
  refine callv_i (As := []) (rest := []) hC (c_X12_smithHere_0 l D cA H.size ad F L A B  hq.1) (cwV 0 hg (g_V mw_1340 mw_1337 mw_1339 ms_57 mw_20) rfl rfl rfl (by decide +kernel) ⟨(Nat.le_of_ble_eq_true rfl), (Nat.le_of_ble_eq_true rfl)⟩) hP hD hS hA atM_0 rfl rfl hl.1 rfl (Nat.le_of_ble_eq_true rfl) dX12_readLends_1 ⟨Nat.zero_le _, Nat.zero_le _⟩ (fun x1 u H locs hw hP hD hS => ?_)
  have r2 := hw
  have hP : va_P D classes (wM cA ad F L A B) H := hP
  have hD : va_D Af (wM cA ad F L A B) := hD
  refine lv_istore_n (lv' := [(1, .int x1), (0, .ref (ad 0))]) hx hb dX12_readLends_4 rfl hl (by decide) rfl (fun ls hl => ?_)
  refine lv_aload_n hx hb dX12_readLends_5 rfl (lv_at hl 1 rfl) ?_
  refine callv_i (As := []) (rest := []) hC (c_X12_isGood_0 l D cA H.size ad F L A B  hq.1) (cwV 0 hg (g_V mw_1312 mw_1309 mw_1311 ms_50 mw_20) rfl rfl rfl (by decide +kernel) ⟨(Nat.le_of_ble_eq_true rfl), (Nat.le_of_ble_eq_true rfl)⟩) hP hD hS hA atM_0 rfl rfl hl.1 rfl (Nat.le_of_ble_eq_true rfl) dX12_readLends_6 ⟨Nat.zero_le _, Nat.zero_le _⟩ (fun x3 u H locs hw hP hD hS => ?_)
  obtain ⟨r4, g5⟩ := hw
  have hP : va_P D classes (wM cA ad F L A B) H := hP
  have hD : va_D Af (wM cA ad F L A B) := hD
  have J43 : ∀ (F6 : Nat → Int32) (L6 : Nat → Int64) (A6 : Nat → Nat → Int32) (B6 : Nat → Nat → Int64) (H : Heap) (locs : List Loc) (ls : Array Slot), qM [2, 3, 4, 5, 6, 7] [6, 9] F A F6 A6 → pR F F6 → va_P D classes (wM cA ad F6 L6 A6 B6) H → va_D Af (wM cA ad F6 L6 A6 B6) → va_S Af s.heap H locs → lv_has ls 3 [(0, .ref (ad 0)), (1, .int x1)] → W p l e rm_X12_readLends_0 s m args below meth c H locs 0 0 Q (F0 m 43 ls []) := by
    intro F6 L6 A6 B6 H locs ls hq i7 hP hD hS hl
    refine lv_aload_n hx hb dX12_readLends_43 rfl (lv_at hl 0 rfl) ?_
    refine lv_iload_n hx hb dX12_readLends_44 rfl (lv_at hl 1 rfl) ?_
    refine callv_i (As := [.int x1]) (rest := []) hC (c_X12_known_0_s l D cA H.size ad F6 L6 A6 B6 (x1) hq.1 r2 (i7).1) (cwV 1 hg (g_V mw_1368 mw_1365 mw_1367 ms_64 mw_20) rfl rfl rfl (by decide +kernel) ⟨(Nat.le_of_ble_eq_true rfl), (Nat.le_of_ble_eq_true rfl)⟩) hP hD hS hA atM_0 rfl rfl hl.1 rfl (Nat.le_of_ble_eq_true rfl) dX12_readLends_45 ⟨Nat.zero_le _, Nat.zero_le _⟩ (fun x8 u H locs hw hP hD hS => ?_)
    obtain ⟨F9, L9, A9, B9⟩ := u
    try dsimp only at hw
    obtain ⟨hq9, g10, r11⟩ := hw
    have hq := hq.call hq9 (by decide)
    have hP : va_P D classes (wM cA ad F9 L9 A9 B9) H := hP
    have hD : va_D Af (wM cA ad F9 L9 A9 B9) := hD
    refine lv_istore_n (lv' := [(1, .int x8), (0, .ref (ad 0))]) hx hb dX12_readLends_48 rfl hl (by decide) rfl (fun ls hl => ?_)
    refine lv_aload_n hx hb dX12_readLends_49 rfl (lv_at hl 1 rfl) ?_
    refine callv_i (As := []) (rest := []) hC (c_X12_smithHere_0 l D cA H.size ad F9 L9 A9 B9  hq.1) (cwV 0 hg (g_V mw_1340 mw_1337 mw_1339 ms_57 mw_20) rfl rfl rfl (by decide +kernel) ⟨(Nat.le_of_ble_eq_true rfl), (Nat.le_of_ble_eq_true rfl)⟩) hP hD hS hA atM_0 rfl rfl hl.1 rfl (Nat.le_of_ble_eq_true rfl) dX12_readLends_50 ⟨Nat.zero_le _, Nat.zero_le _⟩ (fun x12 u H locs hw hP hD hS => ?_)
    have r13 := hw
    have hP : va_P D classes (wM cA ad F9 L9 A9 B9) H := hP
    have hD : va_D Af (wM cA ad F9 L9 A9 B9) := hD
    refine lv_istore_n (lv' := [(2, .int x12), (1, .int x8), (0, .ref (ad 0))]) hx hb dX12_readLends_53 rfl hl (by decide) rfl (fun ls hl => ?_)
    refine lv_aload_n hx hb dX12_readLends_54 rfl (lv_at hl 2 rfl) ?_
    refine callv_i (As := []) (rest := []) hC (c_X12_isGood_0 l D cA H.size ad F9 L9 A9 B9  hq.1) (cwV 0 hg (g_V mw_1312 mw_1309 mw_1311 ms_50 mw_20) rfl rfl rfl (by decide +kernel) ⟨(Nat.le_of_ble_eq_true rfl), (Nat.le_of_ble_eq_true rfl)⟩) hP hD hS hA atM_0 rfl rfl hl.1 rfl (Nat.le_of_ble_eq_true rfl) dX12_readLends_55 ⟨Nat.zero_le _, Nat.zero_le _⟩ (fun x14 u H locs hw hP hD hS => ?_)
    obtain ⟨r15, g16⟩ := hw
    have hP : va_P D classes (wM cA ad F9 L9 A9 B9) H := hP
    have hD : va_D Af (wM cA ad F9 L9 A9 B9) := hD
    have J101 : ∀ (F17 : Nat → Int32) (L17 : Nat → Int64) (A17 : Nat → Nat → Int32) (B17 : Nat → Nat → Int64) (H : Heap) (locs : List Loc) (ls : Array Slot), qM [2, 3, 4, 5, 6, 7] [6, 9] F A F17 A17 → pR F F17 → va_P D classes (wM cA ad F17 L17 A17 B17) H → va_D Af (wM cA ad F17 L17 A17 B17) → va_S Af s.heap H locs → lv_has ls 3 [(0, .ref (ad 0)), (1, .int x8), (2, .int x12)] → W p l e rm_X12_readLends_0 s m args below meth c H locs 0 0 Q (F0 m 101 ls []) := by
      intro F17 L17 A17 B17 H locs ls hq i18 hP hD hS hl
      refine lv_aload_n hx hb dX12_readLends_101 rfl (lv_at hl 0 rfl) ?_
      refine callv_i (As := []) (rest := []) hC (c_X12_isGood_0 l D cA H.size ad F17 L17 A17 B17  hq.1) (cwV 0 hg (g_V mw_1312 mw_1309 mw_1311 ms_50 mw_20) rfl rfl rfl (by decide +kernel) ⟨(Nat.le_of_ble_eq_true rfl), (Nat.le_of_ble_eq_true rfl)⟩) hP hD hS hA atM_0 rfl rfl hl.1 rfl (Nat.le_of_ble_eq_true rfl) dX12_readLends_102 ⟨Nat.zero_le _, Nat.zero_le _⟩ (fun x19 u H locs hw hP hD hS => ?_)
      obtain ⟨r20, g21⟩ := hw
      have hP : va_P D classes (wM cA ad F17 L17 A17 B17) H := hP
      have hD : va_D Af (wM cA ad F17 L17 A17 B17) := hD
      have J139 : ∀ (F22 : Nat → Int32) (L22 : Nat → Int64) (A22 : Nat → Nat → Int32) (B22 : Nat → Nat → Int64) (H : Heap) (locs : List Loc) (ls : Array Slot), qM [2, 3, 4, 5, 6, 7] [6, 9] F A F22 A22 → pR F F22 → va_P D classes (wM cA ad F22 L22 A22 B22) H → va_D Af (wM cA ad F22 L22 A22 B22) → va_S Af s.heap H locs → lv_has ls 3 [(0, .ref (ad 0)), (1, .int x8), (2, .int x12)] → W p l e rm_X12_readLends_0 s m args below meth c H locs 0 0 Q (F0 m 139 ls []) := by
        intro F22 L22 A22 B22 H locs ls hq i23 hP hD hS hl
        refine lv_aload_n hx hb dX12_readLends_139 rfl (lv_at hl 0 rfl) ?_
        refine lv_iload_n hx hb dX12_readLends_140 rfl (lv_at hl 2 rfl) ?_
        refine callv_i (As := [.int x12]) (rest := []) hC (c_X12_known_0_s l D cA H.size ad F22 L22 A22 B22 (x12) hq.1 r13 (i23).1) (cwV 1 hg (g_V mw_1368 mw_1365 mw_1367 ms_64 mw_20) rfl rfl rfl (by decide +kernel) ⟨(Nat.le_of_ble_eq_true rfl), (Nat.le_of_ble_eq_true rfl)⟩) hP hD hS hA atM_0 rfl rfl hl.1 rfl (Nat.le_of_ble_eq_true rfl) dX12_readLends_141 ⟨Nat.zero_le _, Nat.zero_le _⟩ (fun x24 u H locs hw hP hD hS => ?_)
        obtain ⟨F25, L25, A25, B25⟩ := u
        try dsimp only at hw
        obtain ⟨hq25, g26, r27⟩ := hw
        have hq := hq.call hq25 (by decide)
        have hP : va_P D classes (wM cA ad F25 L25 A25 B25) H := hP
        have hD : va_D Af (wM cA ad F25 L25 A25 B25) := hD
        refine lv_istore_n (lv' := [(2, .int x24), (0, .ref (ad 0)), (1, .int x8)]) hx hb dX12_readLends_144 rfl hl (by decide) rfl (fun ls hl => ?_)
        refine lv_aload_n hx hb dX12_readLends_145 rfl (lv_at hl 1 rfl) ?_
        refine callv_i (As := []) (rest := []) hC (c_X12_isGood_0 l D cA H.size ad F25 L25 A25 B25  hq.1) (cwV 0 hg (g_V mw_1312 mw_1309 mw_1311 ms_50 mw_20) rfl rfl rfl (by decide +kernel) ⟨(Nat.le_of_ble_eq_true rfl), (Nat.le_of_ble_eq_true rfl)⟩) hP hD hS hA atM_0 rfl rfl hl.1 rfl (Nat.le_of_ble_eq_true rfl) dX12_readLends_146 ⟨Nat.zero_le _, Nat.zero_le _⟩ (fun x28 u H locs hw hP hD hS => ?_)
        obtain ⟨r29, g30⟩ := hw
        have hP : va_P D classes (wM cA ad F25 L25 A25 B25) H := hP
        have hD : va_D Af (wM cA ad F25 L25 A25 B25) := hD
        refine lv_if_ne (tgt := 153) hx hb dX12_readLends_149 (by decide) (fun c31 => ?_) (fun c31 => ?_)
        · skip
          have r32 : rg x28 1 1 := (rg_ne1 c31 (r29 : rg x28 0 1) ((rg_k (by decide)) : rg 0 0 0)).1 rfl
          refine lv_aload_n hx hb dX12_readLends_153 rfl (lv_at hl 1 rfl) ?_
          refine va_get (ci := 12) (v := .ref (ad 9)) (C := RX12) (T := TX12) (N := 57) hx hb hg inX12 hown hK hP 0 atM_0 rfl 17 (by decide) (hg _ mw_1125) (fun _ h9 => h9) rfl dX12_readLends_154 ?_
          refine lv_bipush (v := 8) hx hb dX12_readLends_157 (by decide) ?_
          refine lv_aload_n hx hb dX12_readLends_159 rfl (lv_at hl 1 rfl) ?_
          refine va_get (ci := 12) (v := .int (F25 9)) (C := RX12) (T := TX12) (N := 57) hx hb hg inX12 hown hK hP 0 atM_0 rfl 25 (by decide) (hg _ mw_1133) (fun _ h9 => h9) rfl dX12_readLends_160 ?_
          refine lv_topi (fun x34 e35 => ?_)
          have r36 : rg x34 0 1 := rg_e e35 (hq.1.1 9)
          refine lv_imul hx hb dX12_readLends_163 ?_
          refine lv_topi (fun x37 e38 => ?_)
          have r39 : rg x37 0 8 := rg_mul e38 ((rg_k (by decide)) : rg 8 8 8) r36 (by decide)
          refine lv_iload_n hx hb dX12_readLends_164 rfl (lv_at hl 2 rfl) ?_
          refine lv_iadd hx hb dX12_readLends_165 ?_
          refine lv_topi (fun x40 e41 => ?_)
          have r42 : rg x40 0 15 := rg_add e41 r39 r11 (by decide)
          refine lv_dup2_11 hx hb dX12_readLends_166 rfl rfl ?_
          refine va_iald hx hb hK hP 9 8 atM_9 tyM_9 (in_rg r42 (by decide)) dX12_readLends_167 ?_
          refine lv_topi (fun x43 e44 => ?_)
          refine lv_iconst (v := 1) hx hb dX12_readLends_168 (by decide) ?_
          refine lv_iload_n hx hb dX12_readLends_169 rfl (lv_at hl 0 rfl) ?_
          refine lv_ishl hx hb dX12_readLends_170 ?_
          refine lv_topi (fun x45 e46 => ?_)
          have r47 : rg x45 1 128 := rg_shl1 e46 r27 (by decide)
          refine lv_ior hx hb dX12_readLends_171 ?_
          refine lv_topi (fun x48 e49 => ?_)
          refine va_iast hx hb hK hP hD hS 9 8 atM_9 tyM_9 (in_rg r42 (by decide)) dX12_readLends_172 (fun H locs hP hD hS => ?_)
          have hq := hq.ast 9 (x40).toNatClampNeg (x := x48) (by decide) (rg_top _)
          rw [setM_9] at hP hD
          have k50 : x48 = (va_up A25 9 (upd (A25 9) (x40).toNatClampNeg x48)) 9 (x40).toNatClampNeg := (rdA).symm
          refine lv_aload_n hx hb dX12_readLends_173 rfl (lv_at hl 1 rfl) ?_
          refine va_get (ci := 12) (v := .ref (ad 6)) (C := RX12) (T := TX12) (N := 57) hx hb hg inX12 hown hK hP 0 atM_0 rfl 14 (by decide) (hg _ mw_1122) (fun _ h9 => h9) rfl dX12_readLends_174 ?_
          refine lv_aload_n hx hb dX12_readLends_177 rfl (lv_at hl 1 rfl) ?_
          refine va_get (ci := 12) (v := .int x34) (C := RX12) (T := TX12) (N := 57) hx hb hg inX12 hown hK hP 0 atM_0 rfl 25 (by decide) (hg _ mw_1133) (fun _ h9 => h9) (congrArg (fun z => some (Value.int z)) (e35.symm)) dX12_readLends_178 ?_
          refine lv_dup2_11 hx hb dX12_readLends_181 rfl rfl ?_
          refine va_iald hx hb hK hP 6 5 atM_6 tyM_6 (in_rg r36 (by decide)) dX12_readLends_182 ?_
          refine lv_topi (fun x51 e52 => ?_)
          refine lv_iconst (v := 1) hx hb dX12_readLends_183 (by decide) ?_
          refine lv_iadd hx hb dX12_readLends_184 ?_
          refine lv_topi (fun x53 e54 => ?_)
          refine va_iast hx hb hK hP hD hS 6 5 atM_6 tyM_6 (in_rg r36 (by decide)) dX12_readLends_185 (fun H locs hP hD hS => ?_)
          have hq := hq.ast 6 (x34).toNatClampNeg (x := x53) (by decide) (rg_top _)
          rw [setM_6] at hP hD
          have k55 : x53 = (va_up (va_up A25 9 (upd (A25 9) (x40).toNatClampNeg x48)) 6 (upd ((va_up A25 9 (upd (A25 9) (x40).toNatClampNeg x48)) 6) (x34).toNatClampNeg x53)) 6 (x34).toNatClampNeg := (rdA).symm
          exact hret (F25, L25, (va_up (va_up A25 9 (upd (A25 9) (x40).toNatClampNeg x48)) 6 (upd ((va_up A25 9 (upd (A25 9) (x40).toNatClampNeg x48)) 6) (x34).toNatClampNeg x53)), B25) H locs 186 ls dX12_readLends_186 hP hD hS ⟨hq, (pR.tr i23 g26)⟩
        · skip
          have r33 : rg x28 0 0 := rg_eq1 c31 (r29 : rg x28 0 1) ((rg_k (by decide)) : rg 0 0 0) (by decide)
          exact hret (F25, L25, A25, B25) H locs 152 ls dX12_readLends_152 hP hD hS ⟨hq, (pR.tr i23 g26)⟩
      refine lv_if_eq (tgt := 139) hx hb dX12_readLends_105 (by decide) (fun c56 => ?_) (fun c56 => ?_)
      · skip
        have r57 : rg x19 0 0 := rg_eq1 c56 (r20 : rg x19 0 1) ((rg_k (by decide)) : rg 0 0 0) (by decide)
        exact J139 (F17) (L17) (A17) (B17) H locs ls hq i18 hP hD hS (lv_sub hl [0, 1, 2] rfl)
      · skip
        have r58 : rg x19 1 1 := (rg_ne1 c56 (r20 : rg x19 0 1) ((rg_k (by decide)) : rg 0 0 0)).1 rfl
        refine lv_iload_n hx hb dX12_readLends_108 rfl (lv_at hl 2 rfl) ?_
        refine lv_if_lt (tgt := 139) hx hb dX12_readLends_109 (by decide) (fun c59 => ?_) (fun c59 => ?_)
        · skip
          have r60 : rg x12 (-1) (-1) := rg_lt1 (iL c59) (r13 : rg x12 (-1) 7) ((rg_k (by decide)) : rg 0 0 0)
          exact J139 (F17) (L17) (A17) (B17) H locs ls hq i18 hP hD hS (lv_sub hl [0, 1, 2] rfl)
        · skip
          have r61 : rg x12 0 7 := rg_le2 (iNL c59) ((rg_k (by decide)) : rg 0 0 0) (r13 : rg x12 (-1) 7)
          refine lv_aload_n hx hb dX12_readLends_112 rfl (lv_at hl 0 rfl) ?_
          refine va_get (ci := 12) (v := .ref (ad 11)) (C := RX12) (T := TX12) (N := 57) hx hb hg inX12 hown hK hP 0 atM_0 rfl 19 (by decide) (hg _ mw_1127) (fun _ h9 => h9) rfl dX12_readLends_113 ?_
          refine lv_bipush (v := 8) hx hb dX12_readLends_116 (by decide) ?_
          refine lv_aload_n hx hb dX12_readLends_118 rfl (lv_at hl 0 rfl) ?_
          refine va_get (ci := 12) (v := .int (F17 9)) (C := RX12) (T := TX12) (N := 57) hx hb hg inX12 hown hK hP 0 atM_0 rfl 25 (by decide) (hg _ mw_1133) (fun _ h9 => h9) rfl dX12_readLends_119 ?_
          refine lv_topi (fun x62 e63 => ?_)
          have r64 : rg x62 0 1 := rg_e e63 (hq.1.1 9)
          refine lv_imul hx hb dX12_readLends_122 ?_
          refine lv_topi (fun x65 e66 => ?_)
          have r67 : rg x65 0 8 := rg_mul e66 ((rg_k (by decide)) : rg 8 8 8) r64 (by decide)
          refine lv_iload_n hx hb dX12_readLends_123 rfl (lv_at hl 2 rfl) ?_
          refine lv_iadd hx hb dX12_readLends_124 ?_
          refine lv_topi (fun x68 e69 => ?_)
          have r70 : rg x68 0 15 := rg_add e69 r67 r61 (by decide)
          refine va_zald hx hb hK hP 11 10 atM_11 tyM_11 (in_rg r70 (by decide)) dX12_readLends_125 ?_
          refine lv_topi (fun x71 e72 => ?_)
          have r73 : rg x71 0 1 := rg_e e72 (hq.1.2 11 _)
          refine lv_if_ne (tgt := 139) hx hb dX12_readLends_126 (by decide) (fun c74 => ?_) (fun c74 => ?_)
          · skip
            have r75 : rg x71 1 1 := (rg_ne1 c74 (r73 : rg x71 0 1) ((rg_k (by decide)) : rg 0 0 0)).1 rfl
            exact J139 (F17) (L17) (A17) (B17) H locs ls hq i18 hP hD hS (lv_sub hl [0, 1, 2] rfl)
          · skip
            have r76 : rg x71 0 0 := rg_eq1 c74 (r73 : rg x71 0 1) ((rg_k (by decide)) : rg 0 0 0) (by decide)
            refine lv_aload_n hx hb dX12_readLends_129 rfl (lv_at hl 0 rfl) ?_
            refine lv_bipush (v := 6) hx hb dX12_readLends_130 (by decide) ?_
            refine lv_aload_n hx hb dX12_readLends_132 rfl (lv_at hl 0 rfl) ?_
            refine va_get (ci := 12) (v := .int (F17 4)) (C := RX12) (T := TX12) (N := 57) hx hb hg inX12 hown hK hP 0 atM_0 rfl 6 (by decide) (hg _ mw_1114) (fun _ h9 => h9) rfl dX12_readLends_133 ?_
            refine lv_topi (fun x77 e78 => ?_)
            have r79 : rg x77 0 1700 := rg_e e78 (hq.1.1 4)
            refine callv_v (As := [.int 6, .int x77]) (rest := []) hC (c_X12_fails_0 l D cA H.size ad F17 L17 A17 B17 (6) (x77) hq.1 (rg_k (by decide)) r79) (cwV 2 hg (g_V mw_1332 mw_1329 mw_1331 ms_55 mw_20) rfl rfl rfl (by decide +kernel) ⟨(Nat.le_of_ble_eq_true rfl), (Nat.le_of_ble_eq_true rfl)⟩) hP hD hS hA atM_0 rfl rfl hl.1 rfl (Nat.le_of_ble_eq_true rfl) dX12_readLends_136 ⟨Nat.zero_le _, Nat.zero_le _⟩ (fun  u H locs hw hP hD hS => ?_)
            obtain ⟨F80, L80, A80, B80⟩ := u
            try dsimp only at hw
            obtain ⟨hq80, g81⟩ := hw
            have hq := hq.call hq80 (by decide)
            have hP : va_P D classes (wM cA ad F80 L80 A80 B80) H := hP
            have hD : va_D Af (wM cA ad F80 L80 A80 B80) := hD
            exact J139 (F80) (L80) (A80) (B80) H locs ls hq (pR.fr i18 (hq80.2.1 4 (by decide)) (hq80.2.1 5 (by decide)) (hq80.2.1 1 (by decide)) (hq80.2.1 6 (by decide))) hP hD hS (lv_sub hl [0, 1, 2] rfl)
    refine lv_if_eq (tgt := 101) hx hb dX12_readLends_58 (by decide) (fun c82 => ?_) (fun c82 => ?_)
    · skip
      have r83 : rg x14 0 0 := rg_eq1 c82 (r15 : rg x14 0 1) ((rg_k (by decide)) : rg 0 0 0) (by decide)
      exact J101 (F9) (L9) (A9) (B9) H locs ls hq (pR.tr i7 g10) hP hD hS (lv_sub hl [2, 1, 0] rfl)
    · skip
      have r84 : rg x14 1 1 := (rg_ne1 c82 (r15 : rg x14 0 1) ((rg_k (by decide)) : rg 0 0 0)).1 rfl
      refine lv_iload_n hx hb dX12_readLends_61 rfl (lv_at hl 0 rfl) ?_
      refine lv_if_lt (tgt := 101) hx hb dX12_readLends_62 (by decide) (fun c85 => ?_) (fun c85 => ?_)
      · skip
        have r86 : rg x12 (-1) (-1) := rg_lt1 (iL c85) (r13 : rg x12 (-1) 7) ((rg_k (by decide)) : rg 0 0 0)
        exact J101 (F9) (L9) (A9) (B9) H locs ls hq (pR.tr i7 g10) hP hD hS (lv_sub hl [2, 1, 0] rfl)
      · skip
        have r87 : rg x12 0 7 := rg_le2 (iNL c85) ((rg_k (by decide)) : rg 0 0 0) (r13 : rg x12 (-1) 7)
        refine lv_iload_n hx hb dX12_readLends_65 rfl (lv_at hl 1 rfl) ?_
        refine lv_iload_n hx hb dX12_readLends_66 rfl (lv_at hl 0 rfl) ?_
        have J92 : ∀ (F88 : Nat → Int32) (L88 : Nat → Int64) (A88 : Nat → Nat → Int32) (B88 : Nat → Nat → Int64) (H : Heap) (locs : List Loc) (ls : Array Slot), qM [2, 3, 4, 5, 6, 7] [6, 9] F A F88 A88 → pR F F88 → va_P D classes (wM cA ad F88 L88 A88 B88) H → va_D Af (wM cA ad F88 L88 A88 B88) → va_S Af s.heap H locs → lv_has ls 3 [(0, .ref (ad 0)), (1, .int x8), (2, .int x12)] → W p l e rm_X12_readLends_0 s m args below meth c H locs 0 0 Q (F0 m 92 ls []) := by
          intro F88 L88 A88 B88 H locs ls hq i89 hP hD hS hl
          refine lv_aload_n hx hb dX12_readLends_92 rfl (lv_at hl 0 rfl) ?_
          refine lv_iconst (v := 3) hx hb dX12_readLends_93 (by decide) ?_
          refine lv_aload_n hx hb dX12_readLends_94 rfl (lv_at hl 0 rfl) ?_
          refine va_get (ci := 12) (v := .int (F88 4)) (C := RX12) (T := TX12) (N := 57) hx hb hg inX12 hown hK hP 0 atM_0 rfl 6 (by decide) (hg _ mw_1114) (fun _ h9 => h9) rfl dX12_readLends_95 ?_
          refine lv_topi (fun x90 e91 => ?_)
          have r92 : rg x90 0 1700 := rg_e e91 (hq.1.1 4)
          refine callv_v (As := [.int 3, .int x90]) (rest := []) hC (c_X12_fails_0 l D cA H.size ad F88 L88 A88 B88 (3) (x90) hq.1 (rg_k (by decide)) r92) (cwV 2 hg (g_V mw_1332 mw_1329 mw_1331 ms_55 mw_20) rfl rfl rfl (by decide +kernel) ⟨(Nat.le_of_ble_eq_true rfl), (Nat.le_of_ble_eq_true rfl)⟩) hP hD hS hA atM_0 rfl rfl hl.1 rfl (Nat.le_of_ble_eq_true rfl) dX12_readLends_98 ⟨Nat.zero_le _, Nat.zero_le _⟩ (fun  u H locs hw hP hD hS => ?_)
          obtain ⟨F93, L93, A93, B93⟩ := u
          try dsimp only at hw
          obtain ⟨hq93, g94⟩ := hw
          have hq := hq.call hq93 (by decide)
          have hP : va_P D classes (wM cA ad F93 L93 A93 B93) H := hP
          have hD : va_D Af (wM cA ad F93 L93 A93 B93) := hD
          exact J101 (F93) (L93) (A93) (B93) H locs ls hq (pR.fr i89 (hq93.2.1 4 (by decide)) (hq93.2.1 5 (by decide)) (hq93.2.1 1 (by decide)) (hq93.2.1 6 (by decide))) hP hD hS (lv_sub hl [0, 1, 2] rfl)
        refine lv_icmp_eq (tgt := 92) hx hb dX12_readLends_67 (by decide) (fun c95 => ?_) (fun c95 => ?_)
        · skip
          exact J92 (F9) (L9) (A9) (B9) H locs ls hq (pR.tr i7 g10) hP hD hS (lv_sub hl [2, 1, 0] rfl)
        · skip
          refine lv_aload_n hx hb dX12_readLends_70 rfl (lv_at hl 2 rfl) ?_
          refine va_get (ci := 12) (v := .ref (ad 9)) (C := RX12) (T := TX12) (N := 57) hx hb hg inX12 hown hK hP 0 atM_0 rfl 17 (by decide) (hg _ mw_1125) (fun _ h9 => h9) rfl dX12_readLends_71 ?_
          refine lv_bipush (v := 8) hx hb dX12_readLends_74 (by decide) ?_
          refine lv_aload_n hx hb dX12_readLends_76 rfl (lv_at hl 2 rfl) ?_
          refine va_get (ci := 12) (v := .int (F9 9)) (C := RX12) (T := TX12) (N := 57) hx hb hg inX12 hown hK hP 0 atM_0 rfl 25 (by decide) (hg _ mw_1133) (fun _ h9 => h9) rfl dX12_readLends_77 ?_
          refine lv_topi (fun x96 e97 => ?_)
          have r98 : rg x96 0 1 := rg_e e97 (hq.1.1 9)
          refine lv_imul hx hb dX12_readLends_80 ?_
          refine lv_topi (fun x99 e100 => ?_)
          have r101 : rg x99 0 8 := rg_mul e100 ((rg_k (by decide)) : rg 8 8 8) r98 (by decide)
          refine lv_iload_n hx hb dX12_readLends_81 rfl (lv_at hl 1 rfl) ?_
          refine lv_iadd hx hb dX12_readLends_82 ?_
          refine lv_topi (fun x102 e103 => ?_)
          have r104 : rg x102 0 15 := rg_add e103 r101 r11 (by decide)
          refine va_iald hx hb hK hP 9 8 atM_9 tyM_9 (in_rg r104 (by decide)) dX12_readLends_83 ?_
          refine lv_topi (fun x105 e106 => ?_)
          refine lv_iload_n hx hb dX12_readLends_84 rfl (lv_at hl 0 rfl) ?_
          refine lv_ishr hx hb dX12_readLends_85 ?_
          refine lv_topi (fun x107 e108 => ?_)
          refine lv_iconst (v := 1) hx hb dX12_readLends_86 (by decide) ?_
          refine lv_iand hx hb dX12_readLends_87 ?_
          refine lv_topi (fun x109 e110 => ?_)
          have r111 : rg x109 0 1 := rg_andr e110 ((rg_k (by decide)) : rg 1 1 1) (by decide)
          refine lv_iconst (v := 1) hx hb dX12_readLends_88 (by decide) ?_
          refine lv_icmp_ne (tgt := 101) hx hb dX12_readLends_89 (by decide) (fun c112 => ?_) (fun c112 => ?_)
          · skip
            have r113 : rg x109 0 0 := (rg_ne1 c112 (r111 : rg x109 0 1) ((rg_k (by decide)) : rg 1 1 1)).2 rfl
            exact J101 (F9) (L9) (A9) (B9) H locs ls hq (pR.tr i7 g10) hP hD hS (lv_sub hl [2, 1, 0] rfl)
          · skip
            have r114 : rg x109 1 1 := rg_eq1 c112 (r111 : rg x109 0 1) ((rg_k (by decide)) : rg 1 1 1) (by decide)
            exact J92 (F9) (L9) (A9) (B9) H locs ls hq (pR.tr i7 g10) hP hD hS (lv_sub hl [2, 1, 0] rfl)
  refine lv_if_eq (tgt := 43) hx hb dX12_readLends_9 (by decide) (fun c115 => ?_) (fun c115 => ?_)
  · skip
    have r116 : rg x3 0 0 := rg_eq1 c115 (r4 : rg x3 0 1) ((rg_k (by decide)) : rg 0 0 0) (by decide)
    exact J43 (F) (L) (A) (B) H locs ls hq (pR.rf hJ) hP hD hS (lv_sub hl [1, 0] rfl)
  · skip
    have r117 : rg x3 1 1 := (rg_ne1 c115 (r4 : rg x3 0 1) ((rg_k (by decide)) : rg 0 0 0)).1 rfl
    refine lv_iload_n hx hb dX12_readLends_12 rfl (lv_at hl 0 rfl) ?_
    refine lv_if_lt (tgt := 43) hx hb dX12_readLends_13 (by decide) (fun c118 => ?_) (fun c118 => ?_)
    · skip
      have r119 : rg x1 (-1) (-1) := rg_lt1 (iL c118) (r2 : rg x1 (-1) 7) ((rg_k (by decide)) : rg 0 0 0)
      exact J43 (F) (L) (A) (B) H locs ls hq (pR.rf hJ) hP hD hS (lv_sub hl [1, 0] rfl)
    · skip
      have r120 : rg x1 0 7 := rg_le2 (iNL c118) ((rg_k (by decide)) : rg 0 0 0) (r2 : rg x1 (-1) 7)
      refine lv_aload_n hx hb dX12_readLends_16 rfl (lv_at hl 1 rfl) ?_
      refine va_get (ci := 12) (v := .ref (ad 11)) (C := RX12) (T := TX12) (N := 57) hx hb hg inX12 hown hK hP 0 atM_0 rfl 19 (by decide) (hg _ mw_1127) (fun _ h9 => h9) rfl dX12_readLends_17 ?_
      refine lv_bipush (v := 8) hx hb dX12_readLends_20 (by decide) ?_
      refine lv_aload_n hx hb dX12_readLends_22 rfl (lv_at hl 1 rfl) ?_
      refine va_get (ci := 12) (v := .int (F 9)) (C := RX12) (T := TX12) (N := 57) hx hb hg inX12 hown hK hP 0 atM_0 rfl 25 (by decide) (hg _ mw_1133) (fun _ h9 => h9) rfl dX12_readLends_23 ?_
      refine lv_topi (fun x121 e122 => ?_)
      have r123 : rg x121 0 1 := rg_e e122 (hq.1.1 9)
      refine lv_imul hx hb dX12_readLends_26 ?_
      refine lv_topi (fun x124 e125 => ?_)
      have r126 : rg x124 0 8 := rg_mul e125 ((rg_k (by decide)) : rg 8 8 8) r123 (by decide)
      refine lv_iload_n hx hb dX12_readLends_27 rfl (lv_at hl 0 rfl) ?_
      refine lv_iadd hx hb dX12_readLends_28 ?_
      refine lv_topi (fun x127 e128 => ?_)
      have r129 : rg x127 0 15 := rg_add e128 r126 r120 (by decide)
      refine va_zald hx hb hK hP 11 10 atM_11 tyM_11 (in_rg r129 (by decide)) dX12_readLends_29 ?_
      refine lv_topi (fun x130 e131 => ?_)
      have r132 : rg x130 0 1 := rg_e e131 (hq.1.2 11 _)
      refine lv_if_ne (tgt := 43) hx hb dX12_readLends_30 (by decide) (fun c133 => ?_) (fun c133 => ?_)
      · skip
        have r134 : rg x130 1 1 := (rg_ne1 c133 (r132 : rg x130 0 1) ((rg_k (by decide)) : rg 0 0 0)).1 rfl
        exact J43 (F) (L) (A) (B) H locs ls hq (pR.rf hJ) hP hD hS (lv_sub hl [1, 0] rfl)
      · skip
        have r135 : rg x130 0 0 := rg_eq1 c133 (r132 : rg x130 0 1) ((rg_k (by decide)) : rg 0 0 0) (by decide)
        refine lv_aload_n hx hb dX12_readLends_33 rfl (lv_at hl 1 rfl) ?_
        refine lv_bipush (v := 6) hx hb dX12_readLends_34 (by decide) ?_
        refine lv_aload_n hx hb dX12_readLends_36 rfl (lv_at hl 1 rfl) ?_
        refine va_get (ci := 12) (v := .int (F 4)) (C := RX12) (T := TX12) (N := 57) hx hb hg inX12 hown hK hP 0 atM_0 rfl 6 (by decide) (hg _ mw_1114) (fun _ h9 => h9) rfl dX12_readLends_37 ?_
        refine lv_topi (fun x136 e137 => ?_)
        have r138 : rg x136 0 1700 := rg_e e137 (hq.1.1 4)
        refine callv_v (As := [.int 6, .int x136]) (rest := []) hC (c_X12_fails_0 l D cA H.size ad F L A B (6) (x136) hq.1 (rg_k (by decide)) r138) (cwV 2 hg (g_V mw_1332 mw_1329 mw_1331 ms_55 mw_20) rfl rfl rfl (by decide +kernel) ⟨(Nat.le_of_ble_eq_true rfl), (Nat.le_of_ble_eq_true rfl)⟩) hP hD hS hA atM_0 rfl rfl hl.1 rfl (Nat.le_of_ble_eq_true rfl) dX12_readLends_40 ⟨Nat.zero_le _, Nat.zero_le _⟩ (fun  u H locs hw hP hD hS => ?_)
        obtain ⟨F139, L139, A139, B139⟩ := u
        try dsimp only at hw
        obtain ⟨hq139, g140⟩ := hw
        have hq := hq.call hq139 (by decide)
        have hP : va_P D classes (wM cA ad F139 L139 A139 B139) H := hP
        have hD : va_D Af (wM cA ad F139 L139 A139 B139) := hD
        exact J43 (F139) (L139) (A139) (B139) H locs ls hq (pR.fr (pR.rf hJ) (hq139.2.1 4 (by decide)) (hq139.2.1 5 (by decide)) (hq139.2.1 1 (by decide)) (hq139.2.1 6 (by decide))) hP hD hS (lv_sub hl [1, 0] rfl)
abbrev rm_X12_readSmith_0 : Room := { frames := 3, cells := 0, slots := 0, locals := 66 }
set_option maxHeartbeats 4000000 in
set_option maxRecDepth 100000 in
theorem c_X12_readSmith_0 (l : Launch) (D : va_G) (cA : Nat → ClassId) (sz : Nat) (ad : Nat → Nat) (F : Nat → Int32) (L : Nat → Int64) (A : Nat → Nat → Int32) (B : Nat → Nat → Int64)  (hT : typM F A) (hJ : pI F) (hM7 : rg (A 3 (F 9).toNatClampNeg) 0 7) : Met l yX12_readSmith (Cond.code yX12_readSmith cX12_readSmith 2 none :: GW) rm_X12_readSmith_0 (mPc D classes (tysM cA) (wM cA ad F L A B) sz [.ref (ad 0)]) (mQv (S := SW) D classes (tysM cA) (wM cA ad F L A B) sz (wfM cA ad) (fun u => qM [2, 3, 4, 5, 6, 7] [3, 8, 9, 11, 14] F A u.1 u.2.2.1 ∧ pR F u.1)) 0 0 (va_A (wM cA ad F L A B) sz) := by
  refine met_v (own := "ShoeingDayModel") (by decide +kernel) rfl (Nat.le_of_ble_eq_true rfl) ?_
  intro p e s m args below meth c Q Af ls hC hP hD hS hA hl hret
  have hx := hC.1
  have hb := hC.2.1
  have hown := hC.2.2.2.1
  have hg := hC.g
  have hK := hC.K
  have hl : lv_has ls 2 [(0, .ref (ad 0))] := hl
  have hq : qM [2, 3, 4, 5, 6, 7] [3, 8, 9, 11, 14] F A F A := qM.rf hT
  obtain ⟨H, hH⟩ : ∃ H, H = s.heap := ⟨_, rfl⟩
  have hP : va_P D classes (wM cA ad F L A B) H := by rw [hH]; exact hP
  have hS : va_S Af s.heap H [] := by rw [hH]; exact hS
  obtain ⟨locs, hlo⟩ : ∃ q : List Loc, q = [] := ⟨_, rfl⟩
  rw [← hH, ← hlo]
  rw [← hlo] at hS
  refine lv_bipush (v := 8) hx hb dX12_readSmith_0 (by decide) ?_
  refine lv_aload_n hx hb dX12_readSmith_2 rfl (lv_at hl 0 rfl) ?_
  refine va_get (ci := 12) (v := .int (F 9)) (C := RX12) (T := TX12) (N := 57) hx hb hg inX12 hown hK hP 0 atM_0 rfl 25 (by decide) (hg _ mw_1133) (fun _ h9 => h9) rfl dX12_readSmith_3 ?_
  refine lv_topi (fun x1 e2 => ?_)
  have r3 : rg x1 0 1 := rg_e e2 (hq.1.1 9)
  refine lv_imul hx hb dX12_readSmith_6 ?_
  refine lv_topi (fun x4 e5 => ?_)
  have r6 : rg x4 0 8 := rg_mul e5 ((rg_k (by decide)) : rg 8 8 8) r3 (by decide)
  refine lv_aload_n hx hb dX12_readSmith_7 rfl (lv_at hl 0 rfl) ?_
  refine va_get (ci := 12) (v := .ref (ad 3)) (C := RX12) (T := TX12) (N := 57) hx hb hg inX12 hown hK hP 0 atM_0 rfl 11 (by decide) (hg _ mw_1119) (fun _ h9 => h9) rfl dX12_readSmith_8 ?_
  refine lv_aload_n hx hb dX12_readSmith_11 rfl (lv_at hl 0 rfl) ?_
  refine va_get (ci := 12) (v := .int x1) (C := RX12) (T := TX12) (N := 57) hx hb hg inX12 hown hK hP 0 atM_0 rfl 25 (by decide) (hg _ mw_1133) (fun _ h9 => h9) (congrArg (fun z => some (Value.int z)) (e2.symm)) dX12_readSmith_12 ?_
  refine va_iald hx hb hK hP 3 2 atM_3 tyM_3 (in_rg r3 (by decide)) dX12_readSmith_15 ?_
  refine lv_topi (fun x7 e8 => ?_)
  have r9 : rg x7 0 7 := rg_e (e8.trans ((congrFun rfl _).trans (by rw [e2]))) hM7
  refine lv_iadd hx hb dX12_readSmith_16 ?_
  refine lv_topi (fun x10 e11 => ?_)
  have r12 : rg x10 0 15 := rg_add e11 r6 r9 (by decide)
  refine lv_istore_n (lv' := [(1, .int x10), (0, .ref (ad 0))]) hx hb dX12_readSmith_17 rfl hl (by decide) rfl (fun ls hl => ?_)
  refine lv_aload_n hx hb dX12_readSmith_18 rfl (lv_at hl 1 rfl) ?_
  refine va_get (ci := 12) (v := .ref (ad 14)) (C := RX12) (T := TX12) (N := 57) hx hb hg inX12 hown hK hP 0 atM_0 rfl 22 (by decide) (hg _ mw_1130) (fun _ h9 => h9) rfl dX12_readSmith_19 ?_
  refine lv_iload_n hx hb dX12_readSmith_22 rfl (lv_at hl 0 rfl) ?_
  refine lv_aload_n hx hb dX12_readSmith_23 rfl (lv_at hl 1 rfl) ?_
  refine lv_aload_n hx hb dX12_readSmith_24 rfl (lv_at hl 1 rfl) ?_
  refine callv_i (As := []) (rest := [.ref (ad 0), .int x10, .ref (ad 14)]) hC (c_X12_smithHere_0 l D cA H.size ad F L A B  hq.1) (cwV 0 hg (g_V mw_1340 mw_1337 mw_1339 ms_57 mw_20) rfl rfl rfl (by decide +kernel) ⟨(Nat.le_of_ble_eq_true rfl), (Nat.le_of_ble_eq_true rfl)⟩) hP hD hS hA atM_0 rfl rfl hl.1 rfl (Nat.le_of_ble_eq_true rfl) dX12_readSmith_25 ⟨Nat.zero_le _, Nat.zero_le _⟩ (fun x13 u H locs hw hP hD hS => ?_)
  have r14 := hw
  have hP : va_P D classes (wM cA ad F L A B) H := hP
  have hD : va_D Af (wM cA ad F L A B) := hD
  have J36 : ∀ (a15 : Int32) (F17 : Nat → Int32) (L17 : Nat → Int64) (A17 : Nat → Nat → Int32) (B17 : Nat → Nat → Int64) (H : Heap) (locs : List Loc) (ls : Array Slot), rg a15 0 1 → qM [2, 3, 4, 5, 6, 7] [3, 8, 9, 11, 14] F A F17 A17 → A17 3 = A 3 → pR F F17 → F17 9 = x1 → va_P D classes (wM cA ad F17 L17 A17 B17) H → va_D Af (wM cA ad F17 L17 A17 B17) → va_S Af s.heap H locs → lv_has ls 2 [(0, .ref (ad 0)), (1, .int x10)] → W p l e rm_X12_readSmith_0 s m args below meth c H locs 0 0 Q (F0 m 36 ls [.int a15, .ref (ad 0), .int x10, .ref (ad 14)]) := by
    intro a15 F17 L17 A17 B17 H locs ls r16 hq k18 i19 f20 hP hD hS hl
    refine callv_l (As := [.int a15]) (rest := [.int x10, .ref (ad 14)]) hC (c_X12_fresh_0 l D cA H.size ad F17 L17 A17 B17 (a15) hq.1 r16 (i19).1) (cwV 1 hg (g_V mw_1344 mw_1341 mw_1343 ms_58 mw_20) rfl rfl rfl (by decide +kernel) ⟨(Nat.le_of_ble_eq_true rfl), (Nat.le_of_ble_eq_true rfl)⟩) hP hD hS hA atM_0 rfl rfl hl.1 rfl (Nat.le_of_ble_eq_true rfl) dX12_readSmith_36 ⟨Nat.zero_le _, Nat.zero_le _⟩ (fun z21 u H locs hw hP hD hS => ?_)
    obtain ⟨F22, L22, A22, B22⟩ := u
    try dsimp only at hw
    obtain ⟨hq22, g23⟩ := hw
    have hq := hq.call hq22 (by decide)
    have hP : va_P D classes (wM cA ad F22 L22 A22 B22) H := hP
    have hD : va_D Af (wM cA ad F22 L22 A22 B22) := hD
    refine va_last hx hb hK hP hD hS 14 13 atM_14 tyM_14 (in_rg r12 (by decide)) dX12_readSmith_39 (fun H locs hP hD hS => ?_)
    rw [setBM_14] at hP hD
    refine lv_aload_n hx hb dX12_readSmith_40 rfl (lv_at hl 0 rfl) ?_
    refine va_get (ci := 12) (v := .ref (ad 11)) (C := RX12) (T := TX12) (N := 57) hx hb hg inX12 hown hK hP 0 atM_0 rfl 19 (by decide) (hg _ mw_1127) (fun _ h9 => h9) rfl dX12_readSmith_41 ?_
    refine lv_iload_n hx hb dX12_readSmith_44 rfl (lv_at hl 1 rfl) ?_
    refine lv_aload_n hx hb dX12_readSmith_45 rfl (lv_at hl 0 rfl) ?_
    refine callv_i (As := []) (rest := [.int x10, .ref (ad 11)]) hC (c_X12_isGood_0 l D cA H.size ad F22 L22 A22 (va_up B22 14 (vp_updL (B22 14) (x10).toNatClampNeg z21))  hq.1) (cwV 0 hg (g_V mw_1312 mw_1309 mw_1311 ms_50 mw_20) rfl rfl rfl (by decide +kernel) ⟨(Nat.le_of_ble_eq_true rfl), (Nat.le_of_ble_eq_true rfl)⟩) hP hD hS hA atM_0 rfl rfl hl.1 rfl (Nat.le_of_ble_eq_true rfl) dX12_readSmith_46 ⟨Nat.zero_le _, Nat.zero_le _⟩ (fun x24 u H locs hw hP hD hS => ?_)
    obtain ⟨r25, g26⟩ := hw
    have hP : va_P D classes (wM cA ad F22 L22 A22 (va_up B22 14 (vp_updL (B22 14) (x10).toNatClampNeg z21))) H := hP
    have hD : va_D Af (wM cA ad F22 L22 A22 (va_up B22 14 (vp_updL (B22 14) (x10).toNatClampNeg z21))) := hD
    have J67 : ∀ (a27 : Int32) (F29 : Nat → Int32) (L29 : Nat → Int64) (A29 : Nat → Nat → Int32) (B29 : Nat → Nat → Int64) (H : Heap) (locs : List Loc) (ls : Array Slot), rg a27 0 1 → qM [2, 3, 4, 5, 6, 7] [3, 8, 9, 11, 14] F A F29 A29 → A29 3 = A 3 → pR F F29 → F29 9 = x1 → va_P D classes (wM cA ad F29 L29 A29 B29) H → va_D Af (wM cA ad F29 L29 A29 B29) → va_S Af s.heap H locs → lv_has ls 2 [(0, .ref (ad 0)), (1, .int x10)] → W p l e rm_X12_readSmith_0 s m args below meth c H locs 0 0 Q (F0 m 67 ls [.int a27, .int x10, .ref (ad 11)]) := by
      intro a27 F29 L29 A29 B29 H locs ls r28 hq k30 i31 f32 hP hD hS hl
      refine va_zast hx hb hK hP hD hS 11 10 atM_11 tyM_11 (in_rg r12 (by decide)) dX12_readSmith_67 (fun H locs hP hD hS => ?_)
      have hq := hq.ast 11 (x10).toNatClampNeg (x := (vp_nar .boolean a27)) (by decide) (rg_nz _)
      rw [setM_11] at hP hD
      refine lv_aload_n hx hb dX12_readSmith_68 rfl (lv_at hl 0 rfl) ?_
      refine va_get (ci := 12) (v := .ref (ad 11)) (C := RX12) (T := TX12) (N := 57) hx hb hg inX12 hown hK hP 0 atM_0 rfl 19 (by decide) (hg _ mw_1127) (fun _ h9 => h9) rfl dX12_readSmith_69 ?_
      refine lv_iload_n hx hb dX12_readSmith_72 rfl (lv_at hl 1 rfl) ?_
      refine va_zald hx hb hK hP 11 10 atM_11 tyM_11 (in_rg r12 (by decide)) dX12_readSmith_73 ?_
      refine lv_topi (fun x33 e34 => ?_)
      have r35 : rg x33 0 1 := rg_e e34 (hq.1.2 11 _)
      have J81 : ∀ (F36 : Nat → Int32) (L36 : Nat → Int64) (A36 : Nat → Nat → Int32) (B36 : Nat → Nat → Int64) (H : Heap) (locs : List Loc) (ls : Array Slot), qM [2, 3, 4, 5, 6, 7] [3, 8, 9, 11, 14] F A F36 A36 → A36 3 = A 3 → pR F F36 → F36 9 = x1 → va_P D classes (wM cA ad F36 L36 A36 B36) H → va_D Af (wM cA ad F36 L36 A36 B36) → va_S Af s.heap H locs → lv_has ls 2 [(0, .ref (ad 0)), (1, .int x10)] → W p l e rm_X12_readSmith_0 s m args below meth c H locs 0 0 Q (F0 m 81 ls []) := by
        intro F36 L36 A36 B36 H locs ls hq k37 i38 f39 hP hD hS hl
        refine lv_aload_n hx hb dX12_readSmith_81 rfl (lv_at hl 0 rfl) ?_
        refine lv_aload_n hx hb dX12_readSmith_82 rfl (lv_at hl 0 rfl) ?_
        refine lv_ldc2 (v := 2002872165) hx hb hown (hg _ mw_1301) dX12_readSmith_83 ?_
        refine callv_i (As := [.long (2002872165 : Int64)]) (rest := [.ref (ad 0)]) hC (c_X12_isWord_0 l D cA H.size ad F36 L36 A36 B36 ((2002872165 : Int64)) hq.1) (cwV 1 hg (g_V mw_1324 mw_1321 mw_1323 ms_53 mw_20) rfl rfl rfl (by decide +kernel) ⟨(Nat.le_of_ble_eq_true rfl), (Nat.le_of_ble_eq_true rfl)⟩) hP hD hS hA atM_0 rfl rfl hl.1 rfl (Nat.le_of_ble_eq_true rfl) dX12_readSmith_86 ⟨Nat.zero_le _, Nat.zero_le _⟩ (fun x40 u H locs hw hP hD hS => ?_)
        obtain ⟨r41, g42⟩ := hw
        have hP : va_P D classes (wM cA ad F36 L36 A36 B36) H := hP
        have hD : va_D Af (wM cA ad F36 L36 A36 B36) := hD
        refine callv_v (As := [.int x40]) (rest := []) hC (c_X12_must_0 l D cA H.size ad F36 L36 A36 B36 (x40) hq.1 r41 (i38).1) (cwV 1 hg (g_V mw_1348 mw_1345 mw_1347 ms_59 mw_20) rfl rfl rfl (by decide +kernel) ⟨(Nat.le_of_ble_eq_true rfl), (Nat.le_of_ble_eq_true rfl)⟩) hP hD hS hA atM_0 rfl rfl hl.1 rfl (Nat.le_of_ble_eq_true rfl) dX12_readSmith_89 ⟨Nat.zero_le _, Nat.zero_le _⟩ (fun  u H locs hw hP hD hS => ?_)
        obtain ⟨F43, L43, A43, B43⟩ := u
        try dsimp only at hw
        obtain ⟨hq43, g44⟩ := hw
        have hq := hq.call hq43 (by decide)
        have hP : va_P D classes (wM cA ad F43 L43 A43 B43) H := hP
        have hD : va_D Af (wM cA ad F43 L43 A43 B43) := hD
        refine lv_aload_n hx hb dX12_readSmith_92 rfl (lv_at hl 0 rfl) ?_
        refine va_get (ci := 12) (v := .ref (ad 8)) (C := RX12) (T := TX12) (N := 57) hx hb hg inX12 hown hK hP 0 atM_0 rfl 16 (by decide) (hg _ mw_1124) (fun _ h9 => h9) rfl dX12_readSmith_93 ?_
        refine lv_iload_n hx hb dX12_readSmith_96 rfl (lv_at hl 1 rfl) ?_
        refine lv_aload_n hx hb dX12_readSmith_97 rfl (lv_at hl 0 rfl) ?_
        refine lv_iconst (v := 0) hx hb dX12_readSmith_98 (by decide) ?_
        refine lv_bipush (v := 99) hx hb dX12_readSmith_99 (by decide) ?_
        refine callv_i (As := [.int 0, .int 99]) (rest := [.int x10, .ref (ad 8)]) hC (c_X12_numeral_0 l D cA H.size ad F43 L43 A43 B43 (0) (99) hq.1 (rg_k (by decide)) (rg_k (by decide)) ((pR.tr i38 g44)).1) (cwV 2 hg (g_V mw_1352 mw_1349 mw_1351 ms_60 mw_20) rfl rfl rfl (by decide +kernel) ⟨(Nat.le_of_ble_eq_true rfl), (Nat.le_of_ble_eq_true rfl)⟩) hP hD hS hA atM_0 rfl rfl hl.1 rfl (Nat.le_of_ble_eq_true rfl) dX12_readSmith_101 ⟨Nat.zero_le _, Nat.zero_le _⟩ (fun x45 u H locs hw hP hD hS => ?_)
        obtain ⟨F46, L46, A46, B46⟩ := u
        try dsimp only at hw
        obtain ⟨hq46, g47⟩ := hw
        have hq := hq.call hq46 (by decide)
        have hP : va_P D classes (wM cA ad F46 L46 A46 B46) H := hP
        have hD : va_D Af (wM cA ad F46 L46 A46 B46) := hD
        refine va_iast hx hb hK hP hD hS 8 7 atM_8 tyM_8 (in_rg r12 (by decide)) dX12_readSmith_104 (fun H locs hP hD hS => ?_)
        have hq := hq.ast 8 (x10).toNatClampNeg (x := x45) (by decide) (rg_top _)
        rw [setM_8] at hP hD
        have k48 : x45 = (va_up A46 8 (upd (A46 8) (x10).toNatClampNeg x45)) 8 (x10).toNatClampNeg := (rdA).symm
        refine lv_aload_n hx hb dX12_readSmith_105 rfl (lv_at hl 0 rfl) ?_
        refine va_get (ci := 12) (v := .ref (ad 9)) (C := RX12) (T := TX12) (N := 57) hx hb hg inX12 hown hK hP 0 atM_0 rfl 17 (by decide) (hg _ mw_1125) (fun _ h9 => h9) rfl dX12_readSmith_106 ?_
        refine lv_iload_n hx hb dX12_readSmith_109 rfl (lv_at hl 1 rfl) ?_
        refine lv_iconst (v := 0) hx hb dX12_readSmith_110 (by decide) ?_
        refine va_iast hx hb hK hP hD hS 9 8 atM_9 tyM_9 (in_rg r12 (by decide)) dX12_readSmith_111 (fun H locs hP hD hS => ?_)
        have hq := hq.ast 9 (x10).toNatClampNeg (x := 0) (by decide) (rg_k (by decide))
        rw [setM_9] at hP hD
        have k49 : (0 : Int32) = (va_up (va_up A46 8 (upd (A46 8) (x10).toNatClampNeg x45)) 9 (upd ((va_up A46 8 (upd (A46 8) (x10).toNatClampNeg x45)) 9) (x10).toNatClampNeg 0)) 9 (x10).toNatClampNeg := (rdA).symm
        refine lv_aload_n hx hb dX12_readSmith_112 rfl (lv_at hl 0 rfl) ?_
        refine va_get (ci := 12) (v := .ref (ad 3)) (C := RX12) (T := TX12) (N := 57) hx hb hg inX12 hown hK hP 0 atM_0 rfl 11 (by decide) (hg _ mw_1119) (fun _ h9 => h9) rfl dX12_readSmith_113 ?_
        refine lv_aload_n hx hb dX12_readSmith_116 rfl (lv_at hl 0 rfl) ?_
        refine va_get (ci := 12) (v := .int x1) (C := RX12) (T := TX12) (N := 57) hx hb hg inX12 hown hK hP 0 atM_0 rfl 25 (by decide) (hg _ mw_1133) (fun _ h9 => h9) (congrArg (fun z => some (Value.int z)) ((hq46.2.1 9 (by decide)).trans ((hq43.2.1 9 (by decide)).trans (f39)))) dX12_readSmith_117 ?_
        refine lv_dup2_11 hx hb dX12_readSmith_120 rfl rfl ?_
        refine va_iald hx hb hK hP 3 2 atM_3 tyM_3 (in_rg r3 (by decide)) dX12_readSmith_121 ?_
        refine lv_topi (fun x50 e51 => ?_)
        have r52 : rg x50 0 7 := rg_e (e51.trans ((congrFun ((hq46.2.2 3 (by decide)).trans ((hq43.2.2 3 (by decide)).trans k37)) _).trans (by rw [e2]))) hM7
        refine lv_iconst (v := 1) hx hb dX12_readSmith_122 (by decide) ?_
        refine lv_iadd hx hb dX12_readSmith_123 ?_
        refine lv_topi (fun x53 e54 => ?_)
        have r55 : rg x53 1 8 := rg_add e54 r52 ((rg_k (by decide)) : rg 1 1 1) (by decide)
        refine va_iast hx hb hK hP hD hS 3 2 atM_3 tyM_3 (in_rg r3 (by decide)) dX12_readSmith_124 (fun H locs hP hD hS => ?_)
        have hq := hq.ast 3 (x1).toNatClampNeg (x := x53) (by decide) (rg_w r55 (by decide))
        rw [setM_3] at hP hD
        have k56 : x53 = (va_up (va_up (va_up A46 8 (upd (A46 8) (x10).toNatClampNeg x45)) 9 (upd ((va_up A46 8 (upd (A46 8) (x10).toNatClampNeg x45)) 9) (x10).toNatClampNeg 0)) 3 (upd ((va_up (va_up A46 8 (upd (A46 8) (x10).toNatClampNeg x45)) 9 (upd ((va_up A46 8 (upd (A46 8) (x10).toNatClampNeg x45)) 9) (x10).toNatClampNeg 0)) 3) (x1).toNatClampNeg x53)) 3 (x1).toNatClampNeg := (rdA).symm
        exact hret (F46, L46, (va_up (va_up (va_up A46 8 (upd (A46 8) (x10).toNatClampNeg x45)) 9 (upd ((va_up A46 8 (upd (A46 8) (x10).toNatClampNeg x45)) 9) (x10).toNatClampNeg 0)) 3 (upd ((va_up (va_up A46 8 (upd (A46 8) (x10).toNatClampNeg x45)) 9 (upd ((va_up A46 8 (upd (A46 8) (x10).toNatClampNeg x45)) 9) (x10).toNatClampNeg 0)) 3) (x1).toNatClampNeg x53)), B46) H locs 125 ls dX12_readSmith_125 hP hD hS ⟨hq, (pR.tr (pR.tr i38 g44) g47)⟩
      refine lv_if_eq (tgt := 81) hx hb dX12_readSmith_74 (by decide) (fun c57 => ?_) (fun c57 => ?_)
      · skip
        have r58 : rg x33 0 0 := rg_eq1 c57 (r35 : rg x33 0 1) ((rg_k (by decide)) : rg 0 0 0) (by decide)
        exact J81 (F29) (L29) ((va_up A29 11 (upd (A29 11) (x10).toNatClampNeg (vp_nar .boolean a27)))) (B29) H locs ls hq (k30) i31 (f32) hP hD hS (lv_sub hl [0, 1] rfl)
      · skip
        have r59 : rg x33 1 1 := (rg_ne1 c57 (r35 : rg x33 0 1) ((rg_k (by decide)) : rg 0 0 0)).1 rfl
        refine lv_aload_n hx hb dX12_readSmith_77 rfl (lv_at hl 0 rfl) ?_
        refine callv_v (As := []) (rest := []) hC (c_X12_goOn_0 l D cA H.size ad F29 L29 (va_up A29 11 (upd (A29 11) (x10).toNatClampNeg (vp_nar .boolean a27))) B29  hq.1 (i31).1.2.1) (cwV 0 hg (g_V mw_1288 mw_1285 mw_1287 ms_48 mw_20) rfl rfl rfl (by decide +kernel) ⟨(Nat.le_of_ble_eq_true rfl), (Nat.le_of_ble_eq_true rfl)⟩) hP hD hS hA atM_0 rfl rfl hl.1 rfl (Nat.le_of_ble_eq_true rfl) dX12_readSmith_78 ⟨Nat.zero_le _, Nat.zero_le _⟩ (fun  u H locs hw hP hD hS => ?_)
        obtain ⟨F60, L60, A60, B60⟩ := u
        try dsimp only at hw
        obtain ⟨hq60, g61⟩ := hw
        have hq := hq.call hq60 (by decide)
        have hP : va_P D classes (wM cA ad F60 L60 A60 B60) H := hP
        have hD : va_D Af (wM cA ad F60 L60 A60 B60) := hD
        exact J81 (F60) (L60) (A60) (B60) H locs ls hq (((hq60.2.2 3 (by decide)).trans k30)) (pR.go i31 g61) ((hq60.2.1 9 (by decide)).trans (f32)) hP hD hS (lv_sub hl [0, 1] rfl)
    have J66 : ∀ (F62 : Nat → Int32) (L62 : Nat → Int64) (A62 : Nat → Nat → Int32) (B62 : Nat → Nat → Int64) (H : Heap) (locs : List Loc) (ls : Array Slot), qM [2, 3, 4, 5, 6, 7] [3, 8, 9, 11, 14] F A F62 A62 → A62 3 = A 3 → pR F F62 → F62 9 = x1 → va_P D classes (wM cA ad F62 L62 A62 B62) H → va_D Af (wM cA ad F62 L62 A62 B62) → va_S Af s.heap H locs → lv_has ls 2 [(0, .ref (ad 0)), (1, .int x10)] → W p l e rm_X12_readSmith_0 s m args below meth c H locs 0 0 Q (F0 m 66 ls [.int x10, .ref (ad 11)]) := by
      intro F62 L62 A62 B62 H locs ls hq k63 i64 f65 hP hD hS hl
      refine lv_iconst (v := 0) hx hb dX12_readSmith_66 (by decide) ?_
      exact J67 (0) (F62) (L62) (A62) (B62) H locs ls (rg_k (by decide)) hq (k63) i64 (f65) hP hD hS (lv_sub hl [0, 1] rfl)
    refine lv_if_eq (tgt := 66) hx hb dX12_readSmith_49 (by decide) (fun c66 => ?_) (fun c66 => ?_)
    · skip
      have r67 : rg x24 0 0 := rg_eq1 c66 (r25 : rg x24 0 1) ((rg_k (by decide)) : rg 0 0 0) (by decide)
      exact J66 (F22) (L22) (A22) ((va_up B22 14 (vp_updL (B22 14) (x10).toNatClampNeg z21))) H locs ls hq (((hq22.2.2 3 (by decide)).trans k18)) (pR.tr i19 g23) ((hq22.2.1 9 (by decide)).trans (f20)) hP hD hS (lv_sub hl [0, 1] rfl)
    · skip
      have r68 : rg x24 1 1 := (rg_ne1 c66 (r25 : rg x24 0 1) ((rg_k (by decide)) : rg 0 0 0)).1 rfl
      refine lv_aload_n hx hb dX12_readSmith_52 rfl (lv_at hl 0 rfl) ?_
      refine lv_ldc2 (v := 120265316263282) hx hb hown (hg _ mw_1300) dX12_readSmith_53 ?_
      refine callv_i (As := [.long (120265316263282 : Int64)]) (rest := [.int x10, .ref (ad 11)]) hC (c_X12_isWord_0 l D cA H.size ad F22 L22 A22 (va_up B22 14 (vp_updL (B22 14) (x10).toNatClampNeg z21)) ((120265316263282 : Int64)) hq.1) (cwV 1 hg (g_V mw_1324 mw_1321 mw_1323 ms_53 mw_20) rfl rfl rfl (by decide +kernel) ⟨(Nat.le_of_ble_eq_true rfl), (Nat.le_of_ble_eq_true rfl)⟩) hP hD hS hA atM_0 rfl rfl hl.1 rfl (Nat.le_of_ble_eq_true rfl) dX12_readSmith_56 ⟨Nat.zero_le _, Nat.zero_le _⟩ (fun x69 u H locs hw hP hD hS => ?_)
      obtain ⟨r70, g71⟩ := hw
      have hP : va_P D classes (wM cA ad F22 L22 A22 (va_up B22 14 (vp_updL (B22 14) (x10).toNatClampNeg z21))) H := hP
      have hD : va_D Af (wM cA ad F22 L22 A22 (va_up B22 14 (vp_updL (B22 14) (x10).toNatClampNeg z21))) := hD
      refine lv_if_eq (tgt := 66) hx hb dX12_readSmith_59 (by decide) (fun c72 => ?_) (fun c72 => ?_)
      · skip
        have r73 : rg x69 0 0 := rg_eq1 c72 (r70 : rg x69 0 1) ((rg_k (by decide)) : rg 0 0 0) (by decide)
        exact J66 (F22) (L22) (A22) ((va_up B22 14 (vp_updL (B22 14) (x10).toNatClampNeg z21))) H locs ls hq (((hq22.2.2 3 (by decide)).trans k18)) (pR.tr i19 g23) ((hq22.2.1 9 (by decide)).trans (f20)) hP hD hS (lv_sub hl [0, 1] rfl)
      · skip
        have r74 : rg x69 1 1 := (rg_ne1 c72 (r70 : rg x69 0 1) ((rg_k (by decide)) : rg 0 0 0)).1 rfl
        refine lv_iconst (v := 1) hx hb dX12_readSmith_62 (by decide) ?_
        refine lv_goto (tgt := 67) hx hb dX12_readSmith_63 (by decide) ?_
        exact J67 (1) (F22) (L22) (A22) ((va_up B22 14 (vp_updL (B22 14) (x10).toNatClampNeg z21))) H locs ls (rg_k (by decide)) hq (((hq22.2.2 3 (by decide)).trans k18)) (pR.tr i19 g23) ((hq22.2.1 9 (by decide)).trans (f20)) hP hD hS (lv_sub hl [0, 1] rfl)
  refine lv_if_lt (tgt := 35) hx hb dX12_readSmith_28 (by decide) (fun c75 => ?_) (fun c75 => ?_)
  · skip
    have r76 : rg x13 (-1) (-1) := rg_lt1 (iL c75) (r14 : rg x13 (-1) 7) ((rg_k (by decide)) : rg 0 0 0)
    refine lv_iconst (v := 0) hx hb dX12_readSmith_35 (by decide) ?_
    exact J36 (0) (F) (L) (A) (B) H locs ls (rg_k (by decide)) hq (rfl) (pR.rf hJ) (e2.symm) hP hD hS (lv_sub hl [1, 0] rfl)
  · skip
    have r77 : rg x13 0 7 := rg_le2 (iNL c75) ((rg_k (by decide)) : rg 0 0 0) (r14 : rg x13 (-1) 7)
    refine lv_iconst (v := 1) hx hb dX12_readSmith_31 (by decide) ?_
    refine lv_goto (tgt := 36) hx hb dX12_readSmith_32 (by decide) ?_
    exact J36 (1) (F) (L) (A) (B) H locs ls (rg_k (by decide)) hq (rfl) (pR.rf hJ) (e2.symm) hP hD hS (lv_sub hl [1, 0] rfl)
