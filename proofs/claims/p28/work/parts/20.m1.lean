abbrev rm_X12_must_0 : Room := { frames := 2, cells := 0, slots := 0, locals := 43 }
set_option maxHeartbeats 4000000 in
set_option maxRecDepth 100000 in
theorem c_X12_must_0 (l : Launch) (D : va_G) (cA : Nat → ClassId) (sz : Nat) (ad : Nat → Nat) (F : Nat → Int32) (L : Nat → Int64) (A : Nat → Nat → Int32) (B : Nat → Nat → Int64) (p1 : Int32) (hT : typM F A) (hp1 : rg p1 0 1) (hJ : pI F) : Met l yX12_must (Cond.code yX12_must cX12_must 2 none :: GW) rm_X12_must_0 (mPc D classes (tysM cA) (wM cA ad F L A B) sz [.ref (ad 0), .int p1]) (mQv (S := SW) D classes (tysM cA) (wM cA ad F L A B) sz (wfM cA ad) (fun u => qM [2, 3, 4, 5, 6, 7] [] F A u.1 u.2.2.1 ∧ pR F u.1)) 0 0 (va_A (wM cA ad F L A B) sz) := by
  refine met_v (own := "ShoeingDayModel") (by decide +kernel) rfl (Nat.le_of_ble_eq_true rfl) ?_
  intro p e s m args below meth c Q Af ls hC hP hD hS hA hl hret
  have hx := hC.1
  have hb := hC.2.1
  have hown := hC.2.2.2.1
  have hg := hC.g
  have hK := hC.K
  have hl : lv_has ls 2 [(0, .ref (ad 0)), (1, .int p1)] := hl
  have hq : qM [2, 3, 4, 5, 6, 7] [] F A F A := qM.rf hT
  obtain ⟨H, hH⟩ : ∃ H, H = s.heap := ⟨_, rfl⟩
  have hP : va_P D classes (wM cA ad F L A B) H := by rw [hH]; exact hP
  have hS : va_S Af s.heap H [] := by rw [hH]; exact hS
  obtain ⟨locs, hlo⟩ : ∃ q : List Loc, q = [] := ⟨_, rfl⟩
  rw [← hH, ← hlo]
  rw [← hlo] at hS
  refine lv_aload_n hx hb dX12_must_0 rfl (lv_at hl 0 rfl) ?_
  refine callv_i (As := []) (rest := []) hC (c_X12_isGood_0 l D cA H.size ad F L A B  hq.1) (cwV 0 hg (g_V mw_1312 mw_1309 mw_1311 ms_50 mw_20) rfl rfl rfl (by decide +kernel) ⟨(Nat.le_of_ble_eq_true rfl), (Nat.le_of_ble_eq_true rfl)⟩) hP hD hS hA atM_0 rfl rfl hl.1 rfl (Nat.le_of_ble_eq_true rfl) dX12_must_1 ⟨Nat.zero_le _, Nat.zero_le _⟩ (fun x1 u H locs hw hP hD hS => ?_)
  obtain ⟨r2, g3⟩ := hw
  have hP : va_P D classes (wM cA ad F L A B) H := hP
  have hD : va_D Af (wM cA ad F L A B) := hD
  refine lv_if_ne (tgt := 8) hx hb dX12_must_4 (by decide) (fun c4 => ?_) (fun c4 => ?_)
  · skip
    have r5 : rg x1 1 1 := (rg_ne1 c4 (r2 : rg x1 0 1) ((rg_k (by decide)) : rg 0 0 0)).1 rfl
    refine lv_iload_n hx hb dX12_must_8 rfl (lv_at hl 1 rfl) ?_
    refine lv_if_eq (tgt := 19) hx hb dX12_must_9 (by decide) (fun c7 => ?_) (fun c7 => ?_)
    · skip
      have r8 : rg p1 0 0 := rg_eq1 c7 (hp1 : rg p1 0 1) ((rg_k (by decide)) : rg 0 0 0) (by decide)
      refine lv_aload_n hx hb dX12_must_19 rfl (lv_at hl 0 rfl) ?_
      refine callv_v (As := []) (rest := []) hC (c_X12_misplaced_0 l D cA H.size ad F L A B  hq.1) (cwV 0 hg (g_V mw_1328 mw_1325 mw_1327 ms_54 mw_20) rfl rfl rfl (by decide +kernel) ⟨(Nat.le_of_ble_eq_true rfl), (Nat.le_of_ble_eq_true rfl)⟩) hP hD hS hA atM_0 rfl rfl hl.1 rfl (Nat.le_of_ble_eq_true rfl) dX12_must_20 ⟨Nat.zero_le _, Nat.zero_le _⟩ (fun  u H locs hw hP hD hS => ?_)
      obtain ⟨F10, L10, A10, B10⟩ := u
      try dsimp only at hw
      obtain ⟨hq10, g11⟩ := hw
      have hq := hq.call hq10 (by decide)
      have hP : va_P D classes (wM cA ad F10 L10 A10 B10) H := hP
      have hD : va_D Af (wM cA ad F10 L10 A10 B10) := hD
      exact hret (F10, L10, A10, B10) H locs 23 ls dX12_must_23 hP hD hS ⟨hq, (pR.fr (pR.rf hJ) (hq10.2.1 4 (by decide)) (hq10.2.1 5 (by decide)) (hq10.2.1 1 (by decide)) (hq10.2.1 6 (by decide)))⟩
    · skip
      have r9 : rg p1 1 1 := (rg_ne1 c7 (hp1 : rg p1 0 1) ((rg_k (by decide)) : rg 0 0 0)).1 rfl
      refine lv_aload_n hx hb dX12_must_12 rfl (lv_at hl 0 rfl) ?_
      refine callv_v (As := []) (rest := []) hC (c_X12_goOn_0 l D cA H.size ad F L A B  hq.1 ((pR.rf hJ)).1.2.1) (cwV 0 hg (g_V mw_1288 mw_1285 mw_1287 ms_48 mw_20) rfl rfl rfl (by decide +kernel) ⟨(Nat.le_of_ble_eq_true rfl), (Nat.le_of_ble_eq_true rfl)⟩) hP hD hS hA atM_0 rfl rfl hl.1 rfl (Nat.le_of_ble_eq_true rfl) dX12_must_13 ⟨Nat.zero_le _, Nat.zero_le _⟩ (fun  u H locs hw hP hD hS => ?_)
      obtain ⟨F12, L12, A12, B12⟩ := u
      try dsimp only at hw
      obtain ⟨hq12, g13⟩ := hw
      have hq := hq.call hq12 (by decide)
      have hP : va_P D classes (wM cA ad F12 L12 A12 B12) H := hP
      have hD : va_D Af (wM cA ad F12 L12 A12 B12) := hD
      refine lv_goto (tgt := 23) hx hb dX12_must_16 (by decide) ?_
      exact hret (F12, L12, A12, B12) H locs 23 ls dX12_must_23 hP hD hS ⟨hq, (pR.go (pR.rf hJ) g13)⟩
  · skip
    have r6 : rg x1 0 0 := rg_eq1 c4 (r2 : rg x1 0 1) ((rg_k (by decide)) : rg 0 0 0) (by decide)
    exact hret (F, L, A, B) H locs 7 ls dX12_must_7 hP hD hS ⟨hq, (pR.rf hJ)⟩
abbrev rm_X12_numeral_0 : Room := { frames := 2, cells := 0, slots := 0, locals := 43 }
set_option maxHeartbeats 4000000 in
set_option maxRecDepth 100000 in
theorem c_X12_numeral_0 (l : Launch) (D : va_G) (cA : Nat → ClassId) (sz : Nat) (ad : Nat → Nat) (F : Nat → Int32) (L : Nat → Int64) (A : Nat → Nat → Int32) (B : Nat → Nat → Int64) (p1 : Int32) (p2 : Int32) (hT : typM F A) (hp1 : rg p1 0 0) (hp2 : rg p2 99 9999) (hJ : pI F) : Met l yX12_numeral (Cond.code yX12_numeral cX12_numeral 4 (some .int) :: GW) rm_X12_numeral_0 (mPc D classes (tysM cA) (wM cA ad F L A B) sz [.ref (ad 0), .int p1, .int p2]) (mQi (S := SW) D classes (tysM cA) (wM cA ad F L A B) sz (wfM cA ad) (fun r u => qM [2, 3, 4, 5, 6, 7] [] F A u.1 u.2.2.1 ∧ pR F u.1 ∧ (u.1 2 = 0 → (F 2 = 0 ∧ p1.toInt ≤ r.toInt ∧ r.toInt ≤ p2.toInt)))) 0 0 (va_A (wM cA ad F L A B) sz) := by
  refine met_i (own := "ShoeingDayModel") (by decide +kernel) rfl (Nat.le_of_ble_eq_true rfl) ?_
  intro p e s m args below meth c Q Af ls hC hP hD hS hA hl hret
  have hx := hC.1
  have hb := hC.2.1
  have hown := hC.2.2.2.1
  have hg := hC.g
  have hK := hC.K
  have hl : lv_has ls 4 [(0, .ref (ad 0)), (1, .int p1), (2, .int p2)] := hl
  have hq : qM [2, 3, 4, 5, 6, 7] [] F A F A := qM.rf hT
  obtain ⟨H, hH⟩ : ∃ H, H = s.heap := ⟨_, rfl⟩
  have hP : va_P D classes (wM cA ad F L A B) H := by rw [hH]; exact hP
  have hS : va_S Af s.heap H [] := by rw [hH]; exact hS
  obtain ⟨locs, hlo⟩ : ∃ q : List Loc, q = [] := ⟨_, rfl⟩
  rw [← hH, ← hlo]
  rw [← hlo] at hS
  refine lv_aload_n hx hb dX12_numeral_0 rfl (lv_at hl 0 rfl) ?_
  refine callv_i (As := []) (rest := []) hC (c_X12_isGood_0 l D cA H.size ad F L A B  hq.1) (cwV 0 hg (g_V mw_1312 mw_1309 mw_1311 ms_50 mw_20) rfl rfl rfl (by decide +kernel) ⟨(Nat.le_of_ble_eq_true rfl), (Nat.le_of_ble_eq_true rfl)⟩) hP hD hS hA atM_0 rfl rfl hl.1 rfl (Nat.le_of_ble_eq_true rfl) dX12_numeral_1 ⟨Nat.zero_le _, Nat.zero_le _⟩ (fun x1 u H locs hw hP hD hS => ?_)
  obtain ⟨r2, g3⟩ := hw
  have hP : va_P D classes (wM cA ad F L A B) H := hP
  have hD : va_D Af (wM cA ad F L A B) := hD
  refine lv_if_ne (tgt := 9) hx hb dX12_numeral_4 (by decide) (fun c4 => ?_) (fun c4 => ?_)
  · skip
    have r5 : rg x1 1 1 := (rg_ne1 c4 (r2 : rg x1 0 1) ((rg_k (by decide)) : rg 0 0 0)).1 rfl
    refine lv_aload_n hx hb dX12_numeral_9 rfl (lv_at hl 0 rfl) ?_
    refine va_get (ci := 12) (v := .int (F 6)) (C := RX12) (T := TX12) (N := 57) hx hb hg inX12 hown hK hP 0 atM_0 rfl 8 (by decide) (hg _ mw_1116) (fun _ h9 => h9) rfl dX12_numeral_10 ?_
    refine lv_topi (fun x7 e8 => ?_)
    have r9 : rg x7 0 5 := rg_e e8 (hq.1.1 6)
    refine lv_iconst (v := 4) hx hb dX12_numeral_13 (by decide) ?_
    have J21 : ∀ (F10 : Nat → Int32) (L10 : Nat → Int64) (A10 : Nat → Nat → Int32) (B10 : Nat → Nat → Int64) (H : Heap) (locs : List Loc) (ls : Array Slot), qM [2, 3, 4, 5, 6, 7] [] F A F10 A10 → pR F F10 → (F10 2 = 0 → F 2 = 0) → va_P D classes (wM cA ad F10 L10 A10 B10) H → va_D Af (wM cA ad F10 L10 A10 B10) → va_S Af s.heap H locs → lv_has ls 4 [(0, .ref (ad 0)), (1, .int p1), (2, .int p2)] → W p l e rm_X12_numeral_0 s m args below meth c H locs 0 0 Q (F0 m 21 ls []) := by
      intro F10 L10 A10 B10 H locs ls hq i11 v12 hP hD hS hl
      refine lv_aload_n hx hb dX12_numeral_21 rfl (lv_at hl 0 rfl) ?_
      refine callv_i (As := []) (rest := []) hC (c_X12_isGood_0 l D cA H.size ad F10 L10 A10 B10  hq.1) (cwV 0 hg (g_V mw_1312 mw_1309 mw_1311 ms_50 mw_20) rfl rfl rfl (by decide +kernel) ⟨(Nat.le_of_ble_eq_true rfl), (Nat.le_of_ble_eq_true rfl)⟩) hP hD hS hA atM_0 rfl rfl hl.1 rfl (Nat.le_of_ble_eq_true rfl) dX12_numeral_22 ⟨Nat.zero_le _, Nat.zero_le _⟩ (fun x13 u H locs hw hP hD hS => ?_)
      obtain ⟨r14, g15⟩ := hw
      have hP : va_P D classes (wM cA ad F10 L10 A10 B10) H := hP
      have hD : va_D Af (wM cA ad F10 L10 A10 B10) := hD
      have J53 : ∀ (F16 : Nat → Int32) (L16 : Nat → Int64) (A16 : Nat → Nat → Int32) (B16 : Nat → Nat → Int64) (H : Heap) (locs : List Loc) (ls : Array Slot), qM [2, 3, 4, 5, 6, 7] [] F A F16 A16 → pR F F16 → (F16 2 = 0 → (F 2 = 0 ∧ p1.toInt ≤ (F16 7).toInt ∧ (F16 7).toInt ≤ p2.toInt)) → va_P D classes (wM cA ad F16 L16 A16 B16) H → va_D Af (wM cA ad F16 L16 A16 B16) → va_S Af s.heap H locs → lv_has ls 4 [(0, .ref (ad 0)), (1, .int p1)] → W p l e rm_X12_numeral_0 s m args below meth c H locs 0 0 Q (F0 m 53 ls []) := by
        intro F16 L16 A16 B16 H locs ls hq i17 v18 hP hD hS hl
        refine lv_aload_n hx hb dX12_numeral_53 rfl (lv_at hl 0 rfl) ?_
        refine va_get (ci := 12) (v := .int (F16 7)) (C := RX12) (T := TX12) (N := 57) hx hb hg inX12 hown hK hP 0 atM_0 rfl 9 (by decide) (hg _ mw_1117) (fun _ h9 => h9) rfl dX12_numeral_54 ?_
        refine lv_topi (fun x19 e20 => ?_)
        refine lv_istore_n (lv' := [(3, .int x19), (0, .ref (ad 0)), (1, .int p1)]) hx hb dX12_numeral_57 rfl hl (by decide) rfl (fun ls hl => ?_)
        have nm53 : F16 2 = 0 → (F 2 = 0 ∧ p1.toInt ≤ x19.toInt ∧ x19.toInt ≤ p2.toInt) := by rw [← show F16 7 = x19 from e20.symm]; exact v18
        refine lv_aload_n hx hb dX12_numeral_58 rfl (lv_at hl 1 rfl) ?_
        refine callv_i (As := []) (rest := []) hC (c_X12_isGood_0 l D cA H.size ad F16 L16 A16 B16  hq.1) (cwV 0 hg (g_V mw_1312 mw_1309 mw_1311 ms_50 mw_20) rfl rfl rfl (by decide +kernel) ⟨(Nat.le_of_ble_eq_true rfl), (Nat.le_of_ble_eq_true rfl)⟩) hP hD hS hA atM_0 rfl rfl hl.1 rfl (Nat.le_of_ble_eq_true rfl) dX12_numeral_59 ⟨Nat.zero_le _, Nat.zero_le _⟩ (fun x21 u H locs hw hP hD hS => ?_)
        obtain ⟨r22, g23⟩ := hw
        have hP : va_P D classes (wM cA ad F16 L16 A16 B16) H := hP
        have hD : va_D Af (wM cA ad F16 L16 A16 B16) := hD
        have J69 : ∀ (F24 : Nat → Int32) (L24 : Nat → Int64) (A24 : Nat → Nat → Int32) (B24 : Nat → Nat → Int64) (H : Heap) (locs : List Loc) (ls : Array Slot), qM [2, 3, 4, 5, 6, 7] [] F A F24 A24 → pR F F24 → (F24 2 = 0 → (F 2 = 0 ∧ p1.toInt ≤ x19.toInt ∧ x19.toInt ≤ p2.toInt)) → va_P D classes (wM cA ad F24 L24 A24 B24) H → va_D Af (wM cA ad F24 L24 A24 B24) → va_S Af s.heap H locs → lv_has ls 4 [(0, .ref (ad 0)), (1, .int p1), (3, .int x19)] → W p l e rm_X12_numeral_0 s m args below meth c H locs 0 0 Q (F0 m 69 ls []) := by
          intro F24 L24 A24 B24 H locs ls hq i25 v26 hP hD hS hl
          refine lv_aload_n hx hb dX12_numeral_69 rfl (lv_at hl 0 rfl) ?_
          refine callv_i (As := []) (rest := []) hC (c_X12_isGood_0 l D cA H.size ad F24 L24 A24 B24  hq.1) (cwV 0 hg (g_V mw_1312 mw_1309 mw_1311 ms_50 mw_20) rfl rfl rfl (by decide +kernel) ⟨(Nat.le_of_ble_eq_true rfl), (Nat.le_of_ble_eq_true rfl)⟩) hP hD hS hA atM_0 rfl rfl hl.1 rfl (Nat.le_of_ble_eq_true rfl) dX12_numeral_70 ⟨Nat.zero_le _, Nat.zero_le _⟩ (fun x27 u H locs hw hP hD hS => ?_)
          obtain ⟨r28, g29⟩ := hw
          have hP : va_P D classes (wM cA ad F24 L24 A24 B24) H := hP
          have hD : va_D Af (wM cA ad F24 L24 A24 B24) := hD
          refine lv_if_eq (tgt := 80) hx hb dX12_numeral_73 (by decide) (fun c30 => ?_) (fun c30 => ?_)
          · skip
            have r31 : rg x27 0 0 := rg_eq1 c30 (r28 : rg x27 0 1) ((rg_k (by decide)) : rg 0 0 0) (by decide)
            refine lv_iload_n hx hb dX12_numeral_80 rfl (lv_at hl 1 rfl) ?_
            exact hret (p1) (F24, L24, A24, B24) H locs 81 ls rfl dX12_numeral_81 hP hD hS ⟨hq, i25, (fun h9 => absurd h9 ((g29).2.resolve_left (fun z => z c30)))⟩
          · skip
            have r32 : rg x27 1 1 := (rg_ne1 c30 (r28 : rg x27 0 1) ((rg_k (by decide)) : rg 0 0 0)).1 rfl
            refine lv_iload_n hx hb dX12_numeral_76 rfl (lv_at hl 2 rfl) ?_
            refine lv_goto (tgt := 81) hx hb dX12_numeral_77 (by decide) ?_
            exact hret (x19) (F24, L24, A24, B24) H locs 81 ls rfl dX12_numeral_81 hP hD hS ⟨hq, i25, v26⟩
        refine lv_if_eq (tgt := 69) hx hb dX12_numeral_62 (by decide) (fun c33 => ?_) (fun c33 => ?_)
        · skip
          have r34 : rg x21 0 0 := rg_eq1 c33 (r22 : rg x21 0 1) ((rg_k (by decide)) : rg 0 0 0) (by decide)
          exact J69 (F16) (L16) (A16) (B16) H locs ls hq i17 nm53 hP hD hS (lv_sub hl [1, 2, 0] rfl)
        · skip
          have r35 : rg x21 1 1 := (rg_ne1 c33 (r22 : rg x21 0 1) ((rg_k (by decide)) : rg 0 0 0)).1 rfl
          refine lv_aload_n hx hb dX12_numeral_65 rfl (lv_at hl 1 rfl) ?_
          refine callv_v (As := []) (rest := []) hC (c_X12_goOn_0 l D cA H.size ad F16 L16 A16 B16  hq.1 (i17).1.2.1) (cwV 0 hg (g_V mw_1288 mw_1285 mw_1287 ms_48 mw_20) rfl rfl rfl (by decide +kernel) ⟨(Nat.le_of_ble_eq_true rfl), (Nat.le_of_ble_eq_true rfl)⟩) hP hD hS hA atM_0 rfl rfl hl.1 rfl (Nat.le_of_ble_eq_true rfl) dX12_numeral_66 ⟨Nat.zero_le _, Nat.zero_le _⟩ (fun  u H locs hw hP hD hS => ?_)
          obtain ⟨F36, L36, A36, B36⟩ := u
          try dsimp only at hw
          obtain ⟨hq36, g37⟩ := hw
          have hq := hq.call hq36 (by decide)
          have hP : va_P D classes (wM cA ad F36 L36 A36 B36) H := hP
          have hD : va_D Af (wM cA ad F36 L36 A36 B36) := hD
          have ek66 := hq36.2.1 2 (by decide)
          exact J69 (F36) (L36) (A36) (B36) H locs ls hq (pR.go i17 g37) (fun h9 => nm53 (ek66.symm.trans h9)) hP hD hS (lv_sub hl [1, 2, 0] rfl)
      refine lv_if_eq (tgt := 53) hx hb dX12_numeral_25 (by decide) (fun c38 => ?_) (fun c38 => ?_)
      · skip
        have r39 : rg x13 0 0 := rg_eq1 c38 (r14 : rg x13 0 1) ((rg_k (by decide)) : rg 0 0 0) (by decide)
        exact J53 (F10) (L10) (A10) (B10) H locs ls hq i11 (fun h9 => absurd h9 ((g15).2.resolve_left (fun z => z c38))) hP hD hS (lv_sub hl [0, 1] rfl)
      · skip
        have r40 : rg x13 1 1 := (rg_ne1 c38 (r14 : rg x13 0 1) ((rg_k (by decide)) : rg 0 0 0)).1 rfl
        refine lv_aload_n hx hb dX12_numeral_28 rfl (lv_at hl 0 rfl) ?_
        refine va_get (ci := 12) (v := .int (F10 7)) (C := RX12) (T := TX12) (N := 57) hx hb hg inX12 hown hK hP 0 atM_0 rfl 9 (by decide) (hg _ mw_1117) (fun _ h9 => h9) rfl dX12_numeral_29 ?_
        refine lv_topi (fun x41 e42 => ?_)
        refine lv_iload_n hx hb dX12_numeral_32 rfl (lv_at hl 1 rfl) ?_
        have J44 : ∀ (F43 : Nat → Int32) (L43 : Nat → Int64) (A43 : Nat → Nat → Int32) (B43 : Nat → Nat → Int64) (H : Heap) (locs : List Loc) (ls : Array Slot), qM [2, 3, 4, 5, 6, 7] [] F A F43 A43 → pR F F43 → F43 7 = x41 → (True) → va_P D classes (wM cA ad F43 L43 A43 B43) H → va_D Af (wM cA ad F43 L43 A43 B43) → va_S Af s.heap H locs → lv_has ls 4 [(0, .ref (ad 0)), (1, .int p1)] → W p l e rm_X12_numeral_0 s m args below meth c H locs 0 0 Q (F0 m 44 ls []) := by
          intro F43 L43 A43 B43 H locs ls hq i44 f45 v46 hP hD hS hl
          refine lv_aload_n hx hb dX12_numeral_44 rfl (lv_at hl 0 rfl) ?_
          refine lv_iconst (v := 4) hx hb dX12_numeral_45 (by decide) ?_
          refine lv_aload_n hx hb dX12_numeral_46 rfl (lv_at hl 0 rfl) ?_
          refine va_get (ci := 12) (v := .int (F43 4)) (C := RX12) (T := TX12) (N := 57) hx hb hg inX12 hown hK hP 0 atM_0 rfl 6 (by decide) (hg _ mw_1114) (fun _ h9 => h9) rfl dX12_numeral_47 ?_
          refine lv_topi (fun x47 e48 => ?_)
          have r49 : rg x47 0 1700 := rg_e e48 (hq.1.1 4)
          refine callv_v (As := [.int 4, .int x47]) (rest := []) hC (c_X12_fails_0 l D cA H.size ad F43 L43 A43 B43 (4) (x47) hq.1 (rg_k (by decide)) r49) (cwV 2 hg (g_V mw_1332 mw_1329 mw_1331 ms_55 mw_20) rfl rfl rfl (by decide +kernel) ⟨(Nat.le_of_ble_eq_true rfl), (Nat.le_of_ble_eq_true rfl)⟩) hP hD hS hA atM_0 rfl rfl hl.1 rfl (Nat.le_of_ble_eq_true rfl) dX12_numeral_50 ⟨Nat.zero_le _, Nat.zero_le _⟩ (fun  u H locs hw hP hD hS => ?_)
          obtain ⟨F50, L50, A50, B50⟩ := u
          try dsimp only at hw
          obtain ⟨hq50, g51⟩ := hw
          have hq := hq.call hq50 (by decide)
          have hP : va_P D classes (wM cA ad F50 L50 A50 B50) H := hP
          have hD : va_D Af (wM cA ad F50 L50 A50 B50) := hD
          exact J53 (F50) (L50) (A50) (B50) H locs ls hq (pR.fr i44 (hq50.2.1 4 (by decide)) (hq50.2.1 5 (by decide)) (hq50.2.1 1 (by decide)) (hq50.2.1 6 (by decide))) (fun h9 => absurd g51 (by rw [h9]; decide)) hP hD hS (lv_sub hl [0, 1] rfl)
        refine lv_icmp_lt (tgt := 44) hx hb dX12_numeral_33 (by decide) (fun c52 => ?_) (fun c52 => ?_)
        · skip
          have r53 : rg x41 (-2147483648) (-1) := rg_lt1 (iL c52) ((rg_top _) : rg x41 (-2147483648) 2147483647) (hp1 : rg p1 0 0)
          exact J44 (F10) (L10) (A10) (B10) H locs ls hq i11 (e42.symm) trivial hP hD hS (lv_sub hl [0, 1] rfl)
        · skip
          have r54 : rg x41 0 2147483647 := rg_le2 (iNL c52) (hp1 : rg p1 0 0) ((rg_top _) : rg x41 (-2147483648) 2147483647)
          refine lv_aload_n hx hb dX12_numeral_36 rfl (lv_at hl 0 rfl) ?_
          refine va_get (ci := 12) (v := .int x41) (C := RX12) (T := TX12) (N := 57) hx hb hg inX12 hown hK hP 0 atM_0 rfl 9 (by decide) (hg _ mw_1117) (fun _ h9 => h9) (congrArg (fun z => some (Value.int z)) (e42.symm)) dX12_numeral_37 ?_
          refine lv_iload_n hx hb dX12_numeral_40 rfl (lv_at hl 2 rfl) ?_
          refine lv_icmp_le (tgt := 53) hx hb dX12_numeral_41 (by decide) (fun c55 => ?_) (fun c55 => ?_)
          · skip
            have r56 : rg x41 0 9999 := rg_le1 (iE c55) (r54 : rg x41 0 2147483647) (hp2 : rg p2 99 9999)
            exact J53 (F10) (L10) (A10) (B10) H locs ls hq i11 (fun h9 => ⟨v12 h9, by rw [show F10 7 = x41 from e42.symm]; exact (iNL c52), by rw [show F10 7 = x41 from e42.symm]; exact (iE c55)⟩) hP hD hS (lv_sub hl [0, 1] rfl)
          · skip
            have r57 : rg x41 100 2147483647 := rg_lt2 (iNE c55) (hp2 : rg p2 99 9999) (r54 : rg x41 0 2147483647)
            exact J44 (F10) (L10) (A10) (B10) H locs ls hq i11 (e42.symm) trivial hP hD hS (lv_sub hl [0, 1] rfl)
    refine lv_icmp_eq (tgt := 21) hx hb dX12_numeral_14 (by decide) (fun c58 => ?_) (fun c58 => ?_)
    · skip
      have r59 : rg x7 4 4 := rg_eq1 c58 (r9 : rg x7 0 5) ((rg_k (by decide)) : rg 4 4 4) (by decide)
      exact J21 (F) (L) (A) (B) H locs ls hq (pR.rf hJ) (fun h9 => h9) hP hD hS (lv_sub hl [0, 1, 2] rfl)
    · skip
      refine lv_aload_n hx hb dX12_numeral_17 rfl (lv_at hl 0 rfl) ?_
      refine callv_v (As := []) (rest := []) hC (c_X12_misplaced_0 l D cA H.size ad F L A B  hq.1) (cwV 0 hg (g_V mw_1328 mw_1325 mw_1327 ms_54 mw_20) rfl rfl rfl (by decide +kernel) ⟨(Nat.le_of_ble_eq_true rfl), (Nat.le_of_ble_eq_true rfl)⟩) hP hD hS hA atM_0 rfl rfl hl.1 rfl (Nat.le_of_ble_eq_true rfl) dX12_numeral_18 ⟨Nat.zero_le _, Nat.zero_le _⟩ (fun  u H locs hw hP hD hS => ?_)
      obtain ⟨F60, L60, A60, B60⟩ := u
      try dsimp only at hw
      obtain ⟨hq60, g61⟩ := hw
      have hq := hq.call hq60 (by decide)
      have hP : va_P D classes (wM cA ad F60 L60 A60 B60) H := hP
      have hD : va_D Af (wM cA ad F60 L60 A60 B60) := hD
      exact J21 (F60) (L60) (A60) (B60) H locs ls hq (pR.fr (pR.rf hJ) (hq60.2.1 4 (by decide)) (hq60.2.1 5 (by decide)) (hq60.2.1 1 (by decide)) (hq60.2.1 6 (by decide))) (fun h9 => absurd g61 (by rw [h9]; decide)) hP hD hS (lv_sub hl [0, 1, 2] rfl)
  · skip
    have r6 : rg x1 0 0 := rg_eq1 c4 (r2 : rg x1 0 1) ((rg_k (by decide)) : rg 0 0 0) (by decide)
    refine lv_iload_n hx hb dX12_numeral_7 rfl (lv_at hl 1 rfl) ?_
    exact hret (p1) (F, L, A, B) H locs 8 ls rfl dX12_numeral_8 hP hD hS ⟨hq, (pR.rf hJ), (fun h9 => absurd h9 ((g3).2.resolve_left (fun z => z c4)))⟩
abbrev rm_X12_fresh_0 : Room := { frames := 2, cells := 0, slots := 0, locals := 43 }
set_option maxHeartbeats 4000000 in
set_option maxRecDepth 100000 in
theorem c_X12_fresh_0 (l : Launch) (D : va_G) (cA : Nat → ClassId) (sz : Nat) (ad : Nat → Nat) (F : Nat → Int32) (L : Nat → Int64) (A : Nat → Nat → Int32) (B : Nat → Nat → Int64) (p1 : Int32) (hT : typM F A) (hp1 : rg p1 0 1) (hJ : pI F) : Met l yX12_fresh (Cond.code yX12_fresh cX12_fresh 4 (some .long) :: GW) rm_X12_fresh_0 (mPc D classes (tysM cA) (wM cA ad F L A B) sz [.ref (ad 0), .int p1]) (mQl (S := SW) D classes (tysM cA) (wM cA ad F L A B) sz (wfM cA ad) (fun r u => qM [2, 3, 4, 5, 6, 7] [] F A u.1 u.2.2.1 ∧ pR F u.1)) 0 0 (va_A (wM cA ad F L A B) sz) := by
  refine met_l (own := "ShoeingDayModel") (by decide +kernel) rfl (Nat.le_of_ble_eq_true rfl) ?_
  intro p e s m args below meth c Q Af ls hC hP hD hS hA hl hret
  have hx := hC.1
  have hb := hC.2.1
  have hown := hC.2.2.2.1
  have hg := hC.g
  have hK := hC.K
  have hl : lv_has ls 4 [(0, .ref (ad 0)), (1, .int p1)] := hl
  have hq : qM [2, 3, 4, 5, 6, 7] [] F A F A := qM.rf hT
  obtain ⟨H, hH⟩ : ∃ H, H = s.heap := ⟨_, rfl⟩
  have hP : va_P D classes (wM cA ad F L A B) H := by rw [hH]; exact hP
  have hS : va_S Af s.heap H [] := by rw [hH]; exact hS
  obtain ⟨locs, hlo⟩ : ∃ q : List Loc, q = [] := ⟨_, rfl⟩
  rw [← hH, ← hlo]
  rw [← hlo] at hS
  refine lv_aload_n hx hb dX12_fresh_0 rfl (lv_at hl 0 rfl) ?_
  refine callv_i (As := []) (rest := []) hC (c_X12_isGood_0 l D cA H.size ad F L A B  hq.1) (cwV 0 hg (g_V mw_1312 mw_1309 mw_1311 ms_50 mw_20) rfl rfl rfl (by decide +kernel) ⟨(Nat.le_of_ble_eq_true rfl), (Nat.le_of_ble_eq_true rfl)⟩) hP hD hS hA atM_0 rfl rfl hl.1 rfl (Nat.le_of_ble_eq_true rfl) dX12_fresh_1 ⟨Nat.zero_le _, Nat.zero_le _⟩ (fun x1 u H locs hw hP hD hS => ?_)
  obtain ⟨r2, g3⟩ := hw
  have hP : va_P D classes (wM cA ad F L A B) H := hP
  have hD : va_D Af (wM cA ad F L A B) := hD
  refine lv_if_ne (tgt := 9) hx hb dX12_fresh_4 (by decide) (fun c4 => ?_) (fun c4 => ?_)
  · skip
    have r5 : rg x1 1 1 := (rg_ne1 c4 (r2 : rg x1 0 1) ((rg_k (by decide)) : rg 0 0 0)).1 rfl
    refine lv_aload_n hx hb dX12_fresh_9 rfl (lv_at hl 0 rfl) ?_
    refine va_get (ci := 12) (v := .int (F 6)) (C := RX12) (T := TX12) (N := 57) hx hb hg inX12 hown hK hP 0 atM_0 rfl 8 (by decide) (hg _ mw_1116) (fun _ h9 => h9) rfl dX12_fresh_10 ?_
    refine lv_topi (fun x7 e8 => ?_)
    have r9 : rg x7 0 5 := rg_e e8 (hq.1.1 6)
    refine lv_iconst (v := 2) hx hb dX12_fresh_13 (by decide) ?_
    have J37 : ∀ (F10 : Nat → Int32) (L10 : Nat → Int64) (A10 : Nat → Nat → Int32) (B10 : Nat → Nat → Int64) (H : Heap) (locs : List Loc) (ls : Array Slot), qM [2, 3, 4, 5, 6, 7] [] F A F10 A10 → pR F F10 → va_P D classes (wM cA ad F10 L10 A10 B10) H → va_D Af (wM cA ad F10 L10 A10 B10) → va_S Af s.heap H locs → lv_has ls 4 [(0, .ref (ad 0))] → W p l e rm_X12_fresh_0 s m args below meth c H locs 0 0 Q (F0 m 37 ls []) := by
      intro F10 L10 A10 B10 H locs ls hq i11 hP hD hS hl
      refine lv_aload_n hx hb dX12_fresh_37 rfl (lv_at hl 0 rfl) ?_
      refine va_get (ci := 12) (v := .long (L10 0)) (C := RX12) (T := TX12) (N := 57) hx hb hg inX12 hown hK hP 0 atM_0 rfl 10 (by decide) (hg _ mw_1118) (fun _ h9 => h9) rfl dX12_fresh_38 ?_
      refine lv_topl (fun z12 e13 => ?_)
      refine lv_lstore_n (lv' := [(2, .long z12), (0, .ref (ad 0))]) hx hb dX12_fresh_41 rfl hl (by decide) rfl (fun ls hl => ?_)
      refine lv_aload_n hx hb dX12_fresh_42 rfl (lv_at hl 1 rfl) ?_
      refine callv_i (As := []) (rest := []) hC (c_X12_isGood_0 l D cA H.size ad F10 L10 A10 B10  hq.1) (cwV 0 hg (g_V mw_1312 mw_1309 mw_1311 ms_50 mw_20) rfl rfl rfl (by decide +kernel) ⟨(Nat.le_of_ble_eq_true rfl), (Nat.le_of_ble_eq_true rfl)⟩) hP hD hS hA atM_0 rfl rfl hl.1 rfl (Nat.le_of_ble_eq_true rfl) dX12_fresh_43 ⟨Nat.zero_le _, Nat.zero_le _⟩ (fun x14 u H locs hw hP hD hS => ?_)
      obtain ⟨r15, g16⟩ := hw
      have hP : va_P D classes (wM cA ad F10 L10 A10 B10) H := hP
      have hD : va_D Af (wM cA ad F10 L10 A10 B10) := hD
      have J53 : ∀ (F17 : Nat → Int32) (L17 : Nat → Int64) (A17 : Nat → Nat → Int32) (B17 : Nat → Nat → Int64) (H : Heap) (locs : List Loc) (ls : Array Slot), qM [2, 3, 4, 5, 6, 7] [] F A F17 A17 → pR F F17 → va_P D classes (wM cA ad F17 L17 A17 B17) H → va_D Af (wM cA ad F17 L17 A17 B17) → va_S Af s.heap H locs → lv_has ls 4 [(2, .long z12)] → W p l e rm_X12_fresh_0 s m args below meth c H locs 0 0 Q (F0 m 53 ls []) := by
        intro F17 L17 A17 B17 H locs ls hq i18 hP hD hS hl
        refine lv_lload_n hx hb dX12_fresh_53 rfl (lv_at hl 0 rfl) ?_
        exact hret (z12) (F17, L17, A17, B17) H locs 54 ls dX12_fresh_54 hP hD hS ⟨hq, i18⟩
      refine lv_if_eq (tgt := 53) hx hb dX12_fresh_46 (by decide) (fun c19 => ?_) (fun c19 => ?_)
      · skip
        have r20 : rg x14 0 0 := rg_eq1 c19 (r15 : rg x14 0 1) ((rg_k (by decide)) : rg 0 0 0) (by decide)
        exact J53 (F10) (L10) (A10) (B10) H locs ls hq i11 hP hD hS (lv_sub hl [0] rfl)
      · skip
        have r21 : rg x14 1 1 := (rg_ne1 c19 (r15 : rg x14 0 1) ((rg_k (by decide)) : rg 0 0 0)).1 rfl
        refine lv_aload_n hx hb dX12_fresh_49 rfl (lv_at hl 1 rfl) ?_
        refine callv_v (As := []) (rest := []) hC (c_X12_goOn_0 l D cA H.size ad F10 L10 A10 B10  hq.1 (i11).1.2.1) (cwV 0 hg (g_V mw_1288 mw_1285 mw_1287 ms_48 mw_20) rfl rfl rfl (by decide +kernel) ⟨(Nat.le_of_ble_eq_true rfl), (Nat.le_of_ble_eq_true rfl)⟩) hP hD hS hA atM_0 rfl rfl hl.1 rfl (Nat.le_of_ble_eq_true rfl) dX12_fresh_50 ⟨Nat.zero_le _, Nat.zero_le _⟩ (fun  u H locs hw hP hD hS => ?_)
        obtain ⟨F22, L22, A22, B22⟩ := u
        try dsimp only at hw
        obtain ⟨hq22, g23⟩ := hw
        have hq := hq.call hq22 (by decide)
        have hP : va_P D classes (wM cA ad F22 L22 A22 B22) H := hP
        have hD : va_D Af (wM cA ad F22 L22 A22 B22) := hD
        exact J53 (F22) (L22) (A22) (B22) H locs ls hq (pR.go i11 g23) hP hD hS (lv_sub hl [0] rfl)
    refine lv_icmp_eq (tgt := 24) hx hb dX12_fresh_14 (by decide) (fun c24 => ?_) (fun c24 => ?_)
    · skip
      have r25 : rg x7 2 2 := rg_eq1 c24 (r9 : rg x7 0 5) ((rg_k (by decide)) : rg 2 2 2) (by decide)
      refine lv_iload_n hx hb dX12_fresh_24 rfl (lv_at hl 1 rfl) ?_
      refine lv_if_eq (tgt := 37) hx hb dX12_fresh_25 (by decide) (fun c26 => ?_) (fun c26 => ?_)
      · skip
        have r27 : rg p1 0 0 := rg_eq1 c26 (hp1 : rg p1 0 1) ((rg_k (by decide)) : rg 0 0 0) (by decide)
        exact J37 (F) (L) (A) (B) H locs ls hq (pR.rf hJ) hP hD hS (lv_sub hl [0] rfl)
      · skip
        have r28 : rg p1 1 1 := (rg_ne1 c26 (hp1 : rg p1 0 1) ((rg_k (by decide)) : rg 0 0 0)).1 rfl
        refine lv_aload_n hx hb dX12_fresh_28 rfl (lv_at hl 0 rfl) ?_
        refine lv_iconst (v := 3) hx hb dX12_fresh_29 (by decide) ?_
        refine lv_aload_n hx hb dX12_fresh_30 rfl (lv_at hl 0 rfl) ?_
        refine va_get (ci := 12) (v := .int (F 4)) (C := RX12) (T := TX12) (N := 57) hx hb hg inX12 hown hK hP 0 atM_0 rfl 6 (by decide) (hg _ mw_1114) (fun _ h9 => h9) rfl dX12_fresh_31 ?_
        refine lv_topi (fun x29 e30 => ?_)
        have r31 : rg x29 0 1700 := rg_e e30 (hq.1.1 4)
        refine callv_v (As := [.int 3, .int x29]) (rest := []) hC (c_X12_fails_0 l D cA H.size ad F L A B (3) (x29) hq.1 (rg_k (by decide)) r31) (cwV 2 hg (g_V mw_1332 mw_1329 mw_1331 ms_55 mw_20) rfl rfl rfl (by decide +kernel) ⟨(Nat.le_of_ble_eq_true rfl), (Nat.le_of_ble_eq_true rfl)⟩) hP hD hS hA atM_0 rfl rfl hl.1 rfl (Nat.le_of_ble_eq_true rfl) dX12_fresh_34 ⟨Nat.zero_le _, Nat.zero_le _⟩ (fun  u H locs hw hP hD hS => ?_)
        obtain ⟨F32, L32, A32, B32⟩ := u
        try dsimp only at hw
        obtain ⟨hq32, g33⟩ := hw
        have hq := hq.call hq32 (by decide)
        have hP : va_P D classes (wM cA ad F32 L32 A32 B32) H := hP
        have hD : va_D Af (wM cA ad F32 L32 A32 B32) := hD
        exact J37 (F32) (L32) (A32) (B32) H locs ls hq (pR.fr (pR.rf hJ) (hq32.2.1 4 (by decide)) (hq32.2.1 5 (by decide)) (hq32.2.1 1 (by decide)) (hq32.2.1 6 (by decide))) hP hD hS (lv_sub hl [0] rfl)
    · skip
      refine lv_aload_n hx hb dX12_fresh_17 rfl (lv_at hl 0 rfl) ?_
      refine callv_v (As := []) (rest := []) hC (c_X12_misplaced_0 l D cA H.size ad F L A B  hq.1) (cwV 0 hg (g_V mw_1328 mw_1325 mw_1327 ms_54 mw_20) rfl rfl rfl (by decide +kernel) ⟨(Nat.le_of_ble_eq_true rfl), (Nat.le_of_ble_eq_true rfl)⟩) hP hD hS hA atM_0 rfl rfl hl.1 rfl (Nat.le_of_ble_eq_true rfl) dX12_fresh_18 ⟨Nat.zero_le _, Nat.zero_le _⟩ (fun  u H locs hw hP hD hS => ?_)
      obtain ⟨F34, L34, A34, B34⟩ := u
      try dsimp only at hw
      obtain ⟨hq34, g35⟩ := hw
      have hq := hq.call hq34 (by decide)
      have hP : va_P D classes (wM cA ad F34 L34 A34 B34) H := hP
      have hD : va_D Af (wM cA ad F34 L34 A34 B34) := hD
      refine lv_goto (tgt := 37) hx hb dX12_fresh_21 (by decide) ?_
      exact J37 (F34) (L34) (A34) (B34) H locs ls hq (pR.fr (pR.rf hJ) (hq34.2.1 4 (by decide)) (hq34.2.1 5 (by decide)) (hq34.2.1 1 (by decide)) (hq34.2.1 6 (by decide))) hP hD hS (lv_sub hl [0] rfl)
  · skip
    have r6 : rg x1 0 0 := rg_eq1 c4 (r2 : rg x1 0 1) ((rg_k (by decide)) : rg 0 0 0) (by decide)
    refine lv_lconst (v := 0) hx hb dX12_fresh_7 rfl ?_
    exact hret ((0 : Int64)) (F, L, A, B) H locs 8 ls dX12_fresh_8 hP hD hS ⟨hq, (pR.rf hJ)⟩
abbrev rm_X12_horseHere_0 : Room := { frames := 0, cells := 0, slots := 0, locals := 0 }
set_option maxHeartbeats 4000000 in
set_option maxRecDepth 100000 in
theorem c_X12_horseHere_0 (l : Launch) (D : va_G) (cA : Nat → ClassId) (sz : Nat) (ad : Nat → Nat) (F : Nat → Int32) (L : Nat → Int64) (A : Nat → Nat → Int32) (B : Nat → Nat → Int64)  (hT : typM F A) : Met l yX12_horseHere (Cond.code yX12_horseHere cX12_horseHere 2 (some .int) :: GW) rm_X12_horseHere_0 (mPc D classes (tysM cA) (wM cA ad F L A B) sz [.ref (ad 0)]) (mQi (S := Unit) D classes (tysM cA) (wM cA ad F L A B) sz (fun _ : Unit => wM cA ad F L A B) (fun r u => rg r (-1) 9 ∧ (r.toInt < (A 4 (F 9).toNatClampNeg).toInt))) 0 0 (va_A (wM cA ad F L A B) sz) := by
  refine met_i (own := "ShoeingDayModel") (by decide +kernel) rfl (Nat.le_of_ble_eq_true rfl) ?_
  intro p e s m args below meth c Q Af ls hC hP hD hS hA hl hret
  have hx := hC.1
  have hb := hC.2.1
  have hown := hC.2.2.2.1
  have hg := hC.g
  have hK := hC.K
  have hl : lv_has ls 2 [(0, .ref (ad 0))] := hl
  have hq : qM [] [] F A F A := qM.rf hT
  obtain ⟨H, hH⟩ : ∃ H, H = s.heap := ⟨_, rfl⟩
  have hP : va_P D classes (wM cA ad F L A B) H := by rw [hH]; exact hP
  have hS : va_S Af s.heap H [] := by rw [hH]; exact hS
  obtain ⟨locs, hlo⟩ : ∃ q : List Loc, q = [] := ⟨_, rfl⟩
  rw [← hH, ← hlo]
  rw [← hlo] at hS
  refine lv_iconst (v := 0) hx hb dX12_horseHere_0 (by decide) ?_
  refine lv_istore_n (lv' := [(1, .int 0), (0, .ref (ad 0))]) hx hb dX12_horseHere_1 rfl hl (by decide) rfl (fun ls hl => ?_)
  have J2 : ∀ (n2 : Nat) (a1 : Int32) (H : Heap) (locs : List Loc) (ls : Array Slot), (10 - a1.toInt).toNat < n2 → rg a1 0 10 → va_P D classes (wM cA ad F L A B) H → va_D Af (wM cA ad F L A B) → va_S Af s.heap H locs → lv_has ls 2 [(0, .ref (ad 0)), (1, .int a1)] → W p l e rm_X12_horseHere_0 s m args below meth c H locs 0 0 Q (F0 m 2 ls []) := by
    intro n2
    induction n2 with
    | zero =>
      intro _ _ _ _ hn
      exact absurd hn (Nat.not_lt_zero _)
    | succ n2 ih2 =>
      intro a1 H locs ls hn2 r2 hP hD hS hl
      refine lv_iload_n hx hb dX12_horseHere_2 rfl (lv_at hl 1 rfl) ?_
      refine lv_aload_n hx hb dX12_horseHere_3 rfl (lv_at hl 0 rfl) ?_
      refine va_get (ci := 12) (v := .ref (ad 4)) (C := RX12) (T := TX12) (N := 57) hx hb hg inX12 hown hK hP 0 atM_0 rfl 12 (by decide) (hg _ mw_1120) (fun _ h9 => h9) rfl dX12_horseHere_4 ?_
      refine lv_aload_n hx hb dX12_horseHere_7 rfl (lv_at hl 0 rfl) ?_
      refine va_get (ci := 12) (v := .int (F 9)) (C := RX12) (T := TX12) (N := 57) hx hb hg inX12 hown hK hP 0 atM_0 rfl 25 (by decide) (hg _ mw_1133) (fun _ h9 => h9) rfl dX12_horseHere_8 ?_
      refine lv_topi (fun x3 e4 => ?_)
      have r5 : rg x3 0 1 := rg_e e4 (hq.1.1 9)
      refine va_iald hx hb hK hP 4 3 atM_4 tyM_4 (in_rg r5 (by decide)) dX12_horseHere_11 ?_
      refine lv_topi (fun x6 e7 => ?_)
      have r8 : rg x6 0 10 := rg_e e7 (hq.1.2 4 _)
      refine lv_icmp_ge (tgt := 53) hx hb dX12_horseHere_12 (by decide) (fun c9 => ?_) (fun c9 => ?_)
      · skip
        refine lv_iconst (v := (-1)) hx hb dX12_horseHere_53 (by decide) ?_
        exact hret ((-1)) () H locs 54 ls rfl dX12_horseHere_54 hP hD hS ⟨(rg_k (by decide)), (by have h9 : rg (A 4 (F 9).toNatClampNeg) 0 10 := hq.1.2 4 _; have := h9.1; have : (-1 : Int32).toInt = -1 := rfl; omega)⟩
      · skip
        have r10 : rg a1 0 9 := rg_lt1 (iNE c9) (r2 : rg a1 0 10) (r8 : rg x6 0 10)
        have r11 : rg x6 1 10 := rg_lt2 (iNE c9) (r2 : rg a1 0 10) (r8 : rg x6 0 10)
        refine lv_aload_n hx hb dX12_horseHere_15 rfl (lv_at hl 0 rfl) ?_
        refine va_get (ci := 12) (v := .int (F 6)) (C := RX12) (T := TX12) (N := 57) hx hb hg inX12 hown hK hP 0 atM_0 rfl 8 (by decide) (hg _ mw_1116) (fun _ h9 => h9) rfl dX12_horseHere_16 ?_
        refine lv_topi (fun x12 e13 => ?_)
        have r14 : rg x12 0 5 := rg_e e13 (hq.1.1 6)
        refine lv_iconst (v := 2) hx hb dX12_horseHere_19 (by decide) ?_
        have J47 : ∀ (H : Heap) (locs : List Loc) (ls : Array Slot), va_P D classes (wM cA ad F L A B) H → va_D Af (wM cA ad F L A B) → va_S Af s.heap H locs → lv_has ls 2 [(0, .ref (ad 0)), (1, .int a1)] → W p l e rm_X12_horseHere_0 s m args below meth c H locs 0 0 Q (F0 m 47 ls []) := by
          intro H locs ls hP hD hS hl
          obtain ⟨x15, e16⟩ : ∃ y : Int32, y = a1 + 1 := ⟨_, rfl⟩
          have r17 : rg x15 1 10 := rg_add e16 r10 (rg_k (by decide) : rg 1 1 1) (by decide)
          refine lv_iinc (v := x15) (lv' := [(1, .int x15), (0, .ref (ad 0))]) hx hb dX12_horseHere_47 hl (k := 1) rfl (by rw [e16]; rfl) (by decide) rfl (fun ls hl => ?_)
          refine lv_goto (tgt := 2) hx hb dX12_horseHere_50 (by decide) ?_
          exact ih2 (x15) H locs ls (by have h0 : (1 : Int32).toInt = 1 := rfl; have h1 := ti_addk e16 r10 (by decide); have h2 : rg x15 0 10 := (rg_w r17 (by decide)); unfold rg at h2; omega) (rg_w r17 (by decide)) hP hD hS (lv_sub hl [1, 0] rfl)
        refine lv_icmp_ne (tgt := 47) hx hb dX12_horseHere_20 (by decide) (fun c18 => ?_) (fun c18 => ?_)
        · skip
          exact J47  H locs ls  hP hD hS (lv_sub hl [0, 1] rfl)
        · skip
          have r19 : rg x12 2 2 := rg_eq1 c18 (r14 : rg x12 0 5) ((rg_k (by decide)) : rg 2 2 2) (by decide)
          refine lv_aload_n hx hb dX12_horseHere_23 rfl (lv_at hl 0 rfl) ?_
          refine va_get (ci := 12) (v := .ref (ad 15)) (C := RX12) (T := TX12) (N := 57) hx hb hg inX12 hown hK hP 0 atM_0 rfl 23 (by decide) (hg _ mw_1131) (fun _ h9 => h9) rfl dX12_horseHere_24 ?_
          refine lv_bipush (v := 10) hx hb dX12_horseHere_27 (by decide) ?_
          refine lv_aload_n hx hb dX12_horseHere_29 rfl (lv_at hl 0 rfl) ?_
          refine va_get (ci := 12) (v := .int x3) (C := RX12) (T := TX12) (N := 57) hx hb hg inX12 hown hK hP 0 atM_0 rfl 25 (by decide) (hg _ mw_1133) (fun _ h9 => h9) (congrArg (fun z => some (Value.int z)) (e4.symm)) dX12_horseHere_30 ?_
          refine lv_imul hx hb dX12_horseHere_33 ?_
          refine lv_topi (fun x20 e21 => ?_)
          have r22 : rg x20 0 10 := rg_mul e21 ((rg_k (by decide)) : rg 10 10 10) r5 (by decide)
          refine lv_iload_n hx hb dX12_horseHere_34 rfl (lv_at hl 1 rfl) ?_
          refine lv_iadd hx hb dX12_horseHere_35 ?_
          refine lv_topi (fun x23 e24 => ?_)
          have r25 : rg x23 0 19 := rg_add e24 r22 r10 (by decide)
          refine va_lald hx hb hK hP 15 14 atM_15 tyM_15 (in_rg r25 (by decide)) dX12_horseHere_36 ?_
          refine lv_topl (fun z26 _ => ?_)
          refine lv_aload_n hx hb dX12_horseHere_37 rfl (lv_at hl 0 rfl) ?_
          refine va_get (ci := 12) (v := .long (L 0)) (C := RX12) (T := TX12) (N := 57) hx hb hg inX12 hown hK hP 0 atM_0 rfl 10 (by decide) (hg _ mw_1118) (fun _ h9 => h9) rfl dX12_horseHere_38 ?_
          refine lv_topl (fun z27 e28 => ?_)
          refine W.lcmp hx hb dX12_horseHere_41 ?_
          refine lv_topi (fun x29 e30 => ?_)
          refine lv_if_ne (tgt := 47) hx hb dX12_horseHere_42 (by decide) (fun c31 => ?_) (fun c31 => ?_)
          · skip
            exact J47  H locs ls  hP hD hS (lv_sub hl [0, 1] rfl)
          · skip
            have r32 : rg x29 0 0 := rg_eq1 c31 ((rg_top _) : rg x29 (-2147483648) 2147483647) ((rg_k (by decide)) : rg 0 0 0) (by decide)
            refine lv_iload_n hx hb dX12_horseHere_45 rfl (lv_at hl 1 rfl) ?_
            exact hret (a1) () H locs 46 ls rfl dX12_horseHere_46 hP hD hS ⟨(rg_w r10 (by decide)), (by rw [← e4]; have h9 := (iNE c9); rw [e7] at h9; exact h9)⟩
  exact J2 _ (0) H locs ls (Nat.lt_succ_self _) (rg_k (by decide)) hP hD hS (lv_sub hl [1, 0] rfl)
abbrev rm_X12_readHorse_0 : Room := { frames := 3, cells := 0, slots := 0, locals := 66 }
set_option maxHeartbeats 4000000 in
set_option maxRecDepth 100000 in
theorem c_X12_readHorse_0 (l : Launch) (D : va_G) (cA : Nat → ClassId) (sz : Nat) (ad : Nat → Nat) (F : Nat → Int32) (L : Nat → Int64) (A : Nat → Nat → Int32) (B : Nat → Nat → Int64)  (hT : typM F A) (hJ : pI F) (hM7 : rg (A 4 (F 9).toNatClampNeg) 0 9) (hB : dmB A (F 9).toNatClampNeg) : Met l yX12_readHorse (Cond.code yX12_readHorse cX12_readHorse 1 none :: GW) rm_X12_readHorse_0 (mPc D classes (tysM cA) (wM cA ad F L A B) sz [.ref (ad 0)]) (mQv (S := SW) D classes (tysM cA) (wM cA ad F L A B) sz (wfM cA ad) (fun u => qM [2, 3, 4, 5, 6, 7] [4, 15] F A u.1 u.2.2.1 ∧ pR F u.1 ∧ (rdB u.2.2.1 A (F 9).toNatClampNeg))) 0 0 (va_A (wM cA ad F L A B) sz) := by
  refine met_v (own := "ShoeingDayModel") (by decide +kernel) rfl (Nat.le_of_ble_eq_true rfl) ?_
  intro p e s m args below meth c Q Af ls hC hP hD hS hA hl hret
  have hx := hC.1
  have hb := hC.2.1
  have hown := hC.2.2.2.1
  have hg := hC.g
  have hK := hC.K
  have hl : lv_has ls 1 [(0, .ref (ad 0))] := hl
  have hq : qM [2, 3, 4, 5, 6, 7] [4, 15] F A F A := qM.rf hT
  obtain ⟨H, hH⟩ : ∃ H, H = s.heap := ⟨_, rfl⟩
  have hP : va_P D classes (wM cA ad F L A B) H := by rw [hH]; exact hP
  have hS : va_S Af s.heap H [] := by rw [hH]; exact hS
  obtain ⟨locs, hlo⟩ : ∃ q : List Loc, q = [] := ⟨_, rfl⟩
  rw [← hH, ← hlo]
  rw [← hlo] at hS
  refine lv_aload_n hx hb dX12_readHorse_0 rfl (lv_at hl 0 rfl) ?_
  refine va_get (ci := 12) (v := .ref (ad 15)) (C := RX12) (T := TX12) (N := 57) hx hb hg inX12 hown hK hP 0 atM_0 rfl 23 (by decide) (hg _ mw_1131) (fun _ h9 => h9) rfl dX12_readHorse_1 ?_
  refine lv_bipush (v := 10) hx hb dX12_readHorse_4 (by decide) ?_
  refine lv_aload_n hx hb dX12_readHorse_6 rfl (lv_at hl 0 rfl) ?_
  refine va_get (ci := 12) (v := .int (F 9)) (C := RX12) (T := TX12) (N := 57) hx hb hg inX12 hown hK hP 0 atM_0 rfl 25 (by decide) (hg _ mw_1133) (fun _ h9 => h9) rfl dX12_readHorse_7 ?_
  refine lv_topi (fun x1 e2 => ?_)
  have r3 : rg x1 0 1 := rg_e e2 (hq.1.1 9)
  refine lv_imul hx hb dX12_readHorse_10 ?_
  refine lv_topi (fun x4 e5 => ?_)
  have r6 : rg x4 0 10 := rg_mul e5 ((rg_k (by decide)) : rg 10 10 10) r3 (by decide)
  refine lv_aload_n hx hb dX12_readHorse_11 rfl (lv_at hl 0 rfl) ?_
  refine va_get (ci := 12) (v := .ref (ad 4)) (C := RX12) (T := TX12) (N := 57) hx hb hg inX12 hown hK hP 0 atM_0 rfl 12 (by decide) (hg _ mw_1120) (fun _ h9 => h9) rfl dX12_readHorse_12 ?_
  refine lv_aload_n hx hb dX12_readHorse_15 rfl (lv_at hl 0 rfl) ?_
  refine va_get (ci := 12) (v := .int x1) (C := RX12) (T := TX12) (N := 57) hx hb hg inX12 hown hK hP 0 atM_0 rfl 25 (by decide) (hg _ mw_1133) (fun _ h9 => h9) (congrArg (fun z => some (Value.int z)) (e2.symm)) dX12_readHorse_16 ?_
  refine va_iald hx hb hK hP 4 3 atM_4 tyM_4 (in_rg r3 (by decide)) dX12_readHorse_19 ?_
  refine lv_topi (fun x7 e8 => ?_)
  have r9 : rg x7 0 9 := rg_e (e8.trans ((congrFun rfl _).trans (by rw [e2]))) hM7
  refine lv_iadd hx hb dX12_readHorse_20 ?_
  refine lv_topi (fun x10 e11 => ?_)
  have r12 : rg x10 0 19 := rg_add e11 r6 r9 (by decide)
  refine lv_aload_n hx hb dX12_readHorse_21 rfl (lv_at hl 0 rfl) ?_
  refine lv_aload_n hx hb dX12_readHorse_22 rfl (lv_at hl 0 rfl) ?_
  refine callv_i (As := []) (rest := [.ref (ad 0), .int x10, .ref (ad 15)]) hC (c_X12_horseHere_0 l D cA H.size ad F L A B  hq.1) (cwV 0 hg (g_V mw_1360 mw_1357 mw_1359 ms_62 mw_20) rfl rfl rfl (by decide +kernel) ⟨(Nat.le_of_ble_eq_true rfl), (Nat.le_of_ble_eq_true rfl)⟩) hP hD hS hA atM_0 rfl rfl hl.1 rfl (Nat.le_of_ble_eq_true rfl) dX12_readHorse_23 ⟨Nat.zero_le _, Nat.zero_le _⟩ (fun x13 u H locs hw hP hD hS => ?_)
  obtain ⟨r14, g15⟩ := hw
  have hP : va_P D classes (wM cA ad F L A B) H := hP
  have hD : va_D Af (wM cA ad F L A B) := hD
  have J34 : ∀ (a16 : Int32) (F18 : Nat → Int32) (L18 : Nat → Int64) (A18 : Nat → Nat → Int32) (B18 : Nat → Nat → Int64) (H : Heap) (locs : List Loc) (ls : Array Slot), rg a16 0 1 → qM [2, 3, 4, 5, 6, 7] [4, 15] F A F18 A18 → A18 4 = A 4 → pR F F18 → F18 9 = x1 → va_P D classes (wM cA ad F18 L18 A18 B18) H → va_D Af (wM cA ad F18 L18 A18 B18) → va_S Af s.heap H locs → lv_has ls 1 [(0, .ref (ad 0))] → W p l e rm_X12_readHorse_0 s m args below meth c H locs 0 0 Q (F0 m 34 ls [.int a16, .ref (ad 0), .int x10, .ref (ad 15)]) := by
    intro a16 F18 L18 A18 B18 H locs ls r17 hq k19 i20 f21 hP hD hS hl
    refine callv_l (As := [.int a16]) (rest := [.int x10, .ref (ad 15)]) hC (c_X12_fresh_0 l D cA H.size ad F18 L18 A18 B18 (a16) hq.1 r17 (i20).1) (cwV 1 hg (g_V mw_1344 mw_1341 mw_1343 ms_58 mw_20) rfl rfl rfl (by decide +kernel) ⟨(Nat.le_of_ble_eq_true rfl), (Nat.le_of_ble_eq_true rfl)⟩) hP hD hS hA atM_0 rfl rfl hl.1 rfl (Nat.le_of_ble_eq_true rfl) dX12_readHorse_34 ⟨Nat.zero_le _, Nat.zero_le _⟩ (fun z22 u H locs hw hP hD hS => ?_)
    obtain ⟨F23, L23, A23, B23⟩ := u
    try dsimp only at hw
    obtain ⟨hq23, g24⟩ := hw
    have hq := hq.call hq23 (by decide)
    have hP : va_P D classes (wM cA ad F23 L23 A23 B23) H := hP
    have hD : va_D Af (wM cA ad F23 L23 A23 B23) := hD
    refine va_last hx hb hK hP hD hS 15 14 atM_15 tyM_15 (in_rg r12 (by decide)) dX12_readHorse_37 (fun H locs hP hD hS => ?_)
    rw [setBM_15] at hP hD
    refine lv_aload_n hx hb dX12_readHorse_38 rfl (lv_at hl 0 rfl) ?_
    refine va_get (ci := 12) (v := .ref (ad 4)) (C := RX12) (T := TX12) (N := 57) hx hb hg inX12 hown hK hP 0 atM_0 rfl 12 (by decide) (hg _ mw_1120) (fun _ h9 => h9) rfl dX12_readHorse_39 ?_
    refine lv_aload_n hx hb dX12_readHorse_42 rfl (lv_at hl 0 rfl) ?_
    refine va_get (ci := 12) (v := .int x1) (C := RX12) (T := TX12) (N := 57) hx hb hg inX12 hown hK hP 0 atM_0 rfl 25 (by decide) (hg _ mw_1133) (fun _ h9 => h9) (congrArg (fun z => some (Value.int z)) ((hq23.2.1 9 (by decide)).trans (f21))) dX12_readHorse_43 ?_
    refine lv_dup2_11 hx hb dX12_readHorse_46 rfl rfl ?_
    refine va_iald hx hb hK hP 4 3 atM_4 tyM_4 (in_rg r3 (by decide)) dX12_readHorse_47 ?_
    refine lv_topi (fun x25 e26 => ?_)
    have r27 : rg x25 0 9 := rg_e (e26.trans ((congrFun ((hq23.2.2 4 (by decide)).trans k19) _).trans (by rw [e2]))) hM7
    refine lv_iconst (v := 1) hx hb dX12_readHorse_48 (by decide) ?_
    refine lv_iadd hx hb dX12_readHorse_49 ?_
    refine lv_topi (fun x28 e29 => ?_)
    have r30 : rg x28 1 10 := rg_add e29 r27 ((rg_k (by decide)) : rg 1 1 1) (by decide)
    refine va_iast hx hb hK hP hD hS 4 3 atM_4 tyM_4 (in_rg r3 (by decide)) dX12_readHorse_50 (fun H locs hP hD hS => ?_)
    have hq := hq.ast 4 (x1).toNatClampNeg (x := x28) (by decide) (rg_w r30 (by decide))
    rw [setM_4] at hP hD
    have k31 : x28 = (va_up A23 4 (upd (A23 4) (x1).toNatClampNeg x28)) 4 (x1).toNatClampNeg := (rdA).symm
    exact hret (F23, L23, (va_up A23 4 (upd (A23 4) (x1).toNatClampNeg x28)), (va_up B23 15 (vp_updL (B23 15) (x10).toNatClampNeg z22))) H locs 51 ls dX12_readHorse_51 hP hD hS ⟨hq, (pR.tr i20 g24), (rh_post (v := x28) (hq.2.2 3 (by decide)) (by show upd (A23 4) x1.toNatClampNeg x28 = _; rw [show A23 4 = A 4 from ((hq23.2.2 4 (by decide)).trans k19), e2]) (hq.2.2 10 (by decide)) (by rw [← e2]; have := tiA e29 (r27 : rg x25 0 9) (rg_k (by decide) : rg 1 1 1) (by decide); have : (1 : Int32).toInt = 1 := rfl; have := congrArg Int32.toInt (e26.trans (congrFun ((hq23.2.2 4 (by decide)).trans k19) _)); omega) hB)⟩
  refine lv_if_lt (tgt := 33) hx hb dX12_readHorse_26 (by decide) (fun c32 => ?_) (fun c32 => ?_)
  · skip
    have r33 : rg x13 (-1) (-1) := rg_lt1 (iL c32) (r14 : rg x13 (-1) 9) ((rg_k (by decide)) : rg 0 0 0)
    refine lv_iconst (v := 0) hx hb dX12_readHorse_33 (by decide) ?_
    exact J34 (0) (F) (L) (A) (B) H locs ls (rg_k (by decide)) hq (rfl) (pR.rf hJ) (e2.symm) hP hD hS (lv_sub hl [0] rfl)
  · skip
    have r34 : rg x13 0 9 := rg_le2 (iNL c32) ((rg_k (by decide)) : rg 0 0 0) (r14 : rg x13 (-1) 9)
    refine lv_iconst (v := 1) hx hb dX12_readHorse_29 (by decide) ?_
    refine lv_goto (tgt := 34) hx hb dX12_readHorse_30 (by decide) ?_
    exact J34 (1) (F) (L) (A) (B) H locs ls (rg_k (by decide)) hq (rfl) (pR.rf hJ) (e2.symm) hP hD hS (lv_sub hl [0] rfl)
abbrev rm_X12_known_0_h : Room := { frames := 2, cells := 0, slots := 0, locals := 43 }
set_option maxHeartbeats 4000000 in
set_option maxRecDepth 100000 in
theorem c_X12_known_0_h (l : Launch) (D : va_G) (cA : Nat → ClassId) (sz : Nat) (ad : Nat → Nat) (F : Nat → Int32) (L : Nat → Int64) (A : Nat → Nat → Int32) (B : Nat → Nat → Int64) (p1 : Int32) (hT : typM F A) (hp1 : rg p1 (-1) 9) (hJ : pI F) : Met l yX12_known (Cond.code yX12_known cX12_known 2 (some .int) :: GW) rm_X12_known_0_h (mPc D classes (tysM cA) (wM cA ad F L A B) sz [.ref (ad 0), .int p1]) (mQi (S := SW) D classes (tysM cA) (wM cA ad F L A B) sz (wfM cA ad) (fun r u => qM [2, 3, 4, 5, 6, 7] [] F A u.1 u.2.2.1 ∧ pR F u.1 ∧ rg r 0 9 ∧ (u.1 2 = 0 → (F 2 = 0 ∧ 0 ≤ p1.toInt ∧ r = p1)))) 0 0 (va_A (wM cA ad F L A B) sz) := by
  refine met_i (own := "ShoeingDayModel") (by decide +kernel) rfl (Nat.le_of_ble_eq_true rfl) ?_
  intro p e s m args below meth c Q Af ls hC hP hD hS hA hl hret
  have hx := hC.1
  have hb := hC.2.1
  have hown := hC.2.2.2.1
  have hg := hC.g
  have hK := hC.K
  have hl : lv_has ls 2 [(0, .ref (ad 0)), (1, .int p1)] := hl
  have hq : qM [2, 3, 4, 5, 6, 7] [] F A F A := qM.rf hT
  obtain ⟨H, hH⟩ : ∃ H, H = s.heap := ⟨_, rfl⟩
  have hP : va_P D classes (wM cA ad F L A B) H := by rw [hH]; exact hP
  have hS : va_S Af s.heap H [] := by rw [hH]; exact hS
  obtain ⟨locs, hlo⟩ : ∃ q : List Loc, q = [] := ⟨_, rfl⟩
  rw [← hH, ← hlo]
  rw [← hlo] at hS
  refine lv_aload_n hx hb dX12_known_0 rfl (lv_at hl 0 rfl) ?_
  refine callv_i (As := []) (rest := []) hC (c_X12_isGood_0 l D cA H.size ad F L A B  hq.1) (cwV 0 hg (g_V mw_1312 mw_1309 mw_1311 ms_50 mw_20) rfl rfl rfl (by decide +kernel) ⟨(Nat.le_of_ble_eq_true rfl), (Nat.le_of_ble_eq_true rfl)⟩) hP hD hS hA atM_0 rfl rfl hl.1 rfl (Nat.le_of_ble_eq_true rfl) dX12_known_1 ⟨Nat.zero_le _, Nat.zero_le _⟩ (fun x1 u H locs hw hP hD hS => ?_)
  obtain ⟨r2, g3⟩ := hw
  have hP : va_P D classes (wM cA ad F L A B) H := hP
  have hD : va_D Af (wM cA ad F L A B) := hD
  refine lv_if_ne (tgt := 9) hx hb dX12_known_4 (by decide) (fun c4 => ?_) (fun c4 => ?_)
  · skip
    have r5 : rg x1 1 1 := (rg_ne1 c4 (r2 : rg x1 0 1) ((rg_k (by decide)) : rg 0 0 0)).1 rfl
    refine lv_aload_n hx hb dX12_known_9 rfl (lv_at hl 0 rfl) ?_
    refine va_get (ci := 12) (v := .int (F 6)) (C := RX12) (T := TX12) (N := 57) hx hb hg inX12 hown hK hP 0 atM_0 rfl 8 (by decide) (hg _ mw_1116) (fun _ h9 => h9) rfl dX12_known_10 ?_
    refine lv_topi (fun x7 e8 => ?_)
    have r9 : rg x7 0 5 := rg_e e8 (hq.1.1 6)
    refine lv_iconst (v := 2) hx hb dX12_known_13 (by decide) ?_
    have J37 : ∀ (F10 : Nat → Int32) (L10 : Nat → Int64) (A10 : Nat → Nat → Int32) (B10 : Nat → Nat → Int64) (H : Heap) (locs : List Loc) (ls : Array Slot), qM [2, 3, 4, 5, 6, 7] [] F A F10 A10 → pR F F10 → (F10 2 = 0 → (F 2 = 0 ∧ 0 ≤ p1.toInt)) → va_P D classes (wM cA ad F10 L10 A10 B10) H → va_D Af (wM cA ad F10 L10 A10 B10) → va_S Af s.heap H locs → lv_has ls 2 [(0, .ref (ad 0)), (1, .int p1)] → W p l e rm_X12_known_0_h s m args below meth c H locs 0 0 Q (F0 m 37 ls []) := by
      intro F10 L10 A10 B10 H locs ls hq i11 v12 hP hD hS hl
      refine lv_aload_n hx hb dX12_known_37 rfl (lv_at hl 0 rfl) ?_
      refine callv_i (As := []) (rest := []) hC (c_X12_isGood_0 l D cA H.size ad F10 L10 A10 B10  hq.1) (cwV 0 hg (g_V mw_1312 mw_1309 mw_1311 ms_50 mw_20) rfl rfl rfl (by decide +kernel) ⟨(Nat.le_of_ble_eq_true rfl), (Nat.le_of_ble_eq_true rfl)⟩) hP hD hS hA atM_0 rfl rfl hl.1 rfl (Nat.le_of_ble_eq_true rfl) dX12_known_38 ⟨Nat.zero_le _, Nat.zero_le _⟩ (fun x13 u H locs hw hP hD hS => ?_)
      obtain ⟨r14, g15⟩ := hw
      have hP : va_P D classes (wM cA ad F10 L10 A10 B10) H := hP
      have hD : va_D Af (wM cA ad F10 L10 A10 B10) := hD
      have J48 : ∀ (F16 : Nat → Int32) (L16 : Nat → Int64) (A16 : Nat → Nat → Int32) (B16 : Nat → Nat → Int64) (H : Heap) (locs : List Loc) (ls : Array Slot), qM [2, 3, 4, 5, 6, 7] [] F A F16 A16 → pR F F16 → (F16 2 = 0 → (F 2 = 0 ∧ 0 ≤ p1.toInt)) → va_P D classes (wM cA ad F16 L16 A16 B16) H → va_D Af (wM cA ad F16 L16 A16 B16) → va_S Af s.heap H locs → lv_has ls 2 [(1, .int p1)] → W p l e rm_X12_known_0_h s m args below meth c H locs 0 0 Q (F0 m 48 ls []) := by
        intro F16 L16 A16 B16 H locs ls hq i17 v18 hP hD hS hl
        refine lv_iload_n hx hb dX12_known_48 rfl (lv_at hl 0 rfl) ?_
        refine lv_if_ge (tgt := 56) hx hb dX12_known_49 (by decide) (fun c19 => ?_) (fun c19 => ?_)
        · skip
          have r20 : rg p1 0 9 := rg_le2 (iE c19) ((rg_k (by decide)) : rg 0 0 0) (hp1 : rg p1 (-1) 9)
          refine lv_iload_n hx hb dX12_known_56 rfl (lv_at hl 0 rfl) ?_
          exact hret (p1) (F16, L16, A16, B16) H locs 57 ls rfl dX12_known_57 hP hD hS ⟨hq, i17, r20, (fun h9 => ⟨(v18 h9).1, (v18 h9).2, rfl⟩)⟩
        · skip
          have r21 : rg p1 (-1) (-1) := rg_lt1 (iNE c19) (hp1 : rg p1 (-1) 9) ((rg_k (by decide)) : rg 0 0 0)
          refine lv_iconst (v := 0) hx hb dX12_known_52 (by decide) ?_
          refine lv_goto (tgt := 57) hx hb dX12_known_53 (by decide) ?_
          exact hret (0) (F16, L16, A16, B16) H locs 57 ls rfl dX12_known_57 hP hD hS ⟨hq, i17, (rg_k (by decide)), (fun h9 => absurd (v18 h9).2 (by have := (iNE c19); have : (0 : Int32).toInt = 0 := rfl; omega))⟩
      refine lv_if_eq (tgt := 48) hx hb dX12_known_41 (by decide) (fun c22 => ?_) (fun c22 => ?_)
      · skip
        have r23 : rg x13 0 0 := rg_eq1 c22 (r14 : rg x13 0 1) ((rg_k (by decide)) : rg 0 0 0) (by decide)
        exact J48 (F10) (L10) (A10) (B10) H locs ls hq i11 v12 hP hD hS (lv_sub hl [1] rfl)
      · skip
        have r24 : rg x13 1 1 := (rg_ne1 c22 (r14 : rg x13 0 1) ((rg_k (by decide)) : rg 0 0 0)).1 rfl
        refine lv_aload_n hx hb dX12_known_44 rfl (lv_at hl 0 rfl) ?_
        refine callv_v (As := []) (rest := []) hC (c_X12_goOn_0 l D cA H.size ad F10 L10 A10 B10  hq.1 (i11).1.2.1) (cwV 0 hg (g_V mw_1288 mw_1285 mw_1287 ms_48 mw_20) rfl rfl rfl (by decide +kernel) ⟨(Nat.le_of_ble_eq_true rfl), (Nat.le_of_ble_eq_true rfl)⟩) hP hD hS hA atM_0 rfl rfl hl.1 rfl (Nat.le_of_ble_eq_true rfl) dX12_known_45 ⟨Nat.zero_le _, Nat.zero_le _⟩ (fun  u H locs hw hP hD hS => ?_)
        obtain ⟨F25, L25, A25, B25⟩ := u
        try dsimp only at hw
        obtain ⟨hq25, g26⟩ := hw
        have hq := hq.call hq25 (by decide)
        have hP : va_P D classes (wM cA ad F25 L25 A25 B25) H := hP
        have hD : va_D Af (wM cA ad F25 L25 A25 B25) := hD
        have ek45 := hq25.2.1 2 (by decide)
        exact J48 (F25) (L25) (A25) (B25) H locs ls hq (pR.go i11 g26) (fun h9 => v12 (ek45.symm.trans h9)) hP hD hS (lv_sub hl [1] rfl)
    refine lv_icmp_eq (tgt := 24) hx hb dX12_known_14 (by decide) (fun c27 => ?_) (fun c27 => ?_)
    · skip
      have r28 : rg x7 2 2 := rg_eq1 c27 (r9 : rg x7 0 5) ((rg_k (by decide)) : rg 2 2 2) (by decide)
      refine lv_iload_n hx hb dX12_known_24 rfl (lv_at hl 1 rfl) ?_
      refine lv_if_ge (tgt := 37) hx hb dX12_known_25 (by decide) (fun c29 => ?_) (fun c29 => ?_)
      · skip
        have r30 : rg p1 0 9 := rg_le2 (iE c29) ((rg_k (by decide)) : rg 0 0 0) (hp1 : rg p1 (-1) 9)
        exact J37 (F) (L) (A) (B) H locs ls hq (pR.rf hJ) (fun _ => ⟨((g3).1.resolve_left c4), by have := (iE c29); have : (0 : Int32).toInt = 0 := rfl; omega⟩) hP hD hS (lv_sub hl [0, 1] rfl)
      · skip
        have r31 : rg p1 (-1) (-1) := rg_lt1 (iNE c29) (hp1 : rg p1 (-1) 9) ((rg_k (by decide)) : rg 0 0 0)
        refine lv_aload_n hx hb dX12_known_28 rfl (lv_at hl 0 rfl) ?_
        refine lv_iconst (v := 5) hx hb dX12_known_29 (by decide) ?_
        refine lv_aload_n hx hb dX12_known_30 rfl (lv_at hl 0 rfl) ?_
        refine va_get (ci := 12) (v := .int (F 4)) (C := RX12) (T := TX12) (N := 57) hx hb hg inX12 hown hK hP 0 atM_0 rfl 6 (by decide) (hg _ mw_1114) (fun _ h9 => h9) rfl dX12_known_31 ?_
        refine lv_topi (fun x32 e33 => ?_)
        have r34 : rg x32 0 1700 := rg_e e33 (hq.1.1 4)
        refine callv_v (As := [.int 5, .int x32]) (rest := []) hC (c_X12_fails_0 l D cA H.size ad F L A B (5) (x32) hq.1 (rg_k (by decide)) r34) (cwV 2 hg (g_V mw_1332 mw_1329 mw_1331 ms_55 mw_20) rfl rfl rfl (by decide +kernel) ⟨(Nat.le_of_ble_eq_true rfl), (Nat.le_of_ble_eq_true rfl)⟩) hP hD hS hA atM_0 rfl rfl hl.1 rfl (Nat.le_of_ble_eq_true rfl) dX12_known_34 ⟨Nat.zero_le _, Nat.zero_le _⟩ (fun  u H locs hw hP hD hS => ?_)
        obtain ⟨F35, L35, A35, B35⟩ := u
        try dsimp only at hw
        obtain ⟨hq35, g36⟩ := hw
        have hq := hq.call hq35 (by decide)
        have hP : va_P D classes (wM cA ad F35 L35 A35 B35) H := hP
        have hD : va_D Af (wM cA ad F35 L35 A35 B35) := hD
        exact J37 (F35) (L35) (A35) (B35) H locs ls hq (pR.fr (pR.rf hJ) (hq35.2.1 4 (by decide)) (hq35.2.1 5 (by decide)) (hq35.2.1 1 (by decide)) (hq35.2.1 6 (by decide))) (fun h9 => absurd g36 (by rw [h9]; decide)) hP hD hS (lv_sub hl [0, 1] rfl)
    · skip
      refine lv_aload_n hx hb dX12_known_17 rfl (lv_at hl 0 rfl) ?_
      refine callv_v (As := []) (rest := []) hC (c_X12_misplaced_0 l D cA H.size ad F L A B  hq.1) (cwV 0 hg (g_V mw_1328 mw_1325 mw_1327 ms_54 mw_20) rfl rfl rfl (by decide +kernel) ⟨(Nat.le_of_ble_eq_true rfl), (Nat.le_of_ble_eq_true rfl)⟩) hP hD hS hA atM_0 rfl rfl hl.1 rfl (Nat.le_of_ble_eq_true rfl) dX12_known_18 ⟨Nat.zero_le _, Nat.zero_le _⟩ (fun  u H locs hw hP hD hS => ?_)
      obtain ⟨F37, L37, A37, B37⟩ := u
      try dsimp only at hw
      obtain ⟨hq37, g38⟩ := hw
      have hq := hq.call hq37 (by decide)
      have hP : va_P D classes (wM cA ad F37 L37 A37 B37) H := hP
      have hD : va_D Af (wM cA ad F37 L37 A37 B37) := hD
      refine lv_goto (tgt := 37) hx hb dX12_known_21 (by decide) ?_
      exact J37 (F37) (L37) (A37) (B37) H locs ls hq (pR.fr (pR.rf hJ) (hq37.2.1 4 (by decide)) (hq37.2.1 5 (by decide)) (hq37.2.1 1 (by decide)) (hq37.2.1 6 (by decide))) (fun h9 => absurd g38 (by rw [h9]; decide)) hP hD hS (lv_sub hl [0, 1] rfl)
  · skip
    have r6 : rg x1 0 0 := rg_eq1 c4 (r2 : rg x1 0 1) ((rg_k (by decide)) : rg 0 0 0) (by decide)
    refine lv_iconst (v := 0) hx hb dX12_known_7 (by decide) ?_
    exact hret (0) (F, L, A, B) H locs 8 ls rfl dX12_known_8 hP hD hS ⟨hq, (pR.rf hJ), (rg_k (by decide)), (fun h9 => absurd h9 ((g3).2.resolve_left (fun z => z c4)))⟩
abbrev rm_X12_known_0_s : Room := { frames := 2, cells := 0, slots := 0, locals := 43 }
set_option maxHeartbeats 4000000 in
set_option maxRecDepth 100000 in
theorem c_X12_known_0_s (l : Launch) (D : va_G) (cA : Nat → ClassId) (sz : Nat) (ad : Nat → Nat) (F : Nat → Int32) (L : Nat → Int64) (A : Nat → Nat → Int32) (B : Nat → Nat → Int64) (p1 : Int32) (hT : typM F A) (hp1 : rg p1 (-1) 7) (hJ : pI F) : Met l yX12_known (Cond.code yX12_known cX12_known 2 (some .int) :: GW) rm_X12_known_0_s (mPc D classes (tysM cA) (wM cA ad F L A B) sz [.ref (ad 0), .int p1]) (mQi (S := SW) D classes (tysM cA) (wM cA ad F L A B) sz (wfM cA ad) (fun r u => qM [2, 3, 4, 5, 6, 7] [] F A u.1 u.2.2.1 ∧ pR F u.1 ∧ rg r 0 7 ∧ (u.1 2 = 0 → (F 2 = 0 ∧ 0 ≤ p1.toInt ∧ r = p1)))) 0 0 (va_A (wM cA ad F L A B) sz) := by
  refine met_i (own := "ShoeingDayModel") (by decide +kernel) rfl (Nat.le_of_ble_eq_true rfl) ?_
  intro p e s m args below meth c Q Af ls hC hP hD hS hA hl hret
  have hx := hC.1
  have hb := hC.2.1
  have hown := hC.2.2.2.1
  have hg := hC.g
  have hK := hC.K
  have hl : lv_has ls 2 [(0, .ref (ad 0)), (1, .int p1)] := hl
  have hq : qM [2, 3, 4, 5, 6, 7] [] F A F A := qM.rf hT
  obtain ⟨H, hH⟩ : ∃ H, H = s.heap := ⟨_, rfl⟩
  have hP : va_P D classes (wM cA ad F L A B) H := by rw [hH]; exact hP
  have hS : va_S Af s.heap H [] := by rw [hH]; exact hS
  obtain ⟨locs, hlo⟩ : ∃ q : List Loc, q = [] := ⟨_, rfl⟩
  rw [← hH, ← hlo]
  rw [← hlo] at hS
  refine lv_aload_n hx hb dX12_known_0 rfl (lv_at hl 0 rfl) ?_
  refine callv_i (As := []) (rest := []) hC (c_X12_isGood_0 l D cA H.size ad F L A B  hq.1) (cwV 0 hg (g_V mw_1312 mw_1309 mw_1311 ms_50 mw_20) rfl rfl rfl (by decide +kernel) ⟨(Nat.le_of_ble_eq_true rfl), (Nat.le_of_ble_eq_true rfl)⟩) hP hD hS hA atM_0 rfl rfl hl.1 rfl (Nat.le_of_ble_eq_true rfl) dX12_known_1 ⟨Nat.zero_le _, Nat.zero_le _⟩ (fun x1 u H locs hw hP hD hS => ?_)
  obtain ⟨r2, g3⟩ := hw
  have hP : va_P D classes (wM cA ad F L A B) H := hP
  have hD : va_D Af (wM cA ad F L A B) := hD
  refine lv_if_ne (tgt := 9) hx hb dX12_known_4 (by decide) (fun c4 => ?_) (fun c4 => ?_)
  · skip
    have r5 : rg x1 1 1 := (rg_ne1 c4 (r2 : rg x1 0 1) ((rg_k (by decide)) : rg 0 0 0)).1 rfl
    refine lv_aload_n hx hb dX12_known_9 rfl (lv_at hl 0 rfl) ?_
    refine va_get (ci := 12) (v := .int (F 6)) (C := RX12) (T := TX12) (N := 57) hx hb hg inX12 hown hK hP 0 atM_0 rfl 8 (by decide) (hg _ mw_1116) (fun _ h9 => h9) rfl dX12_known_10 ?_
    refine lv_topi (fun x7 e8 => ?_)
    have r9 : rg x7 0 5 := rg_e e8 (hq.1.1 6)
    refine lv_iconst (v := 2) hx hb dX12_known_13 (by decide) ?_
    have J37 : ∀ (F10 : Nat → Int32) (L10 : Nat → Int64) (A10 : Nat → Nat → Int32) (B10 : Nat → Nat → Int64) (H : Heap) (locs : List Loc) (ls : Array Slot), qM [2, 3, 4, 5, 6, 7] [] F A F10 A10 → pR F F10 → (F10 2 = 0 → (F 2 = 0 ∧ 0 ≤ p1.toInt)) → va_P D classes (wM cA ad F10 L10 A10 B10) H → va_D Af (wM cA ad F10 L10 A10 B10) → va_S Af s.heap H locs → lv_has ls 2 [(0, .ref (ad 0)), (1, .int p1)] → W p l e rm_X12_known_0_s s m args below meth c H locs 0 0 Q (F0 m 37 ls []) := by
      intro F10 L10 A10 B10 H locs ls hq i11 v12 hP hD hS hl
      refine lv_aload_n hx hb dX12_known_37 rfl (lv_at hl 0 rfl) ?_
      refine callv_i (As := []) (rest := []) hC (c_X12_isGood_0 l D cA H.size ad F10 L10 A10 B10  hq.1) (cwV 0 hg (g_V mw_1312 mw_1309 mw_1311 ms_50 mw_20) rfl rfl rfl (by decide +kernel) ⟨(Nat.le_of_ble_eq_true rfl), (Nat.le_of_ble_eq_true rfl)⟩) hP hD hS hA atM_0 rfl rfl hl.1 rfl (Nat.le_of_ble_eq_true rfl) dX12_known_38 ⟨Nat.zero_le _, Nat.zero_le _⟩ (fun x13 u H locs hw hP hD hS => ?_)
      obtain ⟨r14, g15⟩ := hw
      have hP : va_P D classes (wM cA ad F10 L10 A10 B10) H := hP
      have hD : va_D Af (wM cA ad F10 L10 A10 B10) := hD
      have J48 : ∀ (F16 : Nat → Int32) (L16 : Nat → Int64) (A16 : Nat → Nat → Int32) (B16 : Nat → Nat → Int64) (H : Heap) (locs : List Loc) (ls : Array Slot), qM [2, 3, 4, 5, 6, 7] [] F A F16 A16 → pR F F16 → (F16 2 = 0 → (F 2 = 0 ∧ 0 ≤ p1.toInt)) → va_P D classes (wM cA ad F16 L16 A16 B16) H → va_D Af (wM cA ad F16 L16 A16 B16) → va_S Af s.heap H locs → lv_has ls 2 [(1, .int p1)] → W p l e rm_X12_known_0_s s m args below meth c H locs 0 0 Q (F0 m 48 ls []) := by
        intro F16 L16 A16 B16 H locs ls hq i17 v18 hP hD hS hl
        refine lv_iload_n hx hb dX12_known_48 rfl (lv_at hl 0 rfl) ?_
        refine lv_if_ge (tgt := 56) hx hb dX12_known_49 (by decide) (fun c19 => ?_) (fun c19 => ?_)
        · skip
          have r20 : rg p1 0 7 := rg_le2 (iE c19) ((rg_k (by decide)) : rg 0 0 0) (hp1 : rg p1 (-1) 7)
          refine lv_iload_n hx hb dX12_known_56 rfl (lv_at hl 0 rfl) ?_
          exact hret (p1) (F16, L16, A16, B16) H locs 57 ls rfl dX12_known_57 hP hD hS ⟨hq, i17, r20, (fun h9 => ⟨(v18 h9).1, (v18 h9).2, rfl⟩)⟩
        · skip
          have r21 : rg p1 (-1) (-1) := rg_lt1 (iNE c19) (hp1 : rg p1 (-1) 7) ((rg_k (by decide)) : rg 0 0 0)
          refine lv_iconst (v := 0) hx hb dX12_known_52 (by decide) ?_
          refine lv_goto (tgt := 57) hx hb dX12_known_53 (by decide) ?_
          exact hret (0) (F16, L16, A16, B16) H locs 57 ls rfl dX12_known_57 hP hD hS ⟨hq, i17, (rg_k (by decide)), (fun h9 => absurd (v18 h9).2 (by have := (iNE c19); have : (0 : Int32).toInt = 0 := rfl; omega))⟩
      refine lv_if_eq (tgt := 48) hx hb dX12_known_41 (by decide) (fun c22 => ?_) (fun c22 => ?_)
      · skip
        have r23 : rg x13 0 0 := rg_eq1 c22 (r14 : rg x13 0 1) ((rg_k (by decide)) : rg 0 0 0) (by decide)
        exact J48 (F10) (L10) (A10) (B10) H locs ls hq i11 v12 hP hD hS (lv_sub hl [1] rfl)
      · skip
        have r24 : rg x13 1 1 := (rg_ne1 c22 (r14 : rg x13 0 1) ((rg_k (by decide)) : rg 0 0 0)).1 rfl
        refine lv_aload_n hx hb dX12_known_44 rfl (lv_at hl 0 rfl) ?_
        refine callv_v (As := []) (rest := []) hC (c_X12_goOn_0 l D cA H.size ad F10 L10 A10 B10  hq.1 (i11).1.2.1) (cwV 0 hg (g_V mw_1288 mw_1285 mw_1287 ms_48 mw_20) rfl rfl rfl (by decide +kernel) ⟨(Nat.le_of_ble_eq_true rfl), (Nat.le_of_ble_eq_true rfl)⟩) hP hD hS hA atM_0 rfl rfl hl.1 rfl (Nat.le_of_ble_eq_true rfl) dX12_known_45 ⟨Nat.zero_le _, Nat.zero_le _⟩ (fun  u H locs hw hP hD hS => ?_)
        obtain ⟨F25, L25, A25, B25⟩ := u
        try dsimp only at hw
        obtain ⟨hq25, g26⟩ := hw
        have hq := hq.call hq25 (by decide)
        have hP : va_P D classes (wM cA ad F25 L25 A25 B25) H := hP
        have hD : va_D Af (wM cA ad F25 L25 A25 B25) := hD
        have ek45 := hq25.2.1 2 (by decide)
        exact J48 (F25) (L25) (A25) (B25) H locs ls hq (pR.go i11 g26) (fun h9 => v12 (ek45.symm.trans h9)) hP hD hS (lv_sub hl [1] rfl)
    refine lv_icmp_eq (tgt := 24) hx hb dX12_known_14 (by decide) (fun c27 => ?_) (fun c27 => ?_)
    · skip
      have r28 : rg x7 2 2 := rg_eq1 c27 (r9 : rg x7 0 5) ((rg_k (by decide)) : rg 2 2 2) (by decide)
      refine lv_iload_n hx hb dX12_known_24 rfl (lv_at hl 1 rfl) ?_
      refine lv_if_ge (tgt := 37) hx hb dX12_known_25 (by decide) (fun c29 => ?_) (fun c29 => ?_)
      · skip
        have r30 : rg p1 0 7 := rg_le2 (iE c29) ((rg_k (by decide)) : rg 0 0 0) (hp1 : rg p1 (-1) 7)
        exact J37 (F) (L) (A) (B) H locs ls hq (pR.rf hJ) (fun _ => ⟨((g3).1.resolve_left c4), by have := (iE c29); have : (0 : Int32).toInt = 0 := rfl; omega⟩) hP hD hS (lv_sub hl [0, 1] rfl)
      · skip
        have r31 : rg p1 (-1) (-1) := rg_lt1 (iNE c29) (hp1 : rg p1 (-1) 7) ((rg_k (by decide)) : rg 0 0 0)
        refine lv_aload_n hx hb dX12_known_28 rfl (lv_at hl 0 rfl) ?_
        refine lv_iconst (v := 5) hx hb dX12_known_29 (by decide) ?_
        refine lv_aload_n hx hb dX12_known_30 rfl (lv_at hl 0 rfl) ?_
        refine va_get (ci := 12) (v := .int (F 4)) (C := RX12) (T := TX12) (N := 57) hx hb hg inX12 hown hK hP 0 atM_0 rfl 6 (by decide) (hg _ mw_1114) (fun _ h9 => h9) rfl dX12_known_31 ?_
        refine lv_topi (fun x32 e33 => ?_)
        have r34 : rg x32 0 1700 := rg_e e33 (hq.1.1 4)
        refine callv_v (As := [.int 5, .int x32]) (rest := []) hC (c_X12_fails_0 l D cA H.size ad F L A B (5) (x32) hq.1 (rg_k (by decide)) r34) (cwV 2 hg (g_V mw_1332 mw_1329 mw_1331 ms_55 mw_20) rfl rfl rfl (by decide +kernel) ⟨(Nat.le_of_ble_eq_true rfl), (Nat.le_of_ble_eq_true rfl)⟩) hP hD hS hA atM_0 rfl rfl hl.1 rfl (Nat.le_of_ble_eq_true rfl) dX12_known_34 ⟨Nat.zero_le _, Nat.zero_le _⟩ (fun  u H locs hw hP hD hS => ?_)
        obtain ⟨F35, L35, A35, B35⟩ := u
        try dsimp only at hw
        obtain ⟨hq35, g36⟩ := hw
        have hq := hq.call hq35 (by decide)
        have hP : va_P D classes (wM cA ad F35 L35 A35 B35) H := hP
        have hD : va_D Af (wM cA ad F35 L35 A35 B35) := hD
        exact J37 (F35) (L35) (A35) (B35) H locs ls hq (pR.fr (pR.rf hJ) (hq35.2.1 4 (by decide)) (hq35.2.1 5 (by decide)) (hq35.2.1 1 (by decide)) (hq35.2.1 6 (by decide))) (fun h9 => absurd g36 (by rw [h9]; decide)) hP hD hS (lv_sub hl [0, 1] rfl)
    · skip
      refine lv_aload_n hx hb dX12_known_17 rfl (lv_at hl 0 rfl) ?_
      refine callv_v (As := []) (rest := []) hC (c_X12_misplaced_0 l D cA H.size ad F L A B  hq.1) (cwV 0 hg (g_V mw_1328 mw_1325 mw_1327 ms_54 mw_20) rfl rfl rfl (by decide +kernel) ⟨(Nat.le_of_ble_eq_true rfl), (Nat.le_of_ble_eq_true rfl)⟩) hP hD hS hA atM_0 rfl rfl hl.1 rfl (Nat.le_of_ble_eq_true rfl) dX12_known_18 ⟨Nat.zero_le _, Nat.zero_le _⟩ (fun  u H locs hw hP hD hS => ?_)
      obtain ⟨F37, L37, A37, B37⟩ := u
      try dsimp only at hw
      obtain ⟨hq37, g38⟩ := hw
      have hq := hq.call hq37 (by decide)
      have hP : va_P D classes (wM cA ad F37 L37 A37 B37) H := hP
      have hD : va_D Af (wM cA ad F37 L37 A37 B37) := hD
      refine lv_goto (tgt := 37) hx hb dX12_known_21 (by decide) ?_
      exact J37 (F37) (L37) (A37) (B37) H locs ls hq (pR.fr (pR.rf hJ) (hq37.2.1 4 (by decide)) (hq37.2.1 5 (by decide)) (hq37.2.1 1 (by decide)) (hq37.2.1 6 (by decide))) (fun h9 => absurd g38 (by rw [h9]; decide)) hP hD hS (lv_sub hl [0, 1] rfl)
  · skip
    have r6 : rg x1 0 0 := rg_eq1 c4 (r2 : rg x1 0 1) ((rg_k (by decide)) : rg 0 0 0) (by decide)
    refine lv_iconst (v := 0) hx hb dX12_known_7 (by decide) ?_
    exact hret (0) (F, L, A, B) H locs 8 ls rfl dX12_known_8 hP hD hS ⟨hq, (pR.rf hJ), (rg_k (by decide)), (fun h9 => absurd h9 ((g3).2.resolve_left (fun z => z c4)))⟩
abbrev rm_X12_smithHere_0 : Room := { frames := 0, cells := 0, slots := 0, locals := 0 }
set_option maxHeartbeats 4000000 in
set_option maxRecDepth 100000 in
theorem c_X12_smithHere_0 (l : Launch) (D : va_G) (cA : Nat → ClassId) (sz : Nat) (ad : Nat → Nat) (F : Nat → Int32) (L : Nat → Int64) (A : Nat → Nat → Int32) (B : Nat → Nat → Int64)  (hT : typM F A) : Met l yX12_smithHere (Cond.code yX12_smithHere cX12_smithHere 2 (some .int) :: GW) rm_X12_smithHere_0 (mPc D classes (tysM cA) (wM cA ad F L A B) sz [.ref (ad 0)]) (mQi (S := Unit) D classes (tysM cA) (wM cA ad F L A B) sz (fun _ : Unit => wM cA ad F L A B) (fun r u => rg r (-1) 7 ∧ (r.toInt < (A 3 (F 9).toNatClampNeg).toInt))) 0 0 (va_A (wM cA ad F L A B) sz) := by
  refine met_i (own := "ShoeingDayModel") (by decide +kernel) rfl (Nat.le_of_ble_eq_true rfl) ?_
  intro p e s m args below meth c Q Af ls hC hP hD hS hA hl hret
  have hx := hC.1
  have hb := hC.2.1
  have hown := hC.2.2.2.1
  have hg := hC.g
  have hK := hC.K
  have hl : lv_has ls 2 [(0, .ref (ad 0))] := hl
  have hq : qM [] [] F A F A := qM.rf hT
  obtain ⟨H, hH⟩ : ∃ H, H = s.heap := ⟨_, rfl⟩
  have hP : va_P D classes (wM cA ad F L A B) H := by rw [hH]; exact hP
  have hS : va_S Af s.heap H [] := by rw [hH]; exact hS
  obtain ⟨locs, hlo⟩ : ∃ q : List Loc, q = [] := ⟨_, rfl⟩
  rw [← hH, ← hlo]
  rw [← hlo] at hS
  refine lv_iconst (v := 0) hx hb dX12_smithHere_0 (by decide) ?_
  refine lv_istore_n (lv' := [(1, .int 0), (0, .ref (ad 0))]) hx hb dX12_smithHere_1 rfl hl (by decide) rfl (fun ls hl => ?_)
  have J2 : ∀ (n2 : Nat) (a1 : Int32) (H : Heap) (locs : List Loc) (ls : Array Slot), (8 - a1.toInt).toNat < n2 → rg a1 0 8 → va_P D classes (wM cA ad F L A B) H → va_D Af (wM cA ad F L A B) → va_S Af s.heap H locs → lv_has ls 2 [(0, .ref (ad 0)), (1, .int a1)] → W p l e rm_X12_smithHere_0 s m args below meth c H locs 0 0 Q (F0 m 2 ls []) := by
    intro n2
    induction n2 with
    | zero =>
      intro _ _ _ _ hn
      exact absurd hn (Nat.not_lt_zero _)
    | succ n2 ih2 =>
      intro a1 H locs ls hn2 r2 hP hD hS hl
      refine lv_iload_n hx hb dX12_smithHere_2 rfl (lv_at hl 1 rfl) ?_
      refine lv_aload_n hx hb dX12_smithHere_3 rfl (lv_at hl 0 rfl) ?_
      refine va_get (ci := 12) (v := .ref (ad 3)) (C := RX12) (T := TX12) (N := 57) hx hb hg inX12 hown hK hP 0 atM_0 rfl 11 (by decide) (hg _ mw_1119) (fun _ h9 => h9) rfl dX12_smithHere_4 ?_
      refine lv_aload_n hx hb dX12_smithHere_7 rfl (lv_at hl 0 rfl) ?_
      refine va_get (ci := 12) (v := .int (F 9)) (C := RX12) (T := TX12) (N := 57) hx hb hg inX12 hown hK hP 0 atM_0 rfl 25 (by decide) (hg _ mw_1133) (fun _ h9 => h9) rfl dX12_smithHere_8 ?_
      refine lv_topi (fun x3 e4 => ?_)
      have r5 : rg x3 0 1 := rg_e e4 (hq.1.1 9)
      refine va_iald hx hb hK hP 3 2 atM_3 tyM_3 (in_rg r5 (by decide)) dX12_smithHere_11 ?_
      refine lv_topi (fun x6 e7 => ?_)
      have r8 : rg x6 0 8 := rg_e e7 (hq.1.2 3 _)
      refine lv_icmp_ge (tgt := 53) hx hb dX12_smithHere_12 (by decide) (fun c9 => ?_) (fun c9 => ?_)
      · skip
        refine lv_iconst (v := (-1)) hx hb dX12_smithHere_53 (by decide) ?_
        exact hret ((-1)) () H locs 54 ls rfl dX12_smithHere_54 hP hD hS ⟨(rg_k (by decide)), (by have h9 : rg (A 3 (F 9).toNatClampNeg) 0 8 := hq.1.2 3 _; have := h9.1; have : (-1 : Int32).toInt = -1 := rfl; omega)⟩
      · skip
        have r10 : rg a1 0 7 := rg_lt1 (iNE c9) (r2 : rg a1 0 8) (r8 : rg x6 0 8)
        have r11 : rg x6 1 8 := rg_lt2 (iNE c9) (r2 : rg a1 0 8) (r8 : rg x6 0 8)
        refine lv_aload_n hx hb dX12_smithHere_15 rfl (lv_at hl 0 rfl) ?_
        refine va_get (ci := 12) (v := .int (F 6)) (C := RX12) (T := TX12) (N := 57) hx hb hg inX12 hown hK hP 0 atM_0 rfl 8 (by decide) (hg _ mw_1116) (fun _ h9 => h9) rfl dX12_smithHere_16 ?_
        refine lv_topi (fun x12 e13 => ?_)
        have r14 : rg x12 0 5 := rg_e e13 (hq.1.1 6)
        refine lv_iconst (v := 2) hx hb dX12_smithHere_19 (by decide) ?_
        have J47 : ∀ (H : Heap) (locs : List Loc) (ls : Array Slot), va_P D classes (wM cA ad F L A B) H → va_D Af (wM cA ad F L A B) → va_S Af s.heap H locs → lv_has ls 2 [(0, .ref (ad 0)), (1, .int a1)] → W p l e rm_X12_smithHere_0 s m args below meth c H locs 0 0 Q (F0 m 47 ls []) := by
          intro H locs ls hP hD hS hl
          obtain ⟨x15, e16⟩ : ∃ y : Int32, y = a1 + 1 := ⟨_, rfl⟩
          have r17 : rg x15 1 8 := rg_add e16 r10 (rg_k (by decide) : rg 1 1 1) (by decide)
          refine lv_iinc (v := x15) (lv' := [(1, .int x15), (0, .ref (ad 0))]) hx hb dX12_smithHere_47 hl (k := 1) rfl (by rw [e16]; rfl) (by decide) rfl (fun ls hl => ?_)
          refine lv_goto (tgt := 2) hx hb dX12_smithHere_50 (by decide) ?_
          exact ih2 (x15) H locs ls (by have h0 : (1 : Int32).toInt = 1 := rfl; have h1 := ti_addk e16 r10 (by decide); have h2 : rg x15 0 8 := (rg_w r17 (by decide)); unfold rg at h2; omega) (rg_w r17 (by decide)) hP hD hS (lv_sub hl [1, 0] rfl)
        refine lv_icmp_ne (tgt := 47) hx hb dX12_smithHere_20 (by decide) (fun c18 => ?_) (fun c18 => ?_)
        · skip
          exact J47  H locs ls  hP hD hS (lv_sub hl [0, 1] rfl)
        · skip
          have r19 : rg x12 2 2 := rg_eq1 c18 (r14 : rg x12 0 5) ((rg_k (by decide)) : rg 2 2 2) (by decide)
          refine lv_aload_n hx hb dX12_smithHere_23 rfl (lv_at hl 0 rfl) ?_
          refine va_get (ci := 12) (v := .ref (ad 14)) (C := RX12) (T := TX12) (N := 57) hx hb hg inX12 hown hK hP 0 atM_0 rfl 22 (by decide) (hg _ mw_1130) (fun _ h9 => h9) rfl dX12_smithHere_24 ?_
          refine lv_bipush (v := 8) hx hb dX12_smithHere_27 (by decide) ?_
          refine lv_aload_n hx hb dX12_smithHere_29 rfl (lv_at hl 0 rfl) ?_
          refine va_get (ci := 12) (v := .int x3) (C := RX12) (T := TX12) (N := 57) hx hb hg inX12 hown hK hP 0 atM_0 rfl 25 (by decide) (hg _ mw_1133) (fun _ h9 => h9) (congrArg (fun z => some (Value.int z)) (e4.symm)) dX12_smithHere_30 ?_
          refine lv_imul hx hb dX12_smithHere_33 ?_
          refine lv_topi (fun x20 e21 => ?_)
          have r22 : rg x20 0 8 := rg_mul e21 ((rg_k (by decide)) : rg 8 8 8) r5 (by decide)
          refine lv_iload_n hx hb dX12_smithHere_34 rfl (lv_at hl 1 rfl) ?_
          refine lv_iadd hx hb dX12_smithHere_35 ?_
          refine lv_topi (fun x23 e24 => ?_)
          have r25 : rg x23 0 15 := rg_add e24 r22 r10 (by decide)
          refine va_lald hx hb hK hP 14 13 atM_14 tyM_14 (in_rg r25 (by decide)) dX12_smithHere_36 ?_
          refine lv_topl (fun z26 _ => ?_)
          refine lv_aload_n hx hb dX12_smithHere_37 rfl (lv_at hl 0 rfl) ?_
          refine va_get (ci := 12) (v := .long (L 0)) (C := RX12) (T := TX12) (N := 57) hx hb hg inX12 hown hK hP 0 atM_0 rfl 10 (by decide) (hg _ mw_1118) (fun _ h9 => h9) rfl dX12_smithHere_38 ?_
          refine lv_topl (fun z27 e28 => ?_)
          refine W.lcmp hx hb dX12_smithHere_41 ?_
          refine lv_topi (fun x29 e30 => ?_)
          refine lv_if_ne (tgt := 47) hx hb dX12_smithHere_42 (by decide) (fun c31 => ?_) (fun c31 => ?_)
          · skip
            exact J47  H locs ls  hP hD hS (lv_sub hl [0, 1] rfl)
          · skip
            have r32 : rg x29 0 0 := rg_eq1 c31 ((rg_top _) : rg x29 (-2147483648) 2147483647) ((rg_k (by decide)) : rg 0 0 0) (by decide)
            refine lv_iload_n hx hb dX12_smithHere_45 rfl (lv_at hl 1 rfl) ?_
            exact hret (a1) () H locs 46 ls rfl dX12_smithHere_46 hP hD hS ⟨(rg_w r10 (by decide)), (by rw [← e4]; have h9 := (iNE c9); rw [e7] at h9; exact h9)⟩
  exact J2 _ (0) H locs ls (Nat.lt_succ_self _) (rg_k (by decide)) hP hD hS (lv_sub hl [1, 0] rfl)
abbrev rm_X12_readHours_0 : Room := { frames := 3, cells := 0, slots := 0, locals := 66 }
set_option maxHeartbeats 4000000 in
set_option maxRecDepth 100000 in
theorem c_X12_readHours_0 (l : Launch) (D : va_G) (cA : Nat → ClassId) (sz : Nat) (ad : Nat → Nat) (F : Nat → Int32) (L : Nat → Int64) (A : Nat → Nat → Int32) (B : Nat → Nat → Int64)  (hT : typM F A) (hJ : pI F) (hB : dmB A (F 9).toNatClampNeg) : Met l yX12_readHours (Cond.code yX12_readHours cX12_readHours 5 none :: GW) rm_X12_readHours_0 (mPc D classes (tysM cA) (wM cA ad F L A B) sz [.ref (ad 0)]) (mQv (S := SW) D classes (tysM cA) (wM cA ad F L A B) sz (wfM cA ad) (fun u => qM [2, 3, 4, 5, 6, 7] [5, 10, 12] F A u.1 u.2.2.1 ∧ pR F u.1 ∧ (rdB u.2.2.1 A (F 9).toNatClampNeg))) 0 0 (va_A (wM cA ad F L A B) sz) := by
  refine met_v (own := "ShoeingDayModel") (by decide +kernel) rfl (Nat.le_of_ble_eq_true rfl) ?_
  intro p e s m args below meth c Q Af ls hC hP hD hS hA hl hret
  have hx := hC.1
  have hb := hC.2.1
  have hown := hC.2.2.2.1
  have hg := hC.g
  have hK := hC.K
  have hl : lv_has ls 5 [(0, .ref (ad 0))] := hl
  have hq : qM [2, 3, 4, 5, 6, 7] [5, 10, 12] F A F A := qM.rf hT
  obtain ⟨H, hH⟩ : ∃ H, H = s.heap := ⟨_, rfl⟩
  have hP : va_P D classes (wM cA ad F L A B) H := by rw [hH]; exact hP
  have hS : va_S Af s.heap H [] := by rw [hH]; exact hS
  obtain ⟨locs, hlo⟩ : ∃ q : List Loc, q = [] := ⟨_, rfl⟩
  rw [← hH, ← hlo]
  rw [← hlo] at hS
  refine lv_aload_n hx hb dX12_readHours_0 rfl (lv_at hl 0 rfl) ?_
  refine lv_aload_n hx hb dX12_readHours_1 rfl (lv_at hl 0 rfl) ?_
  refine callv_i (As := []) (rest := [.ref (ad 0)]) hC (c_X12_smithHere_0 l D cA H.size ad F L A B  hq.1) (cwV 0 hg (g_V mw_1340 mw_1337 mw_1339 ms_57 mw_20) rfl rfl rfl (by decide +kernel) ⟨(Nat.le_of_ble_eq_true rfl), (Nat.le_of_ble_eq_true rfl)⟩) hP hD hS hA atM_0 rfl rfl hl.1 rfl (Nat.le_of_ble_eq_true rfl) dX12_readHours_2 ⟨Nat.zero_le _, Nat.zero_le _⟩ (fun x1 u H locs hw hP hD hS => ?_)
  obtain ⟨r2, g3⟩ := hw
  have hP : va_P D classes (wM cA ad F L A B) H := hP
  have hD : va_D Af (wM cA ad F L A B) := hD
  refine callv_i (As := [.int x1]) (rest := []) hC (c_X12_known_0_s l D cA H.size ad F L A B (x1) hq.1 r2 ((pR.rf hJ)).1) (cwV 1 hg (g_V mw_1368 mw_1365 mw_1367 ms_64 mw_20) rfl rfl rfl (by decide +kernel) ⟨(Nat.le_of_ble_eq_true rfl), (Nat.le_of_ble_eq_true rfl)⟩) hP hD hS hA atM_0 rfl rfl hl.1 rfl (Nat.le_of_ble_eq_true rfl) dX12_readHours_5 ⟨Nat.zero_le _, Nat.zero_le _⟩ (fun x4 u H locs hw hP hD hS => ?_)
  obtain ⟨F5, L5, A5, B5⟩ := u
  try dsimp only at hw
  obtain ⟨hq5, g6, r7, g8⟩ := hw
  have hq := hq.call hq5 (by decide)
  have hP : va_P D classes (wM cA ad F5 L5 A5 B5) H := hP
  have hD : va_D Af (wM cA ad F5 L5 A5 B5) := hD
  refine lv_istore_n (lv' := [(1, .int x4), (0, .ref (ad 0))]) hx hb dX12_readHours_8 rfl hl (by decide) rfl (fun ls hl => ?_)
  refine lv_aload_n hx hb dX12_readHours_9 rfl (lv_at hl 1 rfl) ?_
  refine callv_i (As := []) (rest := []) hC (c_X12_horseHere_0 l D cA H.size ad F5 L5 A5 B5  hq.1) (cwV 0 hg (g_V mw_1360 mw_1357 mw_1359 ms_62 mw_20) rfl rfl rfl (by decide +kernel) ⟨(Nat.le_of_ble_eq_true rfl), (Nat.le_of_ble_eq_true rfl)⟩) hP hD hS hA atM_0 rfl rfl hl.1 rfl (Nat.le_of_ble_eq_true rfl) dX12_readHours_10 ⟨Nat.zero_le _, Nat.zero_le _⟩ (fun x9 u H locs hw hP hD hS => ?_)
  obtain ⟨r10, g11⟩ := hw
  have hP : va_P D classes (wM cA ad F5 L5 A5 B5) H := hP
  have hD : va_D Af (wM cA ad F5 L5 A5 B5) := hD
  have gh10 : x9.toInt < (A 4 (F 9).toNatClampNeg).toInt := by have h9 := g11; rw [hq.2.2 4 (by decide), hq.2.1 9 (by decide)] at h9; exact h9
  refine lv_istore_n (lv' := [(2, .int x9), (1, .int x4), (0, .ref (ad 0))]) hx hb dX12_readHours_13 rfl hl (by decide) rfl (fun ls hl => ?_)
  refine lv_bipush (v := 80) hx hb dX12_readHours_14 (by decide) ?_
  refine lv_aload_n hx hb dX12_readHours_16 rfl (lv_at hl 2 rfl) ?_
  refine va_get (ci := 12) (v := .int (F5 9)) (C := RX12) (T := TX12) (N := 57) hx hb hg inX12 hown hK hP 0 atM_0 rfl 25 (by decide) (hg _ mw_1133) (fun _ h9 => h9) rfl dX12_readHours_17 ?_
  refine lv_topi (fun x12 e13 => ?_)
  have r14 : rg x12 0 1 := rg_e e13 (hq.1.1 9)
  have e9r : x12 = F 9 := e13.trans (hq.2.1 9 (by decide))
  refine lv_imul hx hb dX12_readHours_20 ?_
  refine lv_topi (fun x15 e16 => ?_)
  have r17 : rg x15 0 80 := rg_mul e16 ((rg_k (by decide)) : rg 80 80 80) r14 (by decide)
  refine lv_bipush (v := 10) hx hb dX12_readHours_21 (by decide) ?_
  refine lv_iload_n hx hb dX12_readHours_23 rfl (lv_at hl 1 rfl) ?_
  refine lv_imul hx hb dX12_readHours_24 ?_
  refine lv_topi (fun x18 e19 => ?_)
  have r20 : rg x18 0 70 := rg_mul e19 ((rg_k (by decide)) : rg 10 10 10) r7 (by decide)
  refine lv_iadd hx hb dX12_readHours_25 ?_
  refine lv_topi (fun x21 e22 => ?_)
  have r23 : rg x21 0 150 := rg_add e22 r17 r20 (by decide)
  refine lv_iload_n hx hb dX12_readHours_26 rfl (lv_at hl 0 rfl) ?_
  have J35 : ∀ (a24 : Int32) (F26 : Nat → Int32) (L26 : Nat → Int64) (A26 : Nat → Nat → Int32) (B26 : Nat → Nat → Int64) (H : Heap) (locs : List Loc) (ls : Array Slot), rg a24 0 9 → qM [2, 3, 4, 5, 6, 7] [5, 10, 12] F A F26 A26 → A26 10 = A 10 → pR F F26 → F26 9 = x12 → (F26 2 = F5 2 ∧ (0 ≤ x9.toInt → a24 = x9)) → va_P D classes (wM cA ad F26 L26 A26 B26) H → va_D Af (wM cA ad F26 L26 A26 B26) → va_S Af s.heap H locs → lv_has ls 5 [(0, .ref (ad 0)), (2, .int x9)] → W p l e rm_X12_readHours_0 s m args below meth c H locs 0 0 Q (F0 m 35 ls [.int a24, .int x21]) := by
    intro a24 F26 L26 A26 B26 H locs ls r25 hq k27 i28 f29 v30 hP hD hS hl
    refine lv_iadd hx hb dX12_readHours_35 ?_
    refine lv_topi (fun x31 e32 => ?_)
    have r33 : rg x31 0 159 := rg_add e32 r23 r25 (by decide)
    refine lv_istore_n (lv' := [(3, .int x31), (0, .ref (ad 0)), (2, .int x9)]) hx hb dX12_readHours_36 rfl hl (by decide) rfl (fun ls hl => ?_)
    refine lv_aload_n hx hb dX12_readHours_37 rfl (lv_at hl 1 rfl) ?_
    refine callv_i (As := []) (rest := []) hC (c_X12_isGood_0 l D cA H.size ad F26 L26 A26 B26  hq.1) (cwV 0 hg (g_V mw_1312 mw_1309 mw_1311 ms_50 mw_20) rfl rfl rfl (by decide +kernel) ⟨(Nat.le_of_ble_eq_true rfl), (Nat.le_of_ble_eq_true rfl)⟩) hP hD hS hA atM_0 rfl rfl hl.1 rfl (Nat.le_of_ble_eq_true rfl) dX12_readHours_38 ⟨Nat.zero_le _, Nat.zero_le _⟩ (fun x34 u H locs hw hP hD hS => ?_)
    obtain ⟨r35, g36⟩ := hw
    have hP : va_P D classes (wM cA ad F26 L26 A26 B26) H := hP
    have hD : va_D Af (wM cA ad F26 L26 A26 B26) := hD
    have J66 : ∀ (F37 : Nat → Int32) (L37 : Nat → Int64) (A37 : Nat → Nat → Int32) (B37 : Nat → Nat → Int64) (H : Heap) (locs : List Loc) (ls : Array Slot), qM [2, 3, 4, 5, 6, 7] [5, 10, 12] F A F37 A37 → A37 10 = A 10 → pR F F37 → F37 9 = x12 → (F37 2 = 0 → F5 2 = 0) → va_P D classes (wM cA ad F37 L37 A37 B37) H → va_D Af (wM cA ad F37 L37 A37 B37) → va_S Af s.heap H locs → lv_has ls 5 [(0, .ref (ad 0)), (2, .int x9), (3, .int x31)] → W p l e rm_X12_readHours_0 s m args below meth c H locs 0 0 Q (F0 m 66 ls []) := by
      intro F37 L37 A37 B37 H locs ls hq k38 i39 f40 v41 hP hD hS hl
      refine lv_aload_n hx hb dX12_readHours_66 rfl (lv_at hl 0 rfl) ?_
      refine lv_iload_n hx hb dX12_readHours_67 rfl (lv_at hl 1 rfl) ?_
      refine callv_i (As := [.int x9]) (rest := []) hC (c_X12_known_0_h l D cA H.size ad F37 L37 A37 B37 (x9) hq.1 r10 (i39).1) (cwV 1 hg (g_V mw_1368 mw_1365 mw_1367 ms_64 mw_20) rfl rfl rfl (by decide +kernel) ⟨(Nat.le_of_ble_eq_true rfl), (Nat.le_of_ble_eq_true rfl)⟩) hP hD hS hA atM_0 rfl rfl hl.1 rfl (Nat.le_of_ble_eq_true rfl) dX12_readHours_68 ⟨Nat.zero_le _, Nat.zero_le _⟩ (fun x42 u H locs hw hP hD hS => ?_)
      obtain ⟨F43, L43, A43, B43⟩ := u
      try dsimp only at hw
      obtain ⟨hq43, g44, r45, g46⟩ := hw
      have hq := hq.call hq43 (by decide)
      have hP : va_P D classes (wM cA ad F43 L43 A43 B43) H := hP
      have hD : va_D Af (wM cA ad F43 L43 A43 B43) := hD
      refine lv_pop hx hb dX12_readHours_71 rfl ?_
      refine lv_aload_n hx hb dX12_readHours_72 rfl (lv_at hl 0 rfl) ?_
      refine lv_iconst (v := 0) hx hb dX12_readHours_73 (by decide) ?_
      refine lv_bipush (v := 99) hx hb dX12_readHours_74 (by decide) ?_
      refine callv_i (As := [.int 0, .int 99]) (rest := []) hC (c_X12_numeral_0 l D cA H.size ad F43 L43 A43 B43 (0) (99) hq.1 (rg_k (by decide)) (rg_k (by decide)) ((pR.tr i39 g44)).1) (cwV 2 hg (g_V mw_1352 mw_1349 mw_1351 ms_60 mw_20) rfl rfl rfl (by decide +kernel) ⟨(Nat.le_of_ble_eq_true rfl), (Nat.le_of_ble_eq_true rfl)⟩) hP hD hS hA atM_0 rfl rfl hl.1 rfl (Nat.le_of_ble_eq_true rfl) dX12_readHours_76 ⟨Nat.zero_le _, Nat.zero_le _⟩ (fun x47 u H locs hw hP hD hS => ?_)
      obtain ⟨F48, L48, A48, B48⟩ := u
      try dsimp only at hw
      obtain ⟨hq48, g49, g50⟩ := hw
      have hq := hq.call hq48 (by decide)
      have hP : va_P D classes (wM cA ad F48 L48 A48 B48) H := hP
      have hD : va_D Af (wM cA ad F48 L48 A48 B48) := hD
      refine lv_istore (lv' := [(4, .int x47), (0, .ref (ad 0)), (2, .int x9), (3, .int x31)]) hx hb dX12_readHours_79 hl (by decide) rfl (fun ls hl => ?_)
      refine lv_aload_n hx hb dX12_readHours_81 rfl (lv_at hl 1 rfl) ?_
      refine callv_i (As := []) (rest := []) hC (c_X12_isGood_0 l D cA H.size ad F48 L48 A48 B48  hq.1) (cwV 0 hg (g_V mw_1312 mw_1309 mw_1311 ms_50 mw_20) rfl rfl rfl (by decide +kernel) ⟨(Nat.le_of_ble_eq_true rfl), (Nat.le_of_ble_eq_true rfl)⟩) hP hD hS hA atM_0 rfl rfl hl.1 rfl (Nat.le_of_ble_eq_true rfl) dX12_readHours_82 ⟨Nat.zero_le _, Nat.zero_le _⟩ (fun x51 u H locs hw hP hD hS => ?_)
      obtain ⟨r52, g53⟩ := hw
      have hP : va_P D classes (wM cA ad F48 L48 A48 B48) H := hP
      have hD : va_D Af (wM cA ad F48 L48 A48 B48) := hD
      refine lv_if_ne (tgt := 89) hx hb dX12_readHours_85 (by decide) (fun c54 => ?_) (fun c54 => ?_)
      · skip
        have r55 : rg x51 1 1 := (rg_ne1 c54 (r52 : rg x51 0 1) ((rg_k (by decide)) : rg 0 0 0)).1 rfl
        have g0 := ((g53).1.resolve_left c54)
        have g1 := g50 g0
        have g2 := g46 g1.1
        have g3 := g8 (v41 g2.1)
        have g4 : a24 = x9 := v30.2 g2.2.1
        have gad := hr_ad (r14 : rg x12 0 1) (r7 : rg x4 0 7) (by rw [g4]; exact ⟨g2.2.1, (r10 : rg x9 (-1) 9).2⟩ : rg a24 0 9) e16 e19 e22 e32
        have ghs : (x4.toNatClampNeg : Int) < (A 3 (F 9).toNatClampNeg).toInt := by have h9 := g3; have := cl_ti (r7 : rg x4 0 7) (by decide); have := congrArg Int32.toInt g3.2.2; omega
        have ghh : (a24.toNatClampNeg : Int) < (A 4 (F 9).toNatClampNeg).toInt := by rw [g4]; have h9 := gh10; have : (x9.toNatClampNeg : Int) = x9.toInt := (show ((x9.toInt.toNat : Nat) : Int) = x9.toInt by have := g2.2.1; omega); omega
        have gv : rg x47 0 99 := ⟨g1.2.1, g1.2.2⟩
        refine lv_aload_n hx hb dX12_readHours_89 rfl (lv_at hl 1 rfl) ?_
        refine va_get (ci := 12) (v := .ref (ad 10)) (C := RX12) (T := TX12) (N := 57) hx hb hg inX12 hown hK hP 0 atM_0 rfl 18 (by decide) (hg _ mw_1126) (fun _ h9 => h9) rfl dX12_readHours_90 ?_
        refine lv_iload_n hx hb dX12_readHours_93 rfl (lv_at hl 3 rfl) ?_
        refine lv_iload hx hb dX12_readHours_94 (lv_at hl 0 rfl) ?_
        refine va_iast hx hb hK hP hD hS 10 9 atM_10 tyM_10 (in_rg r33 (by decide)) dX12_readHours_96 (fun H locs hP hD hS => ?_)
        have hq := hq.ast 10 (x31).toNatClampNeg (x := x47) (by decide) (rg_top _)
        rw [setM_10] at hP hD
        have k57 : x47 = (va_up A48 10 (upd (A48 10) (x31).toNatClampNeg x47)) 10 (x31).toNatClampNeg := (rdA).symm
        refine lv_aload_n hx hb dX12_readHours_97 rfl (lv_at hl 1 rfl) ?_
        refine va_get (ci := 12) (v := .ref (ad 12)) (C := RX12) (T := TX12) (N := 57) hx hb hg inX12 hown hK hP 0 atM_0 rfl 20 (by decide) (hg _ mw_1128) (fun _ h9 => h9) rfl dX12_readHours_98 ?_
        refine lv_iload_n hx hb dX12_readHours_101 rfl (lv_at hl 3 rfl) ?_
        refine lv_iconst (v := 1) hx hb dX12_readHours_102 (by decide) ?_
        refine va_zast hx hb hK hP hD hS 12 11 atM_12 tyM_12 (in_rg r33 (by decide)) dX12_readHours_103 (fun H locs hP hD hS => ?_)
        have hq := hq.ast 12 (x31).toNatClampNeg (x := (vp_nar .boolean 1)) (by decide) (rg_nz _)
        rw [setM_12] at hP hD
        refine lv_aload_n hx hb dX12_readHours_104 rfl (lv_at hl 1 rfl) ?_
        refine va_get (ci := 12) (v := .ref (ad 5)) (C := RX12) (T := TX12) (N := 57) hx hb hg inX12 hown hK hP 0 atM_0 rfl 13 (by decide) (hg _ mw_1121) (fun _ h9 => h9) rfl dX12_readHours_105 ?_
        refine lv_aload_n hx hb dX12_readHours_108 rfl (lv_at hl 1 rfl) ?_
        refine va_get (ci := 12) (v := .int x12) (C := RX12) (T := TX12) (N := 57) hx hb hg inX12 hown hK hP 0 atM_0 rfl 25 (by decide) (hg _ mw_1133) (fun _ h9 => h9) (congrArg (fun z => some (Value.int z)) ((hq48.2.1 9 (by decide)).trans ((hq43.2.1 9 (by decide)).trans (f40)))) dX12_readHours_109 ?_
        refine lv_dup2_11 hx hb dX12_readHours_112 rfl rfl ?_
        refine va_iald hx hb hK hP 5 4 atM_5 tyM_5 (in_rg r14 (by decide)) dX12_readHours_113 ?_
        refine lv_topi (fun x58 e59 => ?_)
        refine lv_iconst (v := 1) hx hb dX12_readHours_114 (by decide) ?_
        refine lv_iadd hx hb dX12_readHours_115 ?_
        refine lv_topi (fun x60 e61 => ?_)
        refine va_iast hx hb hK hP hD hS 5 4 atM_5 tyM_5 (in_rg r14 (by decide)) dX12_readHours_116 (fun H locs hP hD hS => ?_)
        have hq := hq.ast 5 (x12).toNatClampNeg (x := x60) (by decide) (rg_top _)
        rw [setM_5] at hP hD
        have k62 : x60 = (va_up (va_up (va_up A48 10 (upd (A48 10) (x31).toNatClampNeg x47)) 12 (upd ((va_up A48 10 (upd (A48 10) (x31).toNatClampNeg x47)) 12) (x31).toNatClampNeg (vp_nar .boolean 1))) 5 (upd ((va_up (va_up A48 10 (upd (A48 10) (x31).toNatClampNeg x47)) 12 (upd ((va_up A48 10 (upd (A48 10) (x31).toNatClampNeg x47)) 12) (x31).toNatClampNeg (vp_nar .boolean 1))) 5) (x12).toNatClampNeg x60)) 5 (x12).toNatClampNeg := (rdA).symm
        have rhp : rdB (va_up (va_up (va_up A48 10 (upd (A48 10) (x31).toNatClampNeg x47)) 12 (upd ((va_up A48 10 (upd (A48 10) (x31).toNatClampNeg x47)) 12) (x31).toNatClampNeg (vp_nar .boolean 1))) 5 (upd ((va_up (va_up A48 10 (upd (A48 10) (x31).toNatClampNeg x47)) 12 (upd ((va_up A48 10 (upd (A48 10) (x31).toNatClampNeg x47)) 12) (x31).toNatClampNeg (vp_nar .boolean 1))) 5) (x12).toNatClampNeg x60)) A (F 9).toNatClampNeg := ho_post (hq.2.2 3 (by decide)) (hq.2.2 4 (by decide)) (by rw [← ((hq48.2.2 10 (by decide)).trans ((hq43.2.2 10 (by decide)).trans k38))]; rfl) (by rw [← e9r]; exact gad.1) gad.2.2.1 gad.2.2.2 ghs ghh gv hB
        exact hret (F48, L48, (va_up (va_up (va_up A48 10 (upd (A48 10) (x31).toNatClampNeg x47)) 12 (upd ((va_up A48 10 (upd (A48 10) (x31).toNatClampNeg x47)) 12) (x31).toNatClampNeg (vp_nar .boolean 1))) 5 (upd ((va_up (va_up A48 10 (upd (A48 10) (x31).toNatClampNeg x47)) 12 (upd ((va_up A48 10 (upd (A48 10) (x31).toNatClampNeg x47)) 12) (x31).toNatClampNeg (vp_nar .boolean 1))) 5) (x12).toNatClampNeg x60)), B48) H locs 117 ls dX12_readHours_117 hP hD hS ⟨hq, (pR.tr (pR.tr i39 g44) g49), rhp⟩
      · skip
        have r56 : rg x51 0 0 := rg_eq1 c54 (r52 : rg x51 0 1) ((rg_k (by decide)) : rg 0 0 0) (by decide)
        exact hret (F48, L48, A48, B48) H locs 88 ls dX12_readHours_88 hP hD hS ⟨hq, (pR.tr (pR.tr i39 g44) g49), (rdB_fr (rdB_rf hB) (hq.2.2 3 (by decide)) (hq.2.2 4 (by decide)) ((hq48.2.2 10 (by decide)).trans ((hq43.2.2 10 (by decide)).trans k38)))⟩
    refine lv_if_eq (tgt := 66) hx hb dX12_readHours_41 (by decide) (fun c63 => ?_) (fun c63 => ?_)
    · skip
      have r64 : rg x34 0 0 := rg_eq1 c63 (r35 : rg x34 0 1) ((rg_k (by decide)) : rg 0 0 0) (by decide)
      exact J66 (F26) (L26) (A26) (B26) H locs ls hq (k27) i28 (f29) (fun h9 => v30.1.symm.trans h9) hP hD hS (lv_sub hl [1, 2, 0] rfl)
    · skip
      have r65 : rg x34 1 1 := (rg_ne1 c63 (r35 : rg x34 0 1) ((rg_k (by decide)) : rg 0 0 0)).1 rfl
      refine lv_iload_n hx hb dX12_readHours_44 rfl (lv_at hl 2 rfl) ?_
      refine lv_if_lt (tgt := 66) hx hb dX12_readHours_45 (by decide) (fun c66 => ?_) (fun c66 => ?_)
      · skip
        have r67 : rg x9 (-1) (-1) := rg_lt1 (iL c66) (r10 : rg x9 (-1) 9) ((rg_k (by decide)) : rg 0 0 0)
        exact J66 (F26) (L26) (A26) (B26) H locs ls hq (k27) i28 (f29) (fun h9 => v30.1.symm.trans h9) hP hD hS (lv_sub hl [1, 2, 0] rfl)
      · skip
        have r68 : rg x9 0 9 := rg_le2 (iNL c66) ((rg_k (by decide)) : rg 0 0 0) (r10 : rg x9 (-1) 9)
        refine lv_aload_n hx hb dX12_readHours_48 rfl (lv_at hl 1 rfl) ?_
        refine va_get (ci := 12) (v := .ref (ad 12)) (C := RX12) (T := TX12) (N := 57) hx hb hg inX12 hown hK hP 0 atM_0 rfl 20 (by decide) (hg _ mw_1128) (fun _ h9 => h9) rfl dX12_readHours_49 ?_
        refine lv_iload_n hx hb dX12_readHours_52 rfl (lv_at hl 0 rfl) ?_
        refine va_zald hx hb hK hP 12 11 atM_12 tyM_12 (in_rg r33 (by decide)) dX12_readHours_53 ?_
        refine lv_topi (fun x69 e70 => ?_)
        have r71 : rg x69 0 1 := rg_e e70 (hq.1.2 12 _)
        refine lv_if_eq (tgt := 66) hx hb dX12_readHours_54 (by decide) (fun c72 => ?_) (fun c72 => ?_)
        · skip
          have r73 : rg x69 0 0 := rg_eq1 c72 (r71 : rg x69 0 1) ((rg_k (by decide)) : rg 0 0 0) (by decide)
          exact J66 (F26) (L26) (A26) (B26) H locs ls hq (k27) i28 (f29) (fun h9 => v30.1.symm.trans h9) hP hD hS (lv_sub hl [1, 2, 0] rfl)
        · skip
          have r74 : rg x69 1 1 := (rg_ne1 c72 (r71 : rg x69 0 1) ((rg_k (by decide)) : rg 0 0 0)).1 rfl
          refine lv_aload_n hx hb dX12_readHours_57 rfl (lv_at hl 1 rfl) ?_
          refine lv_iconst (v := 3) hx hb dX12_readHours_58 (by decide) ?_
          refine lv_aload_n hx hb dX12_readHours_59 rfl (lv_at hl 1 rfl) ?_
          refine va_get (ci := 12) (v := .int (F26 4)) (C := RX12) (T := TX12) (N := 57) hx hb hg inX12 hown hK hP 0 atM_0 rfl 6 (by decide) (hg _ mw_1114) (fun _ h9 => h9) rfl dX12_readHours_60 ?_
          refine lv_topi (fun x75 e76 => ?_)
          have r77 : rg x75 0 1700 := rg_e e76 (hq.1.1 4)
          refine callv_v (As := [.int 3, .int x75]) (rest := []) hC (c_X12_fails_0 l D cA H.size ad F26 L26 A26 B26 (3) (x75) hq.1 (rg_k (by decide)) r77) (cwV 2 hg (g_V mw_1332 mw_1329 mw_1331 ms_55 mw_20) rfl rfl rfl (by decide +kernel) ⟨(Nat.le_of_ble_eq_true rfl), (Nat.le_of_ble_eq_true rfl)⟩) hP hD hS hA atM_0 rfl rfl hl.1 rfl (Nat.le_of_ble_eq_true rfl) dX12_readHours_63 ⟨Nat.zero_le _, Nat.zero_le _⟩ (fun  u H locs hw hP hD hS => ?_)
          obtain ⟨F78, L78, A78, B78⟩ := u
          try dsimp only at hw
          obtain ⟨hq78, g79⟩ := hw
          have hq := hq.call hq78 (by decide)
          have hP : va_P D classes (wM cA ad F78 L78 A78 B78) H := hP
          have hD : va_D Af (wM cA ad F78 L78 A78 B78) := hD
          exact J66 (F78) (L78) (A78) (B78) H locs ls hq (((hq78.2.2 10 (by decide)).trans k27)) (pR.fr i28 (hq78.2.1 4 (by decide)) (hq78.2.1 5 (by decide)) (hq78.2.1 1 (by decide)) (hq78.2.1 6 (by decide))) ((hq78.2.1 9 (by decide)).trans (f29)) (fun h9 => absurd g79 (by rw [h9]; decide)) hP hD hS (lv_sub hl [1, 2, 0] rfl)
  refine lv_if_ge (tgt := 34) hx hb dX12_readHours_27 (by decide) (fun c80 => ?_) (fun c80 => ?_)
  · skip
    have r81 : rg x9 0 9 := rg_le2 (iE c80) ((rg_k (by decide)) : rg 0 0 0) (r10 : rg x9 (-1) 9)
    refine lv_iload_n hx hb dX12_readHours_34 rfl (lv_at hl 0 rfl) ?_
    exact J35 (x9) (F5) (L5) (A5) (B5) H locs ls r81 hq (((hq5.2.2 10 (by decide)).trans rfl)) (pR.tr (pR.rf hJ) g6) (e13.symm) ⟨rfl, fun _ => rfl⟩ hP hD hS (lv_sub hl [2, 0] rfl)
  · skip
    have r82 : rg x9 (-1) (-1) := rg_lt1 (iNE c80) (r10 : rg x9 (-1) 9) ((rg_k (by decide)) : rg 0 0 0)
    refine lv_iconst (v := 0) hx hb dX12_readHours_30 (by decide) ?_
    refine lv_goto (tgt := 35) hx hb dX12_readHours_31 (by decide) ?_
    exact J35 (0) (F5) (L5) (A5) (B5) H locs ls (rg_k (by decide)) hq (((hq5.2.2 10 (by decide)).trans rfl)) (pR.tr (pR.rf hJ) g6) (e13.symm) ⟨rfl, fun h9 => absurd h9 (by have := (iNE c80); have : (0 : Int32).toInt = 0 := rfl; omega)⟩ hP hD hS (lv_sub hl [2, 0] rfl)
abbrev rm_X12_readLends_0 : Room := { frames := 3, cells := 0, slots := 0, locals := 64 }
set_option maxHeartbeats 4000000 in
set_option maxRecDepth 100000 in
theorem c_X12_readLends_0 (l : Launch) (D : va_G) (cA : Nat → ClassId) (sz : Nat) (ad : Nat → Nat) (F : Nat → Int32) (L : Nat → Int64) (A : Nat → Nat → Int32) (B : Nat → Nat → Int64)  (hT : typM F A) (hJ : pI F) : Met l yX12_readLends (Cond.code yX12_readLends cX12_readLends 3 none :: GW) rm_X12_readLends_0 (mPc D classes (tysM cA) (wM cA ad F L A B) sz [.ref (ad 0)]) (mQv (S := SW) D classes (tysM cA) (wM cA ad F L A B) sz (wfM cA ad) (fun u => qM [2, 3, 4, 5, 6, 7] [6, 9] F A u.1 u.2.2.1 ∧ pR F u.1)) 0 0 (va_A (wM cA ad F L A B) sz) := by
  refine met_v (own := "ShoeingDayModel") (by decide +kernel) rfl (Nat.le_of_ble_eq_true rfl) ?_
  intro p e s m args below meth c Q Af ls hC hP hD hS hA hl hret
  have hx := hC.1
  have hb := hC.2.1
  have hown := hC.2.2.2.1
  have hg := hC.g
  have hK := hC.K
  have hl : lv_has ls 3 [(0, .ref (ad 0))] := hl
  have hq : qM [2, 3, 4, 5, 6, 7] [6, 9] F A F A := qM.rf hT
  obtain ⟨H, hH⟩ : ∃ H, H = s.heap := ⟨_, rfl⟩
  have hP : va_P D classes (wM cA ad F L A B) H := by rw [hH]; exact hP
  have hS : va_S Af s.heap H [] := by rw [hH]; exact hS
  obtain ⟨locs, hlo⟩ : ∃ q : List Loc, q = [] := ⟨_, rfl⟩
  rw [← hH, ← hlo]
  rw [← hlo] at hS
  refine lv_aload_n hx hb dX12_readLends_0 rfl (lv_at hl 0 rfl) ?_
  refine callv_i (As := []) (rest := []) hC (c_X12_smithHere_0 l D cA H.size ad F L A B  hq.1) (cwV 0 hg (g_V mw_1340 mw_1337 mw_1339 ms_57 mw_20) rfl rfl rfl (by decide +kernel) ⟨(Nat.le_of_ble_eq_true rfl), (Nat.le_of_ble_eq_true rfl)⟩) hP hD hS hA atM_0 rfl rfl hl.1 rfl (Nat.le_of_ble_eq_true rfl) dX12_readLends_1 ⟨Nat.zero_le _, Nat.zero_le _⟩ (fun x1 u H locs hw hP hD hS => ?_)
  obtain ⟨r2, g3⟩ := hw
  have hP : va_P D classes (wM cA ad F L A B) H := hP
  have hD : va_D Af (wM cA ad F L A B) := hD
  refine lv_istore_n (lv' := [(1, .int x1), (0, .ref (ad 0))]) hx hb dX12_readLends_4 rfl hl (by decide) rfl (fun ls hl => ?_)
  refine lv_aload_n hx hb dX12_readLends_5 rfl (lv_at hl 1 rfl) ?_
  refine callv_i (As := []) (rest := []) hC (c_X12_isGood_0 l D cA H.size ad F L A B  hq.1) (cwV 0 hg (g_V mw_1312 mw_1309 mw_1311 ms_50 mw_20) rfl rfl rfl (by decide +kernel) ⟨(Nat.le_of_ble_eq_true rfl), (Nat.le_of_ble_eq_true rfl)⟩) hP hD hS hA atM_0 rfl rfl hl.1 rfl (Nat.le_of_ble_eq_true rfl) dX12_readLends_6 ⟨Nat.zero_le _, Nat.zero_le _⟩ (fun x4 u H locs hw hP hD hS => ?_)
  obtain ⟨r5, g6⟩ := hw
  have hP : va_P D classes (wM cA ad F L A B) H := hP
  have hD : va_D Af (wM cA ad F L A B) := hD
  have J43 : ∀ (F7 : Nat → Int32) (L7 : Nat → Int64) (A7 : Nat → Nat → Int32) (B7 : Nat → Nat → Int64) (H : Heap) (locs : List Loc) (ls : Array Slot), qM [2, 3, 4, 5, 6, 7] [6, 9] F A F7 A7 → pR F F7 → va_P D classes (wM cA ad F7 L7 A7 B7) H → va_D Af (wM cA ad F7 L7 A7 B7) → va_S Af s.heap H locs → lv_has ls 3 [(0, .ref (ad 0)), (1, .int x1)] → W p l e rm_X12_readLends_0 s m args below meth c H locs 0 0 Q (F0 m 43 ls []) := by
    intro F7 L7 A7 B7 H locs ls hq i8 hP hD hS hl
    refine lv_aload_n hx hb dX12_readLends_43 rfl (lv_at hl 0 rfl) ?_
    refine lv_iload_n hx hb dX12_readLends_44 rfl (lv_at hl 1 rfl) ?_
    refine callv_i (As := [.int x1]) (rest := []) hC (c_X12_known_0_s l D cA H.size ad F7 L7 A7 B7 (x1) hq.1 r2 (i8).1) (cwV 1 hg (g_V mw_1368 mw_1365 mw_1367 ms_64 mw_20) rfl rfl rfl (by decide +kernel) ⟨(Nat.le_of_ble_eq_true rfl), (Nat.le_of_ble_eq_true rfl)⟩) hP hD hS hA atM_0 rfl rfl hl.1 rfl (Nat.le_of_ble_eq_true rfl) dX12_readLends_45 ⟨Nat.zero_le _, Nat.zero_le _⟩ (fun x9 u H locs hw hP hD hS => ?_)
    obtain ⟨F10, L10, A10, B10⟩ := u
    try dsimp only at hw
    obtain ⟨hq10, g11, r12, g13⟩ := hw
    have hq := hq.call hq10 (by decide)
    have hP : va_P D classes (wM cA ad F10 L10 A10 B10) H := hP
    have hD : va_D Af (wM cA ad F10 L10 A10 B10) := hD
    refine lv_istore_n (lv' := [(1, .int x9), (0, .ref (ad 0))]) hx hb dX12_readLends_48 rfl hl (by decide) rfl (fun ls hl => ?_)
    refine lv_aload_n hx hb dX12_readLends_49 rfl (lv_at hl 1 rfl) ?_
    refine callv_i (As := []) (rest := []) hC (c_X12_smithHere_0 l D cA H.size ad F10 L10 A10 B10  hq.1) (cwV 0 hg (g_V mw_1340 mw_1337 mw_1339 ms_57 mw_20) rfl rfl rfl (by decide +kernel) ⟨(Nat.le_of_ble_eq_true rfl), (Nat.le_of_ble_eq_true rfl)⟩) hP hD hS hA atM_0 rfl rfl hl.1 rfl (Nat.le_of_ble_eq_true rfl) dX12_readLends_50 ⟨Nat.zero_le _, Nat.zero_le _⟩ (fun x14 u H locs hw hP hD hS => ?_)
    obtain ⟨r15, g16⟩ := hw
    have hP : va_P D classes (wM cA ad F10 L10 A10 B10) H := hP
    have hD : va_D Af (wM cA ad F10 L10 A10 B10) := hD
    refine lv_istore_n (lv' := [(2, .int x14), (1, .int x9), (0, .ref (ad 0))]) hx hb dX12_readLends_53 rfl hl (by decide) rfl (fun ls hl => ?_)
    refine lv_aload_n hx hb dX12_readLends_54 rfl (lv_at hl 2 rfl) ?_
    refine callv_i (As := []) (rest := []) hC (c_X12_isGood_0 l D cA H.size ad F10 L10 A10 B10  hq.1) (cwV 0 hg (g_V mw_1312 mw_1309 mw_1311 ms_50 mw_20) rfl rfl rfl (by decide +kernel) ⟨(Nat.le_of_ble_eq_true rfl), (Nat.le_of_ble_eq_true rfl)⟩) hP hD hS hA atM_0 rfl rfl hl.1 rfl (Nat.le_of_ble_eq_true rfl) dX12_readLends_55 ⟨Nat.zero_le _, Nat.zero_le _⟩ (fun x17 u H locs hw hP hD hS => ?_)
    obtain ⟨r18, g19⟩ := hw
    have hP : va_P D classes (wM cA ad F10 L10 A10 B10) H := hP
    have hD : va_D Af (wM cA ad F10 L10 A10 B10) := hD
    have J101 : ∀ (F20 : Nat → Int32) (L20 : Nat → Int64) (A20 : Nat → Nat → Int32) (B20 : Nat → Nat → Int64) (H : Heap) (locs : List Loc) (ls : Array Slot), qM [2, 3, 4, 5, 6, 7] [6, 9] F A F20 A20 → pR F F20 → va_P D classes (wM cA ad F20 L20 A20 B20) H → va_D Af (wM cA ad F20 L20 A20 B20) → va_S Af s.heap H locs → lv_has ls 3 [(0, .ref (ad 0)), (1, .int x9), (2, .int x14)] → W p l e rm_X12_readLends_0 s m args below meth c H locs 0 0 Q (F0 m 101 ls []) := by
      intro F20 L20 A20 B20 H locs ls hq i21 hP hD hS hl
      refine lv_aload_n hx hb dX12_readLends_101 rfl (lv_at hl 0 rfl) ?_
      refine callv_i (As := []) (rest := []) hC (c_X12_isGood_0 l D cA H.size ad F20 L20 A20 B20  hq.1) (cwV 0 hg (g_V mw_1312 mw_1309 mw_1311 ms_50 mw_20) rfl rfl rfl (by decide +kernel) ⟨(Nat.le_of_ble_eq_true rfl), (Nat.le_of_ble_eq_true rfl)⟩) hP hD hS hA atM_0 rfl rfl hl.1 rfl (Nat.le_of_ble_eq_true rfl) dX12_readLends_102 ⟨Nat.zero_le _, Nat.zero_le _⟩ (fun x22 u H locs hw hP hD hS => ?_)
      obtain ⟨r23, g24⟩ := hw
      have hP : va_P D classes (wM cA ad F20 L20 A20 B20) H := hP
      have hD : va_D Af (wM cA ad F20 L20 A20 B20) := hD
      have J139 : ∀ (F25 : Nat → Int32) (L25 : Nat → Int64) (A25 : Nat → Nat → Int32) (B25 : Nat → Nat → Int64) (H : Heap) (locs : List Loc) (ls : Array Slot), qM [2, 3, 4, 5, 6, 7] [6, 9] F A F25 A25 → pR F F25 → va_P D classes (wM cA ad F25 L25 A25 B25) H → va_D Af (wM cA ad F25 L25 A25 B25) → va_S Af s.heap H locs → lv_has ls 3 [(0, .ref (ad 0)), (1, .int x9), (2, .int x14)] → W p l e rm_X12_readLends_0 s m args below meth c H locs 0 0 Q (F0 m 139 ls []) := by
        intro F25 L25 A25 B25 H locs ls hq i26 hP hD hS hl
        refine lv_aload_n hx hb dX12_readLends_139 rfl (lv_at hl 0 rfl) ?_
        refine lv_iload_n hx hb dX12_readLends_140 rfl (lv_at hl 2 rfl) ?_
        refine callv_i (As := [.int x14]) (rest := []) hC (c_X12_known_0_s l D cA H.size ad F25 L25 A25 B25 (x14) hq.1 r15 (i26).1) (cwV 1 hg (g_V mw_1368 mw_1365 mw_1367 ms_64 mw_20) rfl rfl rfl (by decide +kernel) ⟨(Nat.le_of_ble_eq_true rfl), (Nat.le_of_ble_eq_true rfl)⟩) hP hD hS hA atM_0 rfl rfl hl.1 rfl (Nat.le_of_ble_eq_true rfl) dX12_readLends_141 ⟨Nat.zero_le _, Nat.zero_le _⟩ (fun x27 u H locs hw hP hD hS => ?_)
        obtain ⟨F28, L28, A28, B28⟩ := u
        try dsimp only at hw
        obtain ⟨hq28, g29, r30, g31⟩ := hw
        have hq := hq.call hq28 (by decide)
        have hP : va_P D classes (wM cA ad F28 L28 A28 B28) H := hP
        have hD : va_D Af (wM cA ad F28 L28 A28 B28) := hD
        refine lv_istore_n (lv' := [(2, .int x27), (0, .ref (ad 0)), (1, .int x9)]) hx hb dX12_readLends_144 rfl hl (by decide) rfl (fun ls hl => ?_)
        refine lv_aload_n hx hb dX12_readLends_145 rfl (lv_at hl 1 rfl) ?_
        refine callv_i (As := []) (rest := []) hC (c_X12_isGood_0 l D cA H.size ad F28 L28 A28 B28  hq.1) (cwV 0 hg (g_V mw_1312 mw_1309 mw_1311 ms_50 mw_20) rfl rfl rfl (by decide +kernel) ⟨(Nat.le_of_ble_eq_true rfl), (Nat.le_of_ble_eq_true rfl)⟩) hP hD hS hA atM_0 rfl rfl hl.1 rfl (Nat.le_of_ble_eq_true rfl) dX12_readLends_146 ⟨Nat.zero_le _, Nat.zero_le _⟩ (fun x32 u H locs hw hP hD hS => ?_)
        obtain ⟨r33, g34⟩ := hw
        have hP : va_P D classes (wM cA ad F28 L28 A28 B28) H := hP
        have hD : va_D Af (wM cA ad F28 L28 A28 B28) := hD
        refine lv_if_ne (tgt := 153) hx hb dX12_readLends_149 (by decide) (fun c35 => ?_) (fun c35 => ?_)
        · skip
          have r36 : rg x32 1 1 := (rg_ne1 c35 (r33 : rg x32 0 1) ((rg_k (by decide)) : rg 0 0 0)).1 rfl
          refine lv_aload_n hx hb dX12_readLends_153 rfl (lv_at hl 1 rfl) ?_
          refine va_get (ci := 12) (v := .ref (ad 9)) (C := RX12) (T := TX12) (N := 57) hx hb hg inX12 hown hK hP 0 atM_0 rfl 17 (by decide) (hg _ mw_1125) (fun _ h9 => h9) rfl dX12_readLends_154 ?_
          refine lv_bipush (v := 8) hx hb dX12_readLends_157 (by decide) ?_
          refine lv_aload_n hx hb dX12_readLends_159 rfl (lv_at hl 1 rfl) ?_
          refine va_get (ci := 12) (v := .int (F28 9)) (C := RX12) (T := TX12) (N := 57) hx hb hg inX12 hown hK hP 0 atM_0 rfl 25 (by decide) (hg _ mw_1133) (fun _ h9 => h9) rfl dX12_readLends_160 ?_
          refine lv_topi (fun x38 e39 => ?_)
          have r40 : rg x38 0 1 := rg_e e39 (hq.1.1 9)
          refine lv_imul hx hb dX12_readLends_163 ?_
          refine lv_topi (fun x41 e42 => ?_)
          have r43 : rg x41 0 8 := rg_mul e42 ((rg_k (by decide)) : rg 8 8 8) r40 (by decide)
          refine lv_iload_n hx hb dX12_readLends_164 rfl (lv_at hl 2 rfl) ?_
          refine lv_iadd hx hb dX12_readLends_165 ?_
          refine lv_topi (fun x44 e45 => ?_)
          have r46 : rg x44 0 15 := rg_add e45 r43 r12 (by decide)
          refine lv_dup2_11 hx hb dX12_readLends_166 rfl rfl ?_
          refine va_iald hx hb hK hP 9 8 atM_9 tyM_9 (in_rg r46 (by decide)) dX12_readLends_167 ?_
          refine lv_topi (fun x47 e48 => ?_)
          refine lv_iconst (v := 1) hx hb dX12_readLends_168 (by decide) ?_
          refine lv_iload_n hx hb dX12_readLends_169 rfl (lv_at hl 0 rfl) ?_
          refine lv_ishl hx hb dX12_readLends_170 ?_
          refine lv_topi (fun x49 e50 => ?_)
          have r51 : rg x49 1 128 := rg_shl1 e50 r30 (by decide)
          refine lv_ior hx hb dX12_readLends_171 ?_
          refine lv_topi (fun x52 e53 => ?_)
          refine va_iast hx hb hK hP hD hS 9 8 atM_9 tyM_9 (in_rg r46 (by decide)) dX12_readLends_172 (fun H locs hP hD hS => ?_)
          have hq := hq.ast 9 (x44).toNatClampNeg (x := x52) (by decide) (rg_top _)
          rw [setM_9] at hP hD
          have k54 : x52 = (va_up A28 9 (upd (A28 9) (x44).toNatClampNeg x52)) 9 (x44).toNatClampNeg := (rdA).symm
          refine lv_aload_n hx hb dX12_readLends_173 rfl (lv_at hl 1 rfl) ?_
          refine va_get (ci := 12) (v := .ref (ad 6)) (C := RX12) (T := TX12) (N := 57) hx hb hg inX12 hown hK hP 0 atM_0 rfl 14 (by decide) (hg _ mw_1122) (fun _ h9 => h9) rfl dX12_readLends_174 ?_
          refine lv_aload_n hx hb dX12_readLends_177 rfl (lv_at hl 1 rfl) ?_
          refine va_get (ci := 12) (v := .int x38) (C := RX12) (T := TX12) (N := 57) hx hb hg inX12 hown hK hP 0 atM_0 rfl 25 (by decide) (hg _ mw_1133) (fun _ h9 => h9) (congrArg (fun z => some (Value.int z)) (e39.symm)) dX12_readLends_178 ?_
          refine lv_dup2_11 hx hb dX12_readLends_181 rfl rfl ?_
          refine va_iald hx hb hK hP 6 5 atM_6 tyM_6 (in_rg r40 (by decide)) dX12_readLends_182 ?_
          refine lv_topi (fun x55 e56 => ?_)
          refine lv_iconst (v := 1) hx hb dX12_readLends_183 (by decide) ?_
          refine lv_iadd hx hb dX12_readLends_184 ?_
          refine lv_topi (fun x57 e58 => ?_)
          refine va_iast hx hb hK hP hD hS 6 5 atM_6 tyM_6 (in_rg r40 (by decide)) dX12_readLends_185 (fun H locs hP hD hS => ?_)
          have hq := hq.ast 6 (x38).toNatClampNeg (x := x57) (by decide) (rg_top _)
          rw [setM_6] at hP hD
          have k59 : x57 = (va_up (va_up A28 9 (upd (A28 9) (x44).toNatClampNeg x52)) 6 (upd ((va_up A28 9 (upd (A28 9) (x44).toNatClampNeg x52)) 6) (x38).toNatClampNeg x57)) 6 (x38).toNatClampNeg := (rdA).symm
          exact hret (F28, L28, (va_up (va_up A28 9 (upd (A28 9) (x44).toNatClampNeg x52)) 6 (upd ((va_up A28 9 (upd (A28 9) (x44).toNatClampNeg x52)) 6) (x38).toNatClampNeg x57)), B28) H locs 186 ls dX12_readLends_186 hP hD hS ⟨hq, (pR.tr i26 g29)⟩
        · skip
          have r37 : rg x32 0 0 := rg_eq1 c35 (r33 : rg x32 0 1) ((rg_k (by decide)) : rg 0 0 0) (by decide)
          exact hret (F28, L28, A28, B28) H locs 152 ls dX12_readLends_152 hP hD hS ⟨hq, (pR.tr i26 g29)⟩
      refine lv_if_eq (tgt := 139) hx hb dX12_readLends_105 (by decide) (fun c60 => ?_) (fun c60 => ?_)
      · skip
        have r61 : rg x22 0 0 := rg_eq1 c60 (r23 : rg x22 0 1) ((rg_k (by decide)) : rg 0 0 0) (by decide)
        exact J139 (F20) (L20) (A20) (B20) H locs ls hq i21 hP hD hS (lv_sub hl [0, 1, 2] rfl)
      · skip
        have r62 : rg x22 1 1 := (rg_ne1 c60 (r23 : rg x22 0 1) ((rg_k (by decide)) : rg 0 0 0)).1 rfl
        refine lv_iload_n hx hb dX12_readLends_108 rfl (lv_at hl 2 rfl) ?_
        refine lv_if_lt (tgt := 139) hx hb dX12_readLends_109 (by decide) (fun c63 => ?_) (fun c63 => ?_)
        · skip
          have r64 : rg x14 (-1) (-1) := rg_lt1 (iL c63) (r15 : rg x14 (-1) 7) ((rg_k (by decide)) : rg 0 0 0)
          exact J139 (F20) (L20) (A20) (B20) H locs ls hq i21 hP hD hS (lv_sub hl [0, 1, 2] rfl)
        · skip
          have r65 : rg x14 0 7 := rg_le2 (iNL c63) ((rg_k (by decide)) : rg 0 0 0) (r15 : rg x14 (-1) 7)
          refine lv_aload_n hx hb dX12_readLends_112 rfl (lv_at hl 0 rfl) ?_
          refine va_get (ci := 12) (v := .ref (ad 11)) (C := RX12) (T := TX12) (N := 57) hx hb hg inX12 hown hK hP 0 atM_0 rfl 19 (by decide) (hg _ mw_1127) (fun _ h9 => h9) rfl dX12_readLends_113 ?_
          refine lv_bipush (v := 8) hx hb dX12_readLends_116 (by decide) ?_
          refine lv_aload_n hx hb dX12_readLends_118 rfl (lv_at hl 0 rfl) ?_
          refine va_get (ci := 12) (v := .int (F20 9)) (C := RX12) (T := TX12) (N := 57) hx hb hg inX12 hown hK hP 0 atM_0 rfl 25 (by decide) (hg _ mw_1133) (fun _ h9 => h9) rfl dX12_readLends_119 ?_
          refine lv_topi (fun x66 e67 => ?_)
          have r68 : rg x66 0 1 := rg_e e67 (hq.1.1 9)
          refine lv_imul hx hb dX12_readLends_122 ?_
          refine lv_topi (fun x69 e70 => ?_)
          have r71 : rg x69 0 8 := rg_mul e70 ((rg_k (by decide)) : rg 8 8 8) r68 (by decide)
          refine lv_iload_n hx hb dX12_readLends_123 rfl (lv_at hl 2 rfl) ?_
          refine lv_iadd hx hb dX12_readLends_124 ?_
          refine lv_topi (fun x72 e73 => ?_)
          have r74 : rg x72 0 15 := rg_add e73 r71 r65 (by decide)
          refine va_zald hx hb hK hP 11 10 atM_11 tyM_11 (in_rg r74 (by decide)) dX12_readLends_125 ?_
          refine lv_topi (fun x75 e76 => ?_)
          have r77 : rg x75 0 1 := rg_e e76 (hq.1.2 11 _)
          refine lv_if_ne (tgt := 139) hx hb dX12_readLends_126 (by decide) (fun c78 => ?_) (fun c78 => ?_)
          · skip
            have r79 : rg x75 1 1 := (rg_ne1 c78 (r77 : rg x75 0 1) ((rg_k (by decide)) : rg 0 0 0)).1 rfl
            exact J139 (F20) (L20) (A20) (B20) H locs ls hq i21 hP hD hS (lv_sub hl [0, 1, 2] rfl)
          · skip
            have r80 : rg x75 0 0 := rg_eq1 c78 (r77 : rg x75 0 1) ((rg_k (by decide)) : rg 0 0 0) (by decide)
            refine lv_aload_n hx hb dX12_readLends_129 rfl (lv_at hl 0 rfl) ?_
            refine lv_bipush (v := 6) hx hb dX12_readLends_130 (by decide) ?_
            refine lv_aload_n hx hb dX12_readLends_132 rfl (lv_at hl 0 rfl) ?_
            refine va_get (ci := 12) (v := .int (F20 4)) (C := RX12) (T := TX12) (N := 57) hx hb hg inX12 hown hK hP 0 atM_0 rfl 6 (by decide) (hg _ mw_1114) (fun _ h9 => h9) rfl dX12_readLends_133 ?_
            refine lv_topi (fun x81 e82 => ?_)
            have r83 : rg x81 0 1700 := rg_e e82 (hq.1.1 4)
            refine callv_v (As := [.int 6, .int x81]) (rest := []) hC (c_X12_fails_0 l D cA H.size ad F20 L20 A20 B20 (6) (x81) hq.1 (rg_k (by decide)) r83) (cwV 2 hg (g_V mw_1332 mw_1329 mw_1331 ms_55 mw_20) rfl rfl rfl (by decide +kernel) ⟨(Nat.le_of_ble_eq_true rfl), (Nat.le_of_ble_eq_true rfl)⟩) hP hD hS hA atM_0 rfl rfl hl.1 rfl (Nat.le_of_ble_eq_true rfl) dX12_readLends_136 ⟨Nat.zero_le _, Nat.zero_le _⟩ (fun  u H locs hw hP hD hS => ?_)
            obtain ⟨F84, L84, A84, B84⟩ := u
            try dsimp only at hw
            obtain ⟨hq84, g85⟩ := hw
            have hq := hq.call hq84 (by decide)
            have hP : va_P D classes (wM cA ad F84 L84 A84 B84) H := hP
            have hD : va_D Af (wM cA ad F84 L84 A84 B84) := hD
            exact J139 (F84) (L84) (A84) (B84) H locs ls hq (pR.fr i21 (hq84.2.1 4 (by decide)) (hq84.2.1 5 (by decide)) (hq84.2.1 1 (by decide)) (hq84.2.1 6 (by decide))) hP hD hS (lv_sub hl [0, 1, 2] rfl)
    refine lv_if_eq (tgt := 101) hx hb dX12_readLends_58 (by decide) (fun c86 => ?_) (fun c86 => ?_)
    · skip
      have r87 : rg x17 0 0 := rg_eq1 c86 (r18 : rg x17 0 1) ((rg_k (by decide)) : rg 0 0 0) (by decide)
      exact J101 (F10) (L10) (A10) (B10) H locs ls hq (pR.tr i8 g11) hP hD hS (lv_sub hl [2, 1, 0] rfl)
    · skip
      have r88 : rg x17 1 1 := (rg_ne1 c86 (r18 : rg x17 0 1) ((rg_k (by decide)) : rg 0 0 0)).1 rfl
      refine lv_iload_n hx hb dX12_readLends_61 rfl (lv_at hl 0 rfl) ?_
      refine lv_if_lt (tgt := 101) hx hb dX12_readLends_62 (by decide) (fun c89 => ?_) (fun c89 => ?_)
      · skip
        have r90 : rg x14 (-1) (-1) := rg_lt1 (iL c89) (r15 : rg x14 (-1) 7) ((rg_k (by decide)) : rg 0 0 0)
        exact J101 (F10) (L10) (A10) (B10) H locs ls hq (pR.tr i8 g11) hP hD hS (lv_sub hl [2, 1, 0] rfl)
      · skip
        have r91 : rg x14 0 7 := rg_le2 (iNL c89) ((rg_k (by decide)) : rg 0 0 0) (r15 : rg x14 (-1) 7)
        refine lv_iload_n hx hb dX12_readLends_65 rfl (lv_at hl 1 rfl) ?_
        refine lv_iload_n hx hb dX12_readLends_66 rfl (lv_at hl 0 rfl) ?_
        have J92 : ∀ (F92 : Nat → Int32) (L92 : Nat → Int64) (A92 : Nat → Nat → Int32) (B92 : Nat → Nat → Int64) (H : Heap) (locs : List Loc) (ls : Array Slot), qM [2, 3, 4, 5, 6, 7] [6, 9] F A F92 A92 → pR F F92 → va_P D classes (wM cA ad F92 L92 A92 B92) H → va_D Af (wM cA ad F92 L92 A92 B92) → va_S Af s.heap H locs → lv_has ls 3 [(0, .ref (ad 0)), (1, .int x9), (2, .int x14)] → W p l e rm_X12_readLends_0 s m args below meth c H locs 0 0 Q (F0 m 92 ls []) := by
          intro F92 L92 A92 B92 H locs ls hq i93 hP hD hS hl
          refine lv_aload_n hx hb dX12_readLends_92 rfl (lv_at hl 0 rfl) ?_
          refine lv_iconst (v := 3) hx hb dX12_readLends_93 (by decide) ?_
          refine lv_aload_n hx hb dX12_readLends_94 rfl (lv_at hl 0 rfl) ?_
          refine va_get (ci := 12) (v := .int (F92 4)) (C := RX12) (T := TX12) (N := 57) hx hb hg inX12 hown hK hP 0 atM_0 rfl 6 (by decide) (hg _ mw_1114) (fun _ h9 => h9) rfl dX12_readLends_95 ?_
          refine lv_topi (fun x94 e95 => ?_)
          have r96 : rg x94 0 1700 := rg_e e95 (hq.1.1 4)
          refine callv_v (As := [.int 3, .int x94]) (rest := []) hC (c_X12_fails_0 l D cA H.size ad F92 L92 A92 B92 (3) (x94) hq.1 (rg_k (by decide)) r96) (cwV 2 hg (g_V mw_1332 mw_1329 mw_1331 ms_55 mw_20) rfl rfl rfl (by decide +kernel) ⟨(Nat.le_of_ble_eq_true rfl), (Nat.le_of_ble_eq_true rfl)⟩) hP hD hS hA atM_0 rfl rfl hl.1 rfl (Nat.le_of_ble_eq_true rfl) dX12_readLends_98 ⟨Nat.zero_le _, Nat.zero_le _⟩ (fun  u H locs hw hP hD hS => ?_)
          obtain ⟨F97, L97, A97, B97⟩ := u
          try dsimp only at hw
          obtain ⟨hq97, g98⟩ := hw
          have hq := hq.call hq97 (by decide)
          have hP : va_P D classes (wM cA ad F97 L97 A97 B97) H := hP
          have hD : va_D Af (wM cA ad F97 L97 A97 B97) := hD
          exact J101 (F97) (L97) (A97) (B97) H locs ls hq (pR.fr i93 (hq97.2.1 4 (by decide)) (hq97.2.1 5 (by decide)) (hq97.2.1 1 (by decide)) (hq97.2.1 6 (by decide))) hP hD hS (lv_sub hl [0, 1, 2] rfl)
        refine lv_icmp_eq (tgt := 92) hx hb dX12_readLends_67 (by decide) (fun c99 => ?_) (fun c99 => ?_)
        · skip
          exact J92 (F10) (L10) (A10) (B10) H locs ls hq (pR.tr i8 g11) hP hD hS (lv_sub hl [2, 1, 0] rfl)
        · skip
          refine lv_aload_n hx hb dX12_readLends_70 rfl (lv_at hl 2 rfl) ?_
          refine va_get (ci := 12) (v := .ref (ad 9)) (C := RX12) (T := TX12) (N := 57) hx hb hg inX12 hown hK hP 0 atM_0 rfl 17 (by decide) (hg _ mw_1125) (fun _ h9 => h9) rfl dX12_readLends_71 ?_
          refine lv_bipush (v := 8) hx hb dX12_readLends_74 (by decide) ?_
          refine lv_aload_n hx hb dX12_readLends_76 rfl (lv_at hl 2 rfl) ?_
          refine va_get (ci := 12) (v := .int (F10 9)) (C := RX12) (T := TX12) (N := 57) hx hb hg inX12 hown hK hP 0 atM_0 rfl 25 (by decide) (hg _ mw_1133) (fun _ h9 => h9) rfl dX12_readLends_77 ?_
          refine lv_topi (fun x100 e101 => ?_)
          have r102 : rg x100 0 1 := rg_e e101 (hq.1.1 9)
          refine lv_imul hx hb dX12_readLends_80 ?_
          refine lv_topi (fun x103 e104 => ?_)
          have r105 : rg x103 0 8 := rg_mul e104 ((rg_k (by decide)) : rg 8 8 8) r102 (by decide)
          refine lv_iload_n hx hb dX12_readLends_81 rfl (lv_at hl 1 rfl) ?_
          refine lv_iadd hx hb dX12_readLends_82 ?_
          refine lv_topi (fun x106 e107 => ?_)
          have r108 : rg x106 0 15 := rg_add e107 r105 r12 (by decide)
          refine va_iald hx hb hK hP 9 8 atM_9 tyM_9 (in_rg r108 (by decide)) dX12_readLends_83 ?_
          refine lv_topi (fun x109 e110 => ?_)
          refine lv_iload_n hx hb dX12_readLends_84 rfl (lv_at hl 0 rfl) ?_
          refine lv_ishr hx hb dX12_readLends_85 ?_
          refine lv_topi (fun x111 e112 => ?_)
          refine lv_iconst (v := 1) hx hb dX12_readLends_86 (by decide) ?_
          refine lv_iand hx hb dX12_readLends_87 ?_
          refine lv_topi (fun x113 e114 => ?_)
          have r115 : rg x113 0 1 := rg_andr e114 ((rg_k (by decide)) : rg 1 1 1) (by decide)
          refine lv_iconst (v := 1) hx hb dX12_readLends_88 (by decide) ?_
          refine lv_icmp_ne (tgt := 101) hx hb dX12_readLends_89 (by decide) (fun c116 => ?_) (fun c116 => ?_)
          · skip
            have r117 : rg x113 0 0 := (rg_ne1 c116 (r115 : rg x113 0 1) ((rg_k (by decide)) : rg 1 1 1)).2 rfl
            exact J101 (F10) (L10) (A10) (B10) H locs ls hq (pR.tr i8 g11) hP hD hS (lv_sub hl [2, 1, 0] rfl)
          · skip
            have r118 : rg x113 1 1 := rg_eq1 c116 (r115 : rg x113 0 1) ((rg_k (by decide)) : rg 1 1 1) (by decide)
            exact J92 (F10) (L10) (A10) (B10) H locs ls hq (pR.tr i8 g11) hP hD hS (lv_sub hl [2, 1, 0] rfl)
  refine lv_if_eq (tgt := 43) hx hb dX12_readLends_9 (by decide) (fun c119 => ?_) (fun c119 => ?_)
  · skip
    have r120 : rg x4 0 0 := rg_eq1 c119 (r5 : rg x4 0 1) ((rg_k (by decide)) : rg 0 0 0) (by decide)
    exact J43 (F) (L) (A) (B) H locs ls hq (pR.rf hJ) hP hD hS (lv_sub hl [1, 0] rfl)
  · skip
    have r121 : rg x4 1 1 := (rg_ne1 c119 (r5 : rg x4 0 1) ((rg_k (by decide)) : rg 0 0 0)).1 rfl
    refine lv_iload_n hx hb dX12_readLends_12 rfl (lv_at hl 0 rfl) ?_
    refine lv_if_lt (tgt := 43) hx hb dX12_readLends_13 (by decide) (fun c122 => ?_) (fun c122 => ?_)
    · skip
      have r123 : rg x1 (-1) (-1) := rg_lt1 (iL c122) (r2 : rg x1 (-1) 7) ((rg_k (by decide)) : rg 0 0 0)
      exact J43 (F) (L) (A) (B) H locs ls hq (pR.rf hJ) hP hD hS (lv_sub hl [1, 0] rfl)
    · skip
      have r124 : rg x1 0 7 := rg_le2 (iNL c122) ((rg_k (by decide)) : rg 0 0 0) (r2 : rg x1 (-1) 7)
      refine lv_aload_n hx hb dX12_readLends_16 rfl (lv_at hl 1 rfl) ?_
      refine va_get (ci := 12) (v := .ref (ad 11)) (C := RX12) (T := TX12) (N := 57) hx hb hg inX12 hown hK hP 0 atM_0 rfl 19 (by decide) (hg _ mw_1127) (fun _ h9 => h9) rfl dX12_readLends_17 ?_
      refine lv_bipush (v := 8) hx hb dX12_readLends_20 (by decide) ?_
      refine lv_aload_n hx hb dX12_readLends_22 rfl (lv_at hl 1 rfl) ?_
      refine va_get (ci := 12) (v := .int (F 9)) (C := RX12) (T := TX12) (N := 57) hx hb hg inX12 hown hK hP 0 atM_0 rfl 25 (by decide) (hg _ mw_1133) (fun _ h9 => h9) rfl dX12_readLends_23 ?_
      refine lv_topi (fun x125 e126 => ?_)
      have r127 : rg x125 0 1 := rg_e e126 (hq.1.1 9)
      refine lv_imul hx hb dX12_readLends_26 ?_
      refine lv_topi (fun x128 e129 => ?_)
      have r130 : rg x128 0 8 := rg_mul e129 ((rg_k (by decide)) : rg 8 8 8) r127 (by decide)
      refine lv_iload_n hx hb dX12_readLends_27 rfl (lv_at hl 0 rfl) ?_
      refine lv_iadd hx hb dX12_readLends_28 ?_
      refine lv_topi (fun x131 e132 => ?_)
      have r133 : rg x131 0 15 := rg_add e132 r130 r124 (by decide)
      refine va_zald hx hb hK hP 11 10 atM_11 tyM_11 (in_rg r133 (by decide)) dX12_readLends_29 ?_
      refine lv_topi (fun x134 e135 => ?_)
      have r136 : rg x134 0 1 := rg_e e135 (hq.1.2 11 _)
      refine lv_if_ne (tgt := 43) hx hb dX12_readLends_30 (by decide) (fun c137 => ?_) (fun c137 => ?_)
      · skip
        have r138 : rg x134 1 1 := (rg_ne1 c137 (r136 : rg x134 0 1) ((rg_k (by decide)) : rg 0 0 0)).1 rfl
        exact J43 (F) (L) (A) (B) H locs ls hq (pR.rf hJ) hP hD hS (lv_sub hl [1, 0] rfl)
      · skip
        have r139 : rg x134 0 0 := rg_eq1 c137 (r136 : rg x134 0 1) ((rg_k (by decide)) : rg 0 0 0) (by decide)
        refine lv_aload_n hx hb dX12_readLends_33 rfl (lv_at hl 1 rfl) ?_
        refine lv_bipush (v := 6) hx hb dX12_readLends_34 (by decide) ?_
        refine lv_aload_n hx hb dX12_readLends_36 rfl (lv_at hl 1 rfl) ?_
        refine va_get (ci := 12) (v := .int (F 4)) (C := RX12) (T := TX12) (N := 57) hx hb hg inX12 hown hK hP 0 atM_0 rfl 6 (by decide) (hg _ mw_1114) (fun _ h9 => h9) rfl dX12_readLends_37 ?_
        refine lv_topi (fun x140 e141 => ?_)
        have r142 : rg x140 0 1700 := rg_e e141 (hq.1.1 4)
        refine callv_v (As := [.int 6, .int x140]) (rest := []) hC (c_X12_fails_0 l D cA H.size ad F L A B (6) (x140) hq.1 (rg_k (by decide)) r142) (cwV 2 hg (g_V mw_1332 mw_1329 mw_1331 ms_55 mw_20) rfl rfl rfl (by decide +kernel) ⟨(Nat.le_of_ble_eq_true rfl), (Nat.le_of_ble_eq_true rfl)⟩) hP hD hS hA atM_0 rfl rfl hl.1 rfl (Nat.le_of_ble_eq_true rfl) dX12_readLends_40 ⟨Nat.zero_le _, Nat.zero_le _⟩ (fun  u H locs hw hP hD hS => ?_)
        obtain ⟨F143, L143, A143, B143⟩ := u
        try dsimp only at hw
        obtain ⟨hq143, g144⟩ := hw
        have hq := hq.call hq143 (by decide)
        have hP : va_P D classes (wM cA ad F143 L143 A143 B143) H := hP
        have hD : va_D Af (wM cA ad F143 L143 A143 B143) := hD
        exact J43 (F143) (L143) (A143) (B143) H locs ls hq (pR.fr (pR.rf hJ) (hq143.2.1 4 (by decide)) (hq143.2.1 5 (by decide)) (hq143.2.1 1 (by decide)) (hq143.2.1 6 (by decide))) hP hD hS (lv_sub hl [1, 0] rfl)
abbrev rm_X12_readSmith_0 : Room := { frames := 3, cells := 0, slots := 0, locals := 66 }
set_option maxHeartbeats 4000000 in
set_option maxRecDepth 100000 in
theorem c_X12_readSmith_0 (l : Launch) (D : va_G) (cA : Nat → ClassId) (sz : Nat) (ad : Nat → Nat) (F : Nat → Int32) (L : Nat → Int64) (A : Nat → Nat → Int32) (B : Nat → Nat → Int64)  (hT : typM F A) (hJ : pI F) (hM7 : rg (A 3 (F 9).toNatClampNeg) 0 7) (hB : dmB A (F 9).toNatClampNeg) : Met l yX12_readSmith (Cond.code yX12_readSmith cX12_readSmith 2 none :: GW) rm_X12_readSmith_0 (mPc D classes (tysM cA) (wM cA ad F L A B) sz [.ref (ad 0)]) (mQv (S := SW) D classes (tysM cA) (wM cA ad F L A B) sz (wfM cA ad) (fun u => qM [2, 3, 4, 5, 6, 7] [3, 8, 9, 11, 14] F A u.1 u.2.2.1 ∧ pR F u.1 ∧ (rdB u.2.2.1 A (F 9).toNatClampNeg))) 0 0 (va_A (wM cA ad F L A B) sz) := by
  refine met_v (own := "ShoeingDayModel") (by decide +kernel) rfl (Nat.le_of_ble_eq_true rfl) ?_
  intro p e s m args below meth c Q Af ls hC hP hD hS hA hl hret
  have hx := hC.1
  have hb := hC.2.1
  have hown := hC.2.2.2.1
  have hg := hC.g
  have hK := hC.K
  have hl : lv_has ls 2 [(0, .ref (ad 0))] := hl
  have hq : qM [2, 3, 4, 5, 6, 7] [3, 8, 9, 11, 14] F A F A := qM.rf hT
  obtain ⟨H, hH⟩ : ∃ H, H = s.heap := ⟨_, rfl⟩
  have hP : va_P D classes (wM cA ad F L A B) H := by rw [hH]; exact hP
  have hS : va_S Af s.heap H [] := by rw [hH]; exact hS
  obtain ⟨locs, hlo⟩ : ∃ q : List Loc, q = [] := ⟨_, rfl⟩
  rw [← hH, ← hlo]
  rw [← hlo] at hS
  refine lv_bipush (v := 8) hx hb dX12_readSmith_0 (by decide) ?_
  refine lv_aload_n hx hb dX12_readSmith_2 rfl (lv_at hl 0 rfl) ?_
  refine va_get (ci := 12) (v := .int (F 9)) (C := RX12) (T := TX12) (N := 57) hx hb hg inX12 hown hK hP 0 atM_0 rfl 25 (by decide) (hg _ mw_1133) (fun _ h9 => h9) rfl dX12_readSmith_3 ?_
  refine lv_topi (fun x1 e2 => ?_)
  have r3 : rg x1 0 1 := rg_e e2 (hq.1.1 9)
  refine lv_imul hx hb dX12_readSmith_6 ?_
  refine lv_topi (fun x4 e5 => ?_)
  have r6 : rg x4 0 8 := rg_mul e5 ((rg_k (by decide)) : rg 8 8 8) r3 (by decide)
  refine lv_aload_n hx hb dX12_readSmith_7 rfl (lv_at hl 0 rfl) ?_
  refine va_get (ci := 12) (v := .ref (ad 3)) (C := RX12) (T := TX12) (N := 57) hx hb hg inX12 hown hK hP 0 atM_0 rfl 11 (by decide) (hg _ mw_1119) (fun _ h9 => h9) rfl dX12_readSmith_8 ?_
  refine lv_aload_n hx hb dX12_readSmith_11 rfl (lv_at hl 0 rfl) ?_
  refine va_get (ci := 12) (v := .int x1) (C := RX12) (T := TX12) (N := 57) hx hb hg inX12 hown hK hP 0 atM_0 rfl 25 (by decide) (hg _ mw_1133) (fun _ h9 => h9) (congrArg (fun z => some (Value.int z)) (e2.symm)) dX12_readSmith_12 ?_
  refine va_iald hx hb hK hP 3 2 atM_3 tyM_3 (in_rg r3 (by decide)) dX12_readSmith_15 ?_
  refine lv_topi (fun x7 e8 => ?_)
  have r9 : rg x7 0 7 := rg_e (e8.trans ((congrFun rfl _).trans (by rw [e2]))) hM7
  refine lv_iadd hx hb dX12_readSmith_16 ?_
  refine lv_topi (fun x10 e11 => ?_)
  have r12 : rg x10 0 15 := rg_add e11 r6 r9 (by decide)
  refine lv_istore_n (lv' := [(1, .int x10), (0, .ref (ad 0))]) hx hb dX12_readSmith_17 rfl hl (by decide) rfl (fun ls hl => ?_)
  refine lv_aload_n hx hb dX12_readSmith_18 rfl (lv_at hl 1 rfl) ?_
  refine va_get (ci := 12) (v := .ref (ad 14)) (C := RX12) (T := TX12) (N := 57) hx hb hg inX12 hown hK hP 0 atM_0 rfl 22 (by decide) (hg _ mw_1130) (fun _ h9 => h9) rfl dX12_readSmith_19 ?_
  refine lv_iload_n hx hb dX12_readSmith_22 rfl (lv_at hl 0 rfl) ?_
  refine lv_aload_n hx hb dX12_readSmith_23 rfl (lv_at hl 1 rfl) ?_
  refine lv_aload_n hx hb dX12_readSmith_24 rfl (lv_at hl 1 rfl) ?_
  refine callv_i (As := []) (rest := [.ref (ad 0), .int x10, .ref (ad 14)]) hC (c_X12_smithHere_0 l D cA H.size ad F L A B  hq.1) (cwV 0 hg (g_V mw_1340 mw_1337 mw_1339 ms_57 mw_20) rfl rfl rfl (by decide +kernel) ⟨(Nat.le_of_ble_eq_true rfl), (Nat.le_of_ble_eq_true rfl)⟩) hP hD hS hA atM_0 rfl rfl hl.1 rfl (Nat.le_of_ble_eq_true rfl) dX12_readSmith_25 ⟨Nat.zero_le _, Nat.zero_le _⟩ (fun x13 u H locs hw hP hD hS => ?_)
  obtain ⟨r14, g15⟩ := hw
  have hP : va_P D classes (wM cA ad F L A B) H := hP
  have hD : va_D Af (wM cA ad F L A B) := hD
  have J36 : ∀ (a16 : Int32) (F18 : Nat → Int32) (L18 : Nat → Int64) (A18 : Nat → Nat → Int32) (B18 : Nat → Nat → Int64) (H : Heap) (locs : List Loc) (ls : Array Slot), rg a16 0 1 → qM [2, 3, 4, 5, 6, 7] [3, 8, 9, 11, 14] F A F18 A18 → A18 3 = A 3 → pR F F18 → F18 9 = x1 → va_P D classes (wM cA ad F18 L18 A18 B18) H → va_D Af (wM cA ad F18 L18 A18 B18) → va_S Af s.heap H locs → lv_has ls 2 [(0, .ref (ad 0)), (1, .int x10)] → W p l e rm_X12_readSmith_0 s m args below meth c H locs 0 0 Q (F0 m 36 ls [.int a16, .ref (ad 0), .int x10, .ref (ad 14)]) := by
    intro a16 F18 L18 A18 B18 H locs ls r17 hq k19 i20 f21 hP hD hS hl
    refine callv_l (As := [.int a16]) (rest := [.int x10, .ref (ad 14)]) hC (c_X12_fresh_0 l D cA H.size ad F18 L18 A18 B18 (a16) hq.1 r17 (i20).1) (cwV 1 hg (g_V mw_1344 mw_1341 mw_1343 ms_58 mw_20) rfl rfl rfl (by decide +kernel) ⟨(Nat.le_of_ble_eq_true rfl), (Nat.le_of_ble_eq_true rfl)⟩) hP hD hS hA atM_0 rfl rfl hl.1 rfl (Nat.le_of_ble_eq_true rfl) dX12_readSmith_36 ⟨Nat.zero_le _, Nat.zero_le _⟩ (fun z22 u H locs hw hP hD hS => ?_)
    obtain ⟨F23, L23, A23, B23⟩ := u
    try dsimp only at hw
    obtain ⟨hq23, g24⟩ := hw
    have hq := hq.call hq23 (by decide)
    have hP : va_P D classes (wM cA ad F23 L23 A23 B23) H := hP
    have hD : va_D Af (wM cA ad F23 L23 A23 B23) := hD
    refine va_last hx hb hK hP hD hS 14 13 atM_14 tyM_14 (in_rg r12 (by decide)) dX12_readSmith_39 (fun H locs hP hD hS => ?_)
    rw [setBM_14] at hP hD
    refine lv_aload_n hx hb dX12_readSmith_40 rfl (lv_at hl 0 rfl) ?_
    refine va_get (ci := 12) (v := .ref (ad 11)) (C := RX12) (T := TX12) (N := 57) hx hb hg inX12 hown hK hP 0 atM_0 rfl 19 (by decide) (hg _ mw_1127) (fun _ h9 => h9) rfl dX12_readSmith_41 ?_
    refine lv_iload_n hx hb dX12_readSmith_44 rfl (lv_at hl 1 rfl) ?_
    refine lv_aload_n hx hb dX12_readSmith_45 rfl (lv_at hl 0 rfl) ?_
    refine callv_i (As := []) (rest := [.int x10, .ref (ad 11)]) hC (c_X12_isGood_0 l D cA H.size ad F23 L23 A23 (va_up B23 14 (vp_updL (B23 14) (x10).toNatClampNeg z22))  hq.1) (cwV 0 hg (g_V mw_1312 mw_1309 mw_1311 ms_50 mw_20) rfl rfl rfl (by decide +kernel) ⟨(Nat.le_of_ble_eq_true rfl), (Nat.le_of_ble_eq_true rfl)⟩) hP hD hS hA atM_0 rfl rfl hl.1 rfl (Nat.le_of_ble_eq_true rfl) dX12_readSmith_46 ⟨Nat.zero_le _, Nat.zero_le _⟩ (fun x25 u H locs hw hP hD hS => ?_)
    obtain ⟨r26, g27⟩ := hw
    have hP : va_P D classes (wM cA ad F23 L23 A23 (va_up B23 14 (vp_updL (B23 14) (x10).toNatClampNeg z22))) H := hP
    have hD : va_D Af (wM cA ad F23 L23 A23 (va_up B23 14 (vp_updL (B23 14) (x10).toNatClampNeg z22))) := hD
    have J67 : ∀ (a28 : Int32) (F30 : Nat → Int32) (L30 : Nat → Int64) (A30 : Nat → Nat → Int32) (B30 : Nat → Nat → Int64) (H : Heap) (locs : List Loc) (ls : Array Slot), rg a28 0 1 → qM [2, 3, 4, 5, 6, 7] [3, 8, 9, 11, 14] F A F30 A30 → A30 3 = A 3 → pR F F30 → F30 9 = x1 → va_P D classes (wM cA ad F30 L30 A30 B30) H → va_D Af (wM cA ad F30 L30 A30 B30) → va_S Af s.heap H locs → lv_has ls 2 [(0, .ref (ad 0)), (1, .int x10)] → W p l e rm_X12_readSmith_0 s m args below meth c H locs 0 0 Q (F0 m 67 ls [.int a28, .int x10, .ref (ad 11)]) := by
      intro a28 F30 L30 A30 B30 H locs ls r29 hq k31 i32 f33 hP hD hS hl
      refine va_zast hx hb hK hP hD hS 11 10 atM_11 tyM_11 (in_rg r12 (by decide)) dX12_readSmith_67 (fun H locs hP hD hS => ?_)
      have hq := hq.ast 11 (x10).toNatClampNeg (x := (vp_nar .boolean a28)) (by decide) (rg_nz _)
      rw [setM_11] at hP hD
      refine lv_aload_n hx hb dX12_readSmith_68 rfl (lv_at hl 0 rfl) ?_
      refine va_get (ci := 12) (v := .ref (ad 11)) (C := RX12) (T := TX12) (N := 57) hx hb hg inX12 hown hK hP 0 atM_0 rfl 19 (by decide) (hg _ mw_1127) (fun _ h9 => h9) rfl dX12_readSmith_69 ?_
      refine lv_iload_n hx hb dX12_readSmith_72 rfl (lv_at hl 1 rfl) ?_
      refine va_zald hx hb hK hP 11 10 atM_11 tyM_11 (in_rg r12 (by decide)) dX12_readSmith_73 ?_
      refine lv_topi (fun x34 e35 => ?_)
      have r36 : rg x34 0 1 := rg_e e35 (hq.1.2 11 _)
      have J81 : ∀ (F37 : Nat → Int32) (L37 : Nat → Int64) (A37 : Nat → Nat → Int32) (B37 : Nat → Nat → Int64) (H : Heap) (locs : List Loc) (ls : Array Slot), qM [2, 3, 4, 5, 6, 7] [3, 8, 9, 11, 14] F A F37 A37 → A37 3 = A 3 → pR F F37 → F37 9 = x1 → va_P D classes (wM cA ad F37 L37 A37 B37) H → va_D Af (wM cA ad F37 L37 A37 B37) → va_S Af s.heap H locs → lv_has ls 2 [(0, .ref (ad 0)), (1, .int x10)] → W p l e rm_X12_readSmith_0 s m args below meth c H locs 0 0 Q (F0 m 81 ls []) := by
        intro F37 L37 A37 B37 H locs ls hq k38 i39 f40 hP hD hS hl
        refine lv_aload_n hx hb dX12_readSmith_81 rfl (lv_at hl 0 rfl) ?_
        refine lv_aload_n hx hb dX12_readSmith_82 rfl (lv_at hl 0 rfl) ?_
        refine lv_ldc2 (v := 2002872165) hx hb hown (hg _ mw_1301) dX12_readSmith_83 ?_
        refine callv_i (As := [.long (2002872165 : Int64)]) (rest := [.ref (ad 0)]) hC (c_X12_isWord_0 l D cA H.size ad F37 L37 A37 B37 ((2002872165 : Int64)) hq.1) (cwV 1 hg (g_V mw_1324 mw_1321 mw_1323 ms_53 mw_20) rfl rfl rfl (by decide +kernel) ⟨(Nat.le_of_ble_eq_true rfl), (Nat.le_of_ble_eq_true rfl)⟩) hP hD hS hA atM_0 rfl rfl hl.1 rfl (Nat.le_of_ble_eq_true rfl) dX12_readSmith_86 ⟨Nat.zero_le _, Nat.zero_le _⟩ (fun x41 u H locs hw hP hD hS => ?_)
        obtain ⟨r42, g43⟩ := hw
        have hP : va_P D classes (wM cA ad F37 L37 A37 B37) H := hP
        have hD : va_D Af (wM cA ad F37 L37 A37 B37) := hD
        refine callv_v (As := [.int x41]) (rest := []) hC (c_X12_must_0 l D cA H.size ad F37 L37 A37 B37 (x41) hq.1 r42 (i39).1) (cwV 1 hg (g_V mw_1348 mw_1345 mw_1347 ms_59 mw_20) rfl rfl rfl (by decide +kernel) ⟨(Nat.le_of_ble_eq_true rfl), (Nat.le_of_ble_eq_true rfl)⟩) hP hD hS hA atM_0 rfl rfl hl.1 rfl (Nat.le_of_ble_eq_true rfl) dX12_readSmith_89 ⟨Nat.zero_le _, Nat.zero_le _⟩ (fun  u H locs hw hP hD hS => ?_)
        obtain ⟨F44, L44, A44, B44⟩ := u
        try dsimp only at hw
        obtain ⟨hq44, g45⟩ := hw
        have hq := hq.call hq44 (by decide)
        have hP : va_P D classes (wM cA ad F44 L44 A44 B44) H := hP
        have hD : va_D Af (wM cA ad F44 L44 A44 B44) := hD
        refine lv_aload_n hx hb dX12_readSmith_92 rfl (lv_at hl 0 rfl) ?_
        refine va_get (ci := 12) (v := .ref (ad 8)) (C := RX12) (T := TX12) (N := 57) hx hb hg inX12 hown hK hP 0 atM_0 rfl 16 (by decide) (hg _ mw_1124) (fun _ h9 => h9) rfl dX12_readSmith_93 ?_
        refine lv_iload_n hx hb dX12_readSmith_96 rfl (lv_at hl 1 rfl) ?_
        refine lv_aload_n hx hb dX12_readSmith_97 rfl (lv_at hl 0 rfl) ?_
        refine lv_iconst (v := 0) hx hb dX12_readSmith_98 (by decide) ?_
        refine lv_bipush (v := 99) hx hb dX12_readSmith_99 (by decide) ?_
        refine callv_i (As := [.int 0, .int 99]) (rest := [.int x10, .ref (ad 8)]) hC (c_X12_numeral_0 l D cA H.size ad F44 L44 A44 B44 (0) (99) hq.1 (rg_k (by decide)) (rg_k (by decide)) ((pR.tr i39 g45)).1) (cwV 2 hg (g_V mw_1352 mw_1349 mw_1351 ms_60 mw_20) rfl rfl rfl (by decide +kernel) ⟨(Nat.le_of_ble_eq_true rfl), (Nat.le_of_ble_eq_true rfl)⟩) hP hD hS hA atM_0 rfl rfl hl.1 rfl (Nat.le_of_ble_eq_true rfl) dX12_readSmith_101 ⟨Nat.zero_le _, Nat.zero_le _⟩ (fun x46 u H locs hw hP hD hS => ?_)
        obtain ⟨F47, L47, A47, B47⟩ := u
        try dsimp only at hw
        obtain ⟨hq47, g48, g49⟩ := hw
        have hq := hq.call hq47 (by decide)
        have hP : va_P D classes (wM cA ad F47 L47 A47 B47) H := hP
        have hD : va_D Af (wM cA ad F47 L47 A47 B47) := hD
        refine va_iast hx hb hK hP hD hS 8 7 atM_8 tyM_8 (in_rg r12 (by decide)) dX12_readSmith_104 (fun H locs hP hD hS => ?_)
        have hq := hq.ast 8 (x10).toNatClampNeg (x := x46) (by decide) (rg_top _)
        rw [setM_8] at hP hD
        have k50 : x46 = (va_up A47 8 (upd (A47 8) (x10).toNatClampNeg x46)) 8 (x10).toNatClampNeg := (rdA).symm
        refine lv_aload_n hx hb dX12_readSmith_105 rfl (lv_at hl 0 rfl) ?_
        refine va_get (ci := 12) (v := .ref (ad 9)) (C := RX12) (T := TX12) (N := 57) hx hb hg inX12 hown hK hP 0 atM_0 rfl 17 (by decide) (hg _ mw_1125) (fun _ h9 => h9) rfl dX12_readSmith_106 ?_
        refine lv_iload_n hx hb dX12_readSmith_109 rfl (lv_at hl 1 rfl) ?_
        refine lv_iconst (v := 0) hx hb dX12_readSmith_110 (by decide) ?_
        refine va_iast hx hb hK hP hD hS 9 8 atM_9 tyM_9 (in_rg r12 (by decide)) dX12_readSmith_111 (fun H locs hP hD hS => ?_)
        have hq := hq.ast 9 (x10).toNatClampNeg (x := 0) (by decide) (rg_k (by decide))
        rw [setM_9] at hP hD
        have k51 : (0 : Int32) = (va_up (va_up A47 8 (upd (A47 8) (x10).toNatClampNeg x46)) 9 (upd ((va_up A47 8 (upd (A47 8) (x10).toNatClampNeg x46)) 9) (x10).toNatClampNeg 0)) 9 (x10).toNatClampNeg := (rdA).symm
        refine lv_aload_n hx hb dX12_readSmith_112 rfl (lv_at hl 0 rfl) ?_
        refine va_get (ci := 12) (v := .ref (ad 3)) (C := RX12) (T := TX12) (N := 57) hx hb hg inX12 hown hK hP 0 atM_0 rfl 11 (by decide) (hg _ mw_1119) (fun _ h9 => h9) rfl dX12_readSmith_113 ?_
        refine lv_aload_n hx hb dX12_readSmith_116 rfl (lv_at hl 0 rfl) ?_
        refine va_get (ci := 12) (v := .int x1) (C := RX12) (T := TX12) (N := 57) hx hb hg inX12 hown hK hP 0 atM_0 rfl 25 (by decide) (hg _ mw_1133) (fun _ h9 => h9) (congrArg (fun z => some (Value.int z)) ((hq47.2.1 9 (by decide)).trans ((hq44.2.1 9 (by decide)).trans (f40)))) dX12_readSmith_117 ?_
        refine lv_dup2_11 hx hb dX12_readSmith_120 rfl rfl ?_
        refine va_iald hx hb hK hP 3 2 atM_3 tyM_3 (in_rg r3 (by decide)) dX12_readSmith_121 ?_
        refine lv_topi (fun x52 e53 => ?_)
        have r54 : rg x52 0 7 := rg_e (e53.trans ((congrFun ((hq47.2.2 3 (by decide)).trans ((hq44.2.2 3 (by decide)).trans k38)) _).trans (by rw [e2]))) hM7
        refine lv_iconst (v := 1) hx hb dX12_readSmith_122 (by decide) ?_
        refine lv_iadd hx hb dX12_readSmith_123 ?_
        refine lv_topi (fun x55 e56 => ?_)
        have r57 : rg x55 1 8 := rg_add e56 r54 ((rg_k (by decide)) : rg 1 1 1) (by decide)
        refine va_iast hx hb hK hP hD hS 3 2 atM_3 tyM_3 (in_rg r3 (by decide)) dX12_readSmith_124 (fun H locs hP hD hS => ?_)
        have hq := hq.ast 3 (x1).toNatClampNeg (x := x55) (by decide) (rg_w r57 (by decide))
        rw [setM_3] at hP hD
        have k58 : x55 = (va_up (va_up (va_up A47 8 (upd (A47 8) (x10).toNatClampNeg x46)) 9 (upd ((va_up A47 8 (upd (A47 8) (x10).toNatClampNeg x46)) 9) (x10).toNatClampNeg 0)) 3 (upd ((va_up (va_up A47 8 (upd (A47 8) (x10).toNatClampNeg x46)) 9 (upd ((va_up A47 8 (upd (A47 8) (x10).toNatClampNeg x46)) 9) (x10).toNatClampNeg 0)) 3) (x1).toNatClampNeg x55)) 3 (x1).toNatClampNeg := (rdA).symm
        exact hret (F47, L47, (va_up (va_up (va_up A47 8 (upd (A47 8) (x10).toNatClampNeg x46)) 9 (upd ((va_up A47 8 (upd (A47 8) (x10).toNatClampNeg x46)) 9) (x10).toNatClampNeg 0)) 3 (upd ((va_up (va_up A47 8 (upd (A47 8) (x10).toNatClampNeg x46)) 9 (upd ((va_up A47 8 (upd (A47 8) (x10).toNatClampNeg x46)) 9) (x10).toNatClampNeg 0)) 3) (x1).toNatClampNeg x55)), B47) H locs 125 ls dX12_readSmith_125 hP hD hS ⟨hq, (pR.tr (pR.tr i39 g45) g48), (rs_post (v := x55) (by show upd ((va_up (va_up A47 8 (upd (A47 8) (x10).toNatClampNeg x46)) 9 (upd ((va_up A47 8 (upd (A47 8) (x10).toNatClampNeg x46)) 9) (x10).toNatClampNeg 0)) 3) x1.toNatClampNeg x55 = _; rw [show (va_up (va_up A47 8 (upd (A47 8) (x10).toNatClampNeg x46)) 9 (upd ((va_up A47 8 (upd (A47 8) (x10).toNatClampNeg x46)) 9) (x10).toNatClampNeg 0)) 3 = A 3 from ((hq47.2.2 3 (by decide)).trans ((hq44.2.2 3 (by decide)).trans k38)), e2]) (hq.2.2 4 (by decide)) (hq.2.2 10 (by decide)) (by rw [← e2]; have := tiA e56 (r54 : rg x52 0 7) (rg_k (by decide) : rg 1 1 1) (by decide); have : (1 : Int32).toInt = 1 := rfl; have := congrArg Int32.toInt (e53.trans (congrFun ((hq47.2.2 3 (by decide)).trans ((hq44.2.2 3 (by decide)).trans k38)) _)); omega) hB)⟩
      refine lv_if_eq (tgt := 81) hx hb dX12_readSmith_74 (by decide) (fun c59 => ?_) (fun c59 => ?_)
      · skip
        have r60 : rg x34 0 0 := rg_eq1 c59 (r36 : rg x34 0 1) ((rg_k (by decide)) : rg 0 0 0) (by decide)
        exact J81 (F30) (L30) ((va_up A30 11 (upd (A30 11) (x10).toNatClampNeg (vp_nar .boolean a28)))) (B30) H locs ls hq (k31) i32 (f33) hP hD hS (lv_sub hl [0, 1] rfl)
      · skip
        have r61 : rg x34 1 1 := (rg_ne1 c59 (r36 : rg x34 0 1) ((rg_k (by decide)) : rg 0 0 0)).1 rfl
        refine lv_aload_n hx hb dX12_readSmith_77 rfl (lv_at hl 0 rfl) ?_
        refine callv_v (As := []) (rest := []) hC (c_X12_goOn_0 l D cA H.size ad F30 L30 (va_up A30 11 (upd (A30 11) (x10).toNatClampNeg (vp_nar .boolean a28))) B30  hq.1 (i32).1.2.1) (cwV 0 hg (g_V mw_1288 mw_1285 mw_1287 ms_48 mw_20) rfl rfl rfl (by decide +kernel) ⟨(Nat.le_of_ble_eq_true rfl), (Nat.le_of_ble_eq_true rfl)⟩) hP hD hS hA atM_0 rfl rfl hl.1 rfl (Nat.le_of_ble_eq_true rfl) dX12_readSmith_78 ⟨Nat.zero_le _, Nat.zero_le _⟩ (fun  u H locs hw hP hD hS => ?_)
        obtain ⟨F62, L62, A62, B62⟩ := u
        try dsimp only at hw
        obtain ⟨hq62, g63⟩ := hw
        have hq := hq.call hq62 (by decide)
        have hP : va_P D classes (wM cA ad F62 L62 A62 B62) H := hP
        have hD : va_D Af (wM cA ad F62 L62 A62 B62) := hD
        exact J81 (F62) (L62) (A62) (B62) H locs ls hq (((hq62.2.2 3 (by decide)).trans k31)) (pR.go i32 g63) ((hq62.2.1 9 (by decide)).trans (f33)) hP hD hS (lv_sub hl [0, 1] rfl)
    have J66 : ∀ (F64 : Nat → Int32) (L64 : Nat → Int64) (A64 : Nat → Nat → Int32) (B64 : Nat → Nat → Int64) (H : Heap) (locs : List Loc) (ls : Array Slot), qM [2, 3, 4, 5, 6, 7] [3, 8, 9, 11, 14] F A F64 A64 → A64 3 = A 3 → pR F F64 → F64 9 = x1 → va_P D classes (wM cA ad F64 L64 A64 B64) H → va_D Af (wM cA ad F64 L64 A64 B64) → va_S Af s.heap H locs → lv_has ls 2 [(0, .ref (ad 0)), (1, .int x10)] → W p l e rm_X12_readSmith_0 s m args below meth c H locs 0 0 Q (F0 m 66 ls [.int x10, .ref (ad 11)]) := by
      intro F64 L64 A64 B64 H locs ls hq k65 i66 f67 hP hD hS hl
      refine lv_iconst (v := 0) hx hb dX12_readSmith_66 (by decide) ?_
      exact J67 (0) (F64) (L64) (A64) (B64) H locs ls (rg_k (by decide)) hq (k65) i66 (f67) hP hD hS (lv_sub hl [0, 1] rfl)
    refine lv_if_eq (tgt := 66) hx hb dX12_readSmith_49 (by decide) (fun c68 => ?_) (fun c68 => ?_)
    · skip
      have r69 : rg x25 0 0 := rg_eq1 c68 (r26 : rg x25 0 1) ((rg_k (by decide)) : rg 0 0 0) (by decide)
      exact J66 (F23) (L23) (A23) ((va_up B23 14 (vp_updL (B23 14) (x10).toNatClampNeg z22))) H locs ls hq (((hq23.2.2 3 (by decide)).trans k19)) (pR.tr i20 g24) ((hq23.2.1 9 (by decide)).trans (f21)) hP hD hS (lv_sub hl [0, 1] rfl)
    · skip
      have r70 : rg x25 1 1 := (rg_ne1 c68 (r26 : rg x25 0 1) ((rg_k (by decide)) : rg 0 0 0)).1 rfl
      refine lv_aload_n hx hb dX12_readSmith_52 rfl (lv_at hl 0 rfl) ?_
      refine lv_ldc2 (v := 120265316263282) hx hb hown (hg _ mw_1300) dX12_readSmith_53 ?_
      refine callv_i (As := [.long (120265316263282 : Int64)]) (rest := [.int x10, .ref (ad 11)]) hC (c_X12_isWord_0 l D cA H.size ad F23 L23 A23 (va_up B23 14 (vp_updL (B23 14) (x10).toNatClampNeg z22)) ((120265316263282 : Int64)) hq.1) (cwV 1 hg (g_V mw_1324 mw_1321 mw_1323 ms_53 mw_20) rfl rfl rfl (by decide +kernel) ⟨(Nat.le_of_ble_eq_true rfl), (Nat.le_of_ble_eq_true rfl)⟩) hP hD hS hA atM_0 rfl rfl hl.1 rfl (Nat.le_of_ble_eq_true rfl) dX12_readSmith_56 ⟨Nat.zero_le _, Nat.zero_le _⟩ (fun x71 u H locs hw hP hD hS => ?_)
      obtain ⟨r72, g73⟩ := hw
      have hP : va_P D classes (wM cA ad F23 L23 A23 (va_up B23 14 (vp_updL (B23 14) (x10).toNatClampNeg z22))) H := hP
      have hD : va_D Af (wM cA ad F23 L23 A23 (va_up B23 14 (vp_updL (B23 14) (x10).toNatClampNeg z22))) := hD
      refine lv_if_eq (tgt := 66) hx hb dX12_readSmith_59 (by decide) (fun c74 => ?_) (fun c74 => ?_)
      · skip
        have r75 : rg x71 0 0 := rg_eq1 c74 (r72 : rg x71 0 1) ((rg_k (by decide)) : rg 0 0 0) (by decide)
        exact J66 (F23) (L23) (A23) ((va_up B23 14 (vp_updL (B23 14) (x10).toNatClampNeg z22))) H locs ls hq (((hq23.2.2 3 (by decide)).trans k19)) (pR.tr i20 g24) ((hq23.2.1 9 (by decide)).trans (f21)) hP hD hS (lv_sub hl [0, 1] rfl)
      · skip
        have r76 : rg x71 1 1 := (rg_ne1 c74 (r72 : rg x71 0 1) ((rg_k (by decide)) : rg 0 0 0)).1 rfl
        refine lv_iconst (v := 1) hx hb dX12_readSmith_62 (by decide) ?_
        refine lv_goto (tgt := 67) hx hb dX12_readSmith_63 (by decide) ?_
        exact J67 (1) (F23) (L23) (A23) ((va_up B23 14 (vp_updL (B23 14) (x10).toNatClampNeg z22))) H locs ls (rg_k (by decide)) hq (((hq23.2.2 3 (by decide)).trans k19)) (pR.tr i20 g24) ((hq23.2.1 9 (by decide)).trans (f21)) hP hD hS (lv_sub hl [0, 1] rfl)
  refine lv_if_lt (tgt := 35) hx hb dX12_readSmith_28 (by decide) (fun c77 => ?_) (fun c77 => ?_)
  · skip
    have r78 : rg x13 (-1) (-1) := rg_lt1 (iL c77) (r14 : rg x13 (-1) 7) ((rg_k (by decide)) : rg 0 0 0)
    refine lv_iconst (v := 0) hx hb dX12_readSmith_35 (by decide) ?_
    exact J36 (0) (F) (L) (A) (B) H locs ls (rg_k (by decide)) hq (rfl) (pR.rf hJ) (e2.symm) hP hD hS (lv_sub hl [1, 0] rfl)
  · skip
    have r79 : rg x13 0 7 := rg_le2 (iNL c77) ((rg_k (by decide)) : rg 0 0 0) (r14 : rg x13 (-1) 7)
    refine lv_iconst (v := 1) hx hb dX12_readSmith_31 (by decide) ?_
    refine lv_goto (tgt := 36) hx hb dX12_readSmith_32 (by decide) ?_
    exact J36 (1) (F) (L) (A) (B) H locs ls (rg_k (by decide)) hq (rfl) (pR.rf hJ) (e2.symm) hP hD hS (lv_sub hl [1, 0] rfl)
