abbrev rm_X12_isDigit : Room := { frames := 0, cells := 0, slots := 0, locals := 0 }
set_option maxHeartbeats 4000000 in
set_option maxRecDepth 100000 in
theorem c_X12_isDigit (l : Launch) (D : va_G) (tys : List (ClassId × FieldType)) (ws : va_W) (sz : Nat) (p0 : Int32) (hp0 : rg p0 0 255) : Met l yX12_isDigit (Cond.code yX12_isDigit cX12_isDigit 1 (some .boolean) :: GW) rm_X12_isDigit (mPc D classes tys (ws) sz [.int p0]) (mQi (S := Unit) D classes tys (ws) sz (fun _ : Unit => ws) (fun r u => rg r 0 1 ∧ (r = 0 ∨ (rg p0 48 57)))) 0 0 (va_A (ws) sz) := by
  refine met_i (own := "ShoeingDayModel") (by decide +kernel) rfl (Nat.le_of_ble_eq_true rfl) ?_
  intro p e s m args below meth c Q Af ls hC hP hD hS hA hl hret
  have hx := hC.1
  have hb := hC.2.1
  have hown := hC.2.2.2.1
  have hg := hC.g
  have hK := hC.K
  have hl : lv_has ls 1 [(0, .int p0)] := hl
  obtain ⟨H, hH⟩ : ∃ H, H = s.heap := ⟨_, rfl⟩
  have hP : va_P D classes (ws) H := by rw [hH]; exact hP
  have hS : va_S Af s.heap H [] := by rw [hH]; exact hS
  obtain ⟨locs, hlo⟩ : ∃ q : List Loc, q = [] := ⟨_, rfl⟩
  rw [← hH, ← hlo]
  rw [← hlo] at hS
  refine lv_iload_n hx hb dX12_isDigit_0 rfl (lv_at hl 0 rfl) ?_
  refine lv_bipush (v := 48) hx hb dX12_isDigit_1 (by decide) ?_
  have J16 : ∀ (H : Heap) (locs : List Loc) (ls : Array Slot), va_P D classes (ws) H → va_D Af (ws) → va_S Af s.heap H locs → lv_has ls 1 [] → W p l e rm_X12_isDigit s m args below meth c H locs 0 0 Q (F0 m 16 ls []) := by
    intro H locs ls hP hD hS hl
    refine lv_iconst (v := 0) hx hb dX12_isDigit_16 (by decide) ?_
    exact hret (0) () H locs 17 ls rfl dX12_isDigit_17 hP hD hS ⟨(rg_k (by decide)), Or.inl rfl⟩
  refine lv_icmp_lt (tgt := 16) hx hb dX12_isDigit_3 (by decide) (fun c1 => ?_) (fun c1 => ?_)
  · skip
    have r2 : rg p0 0 47 := rg_lt1 (iL c1) (hp0 : rg p0 0 255) ((rg_k (by decide)) : rg 48 48 48)
    exact J16  H locs ls  hP hD hS (lv_sub hl [] rfl)
  · skip
    have r3 : rg p0 48 255 := rg_le2 (iNL c1) ((rg_k (by decide)) : rg 48 48 48) (hp0 : rg p0 0 255)
    refine lv_iload_n hx hb dX12_isDigit_6 rfl (lv_at hl 0 rfl) ?_
    refine lv_bipush (v := 57) hx hb dX12_isDigit_7 (by decide) ?_
    refine lv_icmp_gt (tgt := 16) hx hb dX12_isDigit_9 (by decide) (fun c4 => ?_) (fun c4 => ?_)
    · skip
      have r5 : rg p0 58 255 := rg_lt2 (iL c4) ((rg_k (by decide)) : rg 57 57 57) (r3 : rg p0 48 255)
      exact J16  H locs ls  hP hD hS (lv_sub hl [] rfl)
    · skip
      have r6 : rg p0 48 57 := rg_le1 (iNL c4) (r3 : rg p0 48 255) ((rg_k (by decide)) : rg 57 57 57)
      refine lv_iconst (v := 1) hx hb dX12_isDigit_12 (by decide) ?_
      refine lv_goto (tgt := 17) hx hb dX12_isDigit_13 (by decide) ?_
      exact hret (1) () H locs 17 ls rfl dX12_isDigit_17 hP hD hS ⟨(rg_k (by decide)), Or.inr r6⟩
abbrev rm_X12_isKept : Room := { frames := 0, cells := 0, slots := 0, locals := 0 }
set_option maxHeartbeats 4000000 in
set_option maxRecDepth 100000 in
theorem c_X12_isKept (l : Launch) (D : va_G) (tys : List (ClassId × FieldType)) (ws : va_W) (sz : Nat) (p0 : Int64)  : Met l yX12_isKept (Cond.code yX12_isKept cX12_isKept 2 (some .boolean) :: GW) rm_X12_isKept (mPc D classes tys (ws) sz [.long p0]) (mQi (S := Unit) D classes tys (ws) sz (fun _ : Unit => ws) (fun r u => rg r 0 1)) 0 0 (va_A (ws) sz) := by
  refine met_i (own := "ShoeingDayModel") (by decide +kernel) rfl (Nat.le_of_ble_eq_true rfl) ?_
  intro p e s m args below meth c Q Af ls hC hP hD hS hA hl hret
  have hx := hC.1
  have hb := hC.2.1
  have hown := hC.2.2.2.1
  have hg := hC.g
  have hK := hC.K
  have hl : lv_has ls 2 [(0, .long p0)] := hl
  obtain ⟨H, hH⟩ : ∃ H, H = s.heap := ⟨_, rfl⟩
  have hP : va_P D classes (ws) H := by rw [hH]; exact hP
  have hS : va_S Af s.heap H [] := by rw [hH]; exact hS
  obtain ⟨locs, hlo⟩ : ∃ q : List Loc, q = [] := ⟨_, rfl⟩
  rw [← hH, ← hlo]
  rw [← hlo] at hS
  refine lv_lload_n hx hb dX12_isKept_0 rfl (lv_at hl 0 rfl) ?_
  refine lv_ldc2 (v := 495756866664) hx hb hown (hg _ mw_1299) dX12_isKept_1 ?_
  refine W.lcmp hx hb dX12_isKept_4 ?_
  refine lv_topi (fun x1 e2 => ?_)
  have J56 : ∀ (H : Heap) (locs : List Loc) (ls : Array Slot), va_P D classes (ws) H → va_D Af (ws) → va_S Af s.heap H locs → lv_has ls 2 [] → W p l e rm_X12_isKept s m args below meth c H locs 0 0 Q (F0 m 56 ls []) := by
    intro H locs ls hP hD hS hl
    refine lv_iconst (v := 1) hx hb dX12_isKept_56 (by decide) ?_
    refine lv_goto (tgt := 61) hx hb dX12_isKept_57 (by decide) ?_
    exact hret (1) () H locs 61 ls rfl dX12_isKept_61 hP hD hS (rg_k (by decide))
  refine lv_if_eq (tgt := 56) hx hb dX12_isKept_5 (by decide) (fun c3 => ?_) (fun c3 => ?_)
  · skip
    have r4 : rg x1 0 0 := rg_eq1 c3 ((rg_top _) : rg x1 (-2147483648) 2147483647) ((rg_k (by decide)) : rg 0 0 0) (by decide)
    exact J56  H locs ls  hP hD hS (lv_sub hl [] rfl)
  · skip
    refine lv_lload_n hx hb dX12_isKept_8 rfl (lv_at hl 0 rfl) ?_
    refine lv_ldc2 (v := 120265316263282) hx hb hown (hg _ mw_1300) dX12_isKept_9 ?_
    refine W.lcmp hx hb dX12_isKept_12 ?_
    refine lv_topi (fun x5 e6 => ?_)
    refine lv_if_eq (tgt := 56) hx hb dX12_isKept_13 (by decide) (fun c7 => ?_) (fun c7 => ?_)
    · skip
      have r8 : rg x5 0 0 := rg_eq1 c7 ((rg_top _) : rg x5 (-2147483648) 2147483647) ((rg_k (by decide)) : rg 0 0 0) (by decide)
      exact J56  H locs ls  hP hD hS (lv_sub hl [] rfl)
    · skip
      refine lv_lload_n hx hb dX12_isKept_16 rfl (lv_at hl 0 rfl) ?_
      refine lv_ldc2 (v := 2002872165) hx hb hown (hg _ mw_1301) dX12_isKept_17 ?_
      refine W.lcmp hx hb dX12_isKept_20 ?_
      refine lv_topi (fun x9 e10 => ?_)
      refine lv_if_eq (tgt := 56) hx hb dX12_isKept_21 (by decide) (fun c11 => ?_) (fun c11 => ?_)
      · skip
        have r12 : rg x9 0 0 := rg_eq1 c11 ((rg_top _) : rg x9 (-2147483648) 2147483647) ((rg_k (by decide)) : rg 0 0 0) (by decide)
        exact J56  H locs ls  hP hD hS (lv_sub hl [] rfl)
      · skip
        refine lv_lload_n hx hb dX12_isKept_24 rfl (lv_at hl 0 rfl) ?_
        refine lv_ldc2 (v := 448546370405) hx hb hown (hg _ mw_1302) dX12_isKept_25 ?_
        refine W.lcmp hx hb dX12_isKept_28 ?_
        refine lv_topi (fun x13 e14 => ?_)
        refine lv_if_eq (tgt := 56) hx hb dX12_isKept_29 (by decide) (fun c15 => ?_) (fun c15 => ?_)
        · skip
          have r16 : rg x13 0 0 := rg_eq1 c15 ((rg_top _) : rg x13 (-2147483648) 2147483647) ((rg_k (by decide)) : rg 0 0 0) (by decide)
          exact J56  H locs ls  hP hD hS (lv_sub hl [] rfl)
        · skip
          refine lv_lload_n hx hb dX12_isKept_32 rfl (lv_at hl 0 rfl) ?_
          refine lv_ldc2 (v := 448546566771) hx hb hown (hg _ mw_1303) dX12_isKept_33 ?_
          refine W.lcmp hx hb dX12_isKept_36 ?_
          refine lv_topi (fun x17 e18 => ?_)
          refine lv_if_eq (tgt := 56) hx hb dX12_isKept_37 (by decide) (fun c19 => ?_) (fun c19 => ?_)
          · skip
            have r20 : rg x17 0 0 := rg_eq1 c19 ((rg_top _) : rg x17 (-2147483648) 2147483647) ((rg_k (by decide)) : rg 0 0 0) (by decide)
            exact J56  H locs ls  hP hD hS (lv_sub hl [] rfl)
          · skip
            refine lv_lload_n hx hb dX12_isKept_40 rfl (lv_at hl 0 rfl) ?_
            refine lv_ldc2 (v := 465558201459) hx hb hown (hg _ mw_1304) dX12_isKept_41 ?_
            refine W.lcmp hx hb dX12_isKept_44 ?_
            refine lv_topi (fun x21 e22 => ?_)
            refine lv_if_eq (tgt := 56) hx hb dX12_isKept_45 (by decide) (fun c23 => ?_) (fun c23 => ?_)
            · skip
              have r24 : rg x21 0 0 := rg_eq1 c23 ((rg_top _) : rg x21 (-2147483648) 2147483647) ((rg_k (by decide)) : rg 0 0 0) (by decide)
              exact J56  H locs ls  hP hD hS (lv_sub hl [] rfl)
            · skip
              refine lv_lload_n hx hb dX12_isKept_48 rfl (lv_at hl 0 rfl) ?_
              refine lv_ldc2 (v := 1818326117) hx hb hown (hg _ mw_1305) dX12_isKept_49 ?_
              refine W.lcmp hx hb dX12_isKept_52 ?_
              refine lv_topi (fun x25 e26 => ?_)
              refine lv_if_ne (tgt := 60) hx hb dX12_isKept_53 (by decide) (fun c27 => ?_) (fun c27 => ?_)
              · skip
                refine lv_iconst (v := 0) hx hb dX12_isKept_60 (by decide) ?_
                exact hret (0) () H locs 61 ls rfl dX12_isKept_61 hP hD hS (rg_k (by decide))
              · skip
                have r28 : rg x25 0 0 := rg_eq1 c27 ((rg_top _) : rg x25 (-2147483648) 2147483647) ((rg_k (by decide)) : rg 0 0 0) (by decide)
                exact J56  H locs ls  hP hD hS (lv_sub hl [] rfl)
abbrev rm_X12_isLetter : Room := { frames := 0, cells := 0, slots := 0, locals := 0 }
set_option maxHeartbeats 4000000 in
set_option maxRecDepth 100000 in
theorem c_X12_isLetter (l : Launch) (D : va_G) (tys : List (ClassId × FieldType)) (ws : va_W) (sz : Nat) (p0 : Int32) (hp0 : rg p0 0 255) : Met l yX12_isLetter (Cond.code yX12_isLetter cX12_isLetter 1 (some .boolean) :: GW) rm_X12_isLetter (mPc D classes tys (ws) sz [.int p0]) (mQi (S := Unit) D classes tys (ws) sz (fun _ : Unit => ws) (fun r u => rg r 0 1 ∧ (r = 0 ∨ (rg p0 97 122)))) 0 0 (va_A (ws) sz) := by
  refine met_i (own := "ShoeingDayModel") (by decide +kernel) rfl (Nat.le_of_ble_eq_true rfl) ?_
  intro p e s m args below meth c Q Af ls hC hP hD hS hA hl hret
  have hx := hC.1
  have hb := hC.2.1
  have hown := hC.2.2.2.1
  have hg := hC.g
  have hK := hC.K
  have hl : lv_has ls 1 [(0, .int p0)] := hl
  obtain ⟨H, hH⟩ : ∃ H, H = s.heap := ⟨_, rfl⟩
  have hP : va_P D classes (ws) H := by rw [hH]; exact hP
  have hS : va_S Af s.heap H [] := by rw [hH]; exact hS
  obtain ⟨locs, hlo⟩ : ∃ q : List Loc, q = [] := ⟨_, rfl⟩
  rw [← hH, ← hlo]
  rw [← hlo] at hS
  refine lv_iload_n hx hb dX12_isLetter_0 rfl (lv_at hl 0 rfl) ?_
  refine lv_bipush (v := 97) hx hb dX12_isLetter_1 (by decide) ?_
  have J16 : ∀ (H : Heap) (locs : List Loc) (ls : Array Slot), va_P D classes (ws) H → va_D Af (ws) → va_S Af s.heap H locs → lv_has ls 1 [] → W p l e rm_X12_isLetter s m args below meth c H locs 0 0 Q (F0 m 16 ls []) := by
    intro H locs ls hP hD hS hl
    refine lv_iconst (v := 0) hx hb dX12_isLetter_16 (by decide) ?_
    exact hret (0) () H locs 17 ls rfl dX12_isLetter_17 hP hD hS ⟨(rg_k (by decide)), Or.inl rfl⟩
  refine lv_icmp_lt (tgt := 16) hx hb dX12_isLetter_3 (by decide) (fun c1 => ?_) (fun c1 => ?_)
  · skip
    have r2 : rg p0 0 96 := rg_lt1 (iL c1) (hp0 : rg p0 0 255) ((rg_k (by decide)) : rg 97 97 97)
    exact J16  H locs ls  hP hD hS (lv_sub hl [] rfl)
  · skip
    have r3 : rg p0 97 255 := rg_le2 (iNL c1) ((rg_k (by decide)) : rg 97 97 97) (hp0 : rg p0 0 255)
    refine lv_iload_n hx hb dX12_isLetter_6 rfl (lv_at hl 0 rfl) ?_
    refine lv_bipush (v := 122) hx hb dX12_isLetter_7 (by decide) ?_
    refine lv_icmp_gt (tgt := 16) hx hb dX12_isLetter_9 (by decide) (fun c4 => ?_) (fun c4 => ?_)
    · skip
      have r5 : rg p0 123 255 := rg_lt2 (iL c4) ((rg_k (by decide)) : rg 122 122 122) (r3 : rg p0 97 255)
      exact J16  H locs ls  hP hD hS (lv_sub hl [] rfl)
    · skip
      have r6 : rg p0 97 122 := rg_le1 (iNL c4) (r3 : rg p0 97 255) ((rg_k (by decide)) : rg 122 122 122)
      refine lv_iconst (v := 1) hx hb dX12_isLetter_12 (by decide) ?_
      refine lv_goto (tgt := 17) hx hb dX12_isLetter_13 (by decide) ?_
      exact hret (1) () H locs 17 ls rfl dX12_isLetter_17 hP hD hS ⟨(rg_k (by decide)), Or.inr r6⟩
abbrev rm_X12_sign_0 : Room := { frames := 0, cells := 0, slots := 0, locals := 0 }
set_option maxHeartbeats 4000000 in
set_option maxRecDepth 100000 in
theorem c_X12_sign_0 (l : Launch) (D : va_G) (cA : Nat → ClassId) (sz : Nat) (ad : Nat → Nat) (F : Nat → Int32) (L : Nat → Int64) (A : Nat → Nat → Int32) (B : Nat → Nat → Int64) (p1 : Int32) (hT : typM F A) (hp1 : rg p1 0 1701) : Met l yX12_sign (Cond.code yX12_sign cX12_sign 2 (some .int) :: GW) rm_X12_sign_0 (mPc D classes (tysM cA) (wM cA ad F L A B) sz [.ref (ad 0), .int p1]) (mQi (S := Unit) D classes (tysM cA) (wM cA ad F L A B) sz (fun _ : Unit => wM cA ad F L A B) (fun r u => rg r 0 255 ∧ (r = 0 ∨ p1.toInt < (F 1).toInt))) 0 0 (va_A (wM cA ad F L A B) sz) := by
  refine met_i (own := "ShoeingDayModel") (by decide +kernel) rfl (Nat.le_of_ble_eq_true rfl) ?_
  intro p e s m args below meth c Q Af ls hC hP hD hS hA hl hret
  have hx := hC.1
  have hb := hC.2.1
  have hown := hC.2.2.2.1
  have hg := hC.g
  have hK := hC.K
  have hl : lv_has ls 2 [(0, .ref (ad 0)), (1, .int p1)] := hl
  have hq : qM [] [] F A F A := qM.rf hT
  obtain ⟨H, hH⟩ : ∃ H, H = s.heap := ⟨_, rfl⟩
  have hP : va_P D classes (wM cA ad F L A B) H := by rw [hH]; exact hP
  have hS : va_S Af s.heap H [] := by rw [hH]; exact hS
  obtain ⟨locs, hlo⟩ : ∃ q : List Loc, q = [] := ⟨_, rfl⟩
  rw [← hH, ← hlo]
  rw [← hlo] at hS
  refine lv_iload_n hx hb dX12_sign_0 rfl (lv_at hl 1 rfl) ?_
  refine lv_aload_n hx hb dX12_sign_1 rfl (lv_at hl 0 rfl) ?_
  refine va_get (ci := 12) (v := .int (F 1)) (C := RX12) (T := TX12) (N := 57) hx hb hg inX12 hown hK hP 0 atM_0 rfl 3 (by decide) (hg _ mw_1111) (fun _ h9 => h9) rfl dX12_sign_2 ?_
  refine lv_topi (fun x1 e2 => ?_)
  have r3 : rg x1 0 1700 := rg_e e2 (hq.1.1 1)
  refine lv_icmp_ge (tgt := 21) hx hb dX12_sign_5 (by decide) (fun c4 => ?_) (fun c4 => ?_)
  · skip
    refine lv_iconst (v := 0) hx hb dX12_sign_21 (by decide) ?_
    exact hret (0) () H locs 22 ls rfl dX12_sign_22 hP hD hS ⟨(rg_k (by decide)), (Or.inl rfl)⟩
  · skip
    have r5 : rg p1 0 1699 := rg_lt1 (iNE c4) (hp1 : rg p1 0 1701) (r3 : rg x1 0 1700)
    have r6 : rg x1 1 1700 := rg_lt2 (iNE c4) (hp1 : rg p1 0 1701) (r3 : rg x1 0 1700)
    refine lv_aload_n hx hb dX12_sign_8 rfl (lv_at hl 0 rfl) ?_
    refine va_get (ci := 12) (v := .ref (ad 2)) (C := RX12) (T := TX12) (N := 57) hx hb hg inX12 hown hK hP 0 atM_0 rfl 1 (by decide) (hg _ mw_1109) (fun _ h9 => h9) rfl dX12_sign_9 ?_
    refine lv_iload_n hx hb dX12_sign_12 rfl (lv_at hl 1 rfl) ?_
    refine va_bald hx hb hK hP 2 1 atM_2 tyM_2 (in_rg r5 (by decide)) dX12_sign_13 ?_
    refine lv_topi (fun x7 e8 => ?_)
    refine lv_sipush (v := 255) hx hb dX12_sign_14 (by decide) ?_
    refine lv_iand hx hb dX12_sign_17 ?_
    refine lv_topi (fun x9 e10 => ?_)
    have r11 : rg x9 0 255 := rg_andr e10 ((rg_k (by decide)) : rg 255 255 255) (by decide)
    refine lv_goto (tgt := 22) hx hb dX12_sign_18 (by decide) ?_
    exact hret (x9) () H locs 22 ls rfl dX12_sign_22 hP hD hS ⟨r11, (Or.inr (by have := ((r11 : rg x9 0 255)).1; have := ((r11 : rg x9 0 255)).2; have := ((r6 : rg x1 1 1700)).1; have := ((r6 : rg x1 1 1700)).2; have := congrArg Int32.toInt e2; have := ((r5 : rg p1 0 1699)).1; have := ((r5 : rg p1 0 1699)).2; have := (iNE c4); omega))⟩
abbrev rm_X12_goOn_0 : Room := { frames := 1, cells := 0, slots := 0, locals := 21 }
set_option maxHeartbeats 4000000 in
set_option maxRecDepth 100000 in
theorem c_X12_goOn_0 (l : Launch) (D : va_G) (cA : Nat → ClassId) (sz : Nat) (ad : Nat → Nat) (F : Nat → Int32) (L : Nat → Int64) (A : Nat → Nat → Int32) (B : Nat → Nat → Int64)  (hT : typM F A) (hG : (F 5).toInt ≤ (F 1).toInt) : Met l yX12_goOn (Cond.code yX12_goOn cX12_goOn 3 none :: GW) rm_X12_goOn_0 (mPc D classes (tysM cA) (wM cA ad F L A B) sz [.ref (ad 0)]) (mQv (S := SW) D classes (tysM cA) (wM cA ad F L A B) sz (wfM cA ad) (fun u => qM [4, 5, 6, 7] [] F A u.1 u.2.2.1 ∧ (gP F u.1))) 0 0 (va_A (wM cA ad F L A B) sz) := by
  refine met_v (own := "ShoeingDayModel") (by decide +kernel) rfl (Nat.le_of_ble_eq_true rfl) ?_
  intro p e s m args below meth c Q Af ls hC hP hD hS hA hl hret
  have hx := hC.1
  have hb := hC.2.1
  have hown := hC.2.2.2.1
  have hg := hC.g
  have hK := hC.K
  have hl : lv_has ls 3 [(0, .ref (ad 0))] := hl
  have hq : qM [4, 5, 6, 7] [] F A F A := qM.rf hT
  obtain ⟨H, hH⟩ : ∃ H, H = s.heap := ⟨_, rfl⟩
  have hP : va_P D classes (wM cA ad F L A B) H := by rw [hH]; exact hP
  have hS : va_S Af s.heap H [] := by rw [hH]; exact hS
  obtain ⟨locs, hlo⟩ : ∃ q : List Loc, q = [] := ⟨_, rfl⟩
  rw [← hH, ← hlo]
  rw [← hlo] at hS
  refine lv_aload_n hx hb dX12_goOn_0 rfl (lv_at hl 0 rfl) ?_
  refine lv_aload_n hx hb dX12_goOn_1 rfl (lv_at hl 0 rfl) ?_
  refine va_get (ci := 12) (v := .int (F 5)) (C := RX12) (T := TX12) (N := 57) hx hb hg inX12 hown hK hP 0 atM_0 rfl 7 (by decide) (hg _ mw_1115) (fun _ h9 => h9) rfl dX12_goOn_2 ?_
  refine lv_topi (fun x1 e2 => ?_)
  have r3 : rg x1 0 1700 := (by have f1 : rg (F 1) 0 1700 := hq.1.1 1; have f2 : rg (F 5) 0 1701 := hq.1.1 5; have := hG; have := congrArg Int32.toInt e2; unfold rg at *; omega)
  refine va_put (ci := 12) (v := .int x1) (ty := .int) (C := RX12) (T := TX12) (N := 57) hx hb hg inX12 tyX12 tyX12_ok nmX12 hown hK hP hD hS 0 atM_0 rfl 6 (by decide) (hg _ mw_1114) (fun _ h9 => h9) rfl (by decide +kernel) rfl rfl (Nat.le_of_ble_eq_true rfl) dX12_goOn_5 (fun H locs hP hD hS => ?_)
  have hq := hq.put 4 (x := x1) (by decide) r3
  rw [setFM_4] at hP hD
  have J8 : ∀ (n8 : Nat) (F4 : Nat → Int32) (L4 : Nat → Int64) (A4 : Nat → Nat → Int32) (B4 : Nat → Nat → Int64) (H : Heap) (locs : List Loc) (ls : Array Slot), (1700 - (F4 4).toInt).toNat < n8 → qM [4, 5, 6, 7] [] F A F4 A4 → F4 5 = x1 → gI F F4 → va_P D classes (wM cA ad F4 L4 A4 B4) H → va_D Af (wM cA ad F4 L4 A4 B4) → va_S Af s.heap H locs → lv_has ls 3 [(0, .ref (ad 0))] → W p l e rm_X12_goOn_0 s m args below meth c H locs 0 0 Q (F0 m 8 ls []) := by
    intro n8
    induction n8 with
    | zero =>
      intro _ _ _ _ _ _ _ hn
      exact absurd hn (Nat.not_lt_zero _)
    | succ n8 ih8 =>
      intro F4 L4 A4 B4 H locs ls hn8 hq f5 v6 hP hD hS hl
      refine lv_aload_n hx hb dX12_goOn_8 rfl (lv_at hl 0 rfl) ?_
      refine va_get (ci := 12) (v := .int (F4 4)) (C := RX12) (T := TX12) (N := 57) hx hb hg inX12 hown hK hP 0 atM_0 rfl 6 (by decide) (hg _ mw_1114) (fun _ h9 => h9) rfl dX12_goOn_9 ?_
      refine lv_topi (fun x7 e8 => ?_)
      have r9 : rg x7 0 1700 := rg_e e8 (hq.1.1 4)
      refine lv_aload_n hx hb dX12_goOn_12 rfl (lv_at hl 0 rfl) ?_
      refine va_get (ci := 12) (v := .int (F4 1)) (C := RX12) (T := TX12) (N := 57) hx hb hg inX12 hown hK hP 0 atM_0 rfl 3 (by decide) (hg _ mw_1111) (fun _ h9 => h9) rfl dX12_goOn_13 ?_
      refine lv_topi (fun x10 e11 => ?_)
      have r12 : rg x10 0 1700 := rg_e e11 (hq.1.1 1)
      have J58 : ∀ (F13 : Nat → Int32) (L13 : Nat → Int64) (A13 : Nat → Nat → Int32) (B13 : Nat → Nat → Int64) (H : Heap) (locs : List Loc) (ls : Array Slot), qM [4, 5, 6, 7] [] F A F13 A13 → F13 1 = x10 → F13 4 = x7 → F13 5 = x1 → gI F F13 → va_P D classes (wM cA ad F13 L13 A13 B13) H → va_D Af (wM cA ad F13 L13 A13 B13) → va_S Af s.heap H locs → lv_has ls 3 [(0, .ref (ad 0))] → W p l e rm_X12_goOn_0 s m args below meth c H locs 0 0 Q (F0 m 58 ls []) := by
        intro F13 L13 A13 B13 H locs ls hq f14 f15 f16 v17 hP hD hS hl
        refine lv_aload_n hx hb dX12_goOn_58 rfl (lv_at hl 0 rfl) ?_
        refine lv_aload_n hx hb dX12_goOn_59 rfl (lv_at hl 0 rfl) ?_
        refine va_get (ci := 12) (v := .int x7) (C := RX12) (T := TX12) (N := 57) hx hb hg inX12 hown hK hP 0 atM_0 rfl 6 (by decide) (hg _ mw_1114) (fun _ h9 => h9) (congrArg (fun z => some (Value.int z)) (f15)) dX12_goOn_60 ?_
        refine callv_i (As := [.int x7]) (rest := []) hC (c_X12_sign_0 l D cA H.size ad F13 L13 A13 B13 (x7) hq.1 (rg_w r9 (by decide))) (cwV 1 hg (g_V mw_1292 mw_1289 mw_1291 ms_49 mw_20) rfl rfl rfl (by decide +kernel) ⟨(Nat.le_of_ble_eq_true rfl), (Nat.le_of_ble_eq_true rfl)⟩) hP hD hS hA atM_0 rfl rfl hl.1 rfl (Nat.le_of_ble_eq_true rfl) dX12_goOn_63 ⟨Nat.zero_le _, Nat.zero_le _⟩ (fun x18 u H locs hw hP hD hS => ?_)
        obtain ⟨r19, g20⟩ := hw
        have hP : va_P D classes (wM cA ad F13 L13 A13 B13) H := hP
        have hD : va_D Af (wM cA ad F13 L13 A13 B13) := hD
        refine lv_istore_n (lv' := [(1, .int x18), (0, .ref (ad 0))]) hx hb dX12_goOn_66 rfl hl (by decide) rfl (fun ls hl => ?_)
        refine lv_aload_n hx hb dX12_goOn_67 rfl (lv_at hl 1 rfl) ?_
        refine lv_aload_n hx hb dX12_goOn_68 rfl (lv_at hl 1 rfl) ?_
        refine va_get (ci := 12) (v := .int x7) (C := RX12) (T := TX12) (N := 57) hx hb hg inX12 hown hK hP 0 atM_0 rfl 6 (by decide) (hg _ mw_1114) (fun _ h9 => h9) (congrArg (fun z => some (Value.int z)) (f15)) dX12_goOn_69 ?_
        refine lv_iconst (v := 1) hx hb dX12_goOn_72 (by decide) ?_
        refine lv_iadd hx hb dX12_goOn_73 ?_
        refine lv_topi (fun x21 e22 => ?_)
        have r23 : rg x21 1 1701 := rg_add e22 r9 ((rg_k (by decide)) : rg 1 1 1) (by decide)
        refine va_put (ci := 12) (v := .int x21) (ty := .int) (C := RX12) (T := TX12) (N := 57) hx hb hg inX12 tyX12 tyX12_ok nmX12 hown hK hP hD hS 0 atM_0 rfl 7 (by decide) (hg _ mw_1115) (fun _ h9 => h9) rfl (by decide +kernel) rfl rfl (Nat.le_of_ble_eq_true rfl) dX12_goOn_74 (fun H locs hP hD hS => ?_)
        have hq := hq.put 5 (x := x21) (by decide) (rg_w r23 (by decide))
        rw [setFM_5] at hP hD
        refine lv_aload_n hx hb dX12_goOn_77 rfl (lv_at hl 1 rfl) ?_
        refine va_get (ci := 12) (v := .int x7) (C := RX12) (T := TX12) (N := 57) hx hb hg inX12 hown hK hP 0 atM_0 rfl 6 (by decide) (hg _ mw_1114) (fun _ h9 => h9) (congrArg (fun z => some (Value.int z)) (f15)) dX12_goOn_78 ?_
        refine lv_aload_n hx hb dX12_goOn_81 rfl (lv_at hl 1 rfl) ?_
        refine va_get (ci := 12) (v := .int x10) (C := RX12) (T := TX12) (N := 57) hx hb hg inX12 hown hK hP 0 atM_0 rfl 3 (by decide) (hg _ mw_1111) (fun _ h9 => h9) (congrArg (fun z => some (Value.int z)) (f14)) dX12_goOn_82 ?_
        refine lv_icmp_lt (tgt := 112) hx hb dX12_goOn_85 (by decide) (fun c24 => ?_) (fun c24 => ?_)
        · skip
          have r25 : rg x7 0 1699 := rg_lt1 (iL c24) (r9 : rg x7 0 1700) (r12 : rg x10 0 1700)
          have r26 : rg x10 1 1700 := rg_lt2 (iL c24) (r9 : rg x7 0 1700) (r12 : rg x10 0 1700)
          refine lv_iload_n hx hb dX12_goOn_112 rfl (lv_at hl 0 rfl) ?_
          refine calls_i (As := [.int x18]) (rest := []) hC (c_X12_isLetter l D (tysM cA) (wM cA ad (upd F13 5 x21) L13 A13 B13) H.size (x18) r19) (cwS 1 hg (g_S mw_1295 mw_1293 mw_1294 mw_20) rfl rfl rfl (by decide +kernel) ⟨(Nat.le_of_ble_eq_true rfl), (Nat.le_of_ble_eq_true rfl)⟩) hP hD hS hA rfl hl.1 rfl (Nat.le_of_ble_eq_true rfl) dX12_goOn_113 ⟨Nat.zero_le _, Nat.zero_le _⟩ (fun x27 u H locs hw hP hD hS => ?_)
          obtain ⟨r28, g29⟩ := hw
          have hP : va_P D classes (wM cA ad (upd F13 5 x21) L13 A13 B13) H := hP
          have hD : va_D Af (wM cA ad (upd F13 5 x21) L13 A13 B13) := hD
          refine lv_if_eq (tgt := 239) hx hb dX12_goOn_116 (by decide) (fun c30 => ?_) (fun c30 => ?_)
          · skip
            have r31 : rg x27 0 0 := rg_eq1 c30 (r28 : rg x27 0 1) ((rg_k (by decide)) : rg 0 0 0) (by decide)
            refine lv_iload_n hx hb dX12_goOn_239 rfl (lv_at hl 0 rfl) ?_
            refine calls_i (As := [.int x18]) (rest := []) hC (c_X12_isDigit l D (tysM cA) (wM cA ad (upd F13 5 x21) L13 A13 B13) H.size (x18) r19) (cwS 1 hg (g_S mw_1308 mw_1306 mw_1307 mw_20) rfl rfl rfl (by decide +kernel) ⟨(Nat.le_of_ble_eq_true rfl), (Nat.le_of_ble_eq_true rfl)⟩) hP hD hS hA rfl hl.1 rfl (Nat.le_of_ble_eq_true rfl) dX12_goOn_240 ⟨Nat.zero_le _, Nat.zero_le _⟩ (fun x33 u H locs hw hP hD hS => ?_)
            obtain ⟨r34, g35⟩ := hw
            have hP : va_P D classes (wM cA ad (upd F13 5 x21) L13 A13 B13) H := hP
            have hD : va_D Af (wM cA ad (upd F13 5 x21) L13 A13 B13) := hD
            refine lv_if_eq (tgt := 361) hx hb dX12_goOn_243 (by decide) (fun c36 => ?_) (fun c36 => ?_)
            · skip
              have r37 : rg x33 0 0 := rg_eq1 c36 (r34 : rg x33 0 1) ((rg_k (by decide)) : rg 0 0 0) (by decide)
              refine lv_aload_n hx hb dX12_goOn_361 rfl (lv_at hl 1 rfl) ?_
              refine lv_iload_n hx hb dX12_goOn_362 rfl (lv_at hl 0 rfl) ?_
              refine lv_bipush (v := 59) hx hb dX12_goOn_363 (by decide) ?_
              have J373 : ∀ (a39 : Int32) (F41 : Nat → Int32) (L41 : Nat → Int64) (A41 : Nat → Nat → Int32) (B41 : Nat → Nat → Int64) (H : Heap) (locs : List Loc) (ls : Array Slot), rg a39 1 5 → qM [4, 5, 6, 7] [] F A F41 A41 → gL F F41 → va_P D classes (wM cA ad F41 L41 A41 B41) H → va_D Af (wM cA ad F41 L41 A41 B41) → va_S Af s.heap H locs → lv_has ls 3 [] → W p l e rm_X12_goOn_0 s m args below meth c H locs 0 0 Q (F0 m 373 ls [.int a39, .ref (ad 0)]) := by
                intro a39 F41 L41 A41 B41 H locs ls r40 hq v42 hP hD hS hl
                refine va_put (ci := 12) (v := .int a39) (ty := .int) (C := RX12) (T := TX12) (N := 57) hx hb hg inX12 tyX12 tyX12_ok nmX12 hown hK hP hD hS 0 atM_0 rfl 8 (by decide) (hg _ mw_1116) (fun _ h9 => h9) rfl (by decide +kernel) rfl rfl (Nat.le_of_ble_eq_true rfl) dX12_goOn_373 (fun H locs hP hD hS => ?_)
                have hq := hq.put 6 (x := a39) (by decide) (rg_w r40 (by decide))
                rw [setFM_6] at hP hD
                exact hret ((upd F41 6 a39), L41, A41, B41) H locs 376 ls dX12_goOn_376 hP hD hS ⟨hq, (gP.of (t := (F41 4)) (e := (F41 5)) (z := (F41 1)) (k := a39) rfl rfl rfl (rfl) (by first | rfl | exact v6.2.2 | exact v17.2.2 | exact v42.2.2.2) (by have := hG; have f9 : rg (F41 1) 0 1700 := hq.1.1 1; have := f9.1; have := f9.2; have := ((r23 : rg x21 1 1701)).1; have := ((r23 : rg x21 1 1701)).2; have := tiA e22 (r25 : rg x7 0 1699) ((rg_k (by decide)) : rg (1 : Int32) 1 1) (by decide); have := ((r25 : rg x7 0 1699)).1; have := ((r25 : rg x7 0 1699)).2; have := congrArg Int32.toInt e8; have := ((r40 : rg a39 1 5)).1; have := ((r40 : rg a39 1 5)).2; have := congrArg Int32.toInt f5; have := congrArg Int32.toInt f14; have := congrArg Int32.toInt f15; have := congrArg Int32.toInt f16; have := (iL c24); have : (1 : Int32).toInt = 1 := rfl; have := congrArg Int32.toInt v6.2.2; have := v6; unfold gI at this; have := congrArg Int32.toInt v17.2.2; have := v17; unfold gI at this; have := congrArg Int32.toInt v42.2.2.2; have := v42; unfold gL at this; omega) (fun _ => by have := hG; have f9 : rg (F41 1) 0 1700 := hq.1.1 1; have := f9.1; have := f9.2; have := ((r23 : rg x21 1 1701)).1; have := ((r23 : rg x21 1 1701)).2; have := tiA e22 (r25 : rg x7 0 1699) ((rg_k (by decide)) : rg (1 : Int32) 1 1) (by decide); have := ((r25 : rg x7 0 1699)).1; have := ((r25 : rg x7 0 1699)).2; have := congrArg Int32.toInt e8; have := ((r40 : rg a39 1 5)).1; have := ((r40 : rg a39 1 5)).2; have := congrArg Int32.toInt f5; have := congrArg Int32.toInt f14; have := congrArg Int32.toInt f15; have := congrArg Int32.toInt f16; have := (iL c24); have : (1 : Int32).toInt = 1 := rfl; have := congrArg Int32.toInt v6.2.2; have := v6; unfold gI at this; have := congrArg Int32.toInt v17.2.2; have := v17; unfold gI at this; have := congrArg Int32.toInt v42.2.2.2; have := v42; unfold gL at this; omega))⟩
              refine lv_icmp_ne (tgt := 372) hx hb dX12_goOn_365 (by decide) (fun c43 => ?_) (fun c43 => ?_)
              · skip
                refine lv_iconst (v := 1) hx hb dX12_goOn_372 (by decide) ?_
                exact J373 (1) ((upd F13 5 x21)) (L13) (A13) (B13) H locs ls (rg_k (by decide)) hq (gL.of (t := x7) (e := x21) (z := x10) (f15) (rfl) (f14) (by first | rfl | exact v6.2.2 | exact v17.2.2 | exact e11 | exact (e11).trans (v6.2.2) | exact (e11).trans (v17.2.2)) (by have := hG; have f9 : rg (F13 1) 0 1700 := hq.1.1 1; have := f9.1; have := f9.2; have := ((r23 : rg x21 1 1701)).1; have := ((r23 : rg x21 1 1701)).2; have := tiA e22 (r25 : rg x7 0 1699) ((rg_k (by decide)) : rg (1 : Int32) 1 1) (by decide); have := ((r25 : rg x7 0 1699)).1; have := ((r25 : rg x7 0 1699)).2; have := congrArg Int32.toInt e8; have := ((r26 : rg x10 1 1700)).1; have := ((r26 : rg x10 1 1700)).2; have := congrArg Int32.toInt e11; have := ((r19 : rg x18 0 255)).1; have := ((r19 : rg x18 0 255)).2; have := congrArg Int32.toInt f5; have := congrArg Int32.toInt f14; have := congrArg Int32.toInt f15; have := congrArg Int32.toInt f16; have := (iL c24); have : (1 : Int32).toInt = 1 := rfl; have := congrArg Int32.toInt v6.2.2; have := v6; unfold gI at this; have := congrArg Int32.toInt v17.2.2; have := v17; unfold gI at this; omega)) hP hD hS (lv_sub hl [] rfl)
              · skip
                have r44 : rg x18 59 59 := rg_eq1 c43 (r19 : rg x18 0 255) ((rg_k (by decide)) : rg 59 59 59) (by decide)
                refine lv_iconst (v := 5) hx hb dX12_goOn_368 (by decide) ?_
                refine lv_goto (tgt := 373) hx hb dX12_goOn_369 (by decide) ?_
                exact J373 (5) ((upd F13 5 x21)) (L13) (A13) (B13) H locs ls (rg_k (by decide)) hq (gL.of (t := x7) (e := x21) (z := x10) (f15) (rfl) (f14) (by first | rfl | exact v6.2.2 | exact v17.2.2 | exact e11 | exact (e11).trans (v6.2.2) | exact (e11).trans (v17.2.2)) (by have := hG; have f9 : rg (F13 1) 0 1700 := hq.1.1 1; have := f9.1; have := f9.2; have := ((r23 : rg x21 1 1701)).1; have := ((r23 : rg x21 1 1701)).2; have := tiA e22 (r25 : rg x7 0 1699) ((rg_k (by decide)) : rg (1 : Int32) 1 1) (by decide); have := ((r25 : rg x7 0 1699)).1; have := ((r25 : rg x7 0 1699)).2; have := congrArg Int32.toInt e8; have := ((r26 : rg x10 1 1700)).1; have := ((r26 : rg x10 1 1700)).2; have := congrArg Int32.toInt e11; have := ((r44 : rg x18 59 59)).1; have := ((r44 : rg x18 59 59)).2; have := congrArg Int32.toInt f5; have := congrArg Int32.toInt f14; have := congrArg Int32.toInt f15; have := congrArg Int32.toInt f16; have := (iL c24); have : (1 : Int32).toInt = 1 := rfl; have : (5 : Int32).toInt = 5 := rfl; have := congrArg Int32.toInt v6.2.2; have := v6; unfold gI at this; have := congrArg Int32.toInt v17.2.2; have := v17; unfold gI at this; omega)) hP hD hS (lv_sub hl [] rfl)
            · skip
              have g38 := g35.resolve_left c36
              refine lv_aload_n hx hb dX12_goOn_246 rfl (lv_at hl 1 rfl) ?_
              refine lv_iconst (v := 0) hx hb dX12_goOn_247 (by decide) ?_
              refine va_put (ci := 12) (v := .int 0) (ty := .int) (C := RX12) (T := TX12) (N := 57) hx hb hg inX12 tyX12 tyX12_ok nmX12 hown hK hP hD hS 0 atM_0 rfl 9 (by decide) (hg _ mw_1117) (fun _ h9 => h9) rfl (by decide +kernel) rfl rfl (Nat.le_of_ble_eq_true rfl) dX12_goOn_248 (fun H locs hP hD hS => ?_)
              have hq := hq.put 7 (x := 0) (by decide) (rg_k (by decide))
              rw [setFM_7] at hP hD
              refine lv_aload_n hx hb dX12_goOn_251 rfl (lv_at hl 1 rfl) ?_
              refine lv_aload_n hx hb dX12_goOn_252 rfl (lv_at hl 1 rfl) ?_
              refine va_get (ci := 12) (v := .int x7) (C := RX12) (T := TX12) (N := 57) hx hb hg inX12 hown hK hP 0 atM_0 rfl 6 (by decide) (hg _ mw_1114) (fun _ h9 => h9) (congrArg (fun z => some (Value.int z)) (f15)) dX12_goOn_253 ?_
              refine va_put (ci := 12) (v := .int x7) (ty := .int) (C := RX12) (T := TX12) (N := 57) hx hb hg inX12 tyX12 tyX12_ok nmX12 hown hK hP hD hS 0 atM_0 rfl 7 (by decide) (hg _ mw_1115) (fun _ h9 => h9) rfl (by decide +kernel) rfl rfl (Nat.le_of_ble_eq_true rfl) dX12_goOn_256 (fun H locs hP hD hS => ?_)
              have hq := hq.put 5 (x := x7) (by decide) (rg_w r25 (by decide))
              rw [setFM_5] at hP hD
              have J259 : ∀ (n259 : Nat) (F45 : Nat → Int32) (L45 : Nat → Int64) (A45 : Nat → Nat → Int32) (B45 : Nat → Nat → Int64) (H : Heap) (locs : List Loc) (ls : Array Slot), (1701 - (F45 5).toInt).toNat < n259 → qM [4, 5, 6, 7] [] F A F45 A45 → F45 4 = x7 → gD F F45 → va_P D classes (wM cA ad F45 L45 A45 B45) H → va_D Af (wM cA ad F45 L45 A45 B45) → va_S Af s.heap H locs → lv_has ls 3 [(0, .ref (ad 0))] → W p l e rm_X12_goOn_0 s m args below meth c H locs 0 0 Q (F0 m 259 ls []) := by
                intro n259
                induction n259 with
                | zero =>
                  intro _ _ _ _ _ _ _ hn
                  exact absurd hn (Nat.not_lt_zero _)
                | succ n259 ih259 =>
                  intro F45 L45 A45 B45 H locs ls hn259 hq f46 v47 hP hD hS hl
                  refine lv_aload_n hx hb dX12_goOn_259 rfl (lv_at hl 0 rfl) ?_
                  refine lv_aload_n hx hb dX12_goOn_260 rfl (lv_at hl 0 rfl) ?_
                  refine va_get (ci := 12) (v := .int (F45 5)) (C := RX12) (T := TX12) (N := 57) hx hb hg inX12 hown hK hP 0 atM_0 rfl 7 (by decide) (hg _ mw_1115) (fun _ h9 => h9) rfl dX12_goOn_261 ?_
                  refine lv_topi (fun x48 e49 => ?_)
                  have r50 : rg x48 0 1701 := rg_e e49 (hq.1.1 5)
                  refine callv_i (As := [.int x48]) (rest := []) hC (c_X12_sign_0 l D cA H.size ad F45 L45 A45 B45 (x48) hq.1 r50) (cwV 1 hg (g_V mw_1292 mw_1289 mw_1291 ms_49 mw_20) rfl rfl rfl (by decide +kernel) ⟨(Nat.le_of_ble_eq_true rfl), (Nat.le_of_ble_eq_true rfl)⟩) hP hD hS hA atM_0 rfl rfl hl.1 rfl (Nat.le_of_ble_eq_true rfl) dX12_goOn_264 ⟨Nat.zero_le _, Nat.zero_le _⟩ (fun x51 u H locs hw hP hD hS => ?_)
                  obtain ⟨r52, g53⟩ := hw
                  have hP : va_P D classes (wM cA ad F45 L45 A45 B45) H := hP
                  have hD : va_D Af (wM cA ad F45 L45 A45 B45) := hD
                  refine calls_i (As := [.int x51]) (rest := []) hC (c_X12_isDigit l D (tysM cA) (wM cA ad F45 L45 A45 B45) H.size (x51) r52) (cwS 1 hg (g_S mw_1308 mw_1306 mw_1307 mw_20) rfl rfl rfl (by decide +kernel) ⟨(Nat.le_of_ble_eq_true rfl), (Nat.le_of_ble_eq_true rfl)⟩) hP hD hS hA rfl hl.1 rfl (Nat.le_of_ble_eq_true rfl) dX12_goOn_267 ⟨Nat.zero_le _, Nat.zero_le _⟩ (fun x54 u H locs hw hP hD hS => ?_)
                  obtain ⟨r55, g56⟩ := hw
                  have hP : va_P D classes (wM cA ad F45 L45 A45 B45) H := hP
                  have hD : va_D Af (wM cA ad F45 L45 A45 B45) := hD
                  refine lv_if_eq (tgt := 322) hx hb dX12_goOn_270 (by decide) (fun c57 => ?_) (fun c57 => ?_)
                  · skip
                    have r58 : rg x54 0 0 := rg_eq1 c57 (r55 : rg x54 0 1) ((rg_k (by decide)) : rg 0 0 0) (by decide)
                    refine lv_aload_n hx hb dX12_goOn_322 rfl (lv_at hl 0 rfl) ?_
                    refine lv_aload_n hx hb dX12_goOn_323 rfl (lv_at hl 0 rfl) ?_
                    refine va_get (ci := 12) (v := .int x48) (C := RX12) (T := TX12) (N := 57) hx hb hg inX12 hown hK hP 0 atM_0 rfl 7 (by decide) (hg _ mw_1115) (fun _ h9 => h9) (congrArg (fun z => some (Value.int z)) (e49.symm)) dX12_goOn_324 ?_
                    refine lv_aload_n hx hb dX12_goOn_327 rfl (lv_at hl 0 rfl) ?_
                    refine va_get (ci := 12) (v := .int x7) (C := RX12) (T := TX12) (N := 57) hx hb hg inX12 hown hK hP 0 atM_0 rfl 6 (by decide) (hg _ mw_1114) (fun _ h9 => h9) (congrArg (fun z => some (Value.int z)) (f46)) dX12_goOn_328 ?_
                    refine lv_isub hx hb dX12_goOn_331 ?_
                    refine lv_topi (fun x60 e61 => ?_)
                    have r62 : rg x60 (-1699) 1701 := rg_sub e61 r50 r25 (by decide)
                    refine lv_iconst (v := 4) hx hb dX12_goOn_332 (by decide) ?_
                    have J350 : ∀ (F63 : Nat → Int32) (L63 : Nat → Int64) (A63 : Nat → Nat → Int32) (B63 : Nat → Nat → Int64) (H : Heap) (locs : List Loc) (ls : Array Slot), qM [4, 5, 6, 7] [] F A F63 A63 → gD F F63 → va_P D classes (wM cA ad F63 L63 A63 B63) H → va_D Af (wM cA ad F63 L63 A63 B63) → va_S Af s.heap H locs → lv_has ls 3 [] → W p l e rm_X12_goOn_0 s m args below meth c H locs 0 0 Q (F0 m 350 ls [.ref (ad 0)]) := by
                      intro F63 L63 A63 B63 H locs ls hq v64 hP hD hS hl
                      refine lv_iconst (v := 1) hx hb dX12_goOn_350 (by decide) ?_
                      refine lv_goto (tgt := 355) hx hb dX12_goOn_351 (by decide) ?_
                      refine va_put (ci := 12) (v := .int 1) (ty := .int) (C := RX12) (T := TX12) (N := 57) hx hb hg inX12 tyX12 tyX12_ok nmX12 hown hK hP hD hS 0 atM_0 rfl 8 (by decide) (hg _ mw_1116) (fun _ h9 => h9) rfl (by decide +kernel) rfl rfl (Nat.le_of_ble_eq_true rfl) dX12_goOn_355 (fun H locs hP hD hS => ?_)
                      have hq := hq.put 6 (x := 1) (by decide) (rg_k (by decide))
                      rw [setFM_6] at hP hD
                      refine lv_goto (tgt := 376) hx hb dX12_goOn_358 (by decide) ?_
                      exact hret ((upd F63 6 (1 : Int32)), L63, A63, B63) H locs 376 ls dX12_goOn_376 hP hD hS ⟨hq, (gP.of (t := (F63 4)) (e := (F63 5)) (z := (F63 1)) (k := (1 : Int32)) rfl rfl rfl (rfl) (by first | rfl | exact v6.2.2 | exact v17.2.2 | exact v47.2.2.2 | exact v64.2.2.2) (by have := hG; have f9 : rg (F63 1) 0 1700 := hq.1.1 1; have := f9.1; have := f9.2; have := ((r62 : rg x60 (-1699) 1701)).1; have := ((r62 : rg x60 (-1699) 1701)).2; have := tiS e61 (r50 : rg x48 0 1701) (r25 : rg x7 0 1699) (by decide); have := ((r25 : rg x7 0 1699)).1; have := ((r25 : rg x7 0 1699)).2; have := congrArg Int32.toInt e8; have := ((r50 : rg x48 0 1701)).1; have := ((r50 : rg x48 0 1701)).2; have := congrArg Int32.toInt e49; have := ((r23 : rg x21 1 1701)).1; have := ((r23 : rg x21 1 1701)).2; have := tiA e22 (r25 : rg x7 0 1699) ((rg_k (by decide)) : rg (1 : Int32) 1 1) (by decide); have := congrArg Int32.toInt f5; have := congrArg Int32.toInt f14; have := congrArg Int32.toInt f15; have := congrArg Int32.toInt f16; have := congrArg Int32.toInt f46; have := (iL c24); have : (1 : Int32).toInt = 1 := rfl; have := congrArg Int32.toInt v6.2.2; have := v6; unfold gI at this; have := congrArg Int32.toInt v17.2.2; have := v17; unfold gI at this; have := congrArg Int32.toInt v47.2.2.2; have := v47; unfold gD at this; have := congrArg Int32.toInt v64.2.2.2; have := v64; unfold gD at this; omega) (fun h => absurd h (by decide)))⟩
                    refine lv_icmp_gt (tgt := 350) hx hb dX12_goOn_333 (by decide) (fun c65 => ?_) (fun c65 => ?_)
                    · skip
                      have r66 : rg x60 5 1701 := rg_lt2 (iL c65) ((rg_k (by decide)) : rg 4 4 4) (r62 : rg x60 (-1699) 1701)
                      exact J350 (F45) (L45) (A45) (B45) H locs ls hq (gD.of (t := x7) (e := x48) (z := (F45 1)) (f46) (e49.symm) rfl (by first | rfl | exact v6.2.2 | exact v17.2.2 | exact v47.2.2.2) (by have := hG; have f9 : rg (F45 1) 0 1700 := hq.1.1 1; have := f9.1; have := f9.2; have := ((r66 : rg x60 5 1701)).1; have := ((r66 : rg x60 5 1701)).2; have := tiS e61 (r50 : rg x48 0 1701) (r25 : rg x7 0 1699) (by decide); have := ((r25 : rg x7 0 1699)).1; have := ((r25 : rg x7 0 1699)).2; have := congrArg Int32.toInt e8; have := ((r50 : rg x48 0 1701)).1; have := ((r50 : rg x48 0 1701)).2; have := congrArg Int32.toInt e49; have := ((r23 : rg x21 1 1701)).1; have := ((r23 : rg x21 1 1701)).2; have := tiA e22 (r25 : rg x7 0 1699) ((rg_k (by decide)) : rg (1 : Int32) 1 1) (by decide); have := congrArg Int32.toInt f5; have := congrArg Int32.toInt f14; have := congrArg Int32.toInt f15; have := congrArg Int32.toInt f16; have := congrArg Int32.toInt f46; have := (iL c24); have := (iL c65); have : (1 : Int32).toInt = 1 := rfl; have := congrArg Int32.toInt v6.2.2; have := v6; unfold gI at this; have := congrArg Int32.toInt v17.2.2; have := v17; unfold gI at this; have := congrArg Int32.toInt v47.2.2.2; have := v47; unfold gD at this; omega)) hP hD hS (lv_sub hl [] rfl)
                    · skip
                      have r67 : rg x60 (-1699) 4 := rg_le1 (iNL c65) (r62 : rg x60 (-1699) 1701) ((rg_k (by decide)) : rg 4 4 4)
                      refine lv_aload_n hx hb dX12_goOn_336 rfl (lv_at hl 0 rfl) ?_
                      refine lv_aload_n hx hb dX12_goOn_337 rfl (lv_at hl 0 rfl) ?_
                      refine va_get (ci := 12) (v := .int x48) (C := RX12) (T := TX12) (N := 57) hx hb hg inX12 hown hK hP 0 atM_0 rfl 7 (by decide) (hg _ mw_1115) (fun _ h9 => h9) (congrArg (fun z => some (Value.int z)) (e49.symm)) dX12_goOn_338 ?_
                      refine callv_i (As := [.int x48]) (rest := [.ref (ad 0)]) hC (c_X12_sign_0 l D cA H.size ad F45 L45 A45 B45 (x48) hq.1 r50) (cwV 1 hg (g_V mw_1292 mw_1289 mw_1291 ms_49 mw_20) rfl rfl rfl (by decide +kernel) ⟨(Nat.le_of_ble_eq_true rfl), (Nat.le_of_ble_eq_true rfl)⟩) hP hD hS hA atM_0 rfl rfl hl.1 rfl (Nat.le_of_ble_eq_true rfl) dX12_goOn_341 ⟨Nat.zero_le _, Nat.zero_le _⟩ (fun x68 u H locs hw hP hD hS => ?_)
                      obtain ⟨r69, g70⟩ := hw
                      have hP : va_P D classes (wM cA ad F45 L45 A45 B45) H := hP
                      have hD : va_D Af (wM cA ad F45 L45 A45 B45) := hD
                      refine calls_i (As := [.int x68]) (rest := [.ref (ad 0)]) hC (c_X12_isLetter l D (tysM cA) (wM cA ad F45 L45 A45 B45) H.size (x68) r69) (cwS 1 hg (g_S mw_1295 mw_1293 mw_1294 mw_20) rfl rfl rfl (by decide +kernel) ⟨(Nat.le_of_ble_eq_true rfl), (Nat.le_of_ble_eq_true rfl)⟩) hP hD hS hA rfl hl.1 rfl (Nat.le_of_ble_eq_true rfl) dX12_goOn_344 ⟨Nat.zero_le _, Nat.zero_le _⟩ (fun x71 u H locs hw hP hD hS => ?_)
                      obtain ⟨r72, g73⟩ := hw
                      have hP : va_P D classes (wM cA ad F45 L45 A45 B45) H := hP
                      have hD : va_D Af (wM cA ad F45 L45 A45 B45) := hD
                      refine lv_if_eq (tgt := 354) hx hb dX12_goOn_347 (by decide) (fun c74 => ?_) (fun c74 => ?_)
                      · skip
                        have r75 : rg x71 0 0 := rg_eq1 c74 (r72 : rg x71 0 1) ((rg_k (by decide)) : rg 0 0 0) (by decide)
                        refine lv_iconst (v := 4) hx hb dX12_goOn_354 (by decide) ?_
                        refine va_put (ci := 12) (v := .int 4) (ty := .int) (C := RX12) (T := TX12) (N := 57) hx hb hg inX12 tyX12 tyX12_ok nmX12 hown hK hP hD hS 0 atM_0 rfl 8 (by decide) (hg _ mw_1116) (fun _ h9 => h9) rfl (by decide +kernel) rfl rfl (Nat.le_of_ble_eq_true rfl) dX12_goOn_355 (fun H locs hP hD hS => ?_)
                        have hq := hq.put 6 (x := 4) (by decide) (rg_k (by decide))
                        rw [setFM_6] at hP hD
                        refine lv_goto (tgt := 376) hx hb dX12_goOn_358 (by decide) ?_
                        exact hret ((upd F45 6 (4 : Int32)), L45, A45, B45) H locs 376 ls dX12_goOn_376 hP hD hS ⟨hq, (gP.of (t := x7) (e := x48) (z := (F45 1)) (k := (4 : Int32)) (f46) (e49.symm) rfl (rfl) (by first | rfl | exact v6.2.2 | exact v17.2.2 | exact v47.2.2.2) (by have := hG; have f9 : rg (F45 1) 0 1700 := hq.1.1 1; have := f9.1; have := f9.2; have := ((r67 : rg x60 (-1699) 4)).1; have := ((r67 : rg x60 (-1699) 4)).2; have := tiS e61 (r50 : rg x48 0 1701) (r25 : rg x7 0 1699) (by decide); have := ((r25 : rg x7 0 1699)).1; have := ((r25 : rg x7 0 1699)).2; have := congrArg Int32.toInt e8; have := ((r50 : rg x48 0 1701)).1; have := ((r50 : rg x48 0 1701)).2; have := congrArg Int32.toInt e49; have := ((r23 : rg x21 1 1701)).1; have := ((r23 : rg x21 1 1701)).2; have := tiA e22 (r25 : rg x7 0 1699) ((rg_k (by decide)) : rg (1 : Int32) 1 1) (by decide); have := congrArg Int32.toInt f5; have := congrArg Int32.toInt f14; have := congrArg Int32.toInt f15; have := congrArg Int32.toInt f16; have := congrArg Int32.toInt f46; have := (iL c24); have := (iNL c65); have : (1 : Int32).toInt = 1 := rfl; have : (4 : Int32).toInt = 4 := rfl; have := congrArg Int32.toInt v6.2.2; have := v6; unfold gI at this; have := congrArg Int32.toInt v17.2.2; have := v17; unfold gI at this; have := congrArg Int32.toInt v47.2.2.2; have := v47; unfold gD at this; omega) (fun h => absurd h (by decide)))⟩
                      · skip
                        have g76 := g73.resolve_left c74
                        exact J350 (F45) (L45) (A45) (B45) H locs ls hq (gD.of (t := x7) (e := x48) (z := (F45 1)) (f46) (e49.symm) rfl (by first | rfl | exact v6.2.2 | exact v17.2.2 | exact v47.2.2.2) (by have := hG; have f9 : rg (F45 1) 0 1700 := hq.1.1 1; have := f9.1; have := f9.2; have := ((r67 : rg x60 (-1699) 4)).1; have := ((r67 : rg x60 (-1699) 4)).2; have := tiS e61 (r50 : rg x48 0 1701) (r25 : rg x7 0 1699) (by decide); have := ((r25 : rg x7 0 1699)).1; have := ((r25 : rg x7 0 1699)).2; have := congrArg Int32.toInt e8; have := ((r50 : rg x48 0 1701)).1; have := ((r50 : rg x48 0 1701)).2; have := congrArg Int32.toInt e49; have := ((r23 : rg x21 1 1701)).1; have := ((r23 : rg x21 1 1701)).2; have := tiA e22 (r25 : rg x7 0 1699) ((rg_k (by decide)) : rg (1 : Int32) 1 1) (by decide); have := congrArg Int32.toInt f5; have := congrArg Int32.toInt f14; have := congrArg Int32.toInt f15; have := congrArg Int32.toInt f16; have := congrArg Int32.toInt f46; have := (iL c24); have := (iNL c65); have : (1 : Int32).toInt = 1 := rfl; have := congrArg Int32.toInt v6.2.2; have := v6; unfold gI at this; have := congrArg Int32.toInt v17.2.2; have := v17; unfold gI at this; have := congrArg Int32.toInt v47.2.2.2; have := v47; unfold gD at this; omega)) hP hD hS (lv_sub hl [] rfl)
                  · skip
                    have g59 := g56.resolve_left c57
                    refine lv_aload_n hx hb dX12_goOn_273 rfl (lv_at hl 0 rfl) ?_
                    refine va_get (ci := 12) (v := .int x48) (C := RX12) (T := TX12) (N := 57) hx hb hg inX12 hown hK hP 0 atM_0 rfl 7 (by decide) (hg _ mw_1115) (fun _ h9 => h9) (congrArg (fun z => some (Value.int z)) (e49.symm)) dX12_goOn_274 ?_
                    refine lv_aload_n hx hb dX12_goOn_277 rfl (lv_at hl 0 rfl) ?_
                    refine va_get (ci := 12) (v := .int x7) (C := RX12) (T := TX12) (N := 57) hx hb hg inX12 hown hK hP 0 atM_0 rfl 6 (by decide) (hg _ mw_1114) (fun _ h9 => h9) (congrArg (fun z => some (Value.int z)) (f46)) dX12_goOn_278 ?_
                    refine lv_isub hx hb dX12_goOn_281 ?_
                    refine lv_topi (fun x77 e78 => ?_)
                    have r79 : rg x77 (-1699) 1701 := rg_sub e78 r50 r25 (by decide)
                    refine lv_iconst (v := 4) hx hb dX12_goOn_282 (by decide) ?_
                    have J309 : ∀ (F80 : Nat → Int32) (L80 : Nat → Int64) (A80 : Nat → Nat → Int32) (B80 : Nat → Nat → Int64) (H : Heap) (locs : List Loc) (ls : Array Slot), qM [4, 5, 6, 7] [] F A F80 A80 → F80 4 = x7 → F80 5 = x48 → gD F F80 → va_P D classes (wM cA ad F80 L80 A80 B80) H → va_D Af (wM cA ad F80 L80 A80 B80) → va_S Af s.heap H locs → lv_has ls 3 [(0, .ref (ad 0))] → W p l e rm_X12_goOn_0 s m args below meth c H locs 0 0 Q (F0 m 309 ls []) := by
                      intro F80 L80 A80 B80 H locs ls hq f81 f82 v83 hP hD hS hl
                      refine lv_aload_n hx hb dX12_goOn_309 rfl (lv_at hl 0 rfl) ?_
                      refine lv_dup hx hb dX12_goOn_310 rfl ?_
                      refine va_get (ci := 12) (v := .int x48) (C := RX12) (T := TX12) (N := 57) hx hb hg inX12 hown hK hP 0 atM_0 rfl 7 (by decide) (hg _ mw_1115) (fun _ h9 => h9) (congrArg (fun z => some (Value.int z)) (f82)) dX12_goOn_311 ?_
                      refine lv_iconst (v := 1) hx hb dX12_goOn_314 (by decide) ?_
                      refine lv_iadd hx hb dX12_goOn_315 ?_
                      refine lv_topi (fun x84 e85 => ?_)
                      have f86 := sgn_lt g53 g59 (by decide)
                      have r87 : rg x84 1 1700 := (by have := f86; have f9 : rg (F80 1) 0 1700 := hq.1.1 1; have := f9.1; have := f9.2; have := tiA e85 (r50 : rg x48 0 1701) (rg_k (by decide) : rg 1 1 1) (by decide); have : (1 : Int32).toInt = 1 := rfl; have := tiA e85 (r50 : rg x48 0 1701) ((rg_k (by decide)) : rg (1 : Int32) 1 1) (by decide); have := ((r50 : rg x48 0 1701)).1; have := ((r50 : rg x48 0 1701)).2; have := congrArg Int32.toInt e49; have := ((r79 : rg x77 (-1699) 1701)).1; have := ((r79 : rg x77 (-1699) 1701)).2; have := tiS e78 (r50 : rg x48 0 1701) (r25 : rg x7 0 1699) (by decide); have := ((r25 : rg x7 0 1699)).1; have := ((r25 : rg x7 0 1699)).2; have := congrArg Int32.toInt e8; have := ((r23 : rg x21 1 1701)).1; have := ((r23 : rg x21 1 1701)).2; have := tiA e22 (r25 : rg x7 0 1699) ((rg_k (by decide)) : rg (1 : Int32) 1 1) (by decide); have := congrArg Int32.toInt f5; have := congrArg Int32.toInt f14; have := congrArg Int32.toInt f15; have := congrArg Int32.toInt f16; have := congrArg Int32.toInt f46; have := congrArg Int32.toInt f81; have := congrArg Int32.toInt f82; have := (iL c24); have := f86; have : (1 : Int32).toInt = 1 := rfl; have := congrArg Int32.toInt v6.2.2; have := v6; unfold gI at this; have := congrArg Int32.toInt v17.2.2; have := v17; unfold gI at this; have := congrArg Int32.toInt v47.2.2.2; have := v47; unfold gD at this; have := congrArg Int32.toInt v83.2.2.2; have := v83; unfold gD at this; unfold rg at *; omega)
                      refine va_put (ci := 12) (v := .int x84) (ty := .int) (C := RX12) (T := TX12) (N := 57) hx hb hg inX12 tyX12 tyX12_ok nmX12 hown hK hP hD hS 0 atM_0 rfl 7 (by decide) (hg _ mw_1115) (fun _ h9 => h9) rfl (by decide +kernel) rfl rfl (Nat.le_of_ble_eq_true rfl) dX12_goOn_316 (fun H locs hP hD hS => ?_)
                      have hq := hq.put 5 (x := x84) (by decide) (rg_w r87 (by decide))
                      rw [setFM_5] at hP hD
                      refine lv_goto (tgt := 259) hx hb dX12_goOn_319 (by decide) ?_
                      exact ih259 ((upd F80 5 x84)) (L80) (A80) (B80) H locs ls (by have h0 : (1 : Int32).toInt = 1 := rfl; have h1 := ti_addk e85 r50 (by decide); have h2 := ((rg_w r87 (by decide)) : rg x84 0 1701); have h3 : (upd F80 5 x84) 5 = x84 := rfl; have h4 := hn259; have h5 := (e49).symm; rw [h3]; rw [h5] at h4; unfold rg at h2; omega) hq (f81) (gD.of (t := x7) (e := x84) (z := (F80 1)) (f81) (rfl) rfl (by first | rfl | exact v6.2.2 | exact v17.2.2 | exact v47.2.2.2 | exact v83.2.2.2) (by have := hG; have f9 : rg (F80 1) 0 1700 := hq.1.1 1; have := f9.1; have := f9.2; have := ((r87 : rg x84 1 1700)).1; have := ((r87 : rg x84 1 1700)).2; have := tiA e85 (r50 : rg x48 0 1701) ((rg_k (by decide)) : rg (1 : Int32) 1 1) (by decide); have := ((r50 : rg x48 0 1701)).1; have := ((r50 : rg x48 0 1701)).2; have := congrArg Int32.toInt e49; have := ((r79 : rg x77 (-1699) 1701)).1; have := ((r79 : rg x77 (-1699) 1701)).2; have := tiS e78 (r50 : rg x48 0 1701) (r25 : rg x7 0 1699) (by decide); have := ((r25 : rg x7 0 1699)).1; have := ((r25 : rg x7 0 1699)).2; have := congrArg Int32.toInt e8; have := ((r23 : rg x21 1 1701)).1; have := ((r23 : rg x21 1 1701)).2; have := tiA e22 (r25 : rg x7 0 1699) ((rg_k (by decide)) : rg (1 : Int32) 1 1) (by decide); have := congrArg Int32.toInt f5; have := congrArg Int32.toInt f14; have := congrArg Int32.toInt f15; have := congrArg Int32.toInt f16; have := congrArg Int32.toInt f46; have := congrArg Int32.toInt f81; have := congrArg Int32.toInt f82; have := (iL c24); have := f86; have : (1 : Int32).toInt = 1 := rfl; have := congrArg Int32.toInt v6.2.2; have := v6; unfold gI at this; have := congrArg Int32.toInt v17.2.2; have := v17; unfold gI at this; have := congrArg Int32.toInt v47.2.2.2; have := v47; unfold gD at this; have := congrArg Int32.toInt v83.2.2.2; have := v83; unfold gD at this; omega)) hP hD hS (lv_sub hl [0] rfl)
                    refine lv_icmp_ge (tgt := 309) hx hb dX12_goOn_283 (by decide) (fun c88 => ?_) (fun c88 => ?_)
                    · skip
                      have r89 : rg x77 4 1701 := rg_le2 (iE c88) ((rg_k (by decide)) : rg 4 4 4) (r79 : rg x77 (-1699) 1701)
                      exact J309 (F45) (L45) (A45) (B45) H locs ls hq (f46) (e49.symm) (gD.of (t := x7) (e := x48) (z := (F45 1)) (f46) (e49.symm) rfl (by first | rfl | exact v6.2.2 | exact v17.2.2 | exact v47.2.2.2) (by have := hG; have f9 : rg (F45 1) 0 1700 := hq.1.1 1; have := f9.1; have := f9.2; have := ((r89 : rg x77 4 1701)).1; have := ((r89 : rg x77 4 1701)).2; have := tiS e78 (r50 : rg x48 0 1701) (r25 : rg x7 0 1699) (by decide); have := ((r25 : rg x7 0 1699)).1; have := ((r25 : rg x7 0 1699)).2; have := congrArg Int32.toInt e8; have := ((r50 : rg x48 0 1701)).1; have := ((r50 : rg x48 0 1701)).2; have := congrArg Int32.toInt e49; have := ((r23 : rg x21 1 1701)).1; have := ((r23 : rg x21 1 1701)).2; have := tiA e22 (r25 : rg x7 0 1699) ((rg_k (by decide)) : rg (1 : Int32) 1 1) (by decide); have := congrArg Int32.toInt f5; have := congrArg Int32.toInt f14; have := congrArg Int32.toInt f15; have := congrArg Int32.toInt f16; have := congrArg Int32.toInt f46; have := (iL c24); have := (iE c88); have : (1 : Int32).toInt = 1 := rfl; have := congrArg Int32.toInt v6.2.2; have := v6; unfold gI at this; have := congrArg Int32.toInt v17.2.2; have := v17; unfold gI at this; have := congrArg Int32.toInt v47.2.2.2; have := v47; unfold gD at this; omega)) hP hD hS (lv_sub hl [0] rfl)
                    · skip
                      have r90 : rg x77 (-1699) 3 := rg_lt1 (iNE c88) (r79 : rg x77 (-1699) 1701) ((rg_k (by decide)) : rg 4 4 4)
                      refine lv_aload_n hx hb dX12_goOn_286 rfl (lv_at hl 0 rfl) ?_
                      refine lv_bipush (v := 10) hx hb dX12_goOn_287 (by decide) ?_
                      refine lv_aload_n hx hb dX12_goOn_289 rfl (lv_at hl 0 rfl) ?_
                      refine va_get (ci := 12) (v := .int (F45 7)) (C := RX12) (T := TX12) (N := 57) hx hb hg inX12 hown hK hP 0 atM_0 rfl 9 (by decide) (hg _ mw_1117) (fun _ h9 => h9) rfl dX12_goOn_290 ?_
                      refine lv_topi (fun x91 e92 => ?_)
                      refine lv_imul hx hb dX12_goOn_293 ?_
                      refine lv_topi (fun x93 e94 => ?_)
                      refine lv_aload_n hx hb dX12_goOn_294 rfl (lv_at hl 0 rfl) ?_
                      refine lv_aload_n hx hb dX12_goOn_295 rfl (lv_at hl 0 rfl) ?_
                      refine va_get (ci := 12) (v := .int x48) (C := RX12) (T := TX12) (N := 57) hx hb hg inX12 hown hK hP 0 atM_0 rfl 7 (by decide) (hg _ mw_1115) (fun _ h9 => h9) (congrArg (fun z => some (Value.int z)) (e49.symm)) dX12_goOn_296 ?_
                      refine callv_i (As := [.int x48]) (rest := [.int x93, .ref (ad 0)]) hC (c_X12_sign_0 l D cA H.size ad F45 L45 A45 B45 (x48) hq.1 r50) (cwV 1 hg (g_V mw_1292 mw_1289 mw_1291 ms_49 mw_20) rfl rfl rfl (by decide +kernel) ⟨(Nat.le_of_ble_eq_true rfl), (Nat.le_of_ble_eq_true rfl)⟩) hP hD hS hA atM_0 rfl rfl hl.1 rfl (Nat.le_of_ble_eq_true rfl) dX12_goOn_299 ⟨Nat.zero_le _, Nat.zero_le _⟩ (fun x95 u H locs hw hP hD hS => ?_)
                      obtain ⟨r96, g97⟩ := hw
                      have hP : va_P D classes (wM cA ad F45 L45 A45 B45) H := hP
                      have hD : va_D Af (wM cA ad F45 L45 A45 B45) := hD
                      refine lv_iadd hx hb dX12_goOn_302 ?_
                      refine lv_topi (fun x98 e99 => ?_)
                      refine lv_bipush (v := 48) hx hb dX12_goOn_303 (by decide) ?_
                      refine lv_isub hx hb dX12_goOn_305 ?_
                      refine lv_topi (fun x100 e101 => ?_)
                      refine va_put (ci := 12) (v := .int x100) (ty := .int) (C := RX12) (T := TX12) (N := 57) hx hb hg inX12 tyX12 tyX12_ok nmX12 hown hK hP hD hS 0 atM_0 rfl 9 (by decide) (hg _ mw_1117) (fun _ h9 => h9) rfl (by decide +kernel) rfl rfl (Nat.le_of_ble_eq_true rfl) dX12_goOn_306 (fun H locs hP hD hS => ?_)
                      have hq := hq.put 7 (x := x100) (by decide) (rg_top _)
                      rw [setFM_7] at hP hD
                      exact J309 ((upd F45 7 x100)) (L45) (A45) (B45) H locs ls hq (f46) (e49.symm) (gD.of (t := x7) (e := x48) (z := (F45 1)) (f46) (e49.symm) rfl (by first | rfl | exact v6.2.2 | exact v17.2.2 | exact v47.2.2.2) (by have := hG; have f9 : rg (F45 1) 0 1700 := hq.1.1 1; have := f9.1; have := f9.2; have := ((r96 : rg x95 0 255)).1; have := ((r96 : rg x95 0 255)).2; have := ((r90 : rg x77 (-1699) 3)).1; have := ((r90 : rg x77 (-1699) 3)).2; have := tiS e78 (r50 : rg x48 0 1701) (r25 : rg x7 0 1699) (by decide); have := ((r25 : rg x7 0 1699)).1; have := ((r25 : rg x7 0 1699)).2; have := congrArg Int32.toInt e8; have := ((r50 : rg x48 0 1701)).1; have := ((r50 : rg x48 0 1701)).2; have := congrArg Int32.toInt e49; have := ((r23 : rg x21 1 1701)).1; have := ((r23 : rg x21 1 1701)).2; have := tiA e22 (r25 : rg x7 0 1699) ((rg_k (by decide)) : rg (1 : Int32) 1 1) (by decide); have := congrArg Int32.toInt f5; have := congrArg Int32.toInt f14; have := congrArg Int32.toInt f15; have := congrArg Int32.toInt f16; have := congrArg Int32.toInt f46; have := (iL c24); have := (iNE c88); have : (1 : Int32).toInt = 1 := rfl; have : (48 : Int32).toInt = 48 := rfl; have := congrArg Int32.toInt v6.2.2; have := v6; unfold gI at this; have := congrArg Int32.toInt v17.2.2; have := v17; unfold gI at this; have := congrArg Int32.toInt v47.2.2.2; have := v47; unfold gD at this; omega)) hP hD hS (lv_sub hl [0] rfl)
              exact J259 _ ((upd (upd (upd F13 5 x21) 7 (0 : Int32)) 5 x7)) (L13) (A13) (B13) H locs ls (Nat.lt_succ_self _) hq (f15) (gD.of (t := x7) (e := x7) (z := x10) (f15) (rfl) (f14) (by first | rfl | exact v6.2.2 | exact v17.2.2 | exact e11 | exact (e11).trans (v6.2.2) | exact (e11).trans (v17.2.2)) (by have := hG; have f9 : rg (F13 1) 0 1700 := hq.1.1 1; have := f9.1; have := f9.2; have := ((r23 : rg x21 1 1701)).1; have := ((r23 : rg x21 1 1701)).2; have := tiA e22 (r25 : rg x7 0 1699) ((rg_k (by decide)) : rg (1 : Int32) 1 1) (by decide); have := ((r25 : rg x7 0 1699)).1; have := ((r25 : rg x7 0 1699)).2; have := congrArg Int32.toInt e8; have := ((r26 : rg x10 1 1700)).1; have := ((r26 : rg x10 1 1700)).2; have := congrArg Int32.toInt e11; have := ((g38 : rg x18 48 57)).1; have := ((g38 : rg x18 48 57)).2; have := congrArg Int32.toInt f5; have := congrArg Int32.toInt f14; have := congrArg Int32.toInt f15; have := congrArg Int32.toInt f16; have := (iL c24); have : (0 : Int32).toInt = 0 := rfl; have : (1 : Int32).toInt = 1 := rfl; have := congrArg Int32.toInt v6.2.2; have := v6; unfold gI at this; have := congrArg Int32.toInt v17.2.2; have := v17; unfold gI at this; omega)) hP hD hS (lv_sub hl [1] rfl)
          · skip
            have g32 := g29.resolve_left c30
            have J119 : ∀ (n119 : Nat) (F102 : Nat → Int32) (L102 : Nat → Int64) (A102 : Nat → Nat → Int32) (B102 : Nat → Nat → Int64) (H : Heap) (locs : List Loc) (ls : Array Slot), (1701 - (F102 5).toInt).toNat < n119 → qM [4, 5, 6, 7] [] F A F102 A102 → F102 4 = x7 → gL F F102 → va_P D classes (wM cA ad F102 L102 A102 B102) H → va_D Af (wM cA ad F102 L102 A102 B102) → va_S Af s.heap H locs → lv_has ls 3 [(0, .ref (ad 0))] → W p l e rm_X12_goOn_0 s m args below meth c H locs 0 0 Q (F0 m 119 ls []) := by
              intro n119
              induction n119 with
              | zero =>
                intro _ _ _ _ _ _ _ hn
                exact absurd hn (Nat.not_lt_zero _)
              | succ n119 ih119 =>
                intro F102 L102 A102 B102 H locs ls hn119 hq f103 v104 hP hD hS hl
                refine lv_aload_n hx hb dX12_goOn_119 rfl (lv_at hl 0 rfl) ?_
                refine lv_aload_n hx hb dX12_goOn_120 rfl (lv_at hl 0 rfl) ?_
                refine va_get (ci := 12) (v := .int (F102 5)) (C := RX12) (T := TX12) (N := 57) hx hb hg inX12 hown hK hP 0 atM_0 rfl 7 (by decide) (hg _ mw_1115) (fun _ h9 => h9) rfl dX12_goOn_121 ?_
                refine lv_topi (fun x105 e106 => ?_)
                have r107 : rg x105 0 1701 := rg_e e106 (hq.1.1 5)
                refine callv_i (As := [.int x105]) (rest := []) hC (c_X12_sign_0 l D cA H.size ad F102 L102 A102 B102 (x105) hq.1 r107) (cwV 1 hg (g_V mw_1292 mw_1289 mw_1291 ms_49 mw_20) rfl rfl rfl (by decide +kernel) ⟨(Nat.le_of_ble_eq_true rfl), (Nat.le_of_ble_eq_true rfl)⟩) hP hD hS hA atM_0 rfl rfl hl.1 rfl (Nat.le_of_ble_eq_true rfl) dX12_goOn_124 ⟨Nat.zero_le _, Nat.zero_le _⟩ (fun x108 u H locs hw hP hD hS => ?_)
                obtain ⟨r109, g110⟩ := hw
                have hP : va_P D classes (wM cA ad F102 L102 A102 B102) H := hP
                have hD : va_D Af (wM cA ad F102 L102 A102 B102) := hD
                refine calls_i (As := [.int x108]) (rest := []) hC (c_X12_isLetter l D (tysM cA) (wM cA ad F102 L102 A102 B102) H.size (x108) r109) (cwS 1 hg (g_S mw_1295 mw_1293 mw_1294 mw_20) rfl rfl rfl (by decide +kernel) ⟨(Nat.le_of_ble_eq_true rfl), (Nat.le_of_ble_eq_true rfl)⟩) hP hD hS hA rfl hl.1 rfl (Nat.le_of_ble_eq_true rfl) dX12_goOn_127 ⟨Nat.zero_le _, Nat.zero_le _⟩ (fun x111 u H locs hw hP hD hS => ?_)
                obtain ⟨r112, g113⟩ := hw
                have hP : va_P D classes (wM cA ad F102 L102 A102 B102) H := hP
                have hD : va_D Af (wM cA ad F102 L102 A102 B102) := hD
                refine lv_if_eq (tgt := 146) hx hb dX12_goOn_130 (by decide) (fun c114 => ?_) (fun c114 => ?_)
                · skip
                  have r115 : rg x111 0 0 := rg_eq1 c114 (r112 : rg x111 0 1) ((rg_k (by decide)) : rg 0 0 0) (by decide)
                  refine lv_aload_n hx hb dX12_goOn_146 rfl (lv_at hl 0 rfl) ?_
                  refine lv_lconst (v := 0) hx hb dX12_goOn_147 rfl ?_
                  refine va_put (ci := 12) (v := .long (0 : Int64)) (ty := .long) (C := RX12) (T := TX12) (N := 57) hx hb hg inX12 tyX12 tyX12_ok nmX12 hown hK hP hD hS 0 atM_0 rfl 10 (by decide) (hg _ mw_1118) (fun _ h9 => h9) rfl (by decide +kernel) rfl rfl (Nat.le_of_ble_eq_true rfl) dX12_goOn_148 (fun H locs hP hD hS => ?_)
                  rw [setLM_0] at hP hD
                  refine lv_aload_n hx hb dX12_goOn_151 rfl (lv_at hl 0 rfl) ?_
                  refine va_get (ci := 12) (v := .int x7) (C := RX12) (T := TX12) (N := 57) hx hb hg inX12 hown hK hP 0 atM_0 rfl 6 (by decide) (hg _ mw_1114) (fun _ h9 => h9) (congrArg (fun z => some (Value.int z)) (f103)) dX12_goOn_152 ?_
                  refine lv_istore_n (lv' := [(2, .int x7), (0, .ref (ad 0))]) hx hb dX12_goOn_155 rfl hl (by decide) rfl (fun ls hl => ?_)
                  have J156 : ∀ (n156 : Nat) (a117 : Int32) (F119 : Nat → Int32) (L119 : Nat → Int64) (A119 : Nat → Nat → Int32) (B119 : Nat → Nat → Int64) (H : Heap) (locs : List Loc) (ls : Array Slot), (1701 - a117.toInt).toNat < n156 → rg a117 0 1701 → qM [4, 5, 6, 7] [] F A F119 A119 → F119 4 = x7 → F119 5 = x105 → gL F F119 → va_P D classes (wM cA ad F119 L119 A119 B119) H → va_D Af (wM cA ad F119 L119 A119 B119) → va_S Af s.heap H locs → lv_has ls 3 [(0, .ref (ad 0)), (2, .int a117)] → W p l e rm_X12_goOn_0 s m args below meth c H locs 0 0 Q (F0 m 156 ls []) := by
                    intro n156
                    induction n156 with
                    | zero =>
                      intro _ _ _ _ _ _ _ _ hn
                      exact absurd hn (Nat.not_lt_zero _)
                    | succ n156 ih156 =>
                      intro a117 F119 L119 A119 B119 H locs ls hn156 r118 hq f120 f121 v122 hP hD hS hl
                      refine lv_iload_n hx hb dX12_goOn_156 rfl (lv_at hl 1 rfl) ?_
                      refine lv_aload_n hx hb dX12_goOn_157 rfl (lv_at hl 0 rfl) ?_
                      refine va_get (ci := 12) (v := .int x105) (C := RX12) (T := TX12) (N := 57) hx hb hg inX12 hown hK hP 0 atM_0 rfl 7 (by decide) (hg _ mw_1115) (fun _ h9 => h9) (congrArg (fun z => some (Value.int z)) (f121)) dX12_goOn_158 ?_
                      have J199 : ∀ (F123 : Nat → Int32) (L123 : Nat → Int64) (A123 : Nat → Nat → Int32) (B123 : Nat → Nat → Int64) (H : Heap) (locs : List Loc) (ls : Array Slot), qM [4, 5, 6, 7] [] F A F123 A123 → F123 4 = x7 → F123 5 = x105 → gL F F123 → va_P D classes (wM cA ad F123 L123 A123 B123) H → va_D Af (wM cA ad F123 L123 A123 B123) → va_S Af s.heap H locs → lv_has ls 3 [(0, .ref (ad 0))] → W p l e rm_X12_goOn_0 s m args below meth c H locs 0 0 Q (F0 m 199 ls []) := by
                        intro F123 L123 A123 B123 H locs ls hq f124 f125 v126 hP hD hS hl
                        refine lv_aload_n hx hb dX12_goOn_199 rfl (lv_at hl 0 rfl) ?_
                        refine lv_aload_n hx hb dX12_goOn_200 rfl (lv_at hl 0 rfl) ?_
                        refine va_get (ci := 12) (v := .int x105) (C := RX12) (T := TX12) (N := 57) hx hb hg inX12 hown hK hP 0 atM_0 rfl 7 (by decide) (hg _ mw_1115) (fun _ h9 => h9) (congrArg (fun z => some (Value.int z)) (f125)) dX12_goOn_201 ?_
                        refine lv_aload_n hx hb dX12_goOn_204 rfl (lv_at hl 0 rfl) ?_
                        refine va_get (ci := 12) (v := .int x7) (C := RX12) (T := TX12) (N := 57) hx hb hg inX12 hown hK hP 0 atM_0 rfl 6 (by decide) (hg _ mw_1114) (fun _ h9 => h9) (congrArg (fun z => some (Value.int z)) (f124)) dX12_goOn_205 ?_
                        refine lv_isub hx hb dX12_goOn_208 ?_
                        refine lv_topi (fun x127 e128 => ?_)
                        have r129 : rg x127 (-1699) 1701 := rg_sub e128 r107 r25 (by decide)
                        refine lv_bipush (v := 8) hx hb dX12_goOn_209 (by decide) ?_
                        have J233 : ∀ (a130 : Int32) (F132 : Nat → Int32) (L132 : Nat → Int64) (A132 : Nat → Nat → Int32) (B132 : Nat → Nat → Int64) (H : Heap) (locs : List Loc) (ls : Array Slot), rg a130 1 3 → qM [4, 5, 6, 7] [] F A F132 A132 → gL F F132 → va_P D classes (wM cA ad F132 L132 A132 B132) H → va_D Af (wM cA ad F132 L132 A132 B132) → va_S Af s.heap H locs → lv_has ls 3 [] → W p l e rm_X12_goOn_0 s m args below meth c H locs 0 0 Q (F0 m 233 ls [.int a130, .ref (ad 0)]) := by
                          intro a130 F132 L132 A132 B132 H locs ls r131 hq v133 hP hD hS hl
                          refine va_put (ci := 12) (v := .int a130) (ty := .int) (C := RX12) (T := TX12) (N := 57) hx hb hg inX12 tyX12 tyX12_ok nmX12 hown hK hP hD hS 0 atM_0 rfl 8 (by decide) (hg _ mw_1116) (fun _ h9 => h9) rfl (by decide +kernel) rfl rfl (Nat.le_of_ble_eq_true rfl) dX12_goOn_233 (fun H locs hP hD hS => ?_)
                          have hq := hq.put 6 (x := a130) (by decide) (rg_w r131 (by decide))
                          rw [setFM_6] at hP hD
                          refine lv_goto (tgt := 376) hx hb dX12_goOn_236 (by decide) ?_
                          exact hret ((upd F132 6 a130), L132, A132, B132) H locs 376 ls dX12_goOn_376 hP hD hS ⟨hq, (gP.of (t := (F132 4)) (e := (F132 5)) (z := (F132 1)) (k := a130) rfl rfl rfl (rfl) (by first | rfl | exact v6.2.2 | exact v17.2.2 | exact v104.2.2.2 | exact v122.2.2.2 | exact v126.2.2.2 | exact v133.2.2.2) (by have := hG; have f9 : rg (F132 1) 0 1700 := hq.1.1 1; have := f9.1; have := f9.2; have := ((r129 : rg x127 (-1699) 1701)).1; have := ((r129 : rg x127 (-1699) 1701)).2; have := tiS e128 (r107 : rg x105 0 1701) (r25 : rg x7 0 1699) (by decide); have := ((r25 : rg x7 0 1699)).1; have := ((r25 : rg x7 0 1699)).2; have := congrArg Int32.toInt e8; have := ((r107 : rg x105 0 1701)).1; have := ((r107 : rg x105 0 1701)).2; have := congrArg Int32.toInt e106; have := ((r23 : rg x21 1 1701)).1; have := ((r23 : rg x21 1 1701)).2; have := tiA e22 (r25 : rg x7 0 1699) ((rg_k (by decide)) : rg (1 : Int32) 1 1) (by decide); have := ((r131 : rg a130 1 3)).1; have := ((r131 : rg a130 1 3)).2; have := congrArg Int32.toInt f5; have := congrArg Int32.toInt f14; have := congrArg Int32.toInt f15; have := congrArg Int32.toInt f16; have := congrArg Int32.toInt f103; have := congrArg Int32.toInt f120; have := congrArg Int32.toInt f121; have := congrArg Int32.toInt f124; have := congrArg Int32.toInt f125; have := (iL c24); have : (1 : Int32).toInt = 1 := rfl; have := congrArg Int32.toInt v6.2.2; have := v6; unfold gI at this; have := congrArg Int32.toInt v17.2.2; have := v17; unfold gI at this; have := congrArg Int32.toInt v104.2.2.2; have := v104; unfold gL at this; have := congrArg Int32.toInt v122.2.2.2; have := v122; unfold gL at this; have := congrArg Int32.toInt v126.2.2.2; have := v126; unfold gL at this; have := congrArg Int32.toInt v133.2.2.2; have := v133; unfold gL at this; omega) (fun _ => by have := hG; have f9 : rg (F132 1) 0 1700 := hq.1.1 1; have := f9.1; have := f9.2; have := ((r129 : rg x127 (-1699) 1701)).1; have := ((r129 : rg x127 (-1699) 1701)).2; have := tiS e128 (r107 : rg x105 0 1701) (r25 : rg x7 0 1699) (by decide); have := ((r25 : rg x7 0 1699)).1; have := ((r25 : rg x7 0 1699)).2; have := congrArg Int32.toInt e8; have := ((r107 : rg x105 0 1701)).1; have := ((r107 : rg x105 0 1701)).2; have := congrArg Int32.toInt e106; have := ((r23 : rg x21 1 1701)).1; have := ((r23 : rg x21 1 1701)).2; have := tiA e22 (r25 : rg x7 0 1699) ((rg_k (by decide)) : rg (1 : Int32) 1 1) (by decide); have := ((r131 : rg a130 1 3)).1; have := ((r131 : rg a130 1 3)).2; have := congrArg Int32.toInt f5; have := congrArg Int32.toInt f14; have := congrArg Int32.toInt f15; have := congrArg Int32.toInt f16; have := congrArg Int32.toInt f103; have := congrArg Int32.toInt f120; have := congrArg Int32.toInt f121; have := congrArg Int32.toInt f124; have := congrArg Int32.toInt f125; have := (iL c24); have : (1 : Int32).toInt = 1 := rfl; have := congrArg Int32.toInt v6.2.2; have := v6; unfold gI at this; have := congrArg Int32.toInt v17.2.2; have := v17; unfold gI at this; have := congrArg Int32.toInt v104.2.2.2; have := v104; unfold gL at this; have := congrArg Int32.toInt v122.2.2.2; have := v122; unfold gL at this; have := congrArg Int32.toInt v126.2.2.2; have := v126; unfold gL at this; have := congrArg Int32.toInt v133.2.2.2; have := v133; unfold gL at this; omega))⟩
                        refine lv_icmp_le (tgt := 218) hx hb dX12_goOn_211 (by decide) (fun c134 => ?_) (fun c134 => ?_)
                        · skip
                          have r135 : rg x127 (-1699) 8 := rg_le1 (iE c134) (r129 : rg x127 (-1699) 1701) ((rg_k (by decide)) : rg 8 8 8)
                          refine lv_aload_n hx hb dX12_goOn_218 rfl (lv_at hl 0 rfl) ?_
                          refine va_get (ci := 12) (v := .long (L123 0)) (C := RX12) (T := TX12) (N := 57) hx hb hg inX12 hown hK hP 0 atM_0 rfl 10 (by decide) (hg _ mw_1118) (fun _ h9 => h9) rfl dX12_goOn_219 ?_
                          refine lv_topl (fun z137 _ => ?_)
                          refine calls_i (As := [.long z137]) (rest := [.ref (ad 0)]) hC (c_X12_isKept l D (tysM cA) (wM cA ad F123 L123 A123 B123) H.size (z137)) (cwS 1 hg (g_S mw_1298 mw_1296 mw_1297 mw_20) rfl rfl rfl (by decide +kernel) ⟨(Nat.le_of_ble_eq_true rfl), (Nat.le_of_ble_eq_true rfl)⟩) hP hD hS hA rfl hl.1 rfl (Nat.le_of_ble_eq_true rfl) dX12_goOn_222 ⟨Nat.zero_le _, Nat.zero_le _⟩ (fun x138 u H locs hw hP hD hS => ?_)
                          have r139 := hw
                          have hP : va_P D classes (wM cA ad F123 L123 A123 B123) H := hP
                          have hD : va_D Af (wM cA ad F123 L123 A123 B123) := hD
                          refine lv_if_eq (tgt := 232) hx hb dX12_goOn_225 (by decide) (fun c140 => ?_) (fun c140 => ?_)
                          · skip
                            have r141 : rg x138 0 0 := rg_eq1 c140 (r139 : rg x138 0 1) ((rg_k (by decide)) : rg 0 0 0) (by decide)
                            refine lv_iconst (v := 2) hx hb dX12_goOn_232 (by decide) ?_
                            exact J233 (2) (F123) (L123) (A123) (B123) H locs ls (rg_k (by decide)) hq (gL.of (t := x7) (e := x105) (z := (F123 1)) (f124) (f125) rfl (by first | rfl | exact v6.2.2 | exact v17.2.2 | exact v104.2.2.2 | exact v122.2.2.2 | exact v126.2.2.2) (by have := hG; have f9 : rg (F123 1) 0 1700 := hq.1.1 1; have := f9.1; have := f9.2; have := ((r135 : rg x127 (-1699) 8)).1; have := ((r135 : rg x127 (-1699) 8)).2; have := tiS e128 (r107 : rg x105 0 1701) (r25 : rg x7 0 1699) (by decide); have := ((r25 : rg x7 0 1699)).1; have := ((r25 : rg x7 0 1699)).2; have := congrArg Int32.toInt e8; have := ((r107 : rg x105 0 1701)).1; have := ((r107 : rg x105 0 1701)).2; have := congrArg Int32.toInt e106; have := ((r23 : rg x21 1 1701)).1; have := ((r23 : rg x21 1 1701)).2; have := tiA e22 (r25 : rg x7 0 1699) ((rg_k (by decide)) : rg (1 : Int32) 1 1) (by decide); have := congrArg Int32.toInt f5; have := congrArg Int32.toInt f14; have := congrArg Int32.toInt f15; have := congrArg Int32.toInt f16; have := congrArg Int32.toInt f103; have := congrArg Int32.toInt f120; have := congrArg Int32.toInt f121; have := congrArg Int32.toInt f124; have := congrArg Int32.toInt f125; have := (iL c24); have := (iE c134); have : (1 : Int32).toInt = 1 := rfl; have : (2 : Int32).toInt = 2 := rfl; have := congrArg Int32.toInt v6.2.2; have := v6; unfold gI at this; have := congrArg Int32.toInt v17.2.2; have := v17; unfold gI at this; have := congrArg Int32.toInt v104.2.2.2; have := v104; unfold gL at this; have := congrArg Int32.toInt v122.2.2.2; have := v122; unfold gL at this; have := congrArg Int32.toInt v126.2.2.2; have := v126; unfold gL at this; omega)) hP hD hS (lv_sub hl [] rfl)
                          · skip
                            have r142 : rg x138 1 1 := (rg_ne1 c140 (r139 : rg x138 0 1) ((rg_k (by decide)) : rg 0 0 0)).1 rfl
                            refine lv_iconst (v := 3) hx hb dX12_goOn_228 (by decide) ?_
                            refine lv_goto (tgt := 233) hx hb dX12_goOn_229 (by decide) ?_
                            exact J233 (3) (F123) (L123) (A123) (B123) H locs ls (rg_k (by decide)) hq (gL.of (t := x7) (e := x105) (z := (F123 1)) (f124) (f125) rfl (by first | rfl | exact v6.2.2 | exact v17.2.2 | exact v104.2.2.2 | exact v122.2.2.2 | exact v126.2.2.2) (by have := hG; have f9 : rg (F123 1) 0 1700 := hq.1.1 1; have := f9.1; have := f9.2; have := ((r135 : rg x127 (-1699) 8)).1; have := ((r135 : rg x127 (-1699) 8)).2; have := tiS e128 (r107 : rg x105 0 1701) (r25 : rg x7 0 1699) (by decide); have := ((r25 : rg x7 0 1699)).1; have := ((r25 : rg x7 0 1699)).2; have := congrArg Int32.toInt e8; have := ((r107 : rg x105 0 1701)).1; have := ((r107 : rg x105 0 1701)).2; have := congrArg Int32.toInt e106; have := ((r23 : rg x21 1 1701)).1; have := ((r23 : rg x21 1 1701)).2; have := tiA e22 (r25 : rg x7 0 1699) ((rg_k (by decide)) : rg (1 : Int32) 1 1) (by decide); have := congrArg Int32.toInt f5; have := congrArg Int32.toInt f14; have := congrArg Int32.toInt f15; have := congrArg Int32.toInt f16; have := congrArg Int32.toInt f103; have := congrArg Int32.toInt f120; have := congrArg Int32.toInt f121; have := congrArg Int32.toInt f124; have := congrArg Int32.toInt f125; have := (iL c24); have := (iE c134); have : (1 : Int32).toInt = 1 := rfl; have : (3 : Int32).toInt = 3 := rfl; have := congrArg Int32.toInt v6.2.2; have := v6; unfold gI at this; have := congrArg Int32.toInt v17.2.2; have := v17; unfold gI at this; have := congrArg Int32.toInt v104.2.2.2; have := v104; unfold gL at this; have := congrArg Int32.toInt v122.2.2.2; have := v122; unfold gL at this; have := congrArg Int32.toInt v126.2.2.2; have := v126; unfold gL at this; omega)) hP hD hS (lv_sub hl [] rfl)
                        · skip
                          have r136 : rg x127 9 1701 := rg_lt2 (iNE c134) ((rg_k (by decide)) : rg 8 8 8) (r129 : rg x127 (-1699) 1701)
                          refine lv_iconst (v := 1) hx hb dX12_goOn_214 (by decide) ?_
                          refine lv_goto (tgt := 233) hx hb dX12_goOn_215 (by decide) ?_
                          exact J233 (1) (F123) (L123) (A123) (B123) H locs ls (rg_k (by decide)) hq (gL.of (t := x7) (e := x105) (z := (F123 1)) (f124) (f125) rfl (by first | rfl | exact v6.2.2 | exact v17.2.2 | exact v104.2.2.2 | exact v122.2.2.2 | exact v126.2.2.2) (by have := hG; have f9 : rg (F123 1) 0 1700 := hq.1.1 1; have := f9.1; have := f9.2; have := ((r136 : rg x127 9 1701)).1; have := ((r136 : rg x127 9 1701)).2; have := tiS e128 (r107 : rg x105 0 1701) (r25 : rg x7 0 1699) (by decide); have := ((r25 : rg x7 0 1699)).1; have := ((r25 : rg x7 0 1699)).2; have := congrArg Int32.toInt e8; have := ((r107 : rg x105 0 1701)).1; have := ((r107 : rg x105 0 1701)).2; have := congrArg Int32.toInt e106; have := ((r23 : rg x21 1 1701)).1; have := ((r23 : rg x21 1 1701)).2; have := tiA e22 (r25 : rg x7 0 1699) ((rg_k (by decide)) : rg (1 : Int32) 1 1) (by decide); have := congrArg Int32.toInt f5; have := congrArg Int32.toInt f14; have := congrArg Int32.toInt f15; have := congrArg Int32.toInt f16; have := congrArg Int32.toInt f103; have := congrArg Int32.toInt f120; have := congrArg Int32.toInt f121; have := congrArg Int32.toInt f124; have := congrArg Int32.toInt f125; have := (iL c24); have := (iNE c134); have : (1 : Int32).toInt = 1 := rfl; have := congrArg Int32.toInt v6.2.2; have := v6; unfold gI at this; have := congrArg Int32.toInt v17.2.2; have := v17; unfold gI at this; have := congrArg Int32.toInt v104.2.2.2; have := v104; unfold gL at this; have := congrArg Int32.toInt v122.2.2.2; have := v122; unfold gL at this; have := congrArg Int32.toInt v126.2.2.2; have := v126; unfold gL at this; omega)) hP hD hS (lv_sub hl [] rfl)
                      refine lv_icmp_ge (tgt := 199) hx hb dX12_goOn_161 (by decide) (fun c143 => ?_) (fun c143 => ?_)
                      · skip
                        exact J199 (F119) (L119) (A119) (B119) H locs ls hq (f120) (f121) (gL.of (t := x7) (e := x105) (z := (F119 1)) (f120) (f121) rfl (by first | rfl | exact v6.2.2 | exact v17.2.2 | exact v104.2.2.2 | exact v122.2.2.2) (by have := hG; have f9 : rg (F119 1) 0 1700 := hq.1.1 1; have := f9.1; have := f9.2; have := ((r23 : rg x21 1 1701)).1; have := ((r23 : rg x21 1 1701)).2; have := tiA e22 (r25 : rg x7 0 1699) ((rg_k (by decide)) : rg (1 : Int32) 1 1) (by decide); have := ((r25 : rg x7 0 1699)).1; have := ((r25 : rg x7 0 1699)).2; have := congrArg Int32.toInt e8; have := ((r107 : rg x105 0 1701)).1; have := ((r107 : rg x105 0 1701)).2; have := congrArg Int32.toInt e106; have := ((r118 : rg a117 0 1701)).1; have := ((r118 : rg a117 0 1701)).2; have := congrArg Int32.toInt f5; have := congrArg Int32.toInt f14; have := congrArg Int32.toInt f15; have := congrArg Int32.toInt f16; have := congrArg Int32.toInt f103; have := congrArg Int32.toInt f120; have := congrArg Int32.toInt f121; have := (iL c24); have := (iE c143); have : (1 : Int32).toInt = 1 := rfl; have := congrArg Int32.toInt v6.2.2; have := v6; unfold gI at this; have := congrArg Int32.toInt v17.2.2; have := v17; unfold gI at this; have := congrArg Int32.toInt v104.2.2.2; have := v104; unfold gL at this; have := congrArg Int32.toInt v122.2.2.2; have := v122; unfold gL at this; omega)) hP hD hS (lv_sub hl [0] rfl)
                      · skip
                        have r144 : rg a117 0 1700 := rg_lt1 (iNE c143) (r118 : rg a117 0 1701) (r107 : rg x105 0 1701)
                        have r145 : rg x105 1 1701 := rg_lt2 (iNE c143) (r118 : rg a117 0 1701) (r107 : rg x105 0 1701)
                        refine lv_iload_n hx hb dX12_goOn_164 rfl (lv_at hl 1 rfl) ?_
                        refine lv_aload_n hx hb dX12_goOn_165 rfl (lv_at hl 0 rfl) ?_
                        refine va_get (ci := 12) (v := .int x7) (C := RX12) (T := TX12) (N := 57) hx hb hg inX12 hown hK hP 0 atM_0 rfl 6 (by decide) (hg _ mw_1114) (fun _ h9 => h9) (congrArg (fun z => some (Value.int z)) (f120)) dX12_goOn_166 ?_
                        refine lv_bipush (v := 8) hx hb dX12_goOn_169 (by decide) ?_
                        refine lv_iadd hx hb dX12_goOn_171 ?_
                        refine lv_topi (fun x146 e147 => ?_)
                        have r148 : rg x146 8 1707 := rg_add e147 r25 ((rg_k (by decide)) : rg 8 8 8) (by decide)
                        refine lv_icmp_ge (tgt := 199) hx hb dX12_goOn_172 (by decide) (fun c149 => ?_) (fun c149 => ?_)
                        · skip
                          have r150 : rg x146 8 1700 := rg_le1 (iE c149) (r148 : rg x146 8 1707) (r144 : rg a117 0 1700)
                          have r151 : rg a117 8 1700 := rg_le2 (iE c149) (r148 : rg x146 8 1707) (r144 : rg a117 0 1700)
                          exact J199 (F119) (L119) (A119) (B119) H locs ls hq (f120) (f121) (gL.of (t := x7) (e := x105) (z := (F119 1)) (f120) (f121) rfl (by first | rfl | exact v6.2.2 | exact v17.2.2 | exact v104.2.2.2 | exact v122.2.2.2) (by have := hG; have f9 : rg (F119 1) 0 1700 := hq.1.1 1; have := f9.1; have := f9.2; have := ((r150 : rg x146 8 1700)).1; have := ((r150 : rg x146 8 1700)).2; have := tiA e147 (r25 : rg x7 0 1699) ((rg_k (by decide)) : rg (8 : Int32) 8 8) (by decide); have := ((r25 : rg x7 0 1699)).1; have := ((r25 : rg x7 0 1699)).2; have := congrArg Int32.toInt e8; have := ((r23 : rg x21 1 1701)).1; have := ((r23 : rg x21 1 1701)).2; have := tiA e22 (r25 : rg x7 0 1699) ((rg_k (by decide)) : rg (1 : Int32) 1 1) (by decide); have := ((r145 : rg x105 1 1701)).1; have := ((r145 : rg x105 1 1701)).2; have := congrArg Int32.toInt e106; have := ((r151 : rg a117 8 1700)).1; have := ((r151 : rg a117 8 1700)).2; have := congrArg Int32.toInt f5; have := congrArg Int32.toInt f14; have := congrArg Int32.toInt f15; have := congrArg Int32.toInt f16; have := congrArg Int32.toInt f103; have := congrArg Int32.toInt f120; have := congrArg Int32.toInt f121; have := (iL c24); have := (iNE c143); have := (iE c149); have : (1 : Int32).toInt = 1 := rfl; have : (8 : Int32).toInt = 8 := rfl; have := congrArg Int32.toInt v6.2.2; have := v6; unfold gI at this; have := congrArg Int32.toInt v17.2.2; have := v17; unfold gI at this; have := congrArg Int32.toInt v104.2.2.2; have := v104; unfold gL at this; have := congrArg Int32.toInt v122.2.2.2; have := v122; unfold gL at this; omega)) hP hD hS (lv_sub hl [0] rfl)
                        · skip
                          refine lv_aload_n hx hb dX12_goOn_175 rfl (lv_at hl 0 rfl) ?_
                          refine lv_aload_n hx hb dX12_goOn_176 rfl (lv_at hl 0 rfl) ?_
                          refine va_get (ci := 12) (v := .long (L119 0)) (C := RX12) (T := TX12) (N := 57) hx hb hg inX12 hown hK hP 0 atM_0 rfl 10 (by decide) (hg _ mw_1118) (fun _ h9 => h9) rfl dX12_goOn_177 ?_
                          refine lv_topl (fun z152 _ => ?_)
                          refine lv_bipush (v := 8) hx hb dX12_goOn_180 (by decide) ?_
                          refine lv_lshl hx hb dX12_goOn_182 rfl ?_
                          refine lv_topl (fun z153 _ => ?_)
                          refine lv_aload_n hx hb dX12_goOn_183 rfl (lv_at hl 0 rfl) ?_
                          refine lv_iload_n hx hb dX12_goOn_184 rfl (lv_at hl 1 rfl) ?_
                          refine callv_i (As := [.int a117]) (rest := [.long z153, .ref (ad 0)]) hC (c_X12_sign_0 l D cA H.size ad F119 L119 A119 B119 (a117) hq.1 (rg_w r144 (by decide))) (cwV 1 hg (g_V mw_1292 mw_1289 mw_1291 ms_49 mw_20) rfl rfl rfl (by decide +kernel) ⟨(Nat.le_of_ble_eq_true rfl), (Nat.le_of_ble_eq_true rfl)⟩) hP hD hS hA atM_0 rfl rfl hl.1 rfl (Nat.le_of_ble_eq_true rfl) dX12_goOn_185 ⟨Nat.zero_le _, Nat.zero_le _⟩ (fun x154 u H locs hw hP hD hS => ?_)
                          obtain ⟨r155, g156⟩ := hw
                          have hP : va_P D classes (wM cA ad F119 L119 A119 B119) H := hP
                          have hD : va_D Af (wM cA ad F119 L119 A119 B119) := hD
                          refine lv_i2l hx hb dX12_goOn_188 rfl ?_
                          refine lv_topl (fun z157 _ => ?_)
                          refine lv_lor hx hb dX12_goOn_189 ?_
                          refine lv_topl (fun z158 _ => ?_)
                          refine va_put (ci := 12) (v := .long z158) (ty := .long) (C := RX12) (T := TX12) (N := 57) hx hb hg inX12 tyX12 tyX12_ok nmX12 hown hK hP hD hS 0 atM_0 rfl 10 (by decide) (hg _ mw_1118) (fun _ h9 => h9) rfl (by decide +kernel) rfl rfl (Nat.le_of_ble_eq_true rfl) dX12_goOn_190 (fun H locs hP hD hS => ?_)
                          rw [setLM_0] at hP hD
                          obtain ⟨x159, e160⟩ : ∃ y : Int32, y = a117 + 1 := ⟨_, rfl⟩
                          have r161 : rg x159 1 1701 := rg_add e160 r144 (rg_k (by decide) : rg 1 1 1) (by decide)
                          refine lv_iinc (v := x159) (lv' := [(2, .int x159), (0, .ref (ad 0))]) hx hb dX12_goOn_193 hl (k := 1) rfl (by rw [e160]; rfl) (by decide) rfl (fun ls hl => ?_)
                          refine lv_goto (tgt := 156) hx hb dX12_goOn_196 (by decide) ?_
                          exact ih156 (x159) (F119) ((vp_updL L119 0 z158)) (A119) (B119) H locs ls (by have h0 : (1 : Int32).toInt = 1 := rfl; have h1 := ti_addk e160 r144 (by decide); have h2 : rg x159 0 1701 := (rg_w r161 (by decide)); unfold rg at h2; omega) (rg_w r161 (by decide)) hq (f120) (f121) (gL.of (t := x7) (e := x105) (z := (F119 1)) (f120) (f121) rfl (by first | rfl | exact v6.2.2 | exact v17.2.2 | exact v104.2.2.2 | exact v122.2.2.2) (by have := hG; have f9 : rg (F119 1) 0 1700 := hq.1.1 1; have := f9.1; have := f9.2; have := ((r148 : rg x146 8 1707)).1; have := ((r148 : rg x146 8 1707)).2; have := tiA e147 (r25 : rg x7 0 1699) ((rg_k (by decide)) : rg (8 : Int32) 8 8) (by decide); have := ((r25 : rg x7 0 1699)).1; have := ((r25 : rg x7 0 1699)).2; have := congrArg Int32.toInt e8; have := ((r23 : rg x21 1 1701)).1; have := ((r23 : rg x21 1 1701)).2; have := tiA e22 (r25 : rg x7 0 1699) ((rg_k (by decide)) : rg (1 : Int32) 1 1) (by decide); have := ((r145 : rg x105 1 1701)).1; have := ((r145 : rg x105 1 1701)).2; have := congrArg Int32.toInt e106; have := ((r161 : rg x159 1 1701)).1; have := ((r161 : rg x159 1 1701)).2; have := tiA e160 (r144 : rg a117 0 1700) (rg_k (by decide) : rg 1 1 1) (by decide); have := ((r144 : rg a117 0 1700)).1; have := ((r144 : rg a117 0 1700)).2; have := congrArg Int32.toInt f5; have := congrArg Int32.toInt f14; have := congrArg Int32.toInt f15; have := congrArg Int32.toInt f16; have := congrArg Int32.toInt f103; have := congrArg Int32.toInt f120; have := congrArg Int32.toInt f121; have := (iL c24); have := (iNE c143); have := (iNE c149); have : (1 : Int32).toInt = 1 := rfl; have : (8 : Int32).toInt = 8 := rfl; have := congrArg Int32.toInt v6.2.2; have := v6; unfold gI at this; have := congrArg Int32.toInt v17.2.2; have := v17; unfold gI at this; have := congrArg Int32.toInt v104.2.2.2; have := v104; unfold gL at this; have := congrArg Int32.toInt v122.2.2.2; have := v122; unfold gL at this; omega)) hP hD hS (lv_sub hl [1, 0] rfl)
                  exact J156 _ (x7) (F102) ((vp_updL L102 0 (0 : Int64))) (A102) (B102) H locs ls (Nat.lt_succ_self _) (rg_w r25 (by decide)) hq (f103) (e106.symm) (gL.of (t := x7) (e := x105) (z := (F102 1)) (f103) (e106.symm) rfl (by first | rfl | exact v6.2.2 | exact v17.2.2 | exact v104.2.2.2) (by have := hG; have f9 : rg (F102 1) 0 1700 := hq.1.1 1; have := f9.1; have := f9.2; have := ((r23 : rg x21 1 1701)).1; have := ((r23 : rg x21 1 1701)).2; have := tiA e22 (r25 : rg x7 0 1699) ((rg_k (by decide)) : rg (1 : Int32) 1 1) (by decide); have := ((r25 : rg x7 0 1699)).1; have := ((r25 : rg x7 0 1699)).2; have := congrArg Int32.toInt e8; have := ((r107 : rg x105 0 1701)).1; have := ((r107 : rg x105 0 1701)).2; have := congrArg Int32.toInt e106; have := congrArg Int32.toInt f5; have := congrArg Int32.toInt f14; have := congrArg Int32.toInt f15; have := congrArg Int32.toInt f16; have := congrArg Int32.toInt f103; have := (iL c24); have : (1 : Int32).toInt = 1 := rfl; have := congrArg Int32.toInt v6.2.2; have := v6; unfold gI at this; have := congrArg Int32.toInt v17.2.2; have := v17; unfold gI at this; have := congrArg Int32.toInt v104.2.2.2; have := v104; unfold gL at this; omega)) hP hD hS (lv_sub hl [1, 0] rfl)
                · skip
                  have g116 := g113.resolve_left c114
                  refine lv_aload_n hx hb dX12_goOn_133 rfl (lv_at hl 0 rfl) ?_
                  refine lv_dup hx hb dX12_goOn_134 rfl ?_
                  refine va_get (ci := 12) (v := .int x105) (C := RX12) (T := TX12) (N := 57) hx hb hg inX12 hown hK hP 0 atM_0 rfl 7 (by decide) (hg _ mw_1115) (fun _ h9 => h9) (congrArg (fun z => some (Value.int z)) (e106.symm)) dX12_goOn_135 ?_
                  refine lv_iconst (v := 1) hx hb dX12_goOn_138 (by decide) ?_
                  refine lv_iadd hx hb dX12_goOn_139 ?_
                  refine lv_topi (fun x162 e163 => ?_)
                  have f164 := sgn_lt g110 g116 (by decide)
                  have r165 : rg x162 1 1700 := (by have := f164; have f9 : rg (F102 1) 0 1700 := hq.1.1 1; have := f9.1; have := f9.2; have := tiA e163 (r107 : rg x105 0 1701) (rg_k (by decide) : rg 1 1 1) (by decide); have : (1 : Int32).toInt = 1 := rfl; have := tiA e163 (r107 : rg x105 0 1701) ((rg_k (by decide)) : rg (1 : Int32) 1 1) (by decide); have := ((r107 : rg x105 0 1701)).1; have := ((r107 : rg x105 0 1701)).2; have := congrArg Int32.toInt e106; have := ((r23 : rg x21 1 1701)).1; have := ((r23 : rg x21 1 1701)).2; have := tiA e22 (r25 : rg x7 0 1699) ((rg_k (by decide)) : rg (1 : Int32) 1 1) (by decide); have := ((r25 : rg x7 0 1699)).1; have := ((r25 : rg x7 0 1699)).2; have := congrArg Int32.toInt e8; have := congrArg Int32.toInt f5; have := congrArg Int32.toInt f14; have := congrArg Int32.toInt f15; have := congrArg Int32.toInt f16; have := congrArg Int32.toInt f103; have := (iL c24); have := f164; have : (1 : Int32).toInt = 1 := rfl; have := congrArg Int32.toInt v6.2.2; have := v6; unfold gI at this; have := congrArg Int32.toInt v17.2.2; have := v17; unfold gI at this; have := congrArg Int32.toInt v104.2.2.2; have := v104; unfold gL at this; unfold rg at *; omega)
                  refine va_put (ci := 12) (v := .int x162) (ty := .int) (C := RX12) (T := TX12) (N := 57) hx hb hg inX12 tyX12 tyX12_ok nmX12 hown hK hP hD hS 0 atM_0 rfl 7 (by decide) (hg _ mw_1115) (fun _ h9 => h9) rfl (by decide +kernel) rfl rfl (Nat.le_of_ble_eq_true rfl) dX12_goOn_140 (fun H locs hP hD hS => ?_)
                  have hq := hq.put 5 (x := x162) (by decide) (rg_w r165 (by decide))
                  rw [setFM_5] at hP hD
                  refine lv_goto (tgt := 119) hx hb dX12_goOn_143 (by decide) ?_
                  exact ih119 ((upd F102 5 x162)) (L102) (A102) (B102) H locs ls (by have h0 : (1 : Int32).toInt = 1 := rfl; have h1 := ti_addk e163 r107 (by decide); have h2 := ((rg_w r165 (by decide)) : rg x162 0 1701); have h3 : (upd F102 5 x162) 5 = x162 := rfl; have h4 := hn119; have h5 := (e106).symm; rw [h3]; rw [h5] at h4; unfold rg at h2; omega) hq (f103) (gL.of (t := x7) (e := x162) (z := (F102 1)) (f103) (rfl) rfl (by first | rfl | exact v6.2.2 | exact v17.2.2 | exact v104.2.2.2) (by have := hG; have f9 : rg (F102 1) 0 1700 := hq.1.1 1; have := f9.1; have := f9.2; have := ((r165 : rg x162 1 1700)).1; have := ((r165 : rg x162 1 1700)).2; have := tiA e163 (r107 : rg x105 0 1701) ((rg_k (by decide)) : rg (1 : Int32) 1 1) (by decide); have := ((r107 : rg x105 0 1701)).1; have := ((r107 : rg x105 0 1701)).2; have := congrArg Int32.toInt e106; have := ((r23 : rg x21 1 1701)).1; have := ((r23 : rg x21 1 1701)).2; have := tiA e22 (r25 : rg x7 0 1699) ((rg_k (by decide)) : rg (1 : Int32) 1 1) (by decide); have := ((r25 : rg x7 0 1699)).1; have := ((r25 : rg x7 0 1699)).2; have := congrArg Int32.toInt e8; have := congrArg Int32.toInt f5; have := congrArg Int32.toInt f14; have := congrArg Int32.toInt f15; have := congrArg Int32.toInt f16; have := congrArg Int32.toInt f103; have := (iL c24); have := f164; have : (1 : Int32).toInt = 1 := rfl; have := congrArg Int32.toInt v6.2.2; have := v6; unfold gI at this; have := congrArg Int32.toInt v17.2.2; have := v17; unfold gI at this; have := congrArg Int32.toInt v104.2.2.2; have := v104; unfold gL at this; omega)) hP hD hS (lv_sub hl [0] rfl)
            exact J119 _ ((upd F13 5 x21)) (L13) (A13) (B13) H locs ls (Nat.lt_succ_self _) hq (f15) (gL.of (t := x7) (e := x21) (z := x10) (f15) (rfl) (f14) (by first | rfl | exact v6.2.2 | exact v17.2.2 | exact e11 | exact (e11).trans (v6.2.2) | exact (e11).trans (v17.2.2)) (by have := hG; have f9 : rg (F13 1) 0 1700 := hq.1.1 1; have := f9.1; have := f9.2; have := ((r23 : rg x21 1 1701)).1; have := ((r23 : rg x21 1 1701)).2; have := tiA e22 (r25 : rg x7 0 1699) ((rg_k (by decide)) : rg (1 : Int32) 1 1) (by decide); have := ((r25 : rg x7 0 1699)).1; have := ((r25 : rg x7 0 1699)).2; have := congrArg Int32.toInt e8; have := ((r26 : rg x10 1 1700)).1; have := ((r26 : rg x10 1 1700)).2; have := congrArg Int32.toInt e11; have := ((g32 : rg x18 97 122)).1; have := ((g32 : rg x18 97 122)).2; have := congrArg Int32.toInt f5; have := congrArg Int32.toInt f14; have := congrArg Int32.toInt f15; have := congrArg Int32.toInt f16; have := (iL c24); have : (1 : Int32).toInt = 1 := rfl; have := congrArg Int32.toInt v6.2.2; have := v6; unfold gI at this; have := congrArg Int32.toInt v17.2.2; have := v17; unfold gI at this; omega)) hP hD hS (lv_sub hl [1] rfl)
        · skip
          refine lv_aload_n hx hb dX12_goOn_88 rfl (lv_at hl 1 rfl) ?_
          refine lv_iconst (v := 0) hx hb dX12_goOn_89 (by decide) ?_
          refine va_put (ci := 12) (v := .int 0) (ty := .int) (C := RX12) (T := TX12) (N := 57) hx hb hg inX12 tyX12 tyX12_ok nmX12 hown hK hP hD hS 0 atM_0 rfl 8 (by decide) (hg _ mw_1116) (fun _ h9 => h9) rfl (by decide +kernel) rfl rfl (Nat.le_of_ble_eq_true rfl) dX12_goOn_90 (fun H locs hP hD hS => ?_)
          have hq := hq.put 6 (x := 0) (by decide) (rg_k (by decide))
          rw [setFM_6] at hP hD
          refine lv_aload_n hx hb dX12_goOn_93 rfl (lv_at hl 1 rfl) ?_
          refine lv_aload_n hx hb dX12_goOn_94 rfl (lv_at hl 1 rfl) ?_
          refine va_get (ci := 12) (v := .int x10) (C := RX12) (T := TX12) (N := 57) hx hb hg inX12 hown hK hP 0 atM_0 rfl 3 (by decide) (hg _ mw_1111) (fun _ h9 => h9) (congrArg (fun z => some (Value.int z)) (f14)) dX12_goOn_95 ?_
          refine va_put (ci := 12) (v := .int x10) (ty := .int) (C := RX12) (T := TX12) (N := 57) hx hb hg inX12 tyX12 tyX12_ok nmX12 hown hK hP hD hS 0 atM_0 rfl 6 (by decide) (hg _ mw_1114) (fun _ h9 => h9) rfl (by decide +kernel) rfl rfl (Nat.le_of_ble_eq_true rfl) dX12_goOn_98 (fun H locs hP hD hS => ?_)
          have hq := hq.put 4 (x := x10) (by decide) r12
          rw [setFM_4] at hP hD
          refine lv_aload_n hx hb dX12_goOn_101 rfl (lv_at hl 1 rfl) ?_
          refine lv_aload_n hx hb dX12_goOn_102 rfl (lv_at hl 1 rfl) ?_
          refine va_get (ci := 12) (v := .int x10) (C := RX12) (T := TX12) (N := 57) hx hb hg inX12 hown hK hP 0 atM_0 rfl 3 (by decide) (hg _ mw_1111) (fun _ h9 => h9) (congrArg (fun z => some (Value.int z)) (f14)) dX12_goOn_103 ?_
          refine va_put (ci := 12) (v := .int x10) (ty := .int) (C := RX12) (T := TX12) (N := 57) hx hb hg inX12 tyX12 tyX12_ok nmX12 hown hK hP hD hS 0 atM_0 rfl 7 (by decide) (hg _ mw_1115) (fun _ h9 => h9) rfl (by decide +kernel) rfl rfl (Nat.le_of_ble_eq_true rfl) dX12_goOn_106 (fun H locs hP hD hS => ?_)
          have hq := hq.put 5 (x := x10) (by decide) (rg_w r12 (by decide))
          rw [setFM_5] at hP hD
          refine lv_goto (tgt := 376) hx hb dX12_goOn_109 (by decide) ?_
          exact hret ((upd (upd (upd (upd F13 5 x21) 6 (0 : Int32)) 4 x10) 5 x10), L13, A13, B13) H locs 376 ls dX12_goOn_376 hP hD hS ⟨hq, (gP.of (t := x10) (e := x10) (z := x10) (k := (0 : Int32)) (rfl) (rfl) (f14) (rfl) (by first | rfl | exact v6.2.2 | exact v17.2.2 | exact e11 | exact (e11).trans (v6.2.2) | exact (e11).trans (v17.2.2)) (by have := hG; have f9 : rg (F13 1) 0 1700 := hq.1.1 1; have := f9.1; have := f9.2; have := ((r23 : rg x21 1 1701)).1; have := ((r23 : rg x21 1 1701)).2; have := tiA e22 (r9 : rg x7 0 1700) ((rg_k (by decide)) : rg (1 : Int32) 1 1) (by decide); have := ((r9 : rg x7 0 1700)).1; have := ((r9 : rg x7 0 1700)).2; have := congrArg Int32.toInt e8; have := ((r12 : rg x10 0 1700)).1; have := ((r12 : rg x10 0 1700)).2; have := congrArg Int32.toInt e11; have := ((r19 : rg x18 0 255)).1; have := ((r19 : rg x18 0 255)).2; have := congrArg Int32.toInt f5; have := congrArg Int32.toInt f14; have := congrArg Int32.toInt f15; have := congrArg Int32.toInt f16; have := (iNL c24); have : (0 : Int32).toInt = 0 := rfl; have : (1 : Int32).toInt = 1 := rfl; have := congrArg Int32.toInt v6.2.2; have := v6; unfold gI at this; have := congrArg Int32.toInt v17.2.2; have := v17; unfold gI at this; omega) (fun h => absurd h (by decide)))⟩
      refine lv_icmp_ge (tgt := 58) hx hb dX12_goOn_16 (by decide) (fun c166 => ?_) (fun c166 => ?_)
      · skip
        exact J58 (F4) (L4) (A4) (B4) H locs ls hq (e11.symm) (e8.symm) (f5) (gI.of (t := x7) (z := x10) (e8.symm) (e11.symm) (by first | rfl | exact v6.2.2 | exact e11 | exact (e11).trans (v6.2.2)) (by have := hG; have f9 : rg (F4 1) 0 1700 := hq.1.1 1; have := f9.1; have := f9.2; have := ((r12 : rg x10 0 1700)).1; have := ((r12 : rg x10 0 1700)).2; have := congrArg Int32.toInt e11; have := ((r9 : rg x7 0 1700)).1; have := ((r9 : rg x7 0 1700)).2; have := congrArg Int32.toInt e8; have := ((r3 : rg x1 0 1700)).1; have := ((r3 : rg x1 0 1700)).2; have := congrArg Int32.toInt e2; have := congrArg Int32.toInt f5; have := (iE c166); have := congrArg Int32.toInt v6.2.2; have := v6; unfold gI at this; omega)) hP hD hS (lv_sub hl [0] rfl)
      · skip
        have r167 : rg x7 0 1699 := rg_lt1 (iNE c166) (r9 : rg x7 0 1700) (r12 : rg x10 0 1700)
        have r168 : rg x10 1 1700 := rg_lt2 (iNE c166) (r9 : rg x7 0 1700) (r12 : rg x10 0 1700)
        refine lv_aload_n hx hb dX12_goOn_19 rfl (lv_at hl 0 rfl) ?_
        refine lv_aload_n hx hb dX12_goOn_20 rfl (lv_at hl 0 rfl) ?_
        refine va_get (ci := 12) (v := .int x7) (C := RX12) (T := TX12) (N := 57) hx hb hg inX12 hown hK hP 0 atM_0 rfl 6 (by decide) (hg _ mw_1114) (fun _ h9 => h9) (congrArg (fun z => some (Value.int z)) (e8.symm)) dX12_goOn_21 ?_
        refine callv_i (As := [.int x7]) (rest := []) hC (c_X12_sign_0 l D cA H.size ad F4 L4 A4 B4 (x7) hq.1 (rg_w r167 (by decide))) (cwV 1 hg (g_V mw_1292 mw_1289 mw_1291 ms_49 mw_20) rfl rfl rfl (by decide +kernel) ⟨(Nat.le_of_ble_eq_true rfl), (Nat.le_of_ble_eq_true rfl)⟩) hP hD hS hA atM_0 rfl rfl hl.1 rfl (Nat.le_of_ble_eq_true rfl) dX12_goOn_24 ⟨Nat.zero_le _, Nat.zero_le _⟩ (fun x169 u H locs hw hP hD hS => ?_)
        obtain ⟨r170, g171⟩ := hw
        have hP : va_P D classes (wM cA ad F4 L4 A4 B4) H := hP
        have hD : va_D Af (wM cA ad F4 L4 A4 B4) := hD
        refine lv_bipush (v := 32) hx hb dX12_goOn_27 (by decide) ?_
        have J45 : ∀ (F172 : Nat → Int32) (L172 : Nat → Int64) (A172 : Nat → Nat → Int32) (B172 : Nat → Nat → Int64) (H : Heap) (locs : List Loc) (ls : Array Slot), qM [4, 5, 6, 7] [] F A F172 A172 → F172 1 = x10 → F172 4 = x7 → F172 5 = x1 → gI F F172 → va_P D classes (wM cA ad F172 L172 A172 B172) H → va_D Af (wM cA ad F172 L172 A172 B172) → va_S Af s.heap H locs → lv_has ls 3 [(0, .ref (ad 0))] → W p l e rm_X12_goOn_0 s m args below meth c H locs 0 0 Q (F0 m 45 ls []) := by
          intro F172 L172 A172 B172 H locs ls hq f173 f174 f175 v176 hP hD hS hl
          refine lv_aload_n hx hb dX12_goOn_45 rfl (lv_at hl 0 rfl) ?_
          refine lv_dup hx hb dX12_goOn_46 rfl ?_
          refine va_get (ci := 12) (v := .int x7) (C := RX12) (T := TX12) (N := 57) hx hb hg inX12 hown hK hP 0 atM_0 rfl 6 (by decide) (hg _ mw_1114) (fun _ h9 => h9) (congrArg (fun z => some (Value.int z)) (f174)) dX12_goOn_47 ?_
          refine lv_iconst (v := 1) hx hb dX12_goOn_50 (by decide) ?_
          refine lv_iadd hx hb dX12_goOn_51 ?_
          refine lv_topi (fun x177 e178 => ?_)
          have r179 : rg x177 1 1700 := rg_add e178 r167 ((rg_k (by decide)) : rg 1 1 1) (by decide)
          refine va_put (ci := 12) (v := .int x177) (ty := .int) (C := RX12) (T := TX12) (N := 57) hx hb hg inX12 tyX12 tyX12_ok nmX12 hown hK hP hD hS 0 atM_0 rfl 6 (by decide) (hg _ mw_1114) (fun _ h9 => h9) rfl (by decide +kernel) rfl rfl (Nat.le_of_ble_eq_true rfl) dX12_goOn_52 (fun H locs hP hD hS => ?_)
          have hq := hq.put 4 (x := x177) (by decide) (rg_w r179 (by decide))
          rw [setFM_4] at hP hD
          refine lv_goto (tgt := 8) hx hb dX12_goOn_55 (by decide) ?_
          exact ih8 ((upd F172 4 x177)) (L172) (A172) (B172) H locs ls (by have h0 : (1 : Int32).toInt = 1 := rfl; have h1 := ti_addk e178 r167 (by decide); have h2 := ((rg_w r179 (by decide)) : rg x177 0 1700); have h3 : (upd F172 4 x177) 4 = x177 := rfl; have h4 := hn8; have h5 := (e8).symm; rw [h3]; rw [h5] at h4; unfold rg at h2; omega) hq (f175) (gI.of (t := x177) (z := x10) (rfl) (f173) (by first | rfl | exact v6.2.2 | exact v176.2.2 | exact e11 | exact (e11).trans (v6.2.2) | exact (e11).trans (v176.2.2)) (by have := hG; have f9 : rg (F172 1) 0 1700 := hq.1.1 1; have := f9.1; have := f9.2; have := ((r179 : rg x177 1 1700)).1; have := ((r179 : rg x177 1 1700)).2; have := tiA e178 (r167 : rg x7 0 1699) ((rg_k (by decide)) : rg (1 : Int32) 1 1) (by decide); have := ((r167 : rg x7 0 1699)).1; have := ((r167 : rg x7 0 1699)).2; have := congrArg Int32.toInt e8; have := ((r3 : rg x1 0 1700)).1; have := ((r3 : rg x1 0 1700)).2; have := congrArg Int32.toInt e2; have := ((r168 : rg x10 1 1700)).1; have := ((r168 : rg x10 1 1700)).2; have := congrArg Int32.toInt e11; have := congrArg Int32.toInt f5; have := congrArg Int32.toInt f173; have := congrArg Int32.toInt f174; have := congrArg Int32.toInt f175; have := (iNE c166); have : (1 : Int32).toInt = 1 := rfl; have := congrArg Int32.toInt v6.2.2; have := v6; unfold gI at this; have := congrArg Int32.toInt v176.2.2; have := v176; unfold gI at this; omega)) hP hD hS (lv_sub hl [0] rfl)
        refine lv_icmp_eq (tgt := 45) hx hb dX12_goOn_29 (by decide) (fun c180 => ?_) (fun c180 => ?_)
        · skip
          have r181 : rg x169 32 32 := rg_eq1 c180 (r170 : rg x169 0 255) ((rg_k (by decide)) : rg 32 32 32) (by decide)
          exact J45 (F4) (L4) (A4) (B4) H locs ls hq (e11.symm) (e8.symm) (f5) (gI.of (t := x7) (z := x10) (e8.symm) (e11.symm) (by first | rfl | exact v6.2.2 | exact e11 | exact (e11).trans (v6.2.2)) (by have := hG; have f9 : rg (F4 1) 0 1700 := hq.1.1 1; have := f9.1; have := f9.2; have := ((r168 : rg x10 1 1700)).1; have := ((r168 : rg x10 1 1700)).2; have := congrArg Int32.toInt e11; have := ((r167 : rg x7 0 1699)).1; have := ((r167 : rg x7 0 1699)).2; have := congrArg Int32.toInt e8; have := ((r3 : rg x1 0 1700)).1; have := ((r3 : rg x1 0 1700)).2; have := congrArg Int32.toInt e2; have := congrArg Int32.toInt f5; have := (iNE c166); have := congrArg Int32.toInt v6.2.2; have := v6; unfold gI at this; omega)) hP hD hS (lv_sub hl [0] rfl)
        · skip
          refine lv_aload_n hx hb dX12_goOn_32 rfl (lv_at hl 0 rfl) ?_
          refine lv_aload_n hx hb dX12_goOn_33 rfl (lv_at hl 0 rfl) ?_
          refine va_get (ci := 12) (v := .int x7) (C := RX12) (T := TX12) (N := 57) hx hb hg inX12 hown hK hP 0 atM_0 rfl 6 (by decide) (hg _ mw_1114) (fun _ h9 => h9) (congrArg (fun z => some (Value.int z)) (e8.symm)) dX12_goOn_34 ?_
          refine callv_i (As := [.int x7]) (rest := []) hC (c_X12_sign_0 l D cA H.size ad F4 L4 A4 B4 (x7) hq.1 (rg_w r167 (by decide))) (cwV 1 hg (g_V mw_1292 mw_1289 mw_1291 ms_49 mw_20) rfl rfl rfl (by decide +kernel) ⟨(Nat.le_of_ble_eq_true rfl), (Nat.le_of_ble_eq_true rfl)⟩) hP hD hS hA atM_0 rfl rfl hl.1 rfl (Nat.le_of_ble_eq_true rfl) dX12_goOn_37 ⟨Nat.zero_le _, Nat.zero_le _⟩ (fun x182 u H locs hw hP hD hS => ?_)
          obtain ⟨r183, g184⟩ := hw
          have hP : va_P D classes (wM cA ad F4 L4 A4 B4) H := hP
          have hD : va_D Af (wM cA ad F4 L4 A4 B4) := hD
          refine lv_bipush (v := 10) hx hb dX12_goOn_40 (by decide) ?_
          refine lv_icmp_ne (tgt := 58) hx hb dX12_goOn_42 (by decide) (fun c185 => ?_) (fun c185 => ?_)
          · skip
            exact J58 (F4) (L4) (A4) (B4) H locs ls hq (e11.symm) (e8.symm) (f5) (gI.of (t := x7) (z := x10) (e8.symm) (e11.symm) (by first | rfl | exact v6.2.2 | exact e11 | exact (e11).trans (v6.2.2)) (by have := hG; have f9 : rg (F4 1) 0 1700 := hq.1.1 1; have := f9.1; have := f9.2; have := ((r168 : rg x10 1 1700)).1; have := ((r168 : rg x10 1 1700)).2; have := congrArg Int32.toInt e11; have := ((r167 : rg x7 0 1699)).1; have := ((r167 : rg x7 0 1699)).2; have := congrArg Int32.toInt e8; have := ((r3 : rg x1 0 1700)).1; have := ((r3 : rg x1 0 1700)).2; have := congrArg Int32.toInt e2; have := congrArg Int32.toInt f5; have := (iNE c166); have := congrArg Int32.toInt v6.2.2; have := v6; unfold gI at this; omega)) hP hD hS (lv_sub hl [0] rfl)
          · skip
            have r186 : rg x182 10 10 := rg_eq1 c185 (r183 : rg x182 0 255) ((rg_k (by decide)) : rg 10 10 10) (by decide)
            exact J45 (F4) (L4) (A4) (B4) H locs ls hq (e11.symm) (e8.symm) (f5) (gI.of (t := x7) (z := x10) (e8.symm) (e11.symm) (by first | rfl | exact v6.2.2 | exact e11 | exact (e11).trans (v6.2.2)) (by have := hG; have f9 : rg (F4 1) 0 1700 := hq.1.1 1; have := f9.1; have := f9.2; have := ((r168 : rg x10 1 1700)).1; have := ((r168 : rg x10 1 1700)).2; have := congrArg Int32.toInt e11; have := ((r167 : rg x7 0 1699)).1; have := ((r167 : rg x7 0 1699)).2; have := congrArg Int32.toInt e8; have := ((r3 : rg x1 0 1700)).1; have := ((r3 : rg x1 0 1700)).2; have := congrArg Int32.toInt e2; have := congrArg Int32.toInt f5; have := (iNE c166); have := congrArg Int32.toInt v6.2.2; have := v6; unfold gI at this; omega)) hP hD hS (lv_sub hl [0] rfl)
  exact J8 _ ((upd F 4 x1)) (L) (A) (B) H locs ls (Nat.lt_succ_self _) hq (e2.symm) (gI.of (t := x1) (z := (F 1)) (rfl) rfl (by first | rfl) (by have := hG; have f9 : rg (F 1) 0 1700 := hq.1.1 1; have := f9.1; have := f9.2; have := ((r3 : rg x1 0 1700)).1; have := ((r3 : rg x1 0 1700)).2; have := congrArg Int32.toInt e2; skip; omega)) hP hD hS (lv_sub hl [0] rfl)
