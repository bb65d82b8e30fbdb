abbrev rm_X12_readLine_0 : Room := { frames := 4, cells := 0, slots := 0, locals := 90 }
set_option maxHeartbeats 4000000 in
set_option maxRecDepth 100000 in
theorem c_X12_readLine_0 (l : Launch) (D : va_G) (cA : Nat → ClassId) (sz : Nat) (ad : Nat → Nat) (F : Nat → Int32) (L : Nat → Int64) (A : Nat → Nat → Int32) (B : Nat → Nat → Int64)  (hT : typM F A) (hJ : pI F) (hB : dmB A (F 9).toNatClampNeg) : Met l yX12_readLine (Cond.code yX12_readLine cX12_readLine 3 none :: GW) rm_X12_readLine_0 (mPc D classes (tysM cA) (wM cA ad F L A B) sz [.ref (ad 0)]) (mQv (S := SW) D classes (tysM cA) (wM cA ad F L A B) sz (wfM cA ad) (fun u => qM [2, 3, 4, 5, 6, 7] [3, 4, 5, 6, 7, 8, 9, 10, 11, 12, 13, 14, 15] F A u.1 u.2.2.1 ∧ pR F u.1 ∧ ((u.1 2 = 0 → (F 4).toInt < (u.1 4).toInt) ∧ rdB u.2.2.1 A (F 9).toNatClampNeg))) 0 0 (va_A (wM cA ad F L A B) sz) := by
  refine met_v (own := "ShoeingDayModel") (by decide +kernel) rfl (Nat.le_of_ble_eq_true rfl) ?_
  intro p e s m args below meth c Q Af ls hC hP hD hS hA hl hret
  have hx := hC.1
  have hb := hC.2.1
  have hown := hC.2.2.2.1
  have hg := hC.g
  have hK := hC.K
  have hl : lv_has ls 3 [(0, .ref (ad 0))] := hl
  have hq : qM [2, 3, 4, 5, 6, 7] [3, 4, 5, 6, 7, 8, 9, 10, 11, 12, 13, 14, 15] F A F A := qM.rf hT
  obtain ⟨H, hH⟩ : ∃ H, H = s.heap := ⟨_, rfl⟩
  have hP : va_P D classes (wM cA ad F L A B) H := by rw [hH]; exact hP
  have hS : va_S Af s.heap H [] := by rw [hH]; exact hS
  obtain ⟨locs, hlo⟩ : ∃ q : List Loc, q = [] := ⟨_, rfl⟩
  rw [← hH, ← hlo]
  rw [← hlo] at hS
  refine lv_aload_n hx hb dX12_readLine_0 rfl (lv_at hl 0 rfl) ?_
  refine va_get (ci := 12) (v := .long (L 0)) (C := RX12) (T := TX12) (N := 57) hx hb hg inX12 hown hK hP 0 atM_0 rfl 10 (by decide) (hg _ mw_1118) (fun _ h9 => h9) rfl dX12_readLine_1 ?_
  refine lv_topl (fun z1 e2 => ?_)
  refine lv_lstore_n (lv' := [(1, .long z1), (0, .ref (ad 0))]) hx hb dX12_readLine_4 rfl hl (by decide) rfl (fun ls hl => ?_)
  have wB0 : rdB A A (F 9).toNatClampNeg := rdB_rf hB
  refine lv_aload_n hx hb dX12_readLine_5 rfl (lv_at hl 1 rfl) ?_
  refine va_get (ci := 12) (v := .int (F 6)) (C := RX12) (T := TX12) (N := 57) hx hb hg inX12 hown hK hP 0 atM_0 rfl 8 (by decide) (hg _ mw_1116) (fun _ h9 => h9) rfl dX12_readLine_6 ?_
  refine lv_topi (fun x3 e4 => ?_)
  have r5 : rg x3 0 5 := rg_e e4 (hq.1.1 6)
  refine lv_iconst (v := 3) hx hb dX12_readLine_9 (by decide) ?_
  have J24 : ∀ (F6 : Nat → Int32) (L6 : Nat → Int64) (A6 : Nat → Nat → Int32) (B6 : Nat → Nat → Int64) (H : Heap) (locs : List Loc) (ls : Array Slot), qM [2, 3, 4, 5, 6, 7] [3, 4, 5, 6, 7, 8, 9, 10, 11, 12, 13, 14, 15] F A F6 A6 → pR F F6 → F6 6 = x3 → ((0 < (F6 2).toInt ∨ (F 6 = 3 ∧ F6 5 = F 5 ∧ (z1 = 495756866664 → rg (A6 3 (F6 9).toNatClampNeg) 0 7) ∧ (z1 = 448546370405 → rg (A6 4 (F6 9).toNatClampNeg) 0 9))) ∧ rdB A6 A (F 9).toNatClampNeg) → va_P D classes (wM cA ad F6 L6 A6 B6) H → va_D Af (wM cA ad F6 L6 A6 B6) → va_S Af s.heap H locs → lv_has ls 3 [(0, .ref (ad 0)), (1, .long z1)] → W p l e rm_X12_readLine_0 s m args below meth c H locs 0 0 Q (F0 m 24 ls []) := by
    intro F6 L6 A6 B6 H locs ls hq i7 f8 v9 hP hD hS hl
    refine lv_aload_n hx hb dX12_readLine_24 rfl (lv_at hl 0 rfl) ?_
    refine callv_i (As := []) (rest := []) hC (c_X12_isGood_0 l D cA H.size ad F6 L6 A6 B6  hq.1) (cwV 0 hg (g_V mw_1312 mw_1309 mw_1311 ms_50 mw_20) rfl rfl rfl (by decide +kernel) ⟨(Nat.le_of_ble_eq_true rfl), (Nat.le_of_ble_eq_true rfl)⟩) hP hD hS hA atM_0 rfl rfl hl.1 rfl (Nat.le_of_ble_eq_true rfl) dX12_readLine_25 ⟨Nat.zero_le _, Nat.zero_le _⟩ (fun x10 u H locs hw hP hD hS => ?_)
    obtain ⟨r11, g12⟩ := hw
    have hP : va_P D classes (wM cA ad F6 L6 A6 B6) H := hP
    have hD : va_D Af (wM cA ad F6 L6 A6 B6) := hD
    refine lv_if_ne (tgt := 32) hx hb dX12_readLine_28 (by decide) (fun c13 => ?_) (fun c13 => ?_)
    · skip
      have r14 : rg x10 1 1 := (rg_ne1 c13 (r11 : rg x10 0 1) ((rg_k (by decide)) : rg 0 0 0)).1 rfl
      refine lv_aload_n hx hb dX12_readLine_32 rfl (lv_at hl 0 rfl) ?_
      refine callv_v (As := []) (rest := []) hC (c_X12_goOn_0 l D cA H.size ad F6 L6 A6 B6  hq.1 (i7).1.2.1) (cwV 0 hg (g_V mw_1288 mw_1285 mw_1287 ms_48 mw_20) rfl rfl rfl (by decide +kernel) ⟨(Nat.le_of_ble_eq_true rfl), (Nat.le_of_ble_eq_true rfl)⟩) hP hD hS hA atM_0 rfl rfl hl.1 rfl (Nat.le_of_ble_eq_true rfl) dX12_readLine_33 ⟨Nat.zero_le _, Nat.zero_le _⟩ (fun  u H locs hw hP hD hS => ?_)
      obtain ⟨F16, L16, A16, B16⟩ := u
      try dsimp only at hw
      obtain ⟨hq16, g17⟩ := hw
      have hq := hq.call hq16 (by decide)
      have hP : va_P D classes (wM cA ad F16 L16 A16 B16) H := hP
      have hD : va_D Af (wM cA ad F16 L16 A16 B16) := hD
      have g18 := (v9.1).resolve_left (fun h9 => by rw [(g12).1.resolve_left c13] at h9; exact absurd h9 (by decide))
      have wS : (z1 = 495756866664 → rg (A16 3 (F16 9).toNatClampNeg) 0 7) := fun h => by rw [hq16.2.2 3 (by decide), hq16.2.1 9 (by decide)]; exact g18.2.2.1 h
      have wH : (z1 = 448546370405 → rg (A16 4 (F16 9).toNatClampNeg) 0 9) := fun h => by rw [hq16.2.2 4 (by decide), hq16.2.1 9 (by decide)]; exact g18.2.2.2 h
      have wT : (F 4).toInt < (F16 4).toInt := by have h1 := hJ.2.2 g18.1; have h2 := g17.2.1; have h3 := congrArg Int32.toInt g18.2.1; omega
      have wB : rdB A16 A (F 9).toNatClampNeg := rdB_fr v9.2 (hq16.2.2 3 (by decide)) (hq16.2.2 4 (by decide)) (hq16.2.2 10 (by decide))
      refine lv_lload_n hx hb dX12_readLine_36 rfl (lv_at hl 1 rfl) ?_
      refine lv_ldc2 (v := 495756866664) hx hb hown (hg _ mw_1299) dX12_readLine_37 ?_
      refine W.lcmp hx hb dX12_readLine_40 ?_
      refine lv_topi (fun x19 e20 => ?_)
      have J48 : ∀ (F21 : Nat → Int32) (L21 : Nat → Int64) (A21 : Nat → Nat → Int32) (B21 : Nat → Nat → Int64) (H : Heap) (locs : List Loc) (ls : Array Slot), qM [2, 3, 4, 5, 6, 7] [3, 4, 5, 6, 7, 8, 9, 10, 11, 12, 13, 14, 15] F A F21 A21 → pR F F21 → ((z1 = 448546370405 → rg (A21 4 (F21 9).toNatClampNeg) 0 9) ∧ (F 4).toInt < (F21 4).toInt ∧ rdB A21 A (F 9).toNatClampNeg) → va_P D classes (wM cA ad F21 L21 A21 B21) H → va_D Af (wM cA ad F21 L21 A21 B21) → va_S Af s.heap H locs → lv_has ls 3 [(0, .ref (ad 0)), (1, .long z1)] → W p l e rm_X12_readLine_0 s m args below meth c H locs 0 0 Q (F0 m 48 ls []) := by
        intro F21 L21 A21 B21 H locs ls hq i22 v23 hP hD hS hl
        obtain ⟨wH, wT, wB⟩ := v23
        refine lv_lload_n hx hb dX12_readLine_48 rfl (lv_at hl 1 rfl) ?_
        refine lv_ldc2 (v := 448546370405) hx hb hown (hg _ mw_1302) dX12_readLine_49 ?_
        refine W.lcmp hx hb dX12_readLine_52 ?_
        refine lv_topi (fun x24 e25 => ?_)
        have J60 : ∀ (F26 : Nat → Int32) (L26 : Nat → Int64) (A26 : Nat → Nat → Int32) (B26 : Nat → Nat → Int64) (H : Heap) (locs : List Loc) (ls : Array Slot), qM [2, 3, 4, 5, 6, 7] [3, 4, 5, 6, 7, 8, 9, 10, 11, 12, 13, 14, 15] F A F26 A26 → pR F F26 → ((F 4).toInt < (F26 4).toInt ∧ rdB A26 A (F 9).toNatClampNeg) → va_P D classes (wM cA ad F26 L26 A26 B26) H → va_D Af (wM cA ad F26 L26 A26 B26) → va_S Af s.heap H locs → lv_has ls 3 [(0, .ref (ad 0)), (1, .long z1)] → W p l e rm_X12_readLine_0 s m args below meth c H locs 0 0 Q (F0 m 60 ls []) := by
          intro F26 L26 A26 B26 H locs ls hq i27 v28 hP hD hS hl
          obtain ⟨wT, wB⟩ := v28
          refine lv_lload_n hx hb dX12_readLine_60 rfl (lv_at hl 1 rfl) ?_
          refine lv_ldc2 (v := 448546566771) hx hb hown (hg _ mw_1303) dX12_readLine_61 ?_
          refine W.lcmp hx hb dX12_readLine_64 ?_
          refine lv_topi (fun x29 e30 => ?_)
          have J72 : ∀ (F31 : Nat → Int32) (L31 : Nat → Int64) (A31 : Nat → Nat → Int32) (B31 : Nat → Nat → Int64) (H : Heap) (locs : List Loc) (ls : Array Slot), qM [2, 3, 4, 5, 6, 7] [3, 4, 5, 6, 7, 8, 9, 10, 11, 12, 13, 14, 15] F A F31 A31 → pR F F31 → ((F 4).toInt < (F31 4).toInt ∧ rdB A31 A (F 9).toNatClampNeg) → va_P D classes (wM cA ad F31 L31 A31 B31) H → va_D Af (wM cA ad F31 L31 A31 B31) → va_S Af s.heap H locs → lv_has ls 3 [(0, .ref (ad 0)), (1, .long z1)] → W p l e rm_X12_readLine_0 s m args below meth c H locs 0 0 Q (F0 m 72 ls []) := by
            intro F31 L31 A31 B31 H locs ls hq i32 v33 hP hD hS hl
            obtain ⟨wT, wB⟩ := v33
            refine lv_lload_n hx hb dX12_readLine_72 rfl (lv_at hl 1 rfl) ?_
            refine lv_ldc2 (v := 465558201459) hx hb hown (hg _ mw_1304) dX12_readLine_73 ?_
            refine W.lcmp hx hb dX12_readLine_76 ?_
            refine lv_topi (fun x34 e35 => ?_)
            have J84 : ∀ (F36 : Nat → Int32) (L36 : Nat → Int64) (A36 : Nat → Nat → Int32) (B36 : Nat → Nat → Int64) (H : Heap) (locs : List Loc) (ls : Array Slot), qM [2, 3, 4, 5, 6, 7] [3, 4, 5, 6, 7, 8, 9, 10, 11, 12, 13, 14, 15] F A F36 A36 → pR F F36 → ((F 4).toInt < (F36 4).toInt ∧ rdB A36 A (F 9).toNatClampNeg) → va_P D classes (wM cA ad F36 L36 A36 B36) H → va_D Af (wM cA ad F36 L36 A36 B36) → va_S Af s.heap H locs → lv_has ls 3 [(0, .ref (ad 0)), (1, .long z1)] → W p l e rm_X12_readLine_0 s m args below meth c H locs 0 0 Q (F0 m 84 ls []) := by
              intro F36 L36 A36 B36 H locs ls hq i37 v38 hP hD hS hl
              obtain ⟨wT, wB⟩ := v38
              refine lv_lload_n hx hb dX12_readLine_84 rfl (lv_at hl 1 rfl) ?_
              refine lv_ldc2 (v := 1818326117) hx hb hown (hg _ mw_1305) dX12_readLine_85 ?_
              refine W.lcmp hx hb dX12_readLine_88 ?_
              refine lv_topi (fun x39 e40 => ?_)
              have J119 : ∀ (F41 : Nat → Int32) (L41 : Nat → Int64) (A41 : Nat → Nat → Int32) (B41 : Nat → Nat → Int64) (H : Heap) (locs : List Loc) (ls : Array Slot), qM [2, 3, 4, 5, 6, 7] [3, 4, 5, 6, 7, 8, 9, 10, 11, 12, 13, 14, 15] F A F41 A41 → pR F F41 → ((F 4).toInt < (F41 4).toInt ∧ rdB A41 A (F 9).toNatClampNeg) → va_P D classes (wM cA ad F41 L41 A41 B41) H → va_D Af (wM cA ad F41 L41 A41 B41) → va_S Af s.heap H locs → lv_has ls 3 [(0, .ref (ad 0))] → W p l e rm_X12_readLine_0 s m args below meth c H locs 0 0 Q (F0 m 119 ls []) := by
                intro F41 L41 A41 B41 H locs ls hq i42 v43 hP hD hS hl
                obtain ⟨wT, wB⟩ := v43
                refine lv_aload_n hx hb dX12_readLine_119 rfl (lv_at hl 0 rfl) ?_
                refine lv_aload_n hx hb dX12_readLine_120 rfl (lv_at hl 0 rfl) ?_
                refine va_get (ci := 12) (v := .int (F41 6)) (C := RX12) (T := TX12) (N := 57) hx hb hg inX12 hown hK hP 0 atM_0 rfl 8 (by decide) (hg _ mw_1116) (fun _ h9 => h9) rfl dX12_readLine_121 ?_
                refine lv_topi (fun x44 e45 => ?_)
                have r46 : rg x44 0 5 := rg_e e45 (hq.1.1 6)
                refine lv_iconst (v := 5) hx hb dX12_readLine_124 (by decide) ?_
                have J133 : ∀ (a47 : Int32) (F49 : Nat → Int32) (L49 : Nat → Int64) (A49 : Nat → Nat → Int32) (B49 : Nat → Nat → Int64) (H : Heap) (locs : List Loc) (ls : Array Slot), rg a47 0 1 → qM [2, 3, 4, 5, 6, 7] [3, 4, 5, 6, 7, 8, 9, 10, 11, 12, 13, 14, 15] F A F49 A49 → pR F F49 → ((F 4).toInt < (F49 4).toInt ∧ rdB A49 A (F 9).toNatClampNeg) → va_P D classes (wM cA ad F49 L49 A49 B49) H → va_D Af (wM cA ad F49 L49 A49 B49) → va_S Af s.heap H locs → lv_has ls 3 [] → W p l e rm_X12_readLine_0 s m args below meth c H locs 0 0 Q (F0 m 133 ls [.int a47, .ref (ad 0)]) := by
                  intro a47 F49 L49 A49 B49 H locs ls r48 hq i50 v51 hP hD hS hl
                  obtain ⟨wT, wB⟩ := v51
                  refine callv_v (As := [.int a47]) (rest := []) hC (c_X12_must_0 l D cA H.size ad F49 L49 A49 B49 (a47) hq.1 r48 (i50).1) (cwV 1 hg (g_V mw_1348 mw_1345 mw_1347 ms_59 mw_20) rfl rfl rfl (by decide +kernel) ⟨(Nat.le_of_ble_eq_true rfl), (Nat.le_of_ble_eq_true rfl)⟩) hP hD hS hA atM_0 rfl rfl hl.1 rfl (Nat.le_of_ble_eq_true rfl) dX12_readLine_133 ⟨Nat.zero_le _, Nat.zero_le _⟩ (fun  u H locs hw hP hD hS => ?_)
                  obtain ⟨F52, L52, A52, B52⟩ := u
                  try dsimp only at hw
                  obtain ⟨hq52, g53⟩ := hw
                  have hq := hq.call hq52 (by decide)
                  have hP : va_P D classes (wM cA ad F52 L52 A52 B52) H := hP
                  have hD : va_D Af (wM cA ad F52 L52 A52 B52) := hD
                  have wT : (F 4).toInt < (F52 4).toInt := Int.lt_of_lt_of_le wT (g53).2.1
                  have wB : rdB A52 A (F 9).toNatClampNeg := rdB_fr wB (hq52.2.2 3 (by decide)) (hq52.2.2 4 (by decide)) (hq52.2.2 10 (by decide))
                  exact hret (F52, L52, A52, B52) H locs 136 ls dX12_readLine_136 hP hD hS ⟨hq, (pR.tr i50 g53), ⟨(fun _ => wT), wB⟩⟩
                refine lv_icmp_ne (tgt := 132) hx hb dX12_readLine_125 (by decide) (fun c54 => ?_) (fun c54 => ?_)
                · skip
                  have r55 : rg x44 0 4 := (rg_ne1 c54 (r46 : rg x44 0 5) ((rg_k (by decide)) : rg 5 5 5)).2 rfl
                  refine lv_iconst (v := 0) hx hb dX12_readLine_132 (by decide) ?_
                  exact J133 (0) (F41) (L41) (A41) (B41) H locs ls (rg_k (by decide)) hq i42 ⟨wT, (rdB_fr wB rfl rfl rfl)⟩ hP hD hS (lv_sub hl [] rfl)
                · skip
                  have r56 : rg x44 5 5 := rg_eq1 c54 (r46 : rg x44 0 5) ((rg_k (by decide)) : rg 5 5 5) (by decide)
                  refine lv_iconst (v := 1) hx hb dX12_readLine_128 (by decide) ?_
                  refine lv_goto (tgt := 133) hx hb dX12_readLine_129 (by decide) ?_
                  exact J133 (1) (F41) (L41) (A41) (B41) H locs ls (rg_k (by decide)) hq i42 ⟨wT, (rdB_fr wB rfl rfl rfl)⟩ hP hD hS (lv_sub hl [] rfl)
              refine lv_if_ne (tgt := 119) hx hb dX12_readLine_89 (by decide) (fun c57 => ?_) (fun c57 => ?_)
              · skip
                exact J119 (F36) (L36) (A36) (B36) H locs ls hq i37 ⟨wT, (rdB_fr wB rfl rfl rfl)⟩ hP hD hS (lv_sub hl [0] rfl)
              · skip
                have r58 : rg x39 0 0 := rg_eq1 c57 ((rg_top _) : rg x39 (-2147483648) 2147483647) ((rg_k (by decide)) : rg 0 0 0) (by decide)
                refine lv_aload_n hx hb dX12_readLine_92 rfl (lv_at hl 0 rfl) ?_
                refine va_get (ci := 12) (v := .ref (ad 13)) (C := RX12) (T := TX12) (N := 57) hx hb hg inX12 hown hK hP 0 atM_0 rfl 21 (by decide) (hg _ mw_1129) (fun _ h9 => h9) rfl dX12_readLine_93 ?_
                refine lv_aload_n hx hb dX12_readLine_96 rfl (lv_at hl 0 rfl) ?_
                refine va_get (ci := 12) (v := .int (F36 9)) (C := RX12) (T := TX12) (N := 57) hx hb hg inX12 hown hK hP 0 atM_0 rfl 25 (by decide) (hg _ mw_1133) (fun _ h9 => h9) rfl dX12_readLine_97 ?_
                refine lv_topi (fun x59 e60 => ?_)
                have r61 : rg x59 0 1 := rg_e e60 (hq.1.1 9)
                refine lv_iconst (v := 1) hx hb dX12_readLine_100 (by decide) ?_
                refine va_zast hx hb hK hP hD hS 13 12 atM_13 tyM_13 (in_rg r61 (by decide)) dX12_readLine_101 (fun H locs hP hD hS => ?_)
                have hq := hq.ast 13 (x59).toNatClampNeg (x := (vp_nar .boolean 1)) (by decide) (rg_nz _)
                rw [setM_13] at hP hD
                refine lv_aload_n hx hb dX12_readLine_102 rfl (lv_at hl 0 rfl) ?_
                refine va_get (ci := 12) (v := .ref (ad 7)) (C := RX12) (T := TX12) (N := 57) hx hb hg inX12 hown hK hP 0 atM_0 rfl 15 (by decide) (hg _ mw_1123) (fun _ h9 => h9) rfl dX12_readLine_103 ?_
                refine lv_aload_n hx hb dX12_readLine_106 rfl (lv_at hl 0 rfl) ?_
                refine va_get (ci := 12) (v := .int x59) (C := RX12) (T := TX12) (N := 57) hx hb hg inX12 hown hK hP 0 atM_0 rfl 25 (by decide) (hg _ mw_1133) (fun _ h9 => h9) (congrArg (fun z => some (Value.int z)) (e60.symm)) dX12_readLine_107 ?_
                refine lv_aload_n hx hb dX12_readLine_110 rfl (lv_at hl 0 rfl) ?_
                refine lv_iconst (v := 0) hx hb dX12_readLine_111 (by decide) ?_
                refine lv_sipush (v := 9999) hx hb dX12_readLine_112 (by decide) ?_
                refine callv_i (As := [.int 0, .int 9999]) (rest := [.int x59, .ref (ad 7)]) hC (c_X12_numeral_0 l D cA H.size ad F36 L36 (va_up A36 13 (upd (A36 13) (x59).toNatClampNeg (vp_nar .boolean 1))) B36 (0) (9999) hq.1 (rg_k (by decide)) (rg_k (by decide)) (i37).1) (cwV 2 hg (g_V mw_1352 mw_1349 mw_1351 ms_60 mw_20) rfl rfl rfl (by decide +kernel) ⟨(Nat.le_of_ble_eq_true rfl), (Nat.le_of_ble_eq_true rfl)⟩) hP hD hS hA atM_0 rfl rfl hl.1 rfl (Nat.le_of_ble_eq_true rfl) dX12_readLine_115 ⟨Nat.zero_le _, Nat.zero_le _⟩ (fun x62 u H locs hw hP hD hS => ?_)
                obtain ⟨F63, L63, A63, B63⟩ := u
                try dsimp only at hw
                obtain ⟨hq63, g64, g65⟩ := hw
                have hq := hq.call hq63 (by decide)
                have hP : va_P D classes (wM cA ad F63 L63 A63 B63) H := hP
                have hD : va_D Af (wM cA ad F63 L63 A63 B63) := hD
                have wT : (F 4).toInt < (F63 4).toInt := Int.lt_of_lt_of_le wT (g64).2.1
                have wB : rdB A63 A (F 9).toNatClampNeg := rdB_fr wB (hq63.2.2 3 (by decide)) (hq63.2.2 4 (by decide)) (hq63.2.2 10 (by decide))
                refine va_iast hx hb hK hP hD hS 7 6 atM_7 tyM_7 (in_rg r61 (by decide)) dX12_readLine_118 (fun H locs hP hD hS => ?_)
                have hq := hq.ast 7 (x59).toNatClampNeg (x := x62) (by decide) (rg_top _)
                rw [setM_7] at hP hD
                have k66 : x62 = (va_up A63 7 (upd (A63 7) (x59).toNatClampNeg x62)) 7 (x59).toNatClampNeg := (rdA).symm
                exact J119 (F63) (L63) ((va_up A63 7 (upd (A63 7) (x59).toNatClampNeg x62))) (B63) H locs ls hq (pR.tr i37 g64) ⟨wT, (rdB_fr wB rfl rfl rfl)⟩ hP hD hS (lv_sub hl [0] rfl)
            refine lv_if_ne (tgt := 84) hx hb dX12_readLine_77 (by decide) (fun c67 => ?_) (fun c67 => ?_)
            · skip
              exact J84 (F31) (L31) (A31) (B31) H locs ls hq i32 ⟨wT, (rdB_fr wB rfl rfl rfl)⟩ hP hD hS (lv_sub hl [0, 1] rfl)
            · skip
              have r68 : rg x34 0 0 := rg_eq1 c67 ((rg_top _) : rg x34 (-2147483648) 2147483647) ((rg_k (by decide)) : rg 0 0 0) (by decide)
              refine lv_aload_n hx hb dX12_readLine_80 rfl (lv_at hl 0 rfl) ?_
              refine callv_v (As := []) (rest := []) hC (c_X12_readLends_0 l D cA H.size ad F31 L31 A31 B31  hq.1 (i32).1) (cwV 0 hg (g_V mw_1372 mw_1369 mw_1371 ms_65 mw_20) rfl rfl rfl (by decide +kernel) ⟨(Nat.le_of_ble_eq_true rfl), (Nat.le_of_ble_eq_true rfl)⟩) hP hD hS hA atM_0 rfl rfl hl.1 rfl (Nat.le_of_ble_eq_true rfl) dX12_readLine_81 ⟨Nat.zero_le _, Nat.zero_le _⟩ (fun  u H locs hw hP hD hS => ?_)
              obtain ⟨F69, L69, A69, B69⟩ := u
              try dsimp only at hw
              obtain ⟨hq69, g70⟩ := hw
              have hq := hq.call hq69 (by decide)
              have hP : va_P D classes (wM cA ad F69 L69 A69 B69) H := hP
              have hD : va_D Af (wM cA ad F69 L69 A69 B69) := hD
              have wT : (F 4).toInt < (F69 4).toInt := Int.lt_of_lt_of_le wT (g70).2.1
              have wB : rdB A69 A (F 9).toNatClampNeg := rdB_fr wB (hq69.2.2 3 (by decide)) (hq69.2.2 4 (by decide)) (hq69.2.2 10 (by decide))
              exact J84 (F69) (L69) (A69) (B69) H locs ls hq (pR.tr i32 g70) ⟨wT, (rdB_fr wB rfl rfl rfl)⟩ hP hD hS (lv_sub hl [0, 1] rfl)
          refine lv_if_ne (tgt := 72) hx hb dX12_readLine_65 (by decide) (fun c71 => ?_) (fun c71 => ?_)
          · skip
            exact J72 (F26) (L26) (A26) (B26) H locs ls hq i27 ⟨wT, (rdB_fr wB rfl rfl rfl)⟩ hP hD hS (lv_sub hl [0, 1] rfl)
          · skip
            have r72 : rg x29 0 0 := rg_eq1 c71 ((rg_top _) : rg x29 (-2147483648) 2147483647) ((rg_k (by decide)) : rg 0 0 0) (by decide)
            refine lv_aload_n hx hb dX12_readLine_68 rfl (lv_at hl 0 rfl) ?_
            have hF9 := hq.2.1 9 (by decide)
            refine callv_v (As := []) (rest := []) hC (c_X12_readHours_0 l D cA H.size ad F26 L26 A26 B26  hq.1 (i27).1 (by rw [hF9]; exact wB.2)) (cwV 0 hg (g_V mw_1364 mw_1361 mw_1363 ms_63 mw_20) rfl rfl rfl (by decide +kernel) ⟨(Nat.le_of_ble_eq_true rfl), (Nat.le_of_ble_eq_true rfl)⟩) hP hD hS hA atM_0 rfl rfl hl.1 rfl (Nat.le_of_ble_eq_true rfl) dX12_readLine_69 ⟨Nat.zero_le _, Nat.zero_le _⟩ (fun  u H locs hw hP hD hS => ?_)
            obtain ⟨F73, L73, A73, B73⟩ := u
            try dsimp only at hw
            obtain ⟨hq73, g74, g75⟩ := hw
            have hq := hq.call hq73 (by decide)
            have hP : va_P D classes (wM cA ad F73 L73 A73 B73) H := hP
            have hD : va_D Af (wM cA ad F73 L73 A73 B73) := hD
            have wT : (F 4).toInt < (F73 4).toInt := Int.lt_of_lt_of_le wT (g74).2.1
            have wB : rdB A73 A (F 9).toNatClampNeg := rdB_tr wB (by have h9 := g75; rw [hF9] at h9; exact h9)
            exact J72 (F73) (L73) (A73) (B73) H locs ls hq (pR.tr i27 g74) ⟨wT, (rdB_fr wB rfl rfl rfl)⟩ hP hD hS (lv_sub hl [0, 1] rfl)
        refine lv_if_ne (tgt := 60) hx hb dX12_readLine_53 (by decide) (fun c76 => ?_) (fun c76 => ?_)
        · skip
          exact J60 (F21) (L21) (A21) (B21) H locs ls hq i22 ⟨wT, (rdB_fr wB rfl rfl rfl)⟩ hP hD hS (lv_sub hl [0, 1] rfl)
        · skip
          have r77 : rg x24 0 0 := rg_eq1 c76 ((rg_top _) : rg x24 (-2147483648) 2147483647) ((rg_k (by decide)) : rg 0 0 0) (by decide)
          refine lv_aload_n hx hb dX12_readLine_56 rfl (lv_at hl 0 rfl) ?_
          have hF9 := hq.2.1 9 (by decide)
          refine callv_v (As := []) (rest := []) hC (c_X12_readHorse_0 l D cA H.size ad F21 L21 A21 B21  hq.1 (i22).1 (wH ((lg_cmp_eq _ _).mp (e25.symm.trans c76))) (by rw [hF9]; exact wB.2)) (cwV 0 hg (g_V mw_1356 mw_1353 mw_1355 ms_61 mw_20) rfl rfl rfl (by decide +kernel) ⟨(Nat.le_of_ble_eq_true rfl), (Nat.le_of_ble_eq_true rfl)⟩) hP hD hS hA atM_0 rfl rfl hl.1 rfl (Nat.le_of_ble_eq_true rfl) dX12_readLine_57 ⟨Nat.zero_le _, Nat.zero_le _⟩ (fun  u H locs hw hP hD hS => ?_)
          obtain ⟨F78, L78, A78, B78⟩ := u
          try dsimp only at hw
          obtain ⟨hq78, g79, g80⟩ := hw
          have hq := hq.call hq78 (by decide)
          have hP : va_P D classes (wM cA ad F78 L78 A78 B78) H := hP
          have hD : va_D Af (wM cA ad F78 L78 A78 B78) := hD
          have wT : (F 4).toInt < (F78 4).toInt := Int.lt_of_lt_of_le wT (g79).2.1
          have wB : rdB A78 A (F 9).toNatClampNeg := rdB_tr wB (by have h9 := g80; rw [hF9] at h9; exact h9)
          exact J60 (F78) (L78) (A78) (B78) H locs ls hq (pR.tr i22 g79) ⟨wT, (rdB_fr wB rfl rfl rfl)⟩ hP hD hS (lv_sub hl [0, 1] rfl)
      refine lv_if_ne (tgt := 48) hx hb dX12_readLine_41 (by decide) (fun c81 => ?_) (fun c81 => ?_)
      · skip
        exact J48 (F16) (L16) (A16) (B16) H locs ls hq (pR.go i7 g17) ⟨wH, wT, (rdB_fr wB rfl rfl rfl)⟩ hP hD hS (lv_sub hl [0, 1] rfl)
      · skip
        have r82 : rg x19 0 0 := rg_eq1 c81 ((rg_top _) : rg x19 (-2147483648) 2147483647) ((rg_k (by decide)) : rg 0 0 0) (by decide)
        refine lv_aload_n hx hb dX12_readLine_44 rfl (lv_at hl 0 rfl) ?_
        have hF9 := hq.2.1 9 (by decide)
        refine callv_v (As := []) (rest := []) hC (c_X12_readSmith_0 l D cA H.size ad F16 L16 A16 B16  hq.1 ((pR.go i7 g17)).1 (wS ((lg_cmp_eq _ _).mp (e20.symm.trans c81))) (by rw [hF9]; exact wB.2)) (cwV 0 hg (g_V mw_1336 mw_1333 mw_1335 ms_56 mw_20) rfl rfl rfl (by decide +kernel) ⟨(Nat.le_of_ble_eq_true rfl), (Nat.le_of_ble_eq_true rfl)⟩) hP hD hS hA atM_0 rfl rfl hl.1 rfl (Nat.le_of_ble_eq_true rfl) dX12_readLine_45 ⟨Nat.zero_le _, Nat.zero_le _⟩ (fun  u H locs hw hP hD hS => ?_)
        obtain ⟨F83, L83, A83, B83⟩ := u
        try dsimp only at hw
        obtain ⟨hq83, g84, g85⟩ := hw
        have hq := hq.call hq83 (by decide)
        have hP : va_P D classes (wM cA ad F83 L83 A83 B83) H := hP
        have hD : va_D Af (wM cA ad F83 L83 A83 B83) := hD
        have wH : (z1 = 448546370405 → rg (A83 4 (F83 9).toNatClampNeg) 0 9) := fun h => by rw [hq83.2.2 4 (by decide), hq83.2.1 9 (by decide)]; exact wH h
        have wT : (F 4).toInt < (F83 4).toInt := Int.lt_of_lt_of_le wT (g84).2.1
        have wB : rdB A83 A (F 9).toNatClampNeg := rdB_tr wB (by have h9 := g85; rw [hF9] at h9; exact h9)
        exact J48 (F83) (L83) (A83) (B83) H locs ls hq (pR.tr (pR.go i7 g17) g84) ⟨wH, wT, (rdB_fr wB rfl rfl rfl)⟩ hP hD hS (lv_sub hl [0, 1] rfl)
    · skip
      have r15 : rg x10 0 0 := rg_eq1 c13 (r11 : rg x10 0 1) ((rg_k (by decide)) : rg 0 0 0) (by decide)
      exact hret (F6, L6, A6, B6) H locs 31 ls dX12_readLine_31 hP hD hS ⟨hq, i7, ⟨(fun h9 => absurd h9 ((g12).2.resolve_left (fun z => z c13))), v9.2⟩⟩
  have J20 : ∀ (F86 : Nat → Int32) (L86 : Nat → Int64) (A86 : Nat → Nat → Int32) (B86 : Nat → Nat → Int64) (H : Heap) (locs : List Loc) (ls : Array Slot), qM [2, 3, 4, 5, 6, 7] [3, 4, 5, 6, 7, 8, 9, 10, 11, 12, 13, 14, 15] F A F86 A86 → pR F F86 → F86 6 = x3 → (rdB A86 A (F 9).toNatClampNeg) → va_P D classes (wM cA ad F86 L86 A86 B86) H → va_D Af (wM cA ad F86 L86 A86 B86) → va_S Af s.heap H locs → lv_has ls 3 [(0, .ref (ad 0)), (1, .long z1)] → W p l e rm_X12_readLine_0 s m args below meth c H locs 0 0 Q (F0 m 20 ls []) := by
    intro F86 L86 A86 B86 H locs ls hq i87 f88 v89 hP hD hS hl
    have hB20 := v89
    refine lv_aload_n hx hb dX12_readLine_20 rfl (lv_at hl 0 rfl) ?_
    refine callv_v (As := []) (rest := []) hC (c_X12_misplaced_0 l D cA H.size ad F86 L86 A86 B86  hq.1) (cwV 0 hg (g_V mw_1328 mw_1325 mw_1327 ms_54 mw_20) rfl rfl rfl (by decide +kernel) ⟨(Nat.le_of_ble_eq_true rfl), (Nat.le_of_ble_eq_true rfl)⟩) hP hD hS hA atM_0 rfl rfl hl.1 rfl (Nat.le_of_ble_eq_true rfl) dX12_readLine_21 ⟨Nat.zero_le _, Nat.zero_le _⟩ (fun  u H locs hw hP hD hS => ?_)
    obtain ⟨F90, L90, A90, B90⟩ := u
    try dsimp only at hw
    obtain ⟨hq90, g91⟩ := hw
    have hq := hq.call hq90 (by decide)
    have hP : va_P D classes (wM cA ad F90 L90 A90 B90) H := hP
    have hD : va_D Af (wM cA ad F90 L90 A90 B90) := hD
    have wB0 : rdB A90 A (F 9).toNatClampNeg := rdB_fr hB20 (hq90.2.2 3 (by decide)) (hq90.2.2 4 (by decide)) (hq90.2.2 10 (by decide))
    exact J24 (F90) (L90) (A90) (B90) H locs ls hq (pR.fr i87 (hq90.2.1 4 (by decide)) (hq90.2.1 5 (by decide)) (hq90.2.1 1 (by decide)) (hq90.2.1 6 (by decide))) ((hq90.2.1 6 (by decide)).trans (f88)) ⟨(Or.inl g91), wB0⟩ hP hD hS (lv_sub hl [0, 1] rfl)
  refine lv_icmp_ne (tgt := 20) hx hb dX12_readLine_10 (by decide) (fun c92 => ?_) (fun c92 => ?_)
  · skip
    exact J20 (F) (L) (A) (B) H locs ls hq (pR.rf hJ) (e4.symm) wB0 hP hD hS (lv_sub hl [1, 0] rfl)
  · skip
    have r93 : rg x3 3 3 := rg_eq1 c92 (r5 : rg x3 0 5) ((rg_k (by decide)) : rg 3 3 3) (by decide)
    refine lv_aload_n hx hb dX12_readLine_13 rfl (lv_at hl 1 rfl) ?_
    refine callv_i (As := []) (rest := []) hC (c_X12_isFull_0 l D cA H.size ad F L A B  hq.1 (e4.symm.trans c92)) (cwV 0 hg (g_V mw_1320 mw_1317 mw_1319 ms_52 mw_20) rfl rfl rfl (by decide +kernel) ⟨(Nat.le_of_ble_eq_true rfl), (Nat.le_of_ble_eq_true rfl)⟩) hP hD hS hA atM_0 rfl rfl hl.1 rfl (Nat.le_of_ble_eq_true rfl) dX12_readLine_14 ⟨Nat.zero_le _, Nat.zero_le _⟩ (fun x94 u H locs hw hP hD hS => ?_)
    obtain ⟨r95, g96⟩ := hw
    have hP : va_P D classes (wM cA ad F L A B) H := hP
    have hD : va_D Af (wM cA ad F L A B) := hD
    refine lv_if_eq (tgt := 24) hx hb dX12_readLine_17 (by decide) (fun c97 => ?_) (fun c97 => ?_)
    · skip
      have r98 : rg x94 0 0 := rg_eq1 c97 (r95 : rg x94 0 1) ((rg_k (by decide)) : rg 0 0 0) (by decide)
      exact J24 (F) (L) (A) (B) H locs ls hq (pR.rf hJ) (e4.symm) ⟨(Or.inr ⟨e4.symm.trans c92, rfl, fun h => (rg_ne1 (((g96).resolve_left (fun z => z c97)).1 (e2.symm.trans h)) (hq.1.2 3 _ : rg _ 0 8) (rg_k (by decide) : rg 8 8 8)).2 rfl, fun h => (rg_ne1 (((g96).resolve_left (fun z => z c97)).2 (e2.symm.trans h)) (hq.1.2 4 _ : rg _ 0 10) (rg_k (by decide) : rg 10 10 10)).2 rfl⟩), wB0⟩ hP hD hS (lv_sub hl [1, 0] rfl)
    · skip
      have r99 : rg x94 1 1 := (rg_ne1 c97 (r95 : rg x94 0 1) ((rg_k (by decide)) : rg 0 0 0)).1 rfl
      exact J20 (F) (L) (A) (B) H locs ls hq (pR.rf hJ) (e4.symm) wB0 hP hD hS (lv_sub hl [1, 0] rfl)
abbrev rm_X12_yard_0 : Room := { frames := 5, cells := 0, slots := 0, locals := 112 }
set_option maxHeartbeats 4000000 in
set_option maxRecDepth 100000 in
theorem c_X12_yard_0 (l : Launch) (D : va_G) (cA : Nat → ClassId) (sz : Nat) (ad : Nat → Nat) (F : Nat → Int32) (L : Nat → Int64) (A : Nat → Nat → Int32) (B : Nat → Nat → Int64)  (hT : typM F A) (hI : xM F) (hLM : LM F A) : Met l yX12_yard (Cond.code yX12_yard cX12_yard 2 (some .int) :: GW) rm_X12_yard_0 (mPc D classes (tysM cA) (wM cA ad F L A B) sz [.ref (ad 0)]) (mQi (S := SW) D classes (tysM cA) (wM cA ad F L A B) sz (wfM cA ad) (fun r u => qM [0, 1, 2, 3, 4, 5, 6, 7, 8, 9, 10, 14, 15, 16, 17] [2, 3, 4, 5, 6, 7, 8, 9, 10, 11, 12, 13, 14, 15, 17, 36] F A u.1 u.2.2.1 ∧ xM u.1 ∧ rg r (-1) 8 ∧ (LM u.1 u.2.2.1))) 0 0 (va_A (wM cA ad F L A B) sz) := by
  refine met_i (own := "ShoeingDayModel") (by decide +kernel) rfl (Nat.le_of_ble_eq_true rfl) ?_
  intro p e s m args below meth c Q Af ls hC hP hD hS hA hl hret
  have hx := hC.1
  have hb := hC.2.1
  have hown := hC.2.2.2.1
  have hg := hC.g
  have hK := hC.K
  have hl : lv_has ls 2 [(0, .ref (ad 0))] := hl
  have hq : qM [0, 1, 2, 3, 4, 5, 6, 7, 8, 9, 10, 14, 15, 16, 17] [2, 3, 4, 5, 6, 7, 8, 9, 10, 11, 12, 13, 14, 15, 17, 36] F A F A := qM.rf hT
  obtain ⟨H, hH⟩ : ∃ H, H = s.heap := ⟨_, rfl⟩
  have hP : va_P D classes (wM cA ad F L A B) H := by rw [hH]; exact hP
  have hS : va_S Af s.heap H [] := by rw [hH]; exact hS
  obtain ⟨locs, hlo⟩ : ∃ q : List Loc, q = [] := ⟨_, rfl⟩
  rw [← hH, ← hlo]
  rw [← hlo] at hS
  refine lv_aload_n hx hb dX12_yard_0 rfl (lv_at hl 0 rfl) ?_
  refine lv_iconst (v := 0) hx hb dX12_yard_1 (by decide) ?_
  refine va_put (ci := 12) (v := .int 0) (ty := .int) (C := RX12) (T := TX12) (N := 57) hx hb hg inX12 tyX12 tyX12_ok nmX12 hown hK hP hD hS 0 atM_0 rfl 4 (by decide) (hg _ mw_1112) (fun _ h9 => h9) rfl (by decide +kernel) rfl rfl (Nat.le_of_ble_eq_true rfl) dX12_yard_2 (fun H locs hP hD hS => ?_)
  have hq := hq.put 2 (x := 0) (by decide) (rg_k (by decide))
  rw [setFM_2] at hP hD
  refine lv_aload_n hx hb dX12_yard_5 rfl (lv_at hl 0 rfl) ?_
  refine lv_iconst (v := (-1)) hx hb dX12_yard_6 (by decide) ?_
  refine va_put (ci := 12) (v := .int (-1)) (ty := .int) (C := RX12) (T := TX12) (N := 57) hx hb hg inX12 tyX12 tyX12_ok nmX12 hown hK hP hD hS 0 atM_0 rfl 5 (by decide) (hg _ mw_1113) (fun _ h9 => h9) rfl (by decide +kernel) rfl rfl (Nat.le_of_ble_eq_true rfl) dX12_yard_7 (fun H locs hP hD hS => ?_)
  have hq := hq.put 3 (x := (-1)) (by decide) (rg_k (by decide))
  rw [setFM_3] at hP hD
  refine lv_aload_n hx hb dX12_yard_10 rfl (lv_at hl 0 rfl) ?_
  refine lv_aload_n hx hb dX12_yard_11 rfl (lv_at hl 0 rfl) ?_
  refine va_get (ci := 12) (v := .int (F 0)) (C := RX12) (T := TX12) (N := 57) hx hb hg inX12 hown hK hP 0 atM_0 rfl 2 (by decide) (hg _ mw_1110) (fun _ h9 => h9) rfl dX12_yard_12 ?_
  refine lv_topi (fun x1 e2 => ?_)
  have r3 : rg x1 0 1700 := rg_e e2 (hq.1.1 0)
  refine va_put (ci := 12) (v := .int x1) (ty := .int) (C := RX12) (T := TX12) (N := 57) hx hb hg inX12 tyX12 tyX12_ok nmX12 hown hK hP hD hS 0 atM_0 rfl 3 (by decide) (hg _ mw_1111) (fun _ h9 => h9) rfl (by decide +kernel) rfl rfl (Nat.le_of_ble_eq_true rfl) dX12_yard_15 (fun H locs hP hD hS => ?_)
  have hq := hq.put 1 (x := x1) (by decide) r3
  rw [setFM_1] at hP hD
  refine lv_iconst (v := 0) hx hb dX12_yard_18 (by decide) ?_
  refine lv_istore_n (lv' := [(1, .int 0), (0, .ref (ad 0))]) hx hb dX12_yard_19 rfl hl (by decide) rfl (fun ls hl => ?_)
  have J20 : ∀ (n20 : Nat) (a4 : Int32) (F6 : Nat → Int32) (L6 : Nat → Int64) (A6 : Nat → Nat → Int32) (B6 : Nat → Nat → Int64) (H : Heap) (locs : List Loc) (ls : Array Slot), (1700 - a4.toInt).toNat < n20 → rg a4 0 1700 → qM [0, 1, 2, 3, 4, 5, 6, 7, 8, 9, 10, 14, 15, 16, 17] [2, 3, 4, 5, 6, 7, 8, 9, 10, 11, 12, 13, 14, 15, 17, 36] F A F6 A6 → xM F6 → F6 1 = x1 → (yA F A F6 A6) → va_P D classes (wM cA ad F6 L6 A6 B6) H → va_D Af (wM cA ad F6 L6 A6 B6) → va_S Af s.heap H locs → lv_has ls 2 [(0, .ref (ad 0)), (1, .int a4)] → W p l e rm_X12_yard_0 s m args below meth c H locs 0 0 Q (F0 m 20 ls []) := by
    intro n20
    induction n20 with
    | zero =>
      intro _ _ _ _ _ _ _ _ hn
      exact absurd hn (Nat.not_lt_zero _)
    | succ n20 ih20 =>
      intro a4 F6 L6 A6 B6 H locs ls hn20 r5 hq i7 f8 v9 hP hD hS hl
      refine lv_iload_n hx hb dX12_yard_20 rfl (lv_at hl 1 rfl) ?_
      refine lv_aload_n hx hb dX12_yard_21 rfl (lv_at hl 0 rfl) ?_
      refine va_get (ci := 12) (v := .int x1) (C := RX12) (T := TX12) (N := 57) hx hb hg inX12 hown hK hP 0 atM_0 rfl 3 (by decide) (hg _ mw_1111) (fun _ h9 => h9) (congrArg (fun z => some (Value.int z)) (f8)) dX12_yard_22 ?_
      refine lv_icmp_ge (tgt := 46) hx hb dX12_yard_25 (by decide) (fun c10 => ?_) (fun c10 => ?_)
      · skip
        refine lv_aload_n hx hb dX12_yard_46 rfl (lv_at hl 0 rfl) ?_
        refine lv_iconst (v := 0) hx hb dX12_yard_47 (by decide) ?_
        refine va_put (ci := 12) (v := .int 0) (ty := .int) (C := RX12) (T := TX12) (N := 57) hx hb hg inX12 tyX12 tyX12_ok nmX12 hown hK hP hD hS 0 atM_0 rfl 2 (by decide) (hg _ mw_1110) (fun _ h9 => h9) rfl (by decide +kernel) rfl rfl (Nat.le_of_ble_eq_true rfl) dX12_yard_48 (fun H locs hP hD hS => ?_)
        have hq := hq.put 0 (x := 0) (by decide) (rg_k (by decide))
        rw [setFM_0] at hP hD
        refine lv_aload_n hx hb dX12_yard_51 rfl (lv_at hl 0 rfl) ?_
        refine lv_iconst (v := 0) hx hb dX12_yard_52 (by decide) ?_
        refine va_put (ci := 12) (v := .int 0) (ty := .int) (C := RX12) (T := TX12) (N := 57) hx hb hg inX12 tyX12 tyX12_ok nmX12 hown hK hP hD hS 0 atM_0 rfl 7 (by decide) (hg _ mw_1115) (fun _ h9 => h9) rfl (by decide +kernel) rfl rfl (Nat.le_of_ble_eq_true rfl) dX12_yard_53 (fun H locs hP hD hS => ?_)
        have hq := hq.put 5 (x := 0) (by decide) (rg_k (by decide))
        rw [setFM_5] at hP hD
        refine lv_aload_n hx hb dX12_yard_56 rfl (lv_at hl 0 rfl) ?_
        refine lv_iconst (v := 1) hx hb dX12_yard_57 (by decide) ?_
        refine lv_aload_n hx hb dX12_yard_58 rfl (lv_at hl 0 rfl) ?_
        refine va_get (ci := 12) (v := .int (F6 8)) (C := RX12) (T := TX12) (N := 57) hx hb hg inX12 hown hK hP 0 atM_0 rfl 24 (by decide) (hg _ mw_1132) (fun _ h9 => h9) rfl dX12_yard_59 ?_
        refine lv_topi (fun x13 e14 => ?_)
        have r15 : rg x13 0 1 := rg_e e14 (hq.1.1 8)
        refine lv_isub hx hb dX12_yard_62 ?_
        refine lv_topi (fun x16 e17 => ?_)
        have r18 : rg x16 0 1 := rg_sub e17 ((rg_k (by decide)) : rg 1 1 1) r15 (by decide)
        refine va_put (ci := 12) (v := .int x16) (ty := .int) (C := RX12) (T := TX12) (N := 57) hx hb hg inX12 tyX12 tyX12_ok nmX12 hown hK hP hD hS 0 atM_0 rfl 25 (by decide) (hg _ mw_1133) (fun _ h9 => h9) rfl (by decide +kernel) rfl rfl (Nat.le_of_ble_eq_true rfl) dX12_yard_63 (fun H locs hP hD hS => ?_)
        have hq := hq.put 9 (x := x16) (by decide) r18
        rw [setFM_9] at hP hD
        refine lv_aload_n hx hb dX12_yard_66 rfl (lv_at hl 0 rfl) ?_
        refine callv_v (As := []) (rest := []) hC (c_X12_clearBank_0 l D cA H.size ad (upd (upd (upd F6 0 (0 : Int32)) 5 (0 : Int32)) 9 x16) L6 A6 B6  hq.1) (cwV 0 hg (g_V mw_1103 mw_1100 mw_1102 ms_46 mw_20) rfl rfl rfl (by decide +kernel) ⟨(Nat.le_of_ble_eq_true rfl), (Nat.le_of_ble_eq_true rfl)⟩) hP hD hS hA atM_0 rfl rfl hl.1 rfl (Nat.le_of_ble_eq_true rfl) dX12_yard_67 ⟨Nat.zero_le _, Nat.zero_le _⟩ (fun  u H locs hw hP hD hS => ?_)
        obtain ⟨F19, L19, A19, B19⟩ := u
        try dsimp only at hw
        obtain ⟨hq19, g20⟩ := hw
        have hq := hq.call hq19 (by decide)
        have hP : va_P D classes (wM cA ad F19 L19 A19 B19) H := hP
        have hD : va_D Af (wM cA ad F19 L19 A19 B19) := hD
        have hfl := flip_bank (r15 : rg x13 0 1) e17
        have eb8 : x13 = F 8 := e14.trans v9.1
        rw [eb8] at hfl
        have yb0 : yB F A F19 A19 x16.toNatClampNeg := yB_of v9 (hq19.2.1 8 (by decide)) (hq19.2.1 14 (by decide)) (hq19.2.1 15 (by decide)) (hq19.2.2 17 (by decide)) (hq19.2.2 36 (by decide)) g20
        refine lv_aload_n hx hb dX12_yard_70 rfl (lv_at hl 0 rfl) ?_
        refine callv_v (As := []) (rest := []) hC (c_X12_goOn_0 l D cA H.size ad F19 L19 A19 B19  hq.1 (by rw [show F19 5 = 0 from (hq19.2.1 5 (by decide)).trans (rfl)]; exact (hq.1.1 1 : rg _ 0 1700).1)) (cwV 0 hg (g_V mw_1288 mw_1285 mw_1287 ms_48 mw_20) rfl rfl rfl (by decide +kernel) ⟨(Nat.le_of_ble_eq_true rfl), (Nat.le_of_ble_eq_true rfl)⟩) hP hD hS hA atM_0 rfl rfl hl.1 rfl (Nat.le_of_ble_eq_true rfl) dX12_yard_71 ⟨Nat.zero_le _, Nat.zero_le _⟩ (fun  u H locs hw hP hD hS => ?_)
        obtain ⟨F21, L21, A21, B21⟩ := u
        try dsimp only at hw
        obtain ⟨hq21, g22⟩ := hw
        have hq := hq.call hq21 (by decide)
        have hP : va_P D classes (wM cA ad F21 L21 A21 B21) H := hP
        have hD : va_D Af (wM cA ad F21 L21 A21 B21) := hD
        have yb1 : yB F A F21 A21 x16.toNatClampNeg := yB_fr yb0 (hq21.2.1 8 (by decide)) (hq21.2.1 14 (by decide)) (hq21.2.1 15 (by decide)) (hq21.2.2 17 (by decide)) (hq21.2.2 36 (by decide)) (hq21.2.2 3 (by decide)) (hq21.2.2 4 (by decide)) (hq21.2.2 10 (by decide))
        have J74 : ∀ (n74 : Nat) (F23 : Nat → Int32) (L23 : Nat → Int64) (A23 : Nat → Nat → Int32) (B23 : Nat → Nat → Int64) (H : Heap) (locs : List Loc) (ls : Array Slot), (mu F23) < n74 → qM [0, 1, 2, 3, 4, 5, 6, 7, 8, 9, 10, 14, 15, 16, 17] [2, 3, 4, 5, 6, 7, 8, 9, 10, 11, 12, 13, 14, 15, 17, 36] F A F23 A23 → xM F23 → F23 8 = x13 → F23 9 = x16 → (pI F23 ∧ yB F A F23 A23 x16.toNatClampNeg) → va_P D classes (wM cA ad F23 L23 A23 B23) H → va_D Af (wM cA ad F23 L23 A23 B23) → va_S Af s.heap H locs → lv_has ls 2 [(0, .ref (ad 0))] → W p l e rm_X12_yard_0 s m args below meth c H locs 0 0 Q (F0 m 74 ls []) := by
          intro n74
          induction n74 with
          | zero =>
            intro _ _ _ _ _ _ _ hn
            exact absurd hn (Nat.not_lt_zero _)
          | succ n74 ih74 =>
            intro F23 L23 A23 B23 H locs ls hn74 hq i24 f25 f26 v27 hP hD hS hl
            refine lv_aload_n hx hb dX12_yard_74 rfl (lv_at hl 0 rfl) ?_
            refine callv_i (As := []) (rest := []) hC (c_X12_isGood_0 l D cA H.size ad F23 L23 A23 B23  hq.1) (cwV 0 hg (g_V mw_1312 mw_1309 mw_1311 ms_50 mw_20) rfl rfl rfl (by decide +kernel) ⟨(Nat.le_of_ble_eq_true rfl), (Nat.le_of_ble_eq_true rfl)⟩) hP hD hS hA atM_0 rfl rfl hl.1 rfl (Nat.le_of_ble_eq_true rfl) dX12_yard_75 ⟨Nat.zero_le _, Nat.zero_le _⟩ (fun x28 u H locs hw hP hD hS => ?_)
            obtain ⟨r29, g30⟩ := hw
            have hP : va_P D classes (wM cA ad F23 L23 A23 B23) H := hP
            have hD : va_D Af (wM cA ad F23 L23 A23 B23) := hD
            have J95 : ∀ (F31 : Nat → Int32) (L31 : Nat → Int64) (A31 : Nat → Nat → Int32) (B31 : Nat → Nat → Int64) (H : Heap) (locs : List Loc) (ls : Array Slot), qM [0, 1, 2, 3, 4, 5, 6, 7, 8, 9, 10, 14, 15, 16, 17] [2, 3, 4, 5, 6, 7, 8, 9, 10, 11, 12, 13, 14, 15, 17, 36] F A F31 A31 → xM F31 → F31 8 = x13 → F31 9 = x16 → (yB F A F31 A31 x16.toNatClampNeg) → va_P D classes (wM cA ad F31 L31 A31 B31) H → va_D Af (wM cA ad F31 L31 A31 B31) → va_S Af s.heap H locs → lv_has ls 2 [(0, .ref (ad 0))] → W p l e rm_X12_yard_0 s m args below meth c H locs 0 0 Q (F0 m 95 ls []) := by
              intro F31 L31 A31 B31 H locs ls hq i32 f33 f34 v35 hP hD hS hl
              refine lv_aload_n hx hb dX12_yard_95 rfl (lv_at hl 0 rfl) ?_
              refine callv_i (As := []) (rest := []) hC (c_X12_isGood_0 l D cA H.size ad F31 L31 A31 B31  hq.1) (cwV 0 hg (g_V mw_1312 mw_1309 mw_1311 ms_50 mw_20) rfl rfl rfl (by decide +kernel) ⟨(Nat.le_of_ble_eq_true rfl), (Nat.le_of_ble_eq_true rfl)⟩) hP hD hS hA atM_0 rfl rfl hl.1 rfl (Nat.le_of_ble_eq_true rfl) dX12_yard_96 ⟨Nat.zero_le _, Nat.zero_le _⟩ (fun x36 u H locs hw hP hD hS => ?_)
              obtain ⟨r37, g38⟩ := hw
              have hP : va_P D classes (wM cA ad F31 L31 A31 B31) H := hP
              have hD : va_D Af (wM cA ad F31 L31 A31 B31) := hD
              refine lv_if_ne (tgt := 104) hx hb dX12_yard_99 (by decide) (fun c39 => ?_) (fun c39 => ?_)
              · skip
                have r40 : rg x36 1 1 := (rg_ne1 c39 (r37 : rg x36 0 1) ((rg_k (by decide)) : rg 0 0 0)).1 rfl
                refine lv_aload_n hx hb dX12_yard_104 rfl (lv_at hl 0 rfl) ?_
                refine lv_aload_n hx hb dX12_yard_105 rfl (lv_at hl 0 rfl) ?_
                refine va_get (ci := 12) (v := .int x16) (C := RX12) (T := TX12) (N := 57) hx hb hg inX12 hown hK hP 0 atM_0 rfl 25 (by decide) (hg _ mw_1133) (fun _ h9 => h9) (congrArg (fun z => some (Value.int z)) (f34)) dX12_yard_106 ?_
                refine va_put (ci := 12) (v := .int x16) (ty := .int) (C := RX12) (T := TX12) (N := 57) hx hb hg inX12 tyX12 tyX12_ok nmX12 hown hK hP hD hS 0 atM_0 rfl 24 (by decide) (hg _ mw_1132) (fun _ h9 => h9) rfl (by decide +kernel) rfl rfl (Nat.le_of_ble_eq_true rfl) dX12_yard_109 (fun H locs hP hD hS => ?_)
                have hq := hq.put 8 (x := x16) (by decide) r18
                rw [setFM_8] at hP hD
                refine lv_aload_n hx hb dX12_yard_112 rfl (lv_at hl 0 rfl) ?_
                refine lv_iconst (v := 0) hx hb dX12_yard_113 (by decide) ?_
                refine va_put (ci := 12) (v := .int 0) (ty := .int) (C := RX12) (T := TX12) (N := 57) hx hb hg inX12 tyX12 tyX12_ok nmX12 hown hK hP hD hS 0 atM_0 rfl 53 (by decide) (hg _ mw_1161) (fun _ h9 => h9) rfl (by decide +kernel) rfl rfl (Nat.le_of_ble_eq_true rfl) dX12_yard_114 (fun H locs hP hD hS => ?_)
                have hq := hq.put 17 (x := 0) (by decide) (rg_k (by decide))
                rw [setFM_17] at hP hD
                refine lv_aload_n hx hb dX12_yard_117 rfl (lv_at hl 0 rfl) ?_
                refine lv_iconst (v := 0) hx hb dX12_yard_118 (by decide) ?_
                refine va_put (ci := 12) (v := .int 0) (ty := .int) (C := RX12) (T := TX12) (N := 57) hx hb hg inX12 tyX12 tyX12_ok nmX12 hown hK hP hD hS 0 atM_0 rfl 47 (by decide) (hg _ mw_1155) (fun _ h9 => h9) rfl (by decide +kernel) rfl rfl (Nat.le_of_ble_eq_true rfl) dX12_yard_119 (fun H locs hP hD hS => ?_)
                have hq := hq.put 16 (x := 0) (by decide) (rg_k (by decide))
                rw [setFM_16] at hP hD
                refine lv_iconst (v := 0) hx hb dX12_yard_122 (by decide) ?_
                refine lv_istore_n (lv' := [(1, .int 0), (0, .ref (ad 0))]) hx hb dX12_yard_123 rfl hl (by decide) rfl (fun ls hl => ?_)
                have J124 : ∀ (n124 : Nat) (a42 : Int32) (F44 : Nat → Int32) (L44 : Nat → Int64) (A44 : Nat → Nat → Int32) (B44 : Nat → Nat → Int64) (H : Heap) (locs : List Loc) (ls : Array Slot), (3 - a42.toInt).toNat < n124 → rg a42 0 3 → qM [0, 1, 2, 3, 4, 5, 6, 7, 8, 9, 10, 14, 15, 16, 17] [2, 3, 4, 5, 6, 7, 8, 9, 10, 11, 12, 13, 14, 15, 17, 36] F A F44 A44 → xM F44 → F44 8 = x16 → (dmB A44 x16.toNatClampNeg ∧ ∀ x : Nat, (x : Int) < a42.toInt → A44 36 x = -1) → va_P D classes (wM cA ad F44 L44 A44 B44) H → va_D Af (wM cA ad F44 L44 A44 B44) → va_S Af s.heap H locs → lv_has ls 2 [(0, .ref (ad 0)), (1, .int a42)] → W p l e rm_X12_yard_0 s m args below meth c H locs 0 0 Q (F0 m 124 ls []) := by
                  intro n124
                  induction n124 with
                  | zero =>
                    intro _ _ _ _ _ _ _ _ hn
                    exact absurd hn (Nat.not_lt_zero _)
                  | succ n124 ih124 =>
                    intro a42 F44 L44 A44 B44 H locs ls hn124 r43 hq i45 f46 v47 hP hD hS hl
                    refine lv_iload_n hx hb dX12_yard_124 rfl (lv_at hl 1 rfl) ?_
                    refine lv_iconst (v := 3) hx hb dX12_yard_125 (by decide) ?_
                    refine lv_icmp_ge (tgt := 142) hx hb dX12_yard_126 (by decide) (fun c48 => ?_) (fun c48 => ?_)
                    · skip
                      have r49 : rg a42 3 3 := rg_le2 (iE c48) ((rg_k (by decide)) : rg 3 3 3) (r43 : rg a42 0 3)
                      refine lv_aload_n hx hb dX12_yard_142 rfl (lv_at hl 0 rfl) ?_
                      refine callv_v (As := []) (rest := []) hC (c_X12_begin_0 l D cA H.size ad F44 L44 A44 B44  hq.1 i45) (cwV 0 hg (g_V mw_1107 mw_1104 mw_1106 ms_47 mw_20) rfl rfl rfl (by decide +kernel) ⟨(Nat.le_of_ble_eq_true rfl), (Nat.le_of_ble_eq_true rfl)⟩) hP hD hS hA atM_0 rfl rfl hl.1 rfl (Nat.le_of_ble_eq_true rfl) dX12_yard_143 ⟨Nat.zero_le _, Nat.zero_le _⟩ (fun  u H locs hw hP hD hS => ?_)
                      obtain ⟨F51, L51, A51, B51⟩ := u
                      try dsimp only at hw
                      obtain ⟨hq51, i52, g53⟩ := hw
                      have hq := hq.call hq51 (by decide)
                      have hP : va_P D classes (wM cA ad F51 L51 A51 B51) H := hP
                      have hD : va_D Af (wM cA ad F51 L51 A51 B51) := hD
                      have lmN : LM F51 A51 := LM.new (by rw [show F44 8 = x16 from f46]; exact v47.1) (hq51.2.1 8 (by decide)) (g53).2.1 (g53).2.2 (hq51.2.2 3 (by decide)) (hq51.2.2 4 (by decide)) (hq51.2.2 10 (by decide)) (g53).1 (fun x hx => (congrFun (hq51.2.2 36 (by decide)) x).trans (v47.2 x hx)) (by have := (r49 : rg a42 3 3).1; omega)
                      refine lv_aload_n hx hb dX12_yard_146 rfl (lv_at hl 0 rfl) ?_
                      refine va_get (ci := 12) (v := .ref (ad 3)) (C := RX12) (T := TX12) (N := 57) hx hb hg inX12 hown hK hP 0 atM_0 rfl 11 (by decide) (hg _ mw_1119) (fun _ h9 => h9) rfl dX12_yard_147 ?_
                      refine lv_aload_n hx hb dX12_yard_150 rfl (lv_at hl 0 rfl) ?_
                      refine va_get (ci := 12) (v := .int x16) (C := RX12) (T := TX12) (N := 57) hx hb hg inX12 hown hK hP 0 atM_0 rfl 24 (by decide) (hg _ mw_1132) (fun _ h9 => h9) (congrArg (fun z => some (Value.int z)) ((hq51.2.1 8 (by decide)).trans (f46))) dX12_yard_151 ?_
                      refine va_iald hx hb hK hP 3 2 atM_3 tyM_3 (in_rg r18 (by decide)) dX12_yard_154 ?_
                      refine lv_topi (fun x54 e55 => ?_)
                      have r56 : rg x54 0 8 := rg_e e55 (hq.1.2 3 _)
                      exact hret (x54) (F51, L51, A51, B51) H locs 155 ls rfl dX12_yard_155 hP hD hS ⟨hq, i52, (rg_w r56 (by decide)), lmN⟩
                    · skip
                      have r50 : rg a42 0 2 := rg_lt1 (iNE c48) (r43 : rg a42 0 3) ((rg_k (by decide)) : rg 3 3 3)
                      refine lv_aload_n hx hb dX12_yard_129 rfl (lv_at hl 0 rfl) ?_
                      refine va_get (ci := 12) (v := .ref (ad 36)) (C := RX12) (T := TX12) (N := 57) hx hb hg inX12 hown hK hP 0 atM_0 rfl 55 (by decide) (hg _ mw_1163) (fun _ h9 => h9) rfl dX12_yard_130 ?_
                      refine lv_iload_n hx hb dX12_yard_133 rfl (lv_at hl 1 rfl) ?_
                      refine lv_iconst (v := (-1)) hx hb dX12_yard_134 (by decide) ?_
                      refine va_iast hx hb hK hP hD hS 36 35 atM_36 tyM_36 (in_rg r50 (by decide)) dX12_yard_135 (fun H locs hP hD hS => ?_)
                      have hq := hq.ast 36 (a42).toNatClampNeg (x := (-1)) (by decide) (rg_k (by decide))
                      rw [setM_36] at hP hD
                      have k57 : ((-1) : Int32) = (va_up A44 36 (upd (A44 36) (a42).toNatClampNeg (-1))) 36 (a42).toNatClampNeg := (rdA).symm
                      obtain ⟨x58, e59⟩ : ∃ y : Int32, y = a42 + 1 := ⟨_, rfl⟩
                      have r60 : rg x58 1 3 := rg_add e59 r50 (rg_k (by decide) : rg 1 1 1) (by decide)
                      refine lv_iinc (v := x58) (lv' := [(1, .int x58), (0, .ref (ad 0))]) hx hb dX12_yard_136 hl (k := 1) rfl (by rw [e59]; rfl) (by decide) rfl (fun ls hl => ?_)
                      refine lv_goto (tgt := 124) hx hb dX12_yard_139 (by decide) ?_
                      exact ih124 (x58) (F44) (L44) ((va_up A44 36 (upd (A44 36) (a42).toNatClampNeg (-1)))) (B44) H locs ls (by have h0 : (1 : Int32).toInt = 1 := rfl; have h1 := ti_addk e59 r50 (by decide); have h2 : rg x58 0 3 := (rg_w r60 (by decide)); unfold rg at h2; omega) (rg_w r60 (by decide)) hq i45 (f46) ⟨v47.1, by rw [va_us]; exact bq_step v47.2 (r50 : rg a42 0 2) e59⟩ hP hD hS (lv_sub hl [1, 0] rfl)
                exact J124 _ (0) ((upd (upd (upd F31 8 x16) 17 (0 : Int32)) 16 (0 : Int32))) (L31) (A31) (B31) H locs ls (Nat.lt_succ_self _) (rg_k (by decide)) hq (xM.fr (xM.fr (xM.fr i32 rfl rfl) rfl rfl) rfl rfl) (rfl) ⟨v35.2.2.2.2.2.2, bq_0⟩ hP hD hS (lv_sub hl [1, 0] rfl)
              · skip
                have r41 : rg x36 0 0 := rg_eq1 c39 (r37 : rg x36 0 1) ((rg_k (by decide)) : rg 0 0 0) (by decide)
                refine lv_iconst (v := (-1)) hx hb dX12_yard_102 (by decide) ?_
                exact hret ((-1)) (F31, L31, A31, B31) H locs 103 ls rfl dX12_yard_103 hP hD hS ⟨hq, i32, (rg_k (by decide)), (LM.other hLM v35.1 v35.2.1 v35.2.2.1 v35.2.2.2.1 (hq.2.2 27 (by decide)) v35.2.2.2.2.1 (hq.2.2 37 (by decide)) v35.2.2.2.2.2.1 hfl.2.1 hfl.2.2)⟩
            refine lv_if_eq (tgt := 95) hx hb dX12_yard_78 (by decide) (fun c61 => ?_) (fun c61 => ?_)
            · skip
              have r62 : rg x28 0 0 := rg_eq1 c61 (r29 : rg x28 0 1) ((rg_k (by decide)) : rg 0 0 0) (by decide)
              exact J95 (F23) (L23) (A23) (B23) H locs ls hq i24 (f25) (f26) v27.2 hP hD hS (lv_sub hl [0] rfl)
            · skip
              have r63 : rg x28 1 1 := (rg_ne1 c61 (r29 : rg x28 0 1) ((rg_k (by decide)) : rg 0 0 0)).1 rfl
              refine lv_aload_n hx hb dX12_yard_81 rfl (lv_at hl 0 rfl) ?_
              refine va_get (ci := 12) (v := .int (F23 6)) (C := RX12) (T := TX12) (N := 57) hx hb hg inX12 hown hK hP 0 atM_0 rfl 8 (by decide) (hg _ mw_1116) (fun _ h9 => h9) rfl dX12_yard_82 ?_
              refine lv_topi (fun x64 e65 => ?_)
              have r66 : rg x64 0 5 := rg_e e65 (hq.1.1 6)
              refine lv_if_eq (tgt := 95) hx hb dX12_yard_85 (by decide) (fun c67 => ?_) (fun c67 => ?_)
              · skip
                have r68 : rg x64 0 0 := rg_eq1 c67 (r66 : rg x64 0 5) ((rg_k (by decide)) : rg 0 0 0) (by decide)
                exact J95 (F23) (L23) (A23) (B23) H locs ls hq i24 (f25) (f26) v27.2 hP hD hS (lv_sub hl [0] rfl)
              · skip
                have r69 : rg x64 1 5 := (rg_ne1 c67 (r66 : rg x64 0 5) ((rg_k (by decide)) : rg 0 0 0)).1 rfl
                refine lv_aload_n hx hb dX12_yard_88 rfl (lv_at hl 0 rfl) ?_
                have f9 : F23 9 = x16 := f26
                refine callv_v (As := []) (rest := []) hC (c_X12_readLine_0 l D cA H.size ad F23 L23 A23 B23  hq.1 v27.1 (by rw [f9]; exact v27.2.2.2.2.2.2.2)) (cwV 0 hg (g_V mw_1316 mw_1313 mw_1315 ms_51 mw_20) rfl rfl rfl (by decide +kernel) ⟨(Nat.le_of_ble_eq_true rfl), (Nat.le_of_ble_eq_true rfl)⟩) hP hD hS hA atM_0 rfl rfl hl.1 rfl (Nat.le_of_ble_eq_true rfl) dX12_yard_89 ⟨Nat.zero_le _, Nat.zero_le _⟩ (fun  u H locs hw hP hD hS => ?_)
                obtain ⟨F70, L70, A70, B70⟩ := u
                try dsimp only at hw
                obtain ⟨hq70, g71, g72⟩ := hw
                have hq := hq.call hq70 (by decide)
                have hP : va_P D classes (wM cA ad F70 L70 A70 B70) H := hP
                have hD : va_D Af (wM cA ad F70 L70 A70 B70) := hD
                have yb2 : yB F A F70 A70 x16.toNatClampNeg := yB_tr v27.2 (hq70.2.1 8 (by decide)) (hq70.2.1 14 (by decide)) (hq70.2.1 15 (by decide)) (hq70.2.2 17 (by decide)) (hq70.2.2 36 (by decide)) (by have h9 := (g72).2; rw [f9] at h9; exact h9)
                refine lv_goto (tgt := 74) hx hb dX12_yard_92 (by decide) ?_
                exact ih74 (F70) (L70) (A70) (B70) H locs ls (mu_dec hn74 ((g30).1.resolve_left c61) g71 (g72).1 (hq.1.1 4 : rg _ 0 1700)) hq (xM.fr i24 (hq70.2.1 14 (by decide)) (hq70.2.1 15 (by decide))) ((hq70.2.1 8 (by decide)).trans (f25)) ((hq70.2.1 9 (by decide)).trans (f26)) ⟨(g71).1, yb2⟩ hP hD hS (lv_sub hl [0] rfl)
        exact J74 _ (F21) (L21) (A21) (B21) H locs ls (Nat.lt_succ_self _) hq (xM.fr (xM.fr (xM.fr (xM.fr (xM.fr i7 rfl rfl) rfl rfl) rfl rfl) (hq19.2.1 14 (by decide)) (hq19.2.1 15 (by decide))) (hq21.2.1 14 (by decide)) (hq21.2.1 15 (by decide))) ((hq21.2.1 8 (by decide)).trans ((hq19.2.1 8 (by decide)).trans (e14.symm))) ((hq21.2.1 9 (by decide)).trans ((hq19.2.1 9 (by decide)).trans (rfl))) ⟨(g22).1, yb1⟩ hP hD hS (lv_sub hl [0] rfl)
      · skip
        have r11 : rg a4 0 1699 := rg_lt1 (iNE c10) (r5 : rg a4 0 1700) (r3 : rg x1 0 1700)
        have r12 : rg x1 1 1700 := rg_lt2 (iNE c10) (r5 : rg a4 0 1700) (r3 : rg x1 0 1700)
        refine lv_aload_n hx hb dX12_yard_28 rfl (lv_at hl 0 rfl) ?_
        refine va_get (ci := 12) (v := .ref (ad 2)) (C := RX12) (T := TX12) (N := 57) hx hb hg inX12 hown hK hP 0 atM_0 rfl 1 (by decide) (hg _ mw_1109) (fun _ h9 => h9) rfl dX12_yard_29 ?_
        refine lv_iload_n hx hb dX12_yard_32 rfl (lv_at hl 1 rfl) ?_
        refine lv_aload_n hx hb dX12_yard_33 rfl (lv_at hl 0 rfl) ?_
        refine va_get (ci := 12) (v := .ref (ad 1)) (C := RX12) (T := TX12) (N := 57) hx hb hg inX12 hown hK hP 0 atM_0 rfl 0 (by decide) (hg _ mw_1108) (fun _ h9 => h9) rfl dX12_yard_34 ?_
        refine lv_iload_n hx hb dX12_yard_37 rfl (lv_at hl 1 rfl) ?_
        refine va_bald hx hb hK hP 1 0 atM_1 tyM_1 (in_rg r11 (by decide)) dX12_yard_38 ?_
        refine lv_topi (fun x73 e74 => ?_)
        refine va_bast hx hb hK hP hD hS 2 1 atM_2 tyM_2 (in_rg r11 (by decide)) dX12_yard_39 (fun H locs hP hD hS => ?_)
        have hq := hq.ast 2 (a4).toNatClampNeg (x := (vp_nar .byte x73)) (by decide) (rg_top _)
        rw [setM_2] at hP hD
        obtain ⟨x75, e76⟩ : ∃ y : Int32, y = a4 + 1 := ⟨_, rfl⟩
        have r77 : rg x75 1 1700 := rg_add e76 r11 (rg_k (by decide) : rg 1 1 1) (by decide)
        refine lv_iinc (v := x75) (lv' := [(1, .int x75), (0, .ref (ad 0))]) hx hb dX12_yard_40 hl (k := 1) rfl (by rw [e76]; rfl) (by decide) rfl (fun ls hl => ?_)
        refine lv_goto (tgt := 20) hx hb dX12_yard_43 (by decide) ?_
        exact ih20 (x75) (F6) (L6) ((va_up A6 2 (upd (A6 2) (a4).toNatClampNeg (vp_nar .byte x73)))) (B6) H locs ls (by have h0 : (1 : Int32).toInt = 1 := rfl; have h1 := ti_addk e76 r11 (by decide); have h2 : rg x75 0 1700 := (rg_w r77 (by decide)); unfold rg at h2; omega) (rg_w r77 (by decide)) hq i7 (f8) (yA_up v9) hP hD hS (lv_sub hl [1, 0] rfl)
  exact J20 _ (0) ((upd (upd (upd F 2 (0 : Int32)) 3 ((-1) : Int32)) 1 x1)) (L) (A) (B) H locs ls (Nat.lt_succ_self _) (rg_k (by decide)) hq (xM.fr (xM.fr (xM.fr hI rfl rfl) rfl rfl) rfl rfl) (rfl) (yA_rf rfl rfl rfl) hP hD hS (lv_sub hl [1, 0] rfl)
abbrev rm_X12_fault_0 : Room := { frames := 0, cells := 0, slots := 0, locals := 0 }
set_option maxHeartbeats 4000000 in
set_option maxRecDepth 100000 in
theorem c_X12_fault_0 (l : Launch) (D : va_G) (cA : Nat → ClassId) (sz : Nat) (ad : Nat → Nat) (F : Nat → Int32) (L : Nat → Int64) (A : Nat → Nat → Int32) (B : Nat → Nat → Int64) (p1 : Int32) (hT : typM F A) : Met l yX12_fault (Cond.code yX12_fault cX12_fault 2 (some .int) :: GW) rm_X12_fault_0 (mPc D classes (tysM cA) (wM cA ad F L A B) sz [.ref (ad 0), .int p1]) (mQi (S := Unit) D classes (tysM cA) (wM cA ad F L A B) sz (fun _ : Unit => wM cA ad F L A B) (fun r u => True)) 0 0 (va_A (wM cA ad F L A B) sz) := by
  refine met_i (own := "ShoeingDayModel") (by decide +kernel) rfl (Nat.le_of_ble_eq_true rfl) ?_
  intro p e s m args below meth c Q Af ls hC hP hD hS hA hl hret
  have hx := hC.1
  have hb := hC.2.1
  have hown := hC.2.2.2.1
  have hg := hC.g
  have hK := hC.K
  have hl : lv_has ls 2 [(0, .ref (ad 0)), (1, .int p1)] := hl
  have hq : qM [] [] F A F A := qM.rf hT
  obtain ⟨H, hH⟩ : ∃ H, H = s.heap := ⟨_, rfl⟩
  have hP : va_P D classes (wM cA ad F L A B) H := by rw [hH]; exact hP
  have hS : va_S Af s.heap H [] := by rw [hH]; exact hS
  obtain ⟨locs, hlo⟩ : ∃ q : List Loc, q = [] := ⟨_, rfl⟩
  rw [← hH, ← hlo]
  rw [← hlo] at hS
  refine lv_iload_n hx hb dX12_fault_0 rfl (lv_at hl 1 rfl) ?_
  refine lv_if_ne (tgt := 11) hx hb dX12_fault_1 (by decide) (fun c1 => ?_) (fun c1 => ?_)
  · skip
    refine lv_iload_n hx hb dX12_fault_11 rfl (lv_at hl 1 rfl) ?_
    refine lv_iconst (v := 1) hx hb dX12_fault_12 (by decide) ?_
    refine lv_icmp_ne (tgt := 23) hx hb dX12_fault_13 (by decide) (fun c3 => ?_) (fun c3 => ?_)
    · skip
      refine lv_iconst (v := (-1)) hx hb dX12_fault_23 (by decide) ?_
      exact hret ((-1)) () H locs 24 ls rfl dX12_fault_24 hP hD hS trivial
    · skip
      have r4 : rg p1 1 1 := rg_eq1 c3 ((rg_top _) : rg p1 (-2147483648) 2147483647) ((rg_k (by decide)) : rg 1 1 1) (by decide)
      refine lv_aload_n hx hb dX12_fault_16 rfl (lv_at hl 0 rfl) ?_
      refine va_get (ci := 12) (v := .int (F 3)) (C := RX12) (T := TX12) (N := 57) hx hb hg inX12 hown hK hP 0 atM_0 rfl 5 (by decide) (hg _ mw_1113) (fun _ h9 => h9) rfl dX12_fault_17 ?_
      refine lv_topi (fun x5 e6 => ?_)
      refine lv_goto (tgt := 24) hx hb dX12_fault_20 (by decide) ?_
      exact hret (x5) () H locs 24 ls rfl dX12_fault_24 hP hD hS trivial
  · skip
    have r2 : rg p1 0 0 := rg_eq1 c1 ((rg_top _) : rg p1 (-2147483648) 2147483647) ((rg_k (by decide)) : rg 0 0 0) (by decide)
    refine lv_aload_n hx hb dX12_fault_4 rfl (lv_at hl 0 rfl) ?_
    refine va_get (ci := 12) (v := .int (F 2)) (C := RX12) (T := TX12) (N := 57) hx hb hg inX12 hown hK hP 0 atM_0 rfl 4 (by decide) (hg _ mw_1112) (fun _ h9 => h9) rfl dX12_fault_5 ?_
    refine lv_topi (fun x7 e8 => ?_)
    refine lv_goto (tgt := 24) hx hb dX12_fault_8 (by decide) ?_
    exact hret (x7) () H locs 24 ls rfl dX12_fault_24 hP hD hS trivial
abbrev rm_X12_horseMany_0 : Room := { frames := 0, cells := 0, slots := 0, locals := 0 }
set_option maxHeartbeats 4000000 in
set_option maxRecDepth 100000 in
theorem c_X12_horseMany_0 (l : Launch) (D : va_G) (cA : Nat → ClassId) (sz : Nat) (ad : Nat → Nat) (F : Nat → Int32) (L : Nat → Int64) (A : Nat → Nat → Int32) (B : Nat → Nat → Int64)  (hT : typM F A) : Met l yX12_horseMany (Cond.code yX12_horseMany cX12_horseMany 1 (some .int) :: GW) rm_X12_horseMany_0 (mPc D classes (tysM cA) (wM cA ad F L A B) sz [.ref (ad 0)]) (mQi (S := Unit) D classes (tysM cA) (wM cA ad F L A B) sz (fun _ : Unit => wM cA ad F L A B) (fun r u => rg r 0 10 ∧ (r = (A 4 (F 8).toNatClampNeg)))) 0 0 (va_A (wM cA ad F L A B) sz) := by
  refine met_i (own := "ShoeingDayModel") (by decide +kernel) rfl (Nat.le_of_ble_eq_true rfl) ?_
  intro p e s m args below meth c Q Af ls hC hP hD hS hA hl hret
  have hx := hC.1
  have hb := hC.2.1
  have hown := hC.2.2.2.1
  have hg := hC.g
  have hK := hC.K
  have hl : lv_has ls 1 [(0, .ref (ad 0))] := hl
  have hq : qM [] [] F A F A := qM.rf hT
  obtain ⟨H, hH⟩ : ∃ H, H = s.heap := ⟨_, rfl⟩
  have hP : va_P D classes (wM cA ad F L A B) H := by rw [hH]; exact hP
  have hS : va_S Af s.heap H [] := by rw [hH]; exact hS
  obtain ⟨locs, hlo⟩ : ∃ q : List Loc, q = [] := ⟨_, rfl⟩
  rw [← hH, ← hlo]
  rw [← hlo] at hS
  refine lv_aload_n hx hb dX12_horseMany_0 rfl (lv_at hl 0 rfl) ?_
  refine va_get (ci := 12) (v := .ref (ad 4)) (C := RX12) (T := TX12) (N := 57) hx hb hg inX12 hown hK hP 0 atM_0 rfl 12 (by decide) (hg _ mw_1120) (fun _ h9 => h9) rfl dX12_horseMany_1 ?_
  refine lv_aload_n hx hb dX12_horseMany_4 rfl (lv_at hl 0 rfl) ?_
  refine va_get (ci := 12) (v := .int (F 8)) (C := RX12) (T := TX12) (N := 57) hx hb hg inX12 hown hK hP 0 atM_0 rfl 24 (by decide) (hg _ mw_1132) (fun _ h9 => h9) rfl dX12_horseMany_5 ?_
  refine lv_topi (fun x1 e2 => ?_)
  have r3 : rg x1 0 1 := rg_e e2 (hq.1.1 8)
  refine va_iald hx hb hK hP 4 3 atM_4 tyM_4 (in_rg r3 (by decide)) dX12_horseMany_8 ?_
  refine lv_topi (fun x4 e5 => ?_)
  have r6 : rg x4 0 10 := rg_e e5 (hq.1.2 4 _)
  exact hret (x4) () H locs 9 ls rfl dX12_horseMany_9 hP hD hS ⟨r6, (e5.trans (by rw [e2]))⟩
abbrev rm_X12_isIn : Room := { frames := 0, cells := 0, slots := 0, locals := 0 }
set_option maxHeartbeats 4000000 in
set_option maxRecDepth 100000 in
theorem c_X12_isIn (l : Launch) (D : va_G) (tys : List (ClassId × FieldType)) (ws : va_W) (sz : Nat) (p0 : Int32) (p1 : Int32) (p2 : Int32) (hp1 : rg p1 (-99) 1) (hp2 : rg p2 (-1) 1000) : Met l yX12_isIn (Cond.code yX12_isIn cX12_isIn 3 (some .boolean) :: GW) rm_X12_isIn (mPc D classes tys (ws) sz [.int p0, .int p1, .int p2]) (mQi (S := Unit) D classes tys (ws) sz (fun _ : Unit => ws) (fun r u => rg r 0 1 ∧ (r = 0 ∨ (p1.toInt ≤ p0.toInt ∧ p0.toInt ≤ p2.toInt)) ∧ (r ≠ 0 ∨ ¬ (p1.toInt ≤ p0.toInt ∧ p0.toInt ≤ p2.toInt)))) 0 0 (va_A (ws) sz) := by
  refine met_i (own := "ShoeingDayModel") (by decide +kernel) rfl (Nat.le_of_ble_eq_true rfl) ?_
  intro p e s m args below meth c Q Af ls hC hP hD hS hA hl hret
  have hx := hC.1
  have hb := hC.2.1
  have hown := hC.2.2.2.1
  have hg := hC.g
  have hK := hC.K
  have hl : lv_has ls 3 [(0, .int p0), (1, .int p1), (2, .int p2)] := hl
  obtain ⟨H, hH⟩ : ∃ H, H = s.heap := ⟨_, rfl⟩
  have hP : va_P D classes (ws) H := by rw [hH]; exact hP
  have hS : va_S Af s.heap H [] := by rw [hH]; exact hS
  obtain ⟨locs, hlo⟩ : ∃ q : List Loc, q = [] := ⟨_, rfl⟩
  rw [← hH, ← hlo]
  rw [← hlo] at hS
  refine lv_iload_n hx hb dX12_isIn_0 rfl (lv_at hl 0 rfl) ?_
  refine lv_iload_n hx hb dX12_isIn_1 rfl (lv_at hl 1 rfl) ?_
  refine lv_icmp_lt (tgt := 14) hx hb dX12_isIn_2 (by decide) (fun c1 => ?_) (fun c1 => ?_)
  · skip
    have r2 : rg p0 (-2147483648) 0 := rg_lt1 (iL c1) ((rg_top _) : rg p0 (-2147483648) 2147483647) (hp1 : rg p1 (-99) 1)
    refine lv_iconst (v := 0) hx hb dX12_isIn_14 (by decide) ?_
    exact hret (0) () H locs 15 ls rfl dX12_isIn_15 hP hD hS ⟨(rg_k (by decide)), Or.inl rfl, (Or.inr (by have := ((hp2 : rg p2 (-1) 1000)).1; have := ((hp2 : rg p2 (-1) 1000)).2; have := ((hp1 : rg p1 (-99) 1)).1; have := ((hp1 : rg p1 (-99) 1)).2; have := ((r2 : rg p0 (-2147483648) 0)).1; have := ((r2 : rg p0 (-2147483648) 0)).2; have := (iL c1); have : (0 : Int32).toInt = 0 := rfl; omega))⟩
  · skip
    have r3 : rg p0 (-99) 2147483647 := rg_le2 (iNL c1) (hp1 : rg p1 (-99) 1) ((rg_top _) : rg p0 (-2147483648) 2147483647)
    refine lv_iload_n hx hb dX12_isIn_5 rfl (lv_at hl 0 rfl) ?_
    refine lv_iload_n hx hb dX12_isIn_6 rfl (lv_at hl 2 rfl) ?_
    refine lv_icmp_gt (tgt := 14) hx hb dX12_isIn_7 (by decide) (fun c4 => ?_) (fun c4 => ?_)
    · skip
      have r5 : rg p0 0 2147483647 := rg_lt2 (iL c4) (hp2 : rg p2 (-1) 1000) (r3 : rg p0 (-99) 2147483647)
      refine lv_iconst (v := 0) hx hb dX12_isIn_14 (by decide) ?_
      exact hret (0) () H locs 15 ls rfl dX12_isIn_15 hP hD hS ⟨(rg_k (by decide)), Or.inl rfl, (Or.inr (by have := ((hp2 : rg p2 (-1) 1000)).1; have := ((hp2 : rg p2 (-1) 1000)).2; have := ((hp1 : rg p1 (-99) 1)).1; have := ((hp1 : rg p1 (-99) 1)).2; have := ((r5 : rg p0 0 2147483647)).1; have := ((r5 : rg p0 0 2147483647)).2; have := (iNL c1); have := (iL c4); have : (0 : Int32).toInt = 0 := rfl; omega))⟩
    · skip
      have r6 : rg p0 (-99) 1000 := rg_le1 (iNL c4) (r3 : rg p0 (-99) 2147483647) (hp2 : rg p2 (-1) 1000)
      refine lv_iconst (v := 1) hx hb dX12_isIn_10 (by decide) ?_
      refine lv_goto (tgt := 15) hx hb dX12_isIn_11 (by decide) ?_
      exact hret (1) () H locs 15 ls rfl dX12_isIn_15 hP hD hS ⟨(rg_k (by decide)), Or.inr ⟨(iNL c1), (iNL c4)⟩, (Or.inl (by decide))⟩
abbrev rm_X12_isHorse_0 : Room := { frames := 1, cells := 0, slots := 0, locals := 22 }
set_option maxHeartbeats 4000000 in
set_option maxRecDepth 100000 in
theorem c_X12_isHorse_0 (l : Launch) (D : va_G) (cA : Nat → ClassId) (sz : Nat) (ad : Nat → Nat) (F : Nat → Int32) (L : Nat → Int64) (A : Nat → Nat → Int32) (B : Nat → Nat → Int64) (p1 : Int32) (hT : typM F A) : Met l yX12_isHorse (Cond.code yX12_isHorse cX12_isHorse 2 (some .boolean) :: GW) rm_X12_isHorse_0 (mPc D classes (tysM cA) (wM cA ad F L A B) sz [.ref (ad 0), .int p1]) (mQi (S := Unit) D classes (tysM cA) (wM cA ad F L A B) sz (fun _ : Unit => wM cA ad F L A B) (fun r u => rg r 0 1 ∧ (r = 0 ∨ (rg p1 0 9)) ∧ (r = 0 ∨ (0 ≤ p1.toInt ∧ p1.toInt < (A 4 (F 8).toNatClampNeg).toInt)))) 0 0 (va_A (wM cA ad F L A B) sz) := by
  refine met_i (own := "ShoeingDayModel") (by decide +kernel) rfl (Nat.le_of_ble_eq_true rfl) ?_
  intro p e s m args below meth c Q Af ls hC hP hD hS hA hl hret
  have hx := hC.1
  have hb := hC.2.1
  have hown := hC.2.2.2.1
  have hg := hC.g
  have hK := hC.K
  have hl : lv_has ls 2 [(0, .ref (ad 0)), (1, .int p1)] := hl
  have hq : qM [] [] F A F A := qM.rf hT
  obtain ⟨H, hH⟩ : ∃ H, H = s.heap := ⟨_, rfl⟩
  have hP : va_P D classes (wM cA ad F L A B) H := by rw [hH]; exact hP
  have hS : va_S Af s.heap H [] := by rw [hH]; exact hS
  obtain ⟨locs, hlo⟩ : ∃ q : List Loc, q = [] := ⟨_, rfl⟩
  rw [← hH, ← hlo]
  rw [← hlo] at hS
  refine lv_iload_n hx hb dX12_isHorse_0 rfl (lv_at hl 1 rfl) ?_
  refine lv_iconst (v := 0) hx hb dX12_isHorse_1 (by decide) ?_
  refine lv_aload_n hx hb dX12_isHorse_2 rfl (lv_at hl 0 rfl) ?_
  refine callv_i (As := []) (rest := [.int 0, .int p1]) hC (c_X12_horseMany_0 l D cA H.size ad F L A B  hq.1) (cwV 0 hg (g_V mw_1399 mw_1396 mw_1398 ms_69 mw_20) rfl rfl rfl (by decide +kernel) ⟨(Nat.le_of_ble_eq_true rfl), (Nat.le_of_ble_eq_true rfl)⟩) hP hD hS hA atM_0 rfl rfl hl.1 rfl (Nat.le_of_ble_eq_true rfl) dX12_isHorse_3 ⟨Nat.zero_le _, Nat.zero_le _⟩ (fun x1 u H locs hw hP hD hS => ?_)
  obtain ⟨r2, g3⟩ := hw
  have hP : va_P D classes (wM cA ad F L A B) H := hP
  have hD : va_D Af (wM cA ad F L A B) := hD
  refine lv_iconst (v := 1) hx hb dX12_isHorse_6 (by decide) ?_
  refine lv_isub hx hb dX12_isHorse_7 ?_
  refine lv_topi (fun x4 e5 => ?_)
  have r6 : rg x4 (-1) 9 := rg_sub e5 r2 ((rg_k (by decide)) : rg 1 1 1) (by decide)
  refine calls_i (As := [.int p1, .int 0, .int x4]) (rest := []) hC (c_X12_isIn l D (tysM cA) (wM cA ad F L A B) H.size (p1) (0) (x4) (rg_k (by decide)) (rg_w r6 (by decide))) (cwS 3 hg (g_S mw_1391 mw_1389 mw_1390 mw_20) rfl rfl rfl (by decide +kernel) ⟨(Nat.le_of_ble_eq_true rfl), (Nat.le_of_ble_eq_true rfl)⟩) hP hD hS hA rfl hl.1 rfl (Nat.le_of_ble_eq_true rfl) dX12_isHorse_8 ⟨Nat.zero_le _, Nat.zero_le _⟩ (fun x7 u H locs hw hP hD hS => ?_)
  obtain ⟨r8, g9, g10⟩ := hw
  have hP : va_P D classes (wM cA ad F L A B) H := hP
  have hD : va_D Af (wM cA ad F L A B) := hD
  by_cases h0 : x7 = 0
  · skip
    exact hret (x7) () H locs 11 ls (nb_rg r8) dX12_isHorse_11 hP hD hS ⟨r8, Or.inl h0, (Or.inl h0)⟩
  · skip
    have g11 := g9.resolve_left h0
    have r12 : rg p1 0 2147483647 := rg_le2 g11.1 ((rg_k (by decide)) : rg 0 0 0) ((rg_top _) : rg p1 (-2147483648) 2147483647)
    have r13 : rg p1 0 9 := rg_le1 g11.2 (r12 : rg p1 0 2147483647) (r6 : rg x4 (-1) 9)
    have r14 : rg x4 0 9 := rg_le2 g11.2 (r12 : rg p1 0 2147483647) (r6 : rg x4 (-1) 9)
    exact hret (x7) () H locs 11 ls (nb_rg r8) dX12_isHorse_11 hP hD hS ⟨r8, Or.inr r13, (Or.inr (by have h9 := g9.resolve_left h0; have := congrArg Int32.toInt g3; have := tiS e5 (r2 : rg x1 0 10) (rg_k (by decide) : rg 1 1 1) (by decide); have : (1 : Int32).toInt = 1 := rfl; have : (0 : Int32).toInt = 0 := rfl; omega))⟩
abbrev rm_X12_smithMany_0 : Room := { frames := 0, cells := 0, slots := 0, locals := 0 }
set_option maxHeartbeats 4000000 in
set_option maxRecDepth 100000 in
theorem c_X12_smithMany_0 (l : Launch) (D : va_G) (cA : Nat → ClassId) (sz : Nat) (ad : Nat → Nat) (F : Nat → Int32) (L : Nat → Int64) (A : Nat → Nat → Int32) (B : Nat → Nat → Int64)  (hT : typM F A) : Met l yX12_smithMany (Cond.code yX12_smithMany cX12_smithMany 1 (some .int) :: GW) rm_X12_smithMany_0 (mPc D classes (tysM cA) (wM cA ad F L A B) sz [.ref (ad 0)]) (mQi (S := Unit) D classes (tysM cA) (wM cA ad F L A B) sz (fun _ : Unit => wM cA ad F L A B) (fun r u => rg r 0 8 ∧ (r = (A 3 (F 8).toNatClampNeg)))) 0 0 (va_A (wM cA ad F L A B) sz) := by
  refine met_i (own := "ShoeingDayModel") (by decide +kernel) rfl (Nat.le_of_ble_eq_true rfl) ?_
  intro p e s m args below meth c Q Af ls hC hP hD hS hA hl hret
  have hx := hC.1
  have hb := hC.2.1
  have hown := hC.2.2.2.1
  have hg := hC.g
  have hK := hC.K
  have hl : lv_has ls 1 [(0, .ref (ad 0))] := hl
  have hq : qM [] [] F A F A := qM.rf hT
  obtain ⟨H, hH⟩ : ∃ H, H = s.heap := ⟨_, rfl⟩
  have hP : va_P D classes (wM cA ad F L A B) H := by rw [hH]; exact hP
  have hS : va_S Af s.heap H [] := by rw [hH]; exact hS
  obtain ⟨locs, hlo⟩ : ∃ q : List Loc, q = [] := ⟨_, rfl⟩
  rw [← hH, ← hlo]
  rw [← hlo] at hS
  refine lv_aload_n hx hb dX12_smithMany_0 rfl (lv_at hl 0 rfl) ?_
  refine va_get (ci := 12) (v := .ref (ad 3)) (C := RX12) (T := TX12) (N := 57) hx hb hg inX12 hown hK hP 0 atM_0 rfl 11 (by decide) (hg _ mw_1119) (fun _ h9 => h9) rfl dX12_smithMany_1 ?_
  refine lv_aload_n hx hb dX12_smithMany_4 rfl (lv_at hl 0 rfl) ?_
  refine va_get (ci := 12) (v := .int (F 8)) (C := RX12) (T := TX12) (N := 57) hx hb hg inX12 hown hK hP 0 atM_0 rfl 24 (by decide) (hg _ mw_1132) (fun _ h9 => h9) rfl dX12_smithMany_5 ?_
  refine lv_topi (fun x1 e2 => ?_)
  have r3 : rg x1 0 1 := rg_e e2 (hq.1.1 8)
  refine va_iald hx hb hK hP 3 2 atM_3 tyM_3 (in_rg r3 (by decide)) dX12_smithMany_8 ?_
  refine lv_topi (fun x4 e5 => ?_)
  have r6 : rg x4 0 8 := rg_e e5 (hq.1.2 3 _)
  exact hret (x4) () H locs 9 ls rfl dX12_smithMany_9 hP hD hS ⟨r6, (e5.trans (by rw [e2]))⟩
abbrev rm_X12_isSmith_0 : Room := { frames := 1, cells := 0, slots := 0, locals := 22 }
set_option maxHeartbeats 4000000 in
set_option maxRecDepth 100000 in
theorem c_X12_isSmith_0 (l : Launch) (D : va_G) (cA : Nat → ClassId) (sz : Nat) (ad : Nat → Nat) (F : Nat → Int32) (L : Nat → Int64) (A : Nat → Nat → Int32) (B : Nat → Nat → Int64) (p1 : Int32) (hT : typM F A) : Met l yX12_isSmith (Cond.code yX12_isSmith cX12_isSmith 2 (some .boolean) :: GW) rm_X12_isSmith_0 (mPc D classes (tysM cA) (wM cA ad F L A B) sz [.ref (ad 0), .int p1]) (mQi (S := Unit) D classes (tysM cA) (wM cA ad F L A B) sz (fun _ : Unit => wM cA ad F L A B) (fun r u => rg r 0 1 ∧ (r = 0 ∨ (rg p1 0 7)) ∧ (r = 0 ∨ (0 ≤ p1.toInt ∧ p1.toInt < (A 3 (F 8).toNatClampNeg).toInt)))) 0 0 (va_A (wM cA ad F L A B) sz) := by
  refine met_i (own := "ShoeingDayModel") (by decide +kernel) rfl (Nat.le_of_ble_eq_true rfl) ?_
  intro p e s m args below meth c Q Af ls hC hP hD hS hA hl hret
  have hx := hC.1
  have hb := hC.2.1
  have hown := hC.2.2.2.1
  have hg := hC.g
  have hK := hC.K
  have hl : lv_has ls 2 [(0, .ref (ad 0)), (1, .int p1)] := hl
  have hq : qM [] [] F A F A := qM.rf hT
  obtain ⟨H, hH⟩ : ∃ H, H = s.heap := ⟨_, rfl⟩
  have hP : va_P D classes (wM cA ad F L A B) H := by rw [hH]; exact hP
  have hS : va_S Af s.heap H [] := by rw [hH]; exact hS
  obtain ⟨locs, hlo⟩ : ∃ q : List Loc, q = [] := ⟨_, rfl⟩
  rw [← hH, ← hlo]
  rw [← hlo] at hS
  refine lv_iload_n hx hb dX12_isSmith_0 rfl (lv_at hl 1 rfl) ?_
  refine lv_iconst (v := 0) hx hb dX12_isSmith_1 (by decide) ?_
  refine lv_aload_n hx hb dX12_isSmith_2 rfl (lv_at hl 0 rfl) ?_
  refine callv_i (As := []) (rest := [.int 0, .int p1]) hC (c_X12_smithMany_0 l D cA H.size ad F L A B  hq.1) (cwV 0 hg (g_V mw_1388 mw_1385 mw_1387 ms_67 mw_20) rfl rfl rfl (by decide +kernel) ⟨(Nat.le_of_ble_eq_true rfl), (Nat.le_of_ble_eq_true rfl)⟩) hP hD hS hA atM_0 rfl rfl hl.1 rfl (Nat.le_of_ble_eq_true rfl) dX12_isSmith_3 ⟨Nat.zero_le _, Nat.zero_le _⟩ (fun x1 u H locs hw hP hD hS => ?_)
  obtain ⟨r2, g3⟩ := hw
  have hP : va_P D classes (wM cA ad F L A B) H := hP
  have hD : va_D Af (wM cA ad F L A B) := hD
  refine lv_iconst (v := 1) hx hb dX12_isSmith_6 (by decide) ?_
  refine lv_isub hx hb dX12_isSmith_7 ?_
  refine lv_topi (fun x4 e5 => ?_)
  have r6 : rg x4 (-1) 7 := rg_sub e5 r2 ((rg_k (by decide)) : rg 1 1 1) (by decide)
  refine calls_i (As := [.int p1, .int 0, .int x4]) (rest := []) hC (c_X12_isIn l D (tysM cA) (wM cA ad F L A B) H.size (p1) (0) (x4) (rg_k (by decide)) (rg_w r6 (by decide))) (cwS 3 hg (g_S mw_1391 mw_1389 mw_1390 mw_20) rfl rfl rfl (by decide +kernel) ⟨(Nat.le_of_ble_eq_true rfl), (Nat.le_of_ble_eq_true rfl)⟩) hP hD hS hA rfl hl.1 rfl (Nat.le_of_ble_eq_true rfl) dX12_isSmith_8 ⟨Nat.zero_le _, Nat.zero_le _⟩ (fun x7 u H locs hw hP hD hS => ?_)
  obtain ⟨r8, g9, g10⟩ := hw
  have hP : va_P D classes (wM cA ad F L A B) H := hP
  have hD : va_D Af (wM cA ad F L A B) := hD
  by_cases h0 : x7 = 0
  · skip
    exact hret (x7) () H locs 11 ls (nb_rg r8) dX12_isSmith_11 hP hD hS ⟨r8, Or.inl h0, (Or.inl h0)⟩
  · skip
    have g11 := g9.resolve_left h0
    have r12 : rg p1 0 2147483647 := rg_le2 g11.1 ((rg_k (by decide)) : rg 0 0 0) ((rg_top _) : rg p1 (-2147483648) 2147483647)
    have r13 : rg p1 0 7 := rg_le1 g11.2 (r12 : rg p1 0 2147483647) (r6 : rg x4 (-1) 7)
    have r14 : rg x4 0 7 := rg_le2 g11.2 (r12 : rg p1 0 2147483647) (r6 : rg x4 (-1) 7)
    exact hret (x7) () H locs 11 ls (nb_rg r8) dX12_isSmith_11 hP hD hS ⟨r8, Or.inr r13, (Or.inr (by have h9 := g9.resolve_left h0; have := congrArg Int32.toInt g3; have := tiS e5 (r2 : rg x1 0 8) (rg_k (by decide) : rg 1 1 1) (by decide); have : (1 : Int32).toInt = 1 := rfl; have : (0 : Int32).toInt = 0 := rfl; omega))⟩
abbrev rm_X12_lacks_0 : Room := { frames := 2, cells := 0, slots := 0, locals := 43 }
set_option maxHeartbeats 4000000 in
set_option maxRecDepth 100000 in
theorem c_X12_lacks_0 (l : Launch) (D : va_G) (cA : Nat → ClassId) (sz : Nat) (ad : Nat → Nat) (F : Nat → Int32) (L : Nat → Int64) (A : Nat → Nat → Int32) (B : Nat → Nat → Int64) (p1 : Int32) (p2 : Int32) (hT : typM F A) : Met l yX12_lacks (Cond.code yX12_lacks cX12_lacks 3 (some .int) :: GW) rm_X12_lacks_0 (mPc D classes (tysM cA) (wM cA ad F L A B) sz [.ref (ad 0), .int p1, .int p2]) (mQi (S := Unit) D classes (tysM cA) (wM cA ad F L A B) sz (fun _ : Unit => wM cA ad F L A B) (fun r u => True)) 0 0 (va_A (wM cA ad F L A B) sz) := by
  refine met_i (own := "ShoeingDayModel") (by decide +kernel) rfl (Nat.le_of_ble_eq_true rfl) ?_
  intro p e s m args below meth c Q Af ls hC hP hD hS hA hl hret
  have hx := hC.1
  have hb := hC.2.1
  have hown := hC.2.2.2.1
  have hg := hC.g
  have hK := hC.K
  have hl : lv_has ls 3 [(0, .ref (ad 0)), (1, .int p1), (2, .int p2)] := hl
  have hq : qM [] [] F A F A := qM.rf hT
  obtain ⟨H, hH⟩ : ∃ H, H = s.heap := ⟨_, rfl⟩
  have hP : va_P D classes (wM cA ad F L A B) H := by rw [hH]; exact hP
  have hS : va_S Af s.heap H [] := by rw [hH]; exact hS
  obtain ⟨locs, hlo⟩ : ∃ q : List Loc, q = [] := ⟨_, rfl⟩
  rw [← hH, ← hlo]
  rw [← hlo] at hS
  refine lv_aload_n hx hb dX12_lacks_0 rfl (lv_at hl 0 rfl) ?_
  refine lv_iload_n hx hb dX12_lacks_1 rfl (lv_at hl 1 rfl) ?_
  refine callv_i (As := [.int p1]) (rest := []) hC (c_X12_isSmith_0 l D cA H.size ad F L A B (p1) hq.1) (cwV 1 hg (g_V mw_1384 mw_1381 mw_1383 ms_66 mw_20) rfl rfl rfl (by decide +kernel) ⟨(Nat.le_of_ble_eq_true rfl), (Nat.le_of_ble_eq_true rfl)⟩) hP hD hS hA atM_0 rfl rfl hl.1 rfl (Nat.le_of_ble_eq_true rfl) dX12_lacks_2 ⟨Nat.zero_le _, Nat.zero_le _⟩ (fun x1 u H locs hw hP hD hS => ?_)
  obtain ⟨r2, g3, g4⟩ := hw
  have hP : va_P D classes (wM cA ad F L A B) H := hP
  have hD : va_D Af (wM cA ad F L A B) := hD
  have J30 : ∀ (H : Heap) (locs : List Loc) (ls : Array Slot), va_P D classes (wM cA ad F L A B) H → va_D Af (wM cA ad F L A B) → va_S Af s.heap H locs → lv_has ls 3 [] → W p l e rm_X12_lacks_0 s m args below meth c H locs 0 0 Q (F0 m 30 ls []) := by
    intro H locs ls hP hD hS hl
    refine lv_iconst (v := (-1)) hx hb dX12_lacks_30 (by decide) ?_
    exact hret ((-1)) () H locs 31 ls rfl dX12_lacks_31 hP hD hS trivial
  refine lv_if_eq (tgt := 30) hx hb dX12_lacks_5 (by decide) (fun c5 => ?_) (fun c5 => ?_)
  · skip
    have r6 : rg x1 0 0 := rg_eq1 c5 (r2 : rg x1 0 1) ((rg_k (by decide)) : rg 0 0 0) (by decide)
    exact J30  H locs ls  hP hD hS (lv_sub hl [] rfl)
  · skip
    have g7 := g3.resolve_left c5
    refine lv_aload_n hx hb dX12_lacks_8 rfl (lv_at hl 0 rfl) ?_
    refine lv_iload_n hx hb dX12_lacks_9 rfl (lv_at hl 2 rfl) ?_
    refine callv_i (As := [.int p2]) (rest := []) hC (c_X12_isHorse_0 l D cA H.size ad F L A B (p2) hq.1) (cwV 1 hg (g_V mw_1395 mw_1392 mw_1394 ms_68 mw_20) rfl rfl rfl (by decide +kernel) ⟨(Nat.le_of_ble_eq_true rfl), (Nat.le_of_ble_eq_true rfl)⟩) hP hD hS hA atM_0 rfl rfl hl.1 rfl (Nat.le_of_ble_eq_true rfl) dX12_lacks_10 ⟨Nat.zero_le _, Nat.zero_le _⟩ (fun x8 u H locs hw hP hD hS => ?_)
    obtain ⟨r9, g10, g11⟩ := hw
    have hP : va_P D classes (wM cA ad F L A B) H := hP
    have hD : va_D Af (wM cA ad F L A B) := hD
    refine lv_if_eq (tgt := 30) hx hb dX12_lacks_13 (by decide) (fun c12 => ?_) (fun c12 => ?_)
    · skip
      have r13 : rg x8 0 0 := rg_eq1 c12 (r9 : rg x8 0 1) ((rg_k (by decide)) : rg 0 0 0) (by decide)
      exact J30  H locs ls  hP hD hS (lv_sub hl [] rfl)
    · skip
      have g14 := g10.resolve_left c12
      refine lv_aload_n hx hb dX12_lacks_16 rfl (lv_at hl 0 rfl) ?_
      refine va_get (ci := 12) (v := .ref (ad 17)) (C := RX12) (T := TX12) (N := 57) hx hb hg inX12 hown hK hP 0 atM_0 rfl 27 (by decide) (hg _ mw_1135) (fun _ h9 => h9) rfl dX12_lacks_17 ?_
      refine lv_bipush (v := 10) hx hb dX12_lacks_20 (by decide) ?_
      refine lv_iload_n hx hb dX12_lacks_22 rfl (lv_at hl 1 rfl) ?_
      refine lv_imul hx hb dX12_lacks_23 ?_
      refine lv_topi (fun x15 e16 => ?_)
      have r17 : rg x15 0 70 := rg_mul e16 ((rg_k (by decide)) : rg 10 10 10) g7 (by decide)
      refine lv_iload_n hx hb dX12_lacks_24 rfl (lv_at hl 2 rfl) ?_
      refine lv_iadd hx hb dX12_lacks_25 ?_
      refine lv_topi (fun x18 e19 => ?_)
      have r20 : rg x18 0 79 := rg_add e19 r17 g14 (by decide)
      refine va_iald hx hb hK hP 17 16 atM_17 tyM_17 (in_rg r20 (by decide)) dX12_lacks_26 ?_
      refine lv_topi (fun x21 e22 => ?_)
      refine lv_goto (tgt := 31) hx hb dX12_lacks_27 (by decide) ?_
      exact hret (x21) () H locs 31 ls rfl dX12_lacks_31 hP hD hS trivial
abbrev rm_X12_layNow_0 : Room := { frames := 0, cells := 0, slots := 0, locals := 0 }
set_option maxHeartbeats 4000000 in
set_option maxRecDepth 100000 in
theorem c_X12_layNow_0 (l : Launch) (D : va_G) (cA : Nat → ClassId) (sz : Nat) (ad : Nat → Nat) (F : Nat → Int32) (L : Nat → Int64) (A : Nat → Nat → Int32) (B : Nat → Nat → Int64)  (hT : typM F A) : Met l yX12_layNow (Cond.code yX12_layNow cX12_layNow 2 none :: GW) rm_X12_layNow_0 (mPc D classes (tysM cA) (wM cA ad F L A B) sz [.ref (ad 0)]) (mQv (S := SW) D classes (tysM cA) (wM cA ad F L A B) sz (wfM cA ad) (fun u => qM [] [16] F A u.1 u.2.2.1 ∧ (cpI (u.2.2.1 16) (A 17) 0 0 80))) 0 0 (va_A (wM cA ad F L A B) sz) := by
  refine met_v (own := "ShoeingDayModel") (by decide +kernel) rfl (Nat.le_of_ble_eq_true rfl) ?_
  intro p e s m args below meth c Q Af ls hC hP hD hS hA hl hret
  have hx := hC.1
  have hb := hC.2.1
  have hown := hC.2.2.2.1
  have hg := hC.g
  have hK := hC.K
  have hl : lv_has ls 2 [(0, .ref (ad 0))] := hl
  have hq : qM [] [16] F A F A := qM.rf hT
  obtain ⟨H, hH⟩ : ∃ H, H = s.heap := ⟨_, rfl⟩
  have hP : va_P D classes (wM cA ad F L A B) H := by rw [hH]; exact hP
  have hS : va_S Af s.heap H [] := by rw [hH]; exact hS
  obtain ⟨locs, hlo⟩ : ∃ q : List Loc, q = [] := ⟨_, rfl⟩
  rw [← hH, ← hlo]
  rw [← hlo] at hS
  refine lv_iconst (v := 0) hx hb dX12_layNow_0 (by decide) ?_
  refine lv_istore_n (lv' := [(1, .int 0), (0, .ref (ad 0))]) hx hb dX12_layNow_1 rfl hl (by decide) rfl (fun ls hl => ?_)
  have J2 : ∀ (n2 : Nat) (a1 : Int32) (F3 : Nat → Int32) (L3 : Nat → Int64) (A3 : Nat → Nat → Int32) (B3 : Nat → Nat → Int64) (H : Heap) (locs : List Loc) (ls : Array Slot), (80 - a1.toInt).toNat < n2 → rg a1 0 80 → qM [] [16] F A F3 A3 → (cpI (A3 16) (A 17) 0 0 a1.toInt) → va_P D classes (wM cA ad F3 L3 A3 B3) H → va_D Af (wM cA ad F3 L3 A3 B3) → va_S Af s.heap H locs → lv_has ls 2 [(0, .ref (ad 0)), (1, .int a1)] → W p l e rm_X12_layNow_0 s m args below meth c H locs 0 0 Q (F0 m 2 ls []) := by
    intro n2
    induction n2 with
    | zero =>
      intro _ _ _ _ _ _ _ _ hn
      exact absurd hn (Nat.not_lt_zero _)
    | succ n2 ih2 =>
      intro a1 F3 L3 A3 B3 H locs ls hn2 r2 hq v4 hP hD hS hl
      refine lv_iload_n hx hb dX12_layNow_2 rfl (lv_at hl 1 rfl) ?_
      refine lv_bipush (v := 80) hx hb dX12_layNow_3 (by decide) ?_
      refine lv_icmp_ge (tgt := 26) hx hb dX12_layNow_5 (by decide) (fun c5 => ?_) (fun c5 => ?_)
      · skip
        have r6 : rg a1 80 80 := rg_le2 (iE c5) ((rg_k (by decide)) : rg 80 80 80) (r2 : rg a1 0 80)
        exact hret (F3, L3, A3, B3) H locs 26 ls dX12_layNow_26 hP hD hS ⟨hq, (cp_end v4 (by have := (r6 : rg a1 80 80).1; omega))⟩
      · skip
        have r7 : rg a1 0 79 := rg_lt1 (iNE c5) (r2 : rg a1 0 80) ((rg_k (by decide)) : rg 80 80 80)
        refine lv_aload_n hx hb dX12_layNow_8 rfl (lv_at hl 0 rfl) ?_
        refine va_get (ci := 12) (v := .ref (ad 16)) (C := RX12) (T := TX12) (N := 57) hx hb hg inX12 hown hK hP 0 atM_0 rfl 26 (by decide) (hg _ mw_1134) (fun _ h9 => h9) rfl dX12_layNow_9 ?_
        refine lv_iload_n hx hb dX12_layNow_12 rfl (lv_at hl 1 rfl) ?_
        refine lv_aload_n hx hb dX12_layNow_13 rfl (lv_at hl 0 rfl) ?_
        refine va_get (ci := 12) (v := .ref (ad 17)) (C := RX12) (T := TX12) (N := 57) hx hb hg inX12 hown hK hP 0 atM_0 rfl 27 (by decide) (hg _ mw_1135) (fun _ h9 => h9) rfl dX12_layNow_14 ?_
        refine lv_iload_n hx hb dX12_layNow_17 rfl (lv_at hl 1 rfl) ?_
        refine va_iald hx hb hK hP 17 16 atM_17 tyM_17 (in_rg r7 (by decide)) dX12_layNow_18 ?_
        refine lv_topi (fun x8 e9 => ?_)
        refine va_iast hx hb hK hP hD hS 16 15 atM_16 tyM_16 (in_rg r7 (by decide)) dX12_layNow_19 (fun H locs hP hD hS => ?_)
        have hq := hq.ast 16 (a1).toNatClampNeg (x := x8) (by decide) (rg_top _)
        rw [setM_16] at hP hD
        have k10 : x8 = (va_up A3 16 (upd (A3 16) (a1).toNatClampNeg x8)) 16 (a1).toNatClampNeg := (rdA).symm
        obtain ⟨x11, e12⟩ : ∃ y : Int32, y = a1 + 1 := ⟨_, rfl⟩
        have r13 : rg x11 1 80 := rg_add e12 r7 (rg_k (by decide) : rg 1 1 1) (by decide)
        refine lv_iinc (v := x11) (lv' := [(1, .int x11), (0, .ref (ad 0))]) hx hb dX12_layNow_20 hl (k := 1) rfl (by rw [e12]; rfl) (by decide) rfl (fun ls hl => ?_)
        refine lv_goto (tgt := 2) hx hb dX12_layNow_23 (by decide) ?_
        exact ih2 (x11) (F3) (L3) ((va_up A3 16 (upd (A3 16) (a1).toNatClampNeg x8))) (B3) H locs ls (by have h0 : (1 : Int32).toInt = 1 := rfl; have h1 := ti_addk e12 r7 (by decide); have h2 : rg x11 0 80 := (rg_w r13 (by decide)); unfold rg at h2; omega) (rg_w r13 (by decide)) hq (by rw [va_us]; exact cp_step v4 (r7 : rg a1 0 79) (Nat.zero_add _).symm (Nat.zero_add _).symm (e9.trans (congrFun (hq.2.2 17 (by decide)) _)) e12) hP hD hS (lv_sub hl [1, 0] rfl)
  exact J2 _ (0) (F) (L) (A) (B) H locs ls (Nat.lt_succ_self _) (rg_k (by decide)) hq cp_0 hP hD hS (lv_sub hl [1, 0] rfl)
abbrev rm_X12_smithSum_0 : Room := { frames := 0, cells := 0, slots := 0, locals := 0 }
set_option maxHeartbeats 4000000 in
set_option maxRecDepth 100000 in
theorem c_X12_smithSum_0 (l : Launch) (D : va_G) (cA : Nat → ClassId) (sz : Nat) (ad : Nat → Nat) (F : Nat → Int32) (L : Nat → Int64) (A : Nat → Nat → Int32) (B : Nat → Nat → Int64) (p1 : Int32) (hT : typM F A) (hp1 : rg p1 0 7) : Met l yX12_smithSum (Cond.code yX12_smithSum cX12_smithSum 4 (some .int) :: GW) rm_X12_smithSum_0 (mPc D classes (tysM cA) (wM cA ad F L A B) sz [.ref (ad 0), .int p1]) (mQi (S := Unit) D classes (tysM cA) (wM cA ad F L A B) sz (fun _ : Unit => wM cA ad F L A B) (fun r u => True)) 0 0 (va_A (wM cA ad F L A B) sz) := by
  refine met_i (own := "ShoeingDayModel") (by decide +kernel) rfl (Nat.le_of_ble_eq_true rfl) ?_
  intro p e s m args below meth c Q Af ls hC hP hD hS hA hl hret
  have hx := hC.1
  have hb := hC.2.1
  have hown := hC.2.2.2.1
  have hg := hC.g
  have hK := hC.K
  have hl : lv_has ls 4 [(0, .ref (ad 0)), (1, .int p1)] := hl
  have hq : qM [] [] F A F A := qM.rf hT
  obtain ⟨H, hH⟩ : ∃ H, H = s.heap := ⟨_, rfl⟩
  have hP : va_P D classes (wM cA ad F L A B) H := by rw [hH]; exact hP
  have hS : va_S Af s.heap H [] := by rw [hH]; exact hS
  obtain ⟨locs, hlo⟩ : ∃ q : List Loc, q = [] := ⟨_, rfl⟩
  rw [← hH, ← hlo]
  rw [← hlo] at hS
  refine lv_iconst (v := 0) hx hb dX12_smithSum_0 (by decide) ?_
  refine lv_istore_n (lv' := [(2, .int 0), (0, .ref (ad 0)), (1, .int p1)]) hx hb dX12_smithSum_1 rfl hl (by decide) rfl (fun ls hl => ?_)
  refine lv_iconst (v := 0) hx hb dX12_smithSum_2 (by decide) ?_
  refine lv_istore_n (lv' := [(3, .int 0), (2, .int 0), (0, .ref (ad 0)), (1, .int p1)]) hx hb dX12_smithSum_3 rfl hl (by decide) rfl (fun ls hl => ?_)
  have J4 : ∀ (n4 : Nat) (a1 : Int32) (a2 : Int32) (H : Heap) (locs : List Loc) (ls : Array Slot), (10 - a2.toInt).toNat < n4 → rg a2 0 10 → va_P D classes (wM cA ad F L A B) H → va_D Af (wM cA ad F L A B) → va_S Af s.heap H locs → lv_has ls 4 [(0, .ref (ad 0)), (1, .int p1), (2, .int a1), (3, .int a2)] → W p l e rm_X12_smithSum_0 s m args below meth c H locs 0 0 Q (F0 m 4 ls []) := by
    intro n4
    induction n4 with
    | zero =>
      intro _ _ _ _ _ hn
      exact absurd hn (Nat.not_lt_zero _)
    | succ n4 ih4 =>
      intro a1 a2 H locs ls hn4 r3 hP hD hS hl
      refine lv_iload_n hx hb dX12_smithSum_4 rfl (lv_at hl 3 rfl) ?_
      refine lv_bipush (v := 10) hx hb dX12_smithSum_5 (by decide) ?_
      refine lv_icmp_ge (tgt := 30) hx hb dX12_smithSum_7 (by decide) (fun c4 => ?_) (fun c4 => ?_)
      · skip
        have r5 : rg a2 10 10 := rg_le2 (iE c4) ((rg_k (by decide)) : rg 10 10 10) (r3 : rg a2 0 10)
        refine lv_iload_n hx hb dX12_smithSum_30 rfl (lv_at hl 2 rfl) ?_
        exact hret (a1) () H locs 31 ls rfl dX12_smithSum_31 hP hD hS trivial
      · skip
        have r6 : rg a2 0 9 := rg_lt1 (iNE c4) (r3 : rg a2 0 10) ((rg_k (by decide)) : rg 10 10 10)
        refine lv_iload_n hx hb dX12_smithSum_10 rfl (lv_at hl 2 rfl) ?_
        refine lv_aload_n hx hb dX12_smithSum_11 rfl (lv_at hl 0 rfl) ?_
        refine va_get (ci := 12) (v := .ref (ad 16)) (C := RX12) (T := TX12) (N := 57) hx hb hg inX12 hown hK hP 0 atM_0 rfl 26 (by decide) (hg _ mw_1134) (fun _ h9 => h9) rfl dX12_smithSum_12 ?_
        refine lv_bipush (v := 10) hx hb dX12_smithSum_15 (by decide) ?_
        refine lv_iload_n hx hb dX12_smithSum_17 rfl (lv_at hl 1 rfl) ?_
        refine lv_imul hx hb dX12_smithSum_18 ?_
        refine lv_topi (fun x7 e8 => ?_)
        have r9 : rg x7 0 70 := rg_mul e8 ((rg_k (by decide)) : rg 10 10 10) hp1 (by decide)
        refine lv_iload_n hx hb dX12_smithSum_19 rfl (lv_at hl 3 rfl) ?_
        refine lv_iadd hx hb dX12_smithSum_20 ?_
        refine lv_topi (fun x10 e11 => ?_)
        have r12 : rg x10 0 79 := rg_add e11 r9 r6 (by decide)
        refine va_iald hx hb hK hP 16 15 atM_16 tyM_16 (in_rg r12 (by decide)) dX12_smithSum_21 ?_
        refine lv_topi (fun x13 e14 => ?_)
        refine lv_iadd hx hb dX12_smithSum_22 ?_
        refine lv_topi (fun x15 e16 => ?_)
        refine lv_istore_n (lv' := [(2, .int x15), (0, .ref (ad 0)), (1, .int p1), (3, .int a2)]) hx hb dX12_smithSum_23 rfl hl (by decide) rfl (fun ls hl => ?_)
        obtain ⟨x17, e18⟩ : ∃ y : Int32, y = a2 + 1 := ⟨_, rfl⟩
        have r19 : rg x17 1 10 := rg_add e18 r6 (rg_k (by decide) : rg 1 1 1) (by decide)
        refine lv_iinc (v := x17) (lv' := [(3, .int x17), (2, .int x15), (0, .ref (ad 0)), (1, .int p1)]) hx hb dX12_smithSum_24 hl (k := 3) rfl (by rw [e18]; rfl) (by decide) rfl (fun ls hl => ?_)
        refine lv_goto (tgt := 4) hx hb dX12_smithSum_27 (by decide) ?_
        exact ih4 (x15) (x17) H locs ls (by have h0 : (1 : Int32).toInt = 1 := rfl; have h1 := ti_addk e18 r6 (by decide); have h2 : rg x17 0 10 := (rg_w r19 (by decide)); unfold rg at h2; omega) (rg_w r19 (by decide)) hP hD hS (lv_sub hl [2, 3, 1, 0] rfl)
  exact J4 _ (0) (0) H locs ls (Nat.lt_succ_self _) (rg_k (by decide)) hP hD hS (lv_sub hl [2, 3, 1, 0] rfl)
abbrev rm_X12_sum_0_v0 : Room := { frames := 2, cells := 0, slots := 0, locals := 43 }
set_option maxHeartbeats 4000000 in
set_option maxRecDepth 100000 in
theorem c_X12_sum_0_v0 (l : Launch) (D : va_G) (cA : Nat → ClassId) (sz : Nat) (ad : Nat → Nat) (F : Nat → Int32) (L : Nat → Int64) (A : Nat → Nat → Int32) (B : Nat → Nat → Int64) (p1 : Int32) (p2 : Int32) (hT : typM F A) (hp2 : rg p2 0 0) : Met l yX12_sum (Cond.code yX12_sum cX12_sum 3 (some .int) :: GW) rm_X12_sum_0_v0 (mPc D classes (tysM cA) (wM cA ad F L A B) sz [.ref (ad 0), .int p1, .int p2]) (mQi (S := SW) D classes (tysM cA) (wM cA ad F L A B) sz (wfM cA ad) (fun r u => qM [] [16] F A u.1 u.2.2.1)) 0 0 (va_A (wM cA ad F L A B) sz) := by
  refine met_i (own := "ShoeingDayModel") (by decide +kernel) rfl (Nat.le_of_ble_eq_true rfl) ?_
  intro p e s m args below meth c Q Af ls hC hP hD hS hA hl hret
  have hx := hC.1
  have hb := hC.2.1
  have hown := hC.2.2.2.1
  have hg := hC.g
  have hK := hC.K
  have hl : lv_has ls 3 [(0, .ref (ad 0)), (1, .int p1), (2, .int p2)] := hl
  have hq : qM [] [16] F A F A := qM.rf hT
  obtain ⟨H, hH⟩ : ∃ H, H = s.heap := ⟨_, rfl⟩
  have hP : va_P D classes (wM cA ad F L A B) H := by rw [hH]; exact hP
  have hS : va_S Af s.heap H [] := by rw [hH]; exact hS
  obtain ⟨locs, hlo⟩ : ∃ q : List Loc, q = [] := ⟨_, rfl⟩
  rw [← hH, ← hlo]
  rw [← hlo] at hS
  refine lv_iload_n hx hb dX12_sum_0 rfl (lv_at hl 2 rfl) ?_
  refine lv_if_eq (tgt := 15) hx hb dX12_sum_1 (by decide) (fun c1 => ?_) (fun c1 => ?_)
  · skip
    refine lv_aload_n hx hb dX12_sum_15 rfl (lv_at hl 0 rfl) ?_
    refine lv_iload_n hx hb dX12_sum_16 rfl (lv_at hl 1 rfl) ?_
    refine callv_i (As := [.int p1]) (rest := []) hC (c_X12_isSmith_0 l D cA H.size ad F L A B (p1) hq.1) (cwV 1 hg (g_V mw_1384 mw_1381 mw_1383 ms_66 mw_20) rfl rfl rfl (by decide +kernel) ⟨(Nat.le_of_ble_eq_true rfl), (Nat.le_of_ble_eq_true rfl)⟩) hP hD hS hA atM_0 rfl rfl hl.1 rfl (Nat.le_of_ble_eq_true rfl) dX12_sum_17 ⟨Nat.zero_le _, Nat.zero_le _⟩ (fun x2 u H locs hw hP hD hS => ?_)
    obtain ⟨r3, g4, g5⟩ := hw
    have hP : va_P D classes (wM cA ad F L A B) H := hP
    have hD : va_D Af (wM cA ad F L A B) := hD
    refine lv_if_ne (tgt := 25) hx hb dX12_sum_20 (by decide) (fun c6 => ?_) (fun c6 => ?_)
    · skip
      have g7 := g4.resolve_left c6
      have J25 : ∀ (F9 : Nat → Int32) (L9 : Nat → Int64) (A9 : Nat → Nat → Int32) (B9 : Nat → Nat → Int64) (H : Heap) (locs : List Loc) (ls : Array Slot), qM [] [16] F A F9 A9 → va_P D classes (wM cA ad F9 L9 A9 B9) H → va_D Af (wM cA ad F9 L9 A9 B9) → va_S Af s.heap H locs → lv_has ls 3 [(0, .ref (ad 0)), (1, .int p1), (2, .int p2)] → W p l e rm_X12_sum_0_v0 s m args below meth c H locs 0 0 Q (F0 m 25 ls []) := by
        intro F9 L9 A9 B9 H locs ls hq hP hD hS hl
        refine lv_aload_n hx hb dX12_sum_25 rfl (lv_at hl 0 rfl) ?_
        refine callv_v (As := []) (rest := []) hC (c_X12_layNow_0 l D cA H.size ad F9 L9 A9 B9  hq.1) (cwV 0 hg (g_V mw_1407 mw_1404 mw_1406 ms_70 mw_20) rfl rfl rfl (by decide +kernel) ⟨(Nat.le_of_ble_eq_true rfl), (Nat.le_of_ble_eq_true rfl)⟩) hP hD hS hA atM_0 rfl rfl hl.1 rfl (Nat.le_of_ble_eq_true rfl) dX12_sum_26 ⟨Nat.zero_le _, Nat.zero_le _⟩ (fun  u H locs hw hP hD hS => ?_)
        obtain ⟨F10, L10, A10, B10⟩ := u
        try dsimp only at hw
        obtain ⟨hq10, g11⟩ := hw
        have hq := hq.call hq10 (by decide)
        have hP : va_P D classes (wM cA ad F10 L10 A10 B10) H := hP
        have hD : va_D Af (wM cA ad F10 L10 A10 B10) := hD
        refine lv_iload_n hx hb dX12_sum_29 rfl (lv_at hl 2 rfl) ?_
        refine lv_if_eq (tgt := 41) hx hb dX12_sum_30 (by decide) (fun c12 => ?_) (fun c12 => ?_)
        · skip
          refine lv_aload_n hx hb dX12_sum_41 rfl (lv_at hl 0 rfl) ?_
          refine lv_iload_n hx hb dX12_sum_42 rfl (lv_at hl 1 rfl) ?_
          refine callv_i (As := [.int p1]) (rest := []) hC (c_X12_smithSum_0 l D cA H.size ad F10 L10 A10 B10 (p1) hq.1 g7) (cwV 1 hg (g_V mw_1415 mw_1412 mw_1414 ms_72 mw_20) rfl rfl rfl (by decide +kernel) ⟨(Nat.le_of_ble_eq_true rfl), (Nat.le_of_ble_eq_true rfl)⟩) hP hD hS hA atM_0 rfl rfl hl.1 rfl (Nat.le_of_ble_eq_true rfl) dX12_sum_43 ⟨Nat.zero_le _, Nat.zero_le _⟩ (fun x13 u H locs hw hP hD hS => ?_)
          have hP : va_P D classes (wM cA ad F10 L10 A10 B10) H := hP
          have hD : va_D Af (wM cA ad F10 L10 A10 B10) := hD
          exact hret (x13) (F10, L10, A10, B10) H locs 46 ls rfl dX12_sum_46 hP hD hS hq
        · skip
          exact rg_emp (((rg_ne1 c12 (hp2 : rg p2 0 0) ((rg_k (by decide)) : rg 0 0 0)).1 rfl) : rg p2 1 0) (by decide)
      exact J25 (F) (L) (A) (B) H locs ls hq hP hD hS (lv_sub hl [0, 1, 2] rfl)
    · skip
      have r8 : rg x2 0 0 := rg_eq1 c6 (r3 : rg x2 0 1) ((rg_k (by decide)) : rg 0 0 0) (by decide)
      have J23 : ∀ (F14 : Nat → Int32) (L14 : Nat → Int64) (A14 : Nat → Nat → Int32) (B14 : Nat → Nat → Int64) (H : Heap) (locs : List Loc) (ls : Array Slot), qM [] [16] F A F14 A14 → va_P D classes (wM cA ad F14 L14 A14 B14) H → va_D Af (wM cA ad F14 L14 A14 B14) → va_S Af s.heap H locs → lv_has ls 3 [] → W p l e rm_X12_sum_0_v0 s m args below meth c H locs 0 0 Q (F0 m 23 ls []) := by
        intro F14 L14 A14 B14 H locs ls hq hP hD hS hl
        refine lv_iconst (v := (-1)) hx hb dX12_sum_23 (by decide) ?_
        exact hret ((-1)) (F14, L14, A14, B14) H locs 24 ls rfl dX12_sum_24 hP hD hS hq
      exact J23 (F) (L) (A) (B) H locs ls hq hP hD hS (lv_sub hl [] rfl)
  · skip
    exact rg_emp (((rg_ne1 c1 (hp2 : rg p2 0 0) ((rg_k (by decide)) : rg 0 0 0)).1 rfl) : rg p2 1 0) (by decide)
abbrev rm_X12_horseSum_0 : Room := { frames := 0, cells := 0, slots := 0, locals := 0 }
set_option maxHeartbeats 4000000 in
set_option maxRecDepth 100000 in
theorem c_X12_horseSum_0 (l : Launch) (D : va_G) (cA : Nat → ClassId) (sz : Nat) (ad : Nat → Nat) (F : Nat → Int32) (L : Nat → Int64) (A : Nat → Nat → Int32) (B : Nat → Nat → Int64) (p1 : Int32) (hT : typM F A) (hp1 : rg p1 0 9) : Met l yX12_horseSum (Cond.code yX12_horseSum cX12_horseSum 4 (some .int) :: GW) rm_X12_horseSum_0 (mPc D classes (tysM cA) (wM cA ad F L A B) sz [.ref (ad 0), .int p1]) (mQi (S := Unit) D classes (tysM cA) (wM cA ad F L A B) sz (fun _ : Unit => wM cA ad F L A B) (fun r u => True)) 0 0 (va_A (wM cA ad F L A B) sz) := by
  refine met_i (own := "ShoeingDayModel") (by decide +kernel) rfl (Nat.le_of_ble_eq_true rfl) ?_
  intro p e s m args below meth c Q Af ls hC hP hD hS hA hl hret
  have hx := hC.1
  have hb := hC.2.1
  have hown := hC.2.2.2.1
  have hg := hC.g
  have hK := hC.K
  have hl : lv_has ls 4 [(0, .ref (ad 0)), (1, .int p1)] := hl
  have hq : qM [] [] F A F A := qM.rf hT
  obtain ⟨H, hH⟩ : ∃ H, H = s.heap := ⟨_, rfl⟩
  have hP : va_P D classes (wM cA ad F L A B) H := by rw [hH]; exact hP
  have hS : va_S Af s.heap H [] := by rw [hH]; exact hS
  obtain ⟨locs, hlo⟩ : ∃ q : List Loc, q = [] := ⟨_, rfl⟩
  rw [← hH, ← hlo]
  rw [← hlo] at hS
  refine lv_iconst (v := 0) hx hb dX12_horseSum_0 (by decide) ?_
  refine lv_istore_n (lv' := [(2, .int 0), (0, .ref (ad 0)), (1, .int p1)]) hx hb dX12_horseSum_1 rfl hl (by decide) rfl (fun ls hl => ?_)
  refine lv_iconst (v := 0) hx hb dX12_horseSum_2 (by decide) ?_
  refine lv_istore_n (lv' := [(3, .int 0), (2, .int 0), (0, .ref (ad 0)), (1, .int p1)]) hx hb dX12_horseSum_3 rfl hl (by decide) rfl (fun ls hl => ?_)
  have J4 : ∀ (n4 : Nat) (a1 : Int32) (a2 : Int32) (H : Heap) (locs : List Loc) (ls : Array Slot), (8 - a2.toInt).toNat < n4 → rg a2 0 8 → va_P D classes (wM cA ad F L A B) H → va_D Af (wM cA ad F L A B) → va_S Af s.heap H locs → lv_has ls 4 [(0, .ref (ad 0)), (1, .int p1), (2, .int a1), (3, .int a2)] → W p l e rm_X12_horseSum_0 s m args below meth c H locs 0 0 Q (F0 m 4 ls []) := by
    intro n4
    induction n4 with
    | zero =>
      intro _ _ _ _ _ hn
      exact absurd hn (Nat.not_lt_zero _)
    | succ n4 ih4 =>
      intro a1 a2 H locs ls hn4 r3 hP hD hS hl
      refine lv_iload_n hx hb dX12_horseSum_4 rfl (lv_at hl 3 rfl) ?_
      refine lv_bipush (v := 8) hx hb dX12_horseSum_5 (by decide) ?_
      refine lv_icmp_ge (tgt := 30) hx hb dX12_horseSum_7 (by decide) (fun c4 => ?_) (fun c4 => ?_)
      · skip
        have r5 : rg a2 8 8 := rg_le2 (iE c4) ((rg_k (by decide)) : rg 8 8 8) (r3 : rg a2 0 8)
        refine lv_iload_n hx hb dX12_horseSum_30 rfl (lv_at hl 2 rfl) ?_
        exact hret (a1) () H locs 31 ls rfl dX12_horseSum_31 hP hD hS trivial
      · skip
        have r6 : rg a2 0 7 := rg_lt1 (iNE c4) (r3 : rg a2 0 8) ((rg_k (by decide)) : rg 8 8 8)
        refine lv_iload_n hx hb dX12_horseSum_10 rfl (lv_at hl 2 rfl) ?_
        refine lv_aload_n hx hb dX12_horseSum_11 rfl (lv_at hl 0 rfl) ?_
        refine va_get (ci := 12) (v := .ref (ad 16)) (C := RX12) (T := TX12) (N := 57) hx hb hg inX12 hown hK hP 0 atM_0 rfl 26 (by decide) (hg _ mw_1134) (fun _ h9 => h9) rfl dX12_horseSum_12 ?_
        refine lv_bipush (v := 10) hx hb dX12_horseSum_15 (by decide) ?_
        refine lv_iload_n hx hb dX12_horseSum_17 rfl (lv_at hl 3 rfl) ?_
        refine lv_imul hx hb dX12_horseSum_18 ?_
        refine lv_topi (fun x7 e8 => ?_)
        have r9 : rg x7 0 70 := rg_mul e8 ((rg_k (by decide)) : rg 10 10 10) r6 (by decide)
        refine lv_iload_n hx hb dX12_horseSum_19 rfl (lv_at hl 1 rfl) ?_
        refine lv_iadd hx hb dX12_horseSum_20 ?_
        refine lv_topi (fun x10 e11 => ?_)
        have r12 : rg x10 0 79 := rg_add e11 r9 hp1 (by decide)
        refine va_iald hx hb hK hP 16 15 atM_16 tyM_16 (in_rg r12 (by decide)) dX12_horseSum_21 ?_
        refine lv_topi (fun x13 e14 => ?_)
        refine lv_iadd hx hb dX12_horseSum_22 ?_
        refine lv_topi (fun x15 e16 => ?_)
        refine lv_istore_n (lv' := [(2, .int x15), (0, .ref (ad 0)), (1, .int p1), (3, .int a2)]) hx hb dX12_horseSum_23 rfl hl (by decide) rfl (fun ls hl => ?_)
        obtain ⟨x17, e18⟩ : ∃ y : Int32, y = a2 + 1 := ⟨_, rfl⟩
        have r19 : rg x17 1 8 := rg_add e18 r6 (rg_k (by decide) : rg 1 1 1) (by decide)
        refine lv_iinc (v := x17) (lv' := [(3, .int x17), (2, .int x15), (0, .ref (ad 0)), (1, .int p1)]) hx hb dX12_horseSum_24 hl (k := 3) rfl (by rw [e18]; rfl) (by decide) rfl (fun ls hl => ?_)
        refine lv_goto (tgt := 4) hx hb dX12_horseSum_27 (by decide) ?_
        exact ih4 (x15) (x17) H locs ls (by have h0 : (1 : Int32).toInt = 1 := rfl; have h1 := ti_addk e18 r6 (by decide); have h2 : rg x17 0 8 := (rg_w r19 (by decide)); unfold rg at h2; omega) (rg_w r19 (by decide)) hP hD hS (lv_sub hl [2, 3, 1, 0] rfl)
  exact J4 _ (0) (0) H locs ls (Nat.lt_succ_self _) (rg_k (by decide)) hP hD hS (lv_sub hl [2, 3, 1, 0] rfl)
abbrev rm_X12_sum_0_v1 : Room := { frames := 2, cells := 0, slots := 0, locals := 43 }
set_option maxHeartbeats 4000000 in
set_option maxRecDepth 100000 in
theorem c_X12_sum_0_v1 (l : Launch) (D : va_G) (cA : Nat → ClassId) (sz : Nat) (ad : Nat → Nat) (F : Nat → Int32) (L : Nat → Int64) (A : Nat → Nat → Int32) (B : Nat → Nat → Int64) (p1 : Int32) (p2 : Int32) (hT : typM F A) (hp2 : rg p2 1 1) : Met l yX12_sum (Cond.code yX12_sum cX12_sum 3 (some .int) :: GW) rm_X12_sum_0_v1 (mPc D classes (tysM cA) (wM cA ad F L A B) sz [.ref (ad 0), .int p1, .int p2]) (mQi (S := SW) D classes (tysM cA) (wM cA ad F L A B) sz (wfM cA ad) (fun r u => qM [] [16] F A u.1 u.2.2.1)) 0 0 (va_A (wM cA ad F L A B) sz) := by
  refine met_i (own := "ShoeingDayModel") (by decide +kernel) rfl (Nat.le_of_ble_eq_true rfl) ?_
  intro p e s m args below meth c Q Af ls hC hP hD hS hA hl hret
  have hx := hC.1
  have hb := hC.2.1
  have hown := hC.2.2.2.1
  have hg := hC.g
  have hK := hC.K
  have hl : lv_has ls 3 [(0, .ref (ad 0)), (1, .int p1), (2, .int p2)] := hl
  have hq : qM [] [16] F A F A := qM.rf hT
  obtain ⟨H, hH⟩ : ∃ H, H = s.heap := ⟨_, rfl⟩
  have hP : va_P D classes (wM cA ad F L A B) H := by rw [hH]; exact hP
  have hS : va_S Af s.heap H [] := by rw [hH]; exact hS
  obtain ⟨locs, hlo⟩ : ∃ q : List Loc, q = [] := ⟨_, rfl⟩
  rw [← hH, ← hlo]
  rw [← hlo] at hS
  refine lv_iload_n hx hb dX12_sum_0 rfl (lv_at hl 2 rfl) ?_
  refine lv_if_eq (tgt := 15) hx hb dX12_sum_1 (by decide) (fun c1 => ?_) (fun c1 => ?_)
  · skip
    exact rg_emp (rg_eq1 c1 (hp2 : rg p2 1 1) ((rg_k (by decide)) : rg 0 0 0) (by decide) : rg p2 1 0) (by decide)
  · skip
    refine lv_aload_n hx hb dX12_sum_4 rfl (lv_at hl 0 rfl) ?_
    refine lv_iload_n hx hb dX12_sum_5 rfl (lv_at hl 1 rfl) ?_
    refine callv_i (As := [.int p1]) (rest := []) hC (c_X12_isHorse_0 l D cA H.size ad F L A B (p1) hq.1) (cwV 1 hg (g_V mw_1395 mw_1392 mw_1394 ms_68 mw_20) rfl rfl rfl (by decide +kernel) ⟨(Nat.le_of_ble_eq_true rfl), (Nat.le_of_ble_eq_true rfl)⟩) hP hD hS hA atM_0 rfl rfl hl.1 rfl (Nat.le_of_ble_eq_true rfl) dX12_sum_6 ⟨Nat.zero_le _, Nat.zero_le _⟩ (fun x3 u H locs hw hP hD hS => ?_)
    obtain ⟨r4, g5, g6⟩ := hw
    have hP : va_P D classes (wM cA ad F L A B) H := hP
    have hD : va_D Af (wM cA ad F L A B) := hD
    refine lv_if_ne (tgt := 25) hx hb dX12_sum_9 (by decide) (fun c7 => ?_) (fun c7 => ?_)
    · skip
      have g8 := g5.resolve_left c7
      have J25 : ∀ (F10 : Nat → Int32) (L10 : Nat → Int64) (A10 : Nat → Nat → Int32) (B10 : Nat → Nat → Int64) (H : Heap) (locs : List Loc) (ls : Array Slot), qM [] [16] F A F10 A10 → va_P D classes (wM cA ad F10 L10 A10 B10) H → va_D Af (wM cA ad F10 L10 A10 B10) → va_S Af s.heap H locs → lv_has ls 3 [(0, .ref (ad 0)), (1, .int p1), (2, .int p2)] → W p l e rm_X12_sum_0_v1 s m args below meth c H locs 0 0 Q (F0 m 25 ls []) := by
        intro F10 L10 A10 B10 H locs ls hq hP hD hS hl
        refine lv_aload_n hx hb dX12_sum_25 rfl (lv_at hl 0 rfl) ?_
        refine callv_v (As := []) (rest := []) hC (c_X12_layNow_0 l D cA H.size ad F10 L10 A10 B10  hq.1) (cwV 0 hg (g_V mw_1407 mw_1404 mw_1406 ms_70 mw_20) rfl rfl rfl (by decide +kernel) ⟨(Nat.le_of_ble_eq_true rfl), (Nat.le_of_ble_eq_true rfl)⟩) hP hD hS hA atM_0 rfl rfl hl.1 rfl (Nat.le_of_ble_eq_true rfl) dX12_sum_26 ⟨Nat.zero_le _, Nat.zero_le _⟩ (fun  u H locs hw hP hD hS => ?_)
        obtain ⟨F11, L11, A11, B11⟩ := u
        try dsimp only at hw
        obtain ⟨hq11, g12⟩ := hw
        have hq := hq.call hq11 (by decide)
        have hP : va_P D classes (wM cA ad F11 L11 A11 B11) H := hP
        have hD : va_D Af (wM cA ad F11 L11 A11 B11) := hD
        refine lv_iload_n hx hb dX12_sum_29 rfl (lv_at hl 2 rfl) ?_
        refine lv_if_eq (tgt := 41) hx hb dX12_sum_30 (by decide) (fun c13 => ?_) (fun c13 => ?_)
        · skip
          exact rg_emp (rg_eq1 c13 (hp2 : rg p2 1 1) ((rg_k (by decide)) : rg 0 0 0) (by decide) : rg p2 1 0) (by decide)
        · skip
          refine lv_aload_n hx hb dX12_sum_33 rfl (lv_at hl 0 rfl) ?_
          refine lv_iload_n hx hb dX12_sum_34 rfl (lv_at hl 1 rfl) ?_
          refine callv_i (As := [.int p1]) (rest := []) hC (c_X12_horseSum_0 l D cA H.size ad F11 L11 A11 B11 (p1) hq.1 g8) (cwV 1 hg (g_V mw_1411 mw_1408 mw_1410 ms_71 mw_20) rfl rfl rfl (by decide +kernel) ⟨(Nat.le_of_ble_eq_true rfl), (Nat.le_of_ble_eq_true rfl)⟩) hP hD hS hA atM_0 rfl rfl hl.1 rfl (Nat.le_of_ble_eq_true rfl) dX12_sum_35 ⟨Nat.zero_le _, Nat.zero_le _⟩ (fun x15 u H locs hw hP hD hS => ?_)
          have hP : va_P D classes (wM cA ad F11 L11 A11 B11) H := hP
          have hD : va_D Af (wM cA ad F11 L11 A11 B11) := hD
          refine lv_goto (tgt := 46) hx hb dX12_sum_38 (by decide) ?_
          exact hret (x15) (F11, L11, A11, B11) H locs 46 ls rfl dX12_sum_46 hP hD hS hq
      exact J25 (F) (L) (A) (B) H locs ls hq hP hD hS (lv_sub hl [0, 1, 2] rfl)
    · skip
      have r9 : rg x3 0 0 := rg_eq1 c7 (r4 : rg x3 0 1) ((rg_k (by decide)) : rg 0 0 0) (by decide)
      refine lv_goto (tgt := 23) hx hb dX12_sum_12 (by decide) ?_
      have J23 : ∀ (F16 : Nat → Int32) (L16 : Nat → Int64) (A16 : Nat → Nat → Int32) (B16 : Nat → Nat → Int64) (H : Heap) (locs : List Loc) (ls : Array Slot), qM [] [16] F A F16 A16 → va_P D classes (wM cA ad F16 L16 A16 B16) H → va_D Af (wM cA ad F16 L16 A16 B16) → va_S Af s.heap H locs → lv_has ls 3 [] → W p l e rm_X12_sum_0_v1 s m args below meth c H locs 0 0 Q (F0 m 23 ls []) := by
        intro F16 L16 A16 B16 H locs ls hq hP hD hS hl
        refine lv_iconst (v := (-1)) hx hb dX12_sum_23 (by decide) ?_
        exact hret ((-1)) (F16, L16, A16, B16) H locs 24 ls rfl dX12_sum_24 hP hD hS hq
      exact J23 (F) (L) (A) (B) H locs ls hq hP hD hS (lv_sub hl [] rfl)
abbrev rm_X12_leastOf_0 : Room := { frames := 1, cells := 0, slots := 0, locals := 23 }
set_option maxHeartbeats 4000000 in
set_option maxRecDepth 100000 in
theorem c_X12_leastOf_0 (l : Launch) (D : va_G) (cA : Nat → ClassId) (sz : Nat) (ad : Nat → Nat) (F : Nat → Int32) (L : Nat → Int64) (A : Nat → Nat → Int32) (B : Nat → Nat → Int64)  (hT : typM F A) : Met l yX12_leastOf (Cond.code yX12_leastOf cX12_leastOf 3 (some .int) :: GW) rm_X12_leastOf_0 (mPc D classes (tysM cA) (wM cA ad F L A B) sz [.ref (ad 0)]) (mQi (S := Unit) D classes (tysM cA) (wM cA ad F L A B) sz (fun _ : Unit => wM cA ad F L A B) (fun r u => True)) 0 0 (va_A (wM cA ad F L A B) sz) := by
  refine met_i (own := "ShoeingDayModel") (by decide +kernel) rfl (Nat.le_of_ble_eq_true rfl) ?_
  intro p e s m args below meth c Q Af ls hC hP hD hS hA hl hret
  have hx := hC.1
  have hb := hC.2.1
  have hown := hC.2.2.2.1
  have hg := hC.g
  have hK := hC.K
  have hl : lv_has ls 3 [(0, .ref (ad 0))] := hl
  have hq : qM [] [] F A F A := qM.rf hT
  obtain ⟨H, hH⟩ : ∃ H, H = s.heap := ⟨_, rfl⟩
  have hP : va_P D classes (wM cA ad F L A B) H := by rw [hH]; exact hP
  have hS : va_S Af s.heap H [] := by rw [hH]; exact hS
  obtain ⟨locs, hlo⟩ : ∃ q : List Loc, q = [] := ⟨_, rfl⟩
  rw [← hH, ← hlo]
  rw [← hlo] at hS
  refine lv_iconst (v := 0) hx hb dX12_leastOf_0 (by decide) ?_
  refine lv_istore_n (lv' := [(1, .int 0), (0, .ref (ad 0))]) hx hb dX12_leastOf_1 rfl hl (by decide) rfl (fun ls hl => ?_)
  refine lv_iconst (v := 0) hx hb dX12_leastOf_2 (by decide) ?_
  refine lv_istore_n (lv' := [(2, .int 0), (1, .int 0), (0, .ref (ad 0))]) hx hb dX12_leastOf_3 rfl hl (by decide) rfl (fun ls hl => ?_)
  have J4 : ∀ (n4 : Nat) (a1 : Int32) (a2 : Int32) (H : Heap) (locs : List Loc) (ls : Array Slot), (8 - a2.toInt).toNat < n4 → rg a2 0 8 → va_P D classes (wM cA ad F L A B) H → va_D Af (wM cA ad F L A B) → va_S Af s.heap H locs → lv_has ls 3 [(0, .ref (ad 0)), (1, .int a1), (2, .int a2)] → W p l e rm_X12_leastOf_0 s m args below meth c H locs 0 0 Q (F0 m 4 ls []) := by
    intro n4
    induction n4 with
    | zero =>
      intro _ _ _ _ _ hn
      exact absurd hn (Nat.not_lt_zero _)
    | succ n4 ih4 =>
      intro a1 a2 H locs ls hn4 r3 hP hD hS hl
      refine lv_iload_n hx hb dX12_leastOf_4 rfl (lv_at hl 2 rfl) ?_
      refine lv_bipush (v := 8) hx hb dX12_leastOf_5 (by decide) ?_
      refine lv_icmp_ge (tgt := 31) hx hb dX12_leastOf_7 (by decide) (fun c4 => ?_) (fun c4 => ?_)
      · skip
        have r5 : rg a2 8 8 := rg_le2 (iE c4) ((rg_k (by decide)) : rg 8 8 8) (r3 : rg a2 0 8)
        refine lv_iconst (v := 0) hx hb dX12_leastOf_31 (by decide) ?_
        refine lv_istore_n (lv' := [(2, .int 0), (0, .ref (ad 0)), (1, .int a1)]) hx hb dX12_leastOf_32 rfl hl (by decide) rfl (fun ls hl => ?_)
        have J33 : ∀ (n33 : Nat) (a7 : Int32) (a8 : Int32) (H : Heap) (locs : List Loc) (ls : Array Slot), (10 - a8.toInt).toNat < n33 → rg a8 0 10 → va_P D classes (wM cA ad F L A B) H → va_D Af (wM cA ad F L A B) → va_S Af s.heap H locs → lv_has ls 3 [(0, .ref (ad 0)), (1, .int a7), (2, .int a8)] → W p l e rm_X12_leastOf_0 s m args below meth c H locs 0 0 Q (F0 m 33 ls []) := by
          intro n33
          induction n33 with
          | zero =>
            intro _ _ _ _ _ hn
            exact absurd hn (Nat.not_lt_zero _)
          | succ n33 ih33 =>
            intro a7 a8 H locs ls hn33 r9 hP hD hS hl
            refine lv_iload_n hx hb dX12_leastOf_33 rfl (lv_at hl 2 rfl) ?_
            refine lv_bipush (v := 10) hx hb dX12_leastOf_34 (by decide) ?_
            refine lv_icmp_ge (tgt := 60) hx hb dX12_leastOf_36 (by decide) (fun c10 => ?_) (fun c10 => ?_)
            · skip
              have r11 : rg a8 10 10 := rg_le2 (iE c10) ((rg_k (by decide)) : rg 10 10 10) (r9 : rg a8 0 10)
              refine lv_iload_n hx hb dX12_leastOf_60 rfl (lv_at hl 1 rfl) ?_
              exact hret (a7) () H locs 61 ls rfl dX12_leastOf_61 hP hD hS trivial
            · skip
              have r12 : rg a8 0 9 := rg_lt1 (iNE c10) (r9 : rg a8 0 10) ((rg_k (by decide)) : rg 10 10 10)
              refine lv_aload_n hx hb dX12_leastOf_39 rfl (lv_at hl 0 rfl) ?_
              refine lv_iload_n hx hb dX12_leastOf_40 rfl (lv_at hl 2 rfl) ?_
              refine callv_i (As := [.int a8]) (rest := []) hC (c_X12_horseSum_0 l D cA H.size ad F L A B (a8) hq.1 r12) (cwV 1 hg (g_V mw_1411 mw_1408 mw_1410 ms_71 mw_20) rfl rfl rfl (by decide +kernel) ⟨(Nat.le_of_ble_eq_true rfl), (Nat.le_of_ble_eq_true rfl)⟩) hP hD hS hA atM_0 rfl rfl hl.1 rfl (Nat.le_of_ble_eq_true rfl) dX12_leastOf_41 ⟨Nat.zero_le _, Nat.zero_le _⟩ (fun x13 u H locs hw hP hD hS => ?_)
              have hP : va_P D classes (wM cA ad F L A B) H := hP
              have hD : va_D Af (wM cA ad F L A B) := hD
              refine lv_iload_n hx hb dX12_leastOf_44 rfl (lv_at hl 1 rfl) ?_
              have J54 : ∀ (a14 : Int32) (H : Heap) (locs : List Loc) (ls : Array Slot), va_P D classes (wM cA ad F L A B) H → va_D Af (wM cA ad F L A B) → va_S Af s.heap H locs → lv_has ls 3 [(0, .ref (ad 0)), (1, .int a14), (2, .int a8)] → W p l e rm_X12_leastOf_0 s m args below meth c H locs 0 0 Q (F0 m 54 ls []) := by
                intro a14 H locs ls hP hD hS hl
                obtain ⟨x15, e16⟩ : ∃ y : Int32, y = a8 + 1 := ⟨_, rfl⟩
                have r17 : rg x15 1 10 := rg_add e16 r12 (rg_k (by decide) : rg 1 1 1) (by decide)
                refine lv_iinc (v := x15) (lv' := [(2, .int x15), (0, .ref (ad 0)), (1, .int a14)]) hx hb dX12_leastOf_54 hl (k := 2) rfl (by rw [e16]; rfl) (by decide) rfl (fun ls hl => ?_)
                refine lv_goto (tgt := 33) hx hb dX12_leastOf_57 (by decide) ?_
                exact ih33 (a14) (x15) H locs ls (by have h0 : (1 : Int32).toInt = 1 := rfl; have h1 := ti_addk e16 r12 (by decide); have h2 : rg x15 0 10 := (rg_w r17 (by decide)); unfold rg at h2; omega) (rg_w r17 (by decide)) hP hD hS (lv_sub hl [1, 2, 0] rfl)
              refine lv_icmp_le (tgt := 54) hx hb dX12_leastOf_45 (by decide) (fun c18 => ?_) (fun c18 => ?_)
              · skip
                exact J54 (a7) H locs ls  hP hD hS (lv_sub hl [0, 1, 2] rfl)
              · skip
                have r19 : rg a7 (-2147483648) 2147483646 := rg_lt1 (iNE c18) ((rg_top _) : rg a7 (-2147483648) 2147483647) ((rg_top _) : rg x13 (-2147483648) 2147483647)
                have r20 : rg x13 (-2147483647) 2147483647 := rg_lt2 (iNE c18) ((rg_top _) : rg a7 (-2147483648) 2147483647) ((rg_top _) : rg x13 (-2147483648) 2147483647)
                refine lv_aload_n hx hb dX12_leastOf_48 rfl (lv_at hl 0 rfl) ?_
                refine lv_iload_n hx hb dX12_leastOf_49 rfl (lv_at hl 2 rfl) ?_
                refine callv_i (As := [.int a8]) (rest := []) hC (c_X12_horseSum_0 l D cA H.size ad F L A B (a8) hq.1 r12) (cwV 1 hg (g_V mw_1411 mw_1408 mw_1410 ms_71 mw_20) rfl rfl rfl (by decide +kernel) ⟨(Nat.le_of_ble_eq_true rfl), (Nat.le_of_ble_eq_true rfl)⟩) hP hD hS hA atM_0 rfl rfl hl.1 rfl (Nat.le_of_ble_eq_true rfl) dX12_leastOf_50 ⟨Nat.zero_le _, Nat.zero_le _⟩ (fun x21 u H locs hw hP hD hS => ?_)
                have hP : va_P D classes (wM cA ad F L A B) H := hP
                have hD : va_D Af (wM cA ad F L A B) := hD
                refine lv_istore_n (lv' := [(1, .int x21), (0, .ref (ad 0)), (2, .int a8)]) hx hb dX12_leastOf_53 rfl hl (by decide) rfl (fun ls hl => ?_)
                exact J54 (x21) H locs ls  hP hD hS (lv_sub hl [1, 0, 2] rfl)
        exact J33 _ (a1) (0) H locs ls (Nat.lt_succ_self _) (rg_k (by decide)) hP hD hS (lv_sub hl [1, 2, 0] rfl)
      · skip
        have r6 : rg a2 0 7 := rg_lt1 (iNE c4) (r3 : rg a2 0 8) ((rg_k (by decide)) : rg 8 8 8)
        refine lv_aload_n hx hb dX12_leastOf_10 rfl (lv_at hl 0 rfl) ?_
        refine lv_iload_n hx hb dX12_leastOf_11 rfl (lv_at hl 2 rfl) ?_
        refine callv_i (As := [.int a2]) (rest := []) hC (c_X12_smithSum_0 l D cA H.size ad F L A B (a2) hq.1 r6) (cwV 1 hg (g_V mw_1415 mw_1412 mw_1414 ms_72 mw_20) rfl rfl rfl (by decide +kernel) ⟨(Nat.le_of_ble_eq_true rfl), (Nat.le_of_ble_eq_true rfl)⟩) hP hD hS hA atM_0 rfl rfl hl.1 rfl (Nat.le_of_ble_eq_true rfl) dX12_leastOf_12 ⟨Nat.zero_le _, Nat.zero_le _⟩ (fun x22 u H locs hw hP hD hS => ?_)
        have hP : va_P D classes (wM cA ad F L A B) H := hP
        have hD : va_D Af (wM cA ad F L A B) := hD
        refine lv_iload_n hx hb dX12_leastOf_15 rfl (lv_at hl 1 rfl) ?_
        have J25 : ∀ (a23 : Int32) (H : Heap) (locs : List Loc) (ls : Array Slot), va_P D classes (wM cA ad F L A B) H → va_D Af (wM cA ad F L A B) → va_S Af s.heap H locs → lv_has ls 3 [(0, .ref (ad 0)), (1, .int a23), (2, .int a2)] → W p l e rm_X12_leastOf_0 s m args below meth c H locs 0 0 Q (F0 m 25 ls []) := by
          intro a23 H locs ls hP hD hS hl
          obtain ⟨x24, e25⟩ : ∃ y : Int32, y = a2 + 1 := ⟨_, rfl⟩
          have r26 : rg x24 1 8 := rg_add e25 r6 (rg_k (by decide) : rg 1 1 1) (by decide)
          refine lv_iinc (v := x24) (lv' := [(2, .int x24), (0, .ref (ad 0)), (1, .int a23)]) hx hb dX12_leastOf_25 hl (k := 2) rfl (by rw [e25]; rfl) (by decide) rfl (fun ls hl => ?_)
          refine lv_goto (tgt := 4) hx hb dX12_leastOf_28 (by decide) ?_
          exact ih4 (a23) (x24) H locs ls (by have h0 : (1 : Int32).toInt = 1 := rfl; have h1 := ti_addk e25 r6 (by decide); have h2 : rg x24 0 8 := (rg_w r26 (by decide)); unfold rg at h2; omega) (rg_w r26 (by decide)) hP hD hS (lv_sub hl [1, 2, 0] rfl)
        refine lv_icmp_le (tgt := 25) hx hb dX12_leastOf_16 (by decide) (fun c27 => ?_) (fun c27 => ?_)
        · skip
          exact J25 (a1) H locs ls  hP hD hS (lv_sub hl [0, 1, 2] rfl)
        · skip
          have r28 : rg a1 (-2147483648) 2147483646 := rg_lt1 (iNE c27) ((rg_top _) : rg a1 (-2147483648) 2147483647) ((rg_top _) : rg x22 (-2147483648) 2147483647)
          have r29 : rg x22 (-2147483647) 2147483647 := rg_lt2 (iNE c27) ((rg_top _) : rg a1 (-2147483648) 2147483647) ((rg_top _) : rg x22 (-2147483648) 2147483647)
          refine lv_aload_n hx hb dX12_leastOf_19 rfl (lv_at hl 0 rfl) ?_
          refine lv_iload_n hx hb dX12_leastOf_20 rfl (lv_at hl 2 rfl) ?_
          refine callv_i (As := [.int a2]) (rest := []) hC (c_X12_smithSum_0 l D cA H.size ad F L A B (a2) hq.1 r6) (cwV 1 hg (g_V mw_1415 mw_1412 mw_1414 ms_72 mw_20) rfl rfl rfl (by decide +kernel) ⟨(Nat.le_of_ble_eq_true rfl), (Nat.le_of_ble_eq_true rfl)⟩) hP hD hS hA atM_0 rfl rfl hl.1 rfl (Nat.le_of_ble_eq_true rfl) dX12_leastOf_21 ⟨Nat.zero_le _, Nat.zero_le _⟩ (fun x30 u H locs hw hP hD hS => ?_)
          have hP : va_P D classes (wM cA ad F L A B) H := hP
          have hD : va_D Af (wM cA ad F L A B) := hD
          refine lv_istore_n (lv' := [(1, .int x30), (0, .ref (ad 0)), (2, .int a2)]) hx hb dX12_leastOf_24 rfl hl (by decide) rfl (fun ls hl => ?_)
          exact J25 (x30) H locs ls  hP hD hS (lv_sub hl [1, 0, 2] rfl)
  exact J4 _ (0) (0) H locs ls (Nat.lt_succ_self _) (rg_k (by decide)) hP hD hS (lv_sub hl [2, 1, 0] rfl)
abbrev rm_X12_least_0 : Room := { frames := 2, cells := 0, slots := 0, locals := 45 }
set_option maxHeartbeats 4000000 in
set_option maxRecDepth 100000 in
theorem c_X12_least_0 (l : Launch) (D : va_G) (cA : Nat → ClassId) (sz : Nat) (ad : Nat → Nat) (F : Nat → Int32) (L : Nat → Int64) (A : Nat → Nat → Int32) (B : Nat → Nat → Int64)  (hT : typM F A) : Met l yX12_least (Cond.code yX12_least cX12_least 1 (some .int) :: GW) rm_X12_least_0 (mPc D classes (tysM cA) (wM cA ad F L A B) sz [.ref (ad 0)]) (mQi (S := SW) D classes (tysM cA) (wM cA ad F L A B) sz (wfM cA ad) (fun r u => qM [] [16] F A u.1 u.2.2.1)) 0 0 (va_A (wM cA ad F L A B) sz) := by
  refine met_i (own := "ShoeingDayModel") (by decide +kernel) rfl (Nat.le_of_ble_eq_true rfl) ?_
  intro p e s m args below meth c Q Af ls hC hP hD hS hA hl hret
  have hx := hC.1
  have hb := hC.2.1
  have hown := hC.2.2.2.1
  have hg := hC.g
  have hK := hC.K
  have hl : lv_has ls 1 [(0, .ref (ad 0))] := hl
  have hq : qM [] [16] F A F A := qM.rf hT
  obtain ⟨H, hH⟩ : ∃ H, H = s.heap := ⟨_, rfl⟩
  have hP : va_P D classes (wM cA ad F L A B) H := by rw [hH]; exact hP
  have hS : va_S Af s.heap H [] := by rw [hH]; exact hS
  obtain ⟨locs, hlo⟩ : ∃ q : List Loc, q = [] := ⟨_, rfl⟩
  rw [← hH, ← hlo]
  rw [← hlo] at hS
  refine lv_aload_n hx hb dX12_least_0 rfl (lv_at hl 0 rfl) ?_
  refine callv_v (As := []) (rest := []) hC (c_X12_layNow_0 l D cA H.size ad F L A B  hq.1) (cwV 0 hg (g_V mw_1407 mw_1404 mw_1406 ms_70 mw_20) rfl rfl rfl (by decide +kernel) ⟨(Nat.le_of_ble_eq_true rfl), (Nat.le_of_ble_eq_true rfl)⟩) hP hD hS hA atM_0 rfl rfl hl.1 rfl (Nat.le_of_ble_eq_true rfl) dX12_least_1 ⟨Nat.zero_le _, Nat.zero_le _⟩ (fun  u H locs hw hP hD hS => ?_)
  obtain ⟨F1, L1, A1, B1⟩ := u
  try dsimp only at hw
  obtain ⟨hq1, g2⟩ := hw
  have hq := hq.call hq1 (by decide)
  have hP : va_P D classes (wM cA ad F1 L1 A1 B1) H := hP
  have hD : va_D Af (wM cA ad F1 L1 A1 B1) := hD
  refine lv_aload_n hx hb dX12_least_4 rfl (lv_at hl 0 rfl) ?_
  refine callv_i (As := []) (rest := []) hC (c_X12_leastOf_0 l D cA H.size ad F1 L1 A1 B1  hq.1) (cwV 0 hg (g_V mw_1423 mw_1420 mw_1422 ms_73 mw_20) rfl rfl rfl (by decide +kernel) ⟨(Nat.le_of_ble_eq_true rfl), (Nat.le_of_ble_eq_true rfl)⟩) hP hD hS hA atM_0 rfl rfl hl.1 rfl (Nat.le_of_ble_eq_true rfl) dX12_least_5 ⟨Nat.zero_le _, Nat.zero_le _⟩ (fun x3 u H locs hw hP hD hS => ?_)
  have hP : va_P D classes (wM cA ad F1 L1 A1 B1) H := hP
  have hD : va_D Af (wM cA ad F1 L1 A1 B1) := hD
  exact hret (x3) (F1, L1, A1, B1) H locs 8 ls rfl dX12_least_8 hP hD hS hq
abbrev rm_X12_busySmiths_0 : Room := { frames := 2, cells := 0, slots := 0, locals := 45 }
set_option maxHeartbeats 4000000 in
set_option maxRecDepth 100000 in
theorem c_X12_busySmiths_0 (l : Launch) (D : va_G) (cA : Nat → ClassId) (sz : Nat) (ad : Nat → Nat) (F : Nat → Int32) (L : Nat → Int64) (A : Nat → Nat → Int32) (B : Nat → Nat → Int64)  (hT : typM F A) : Met l yX12_busySmiths (Cond.code yX12_busySmiths cX12_busySmiths 4 (some .int) :: GW) rm_X12_busySmiths_0 (mPc D classes (tysM cA) (wM cA ad F L A B) sz [.ref (ad 0)]) (mQi (S := Unit) D classes (tysM cA) (wM cA ad F L A B) sz (fun _ : Unit => wM cA ad F L A B) (fun r u => rg r 0 255)) 0 0 (va_A (wM cA ad F L A B) sz) := by
  refine met_i (own := "ShoeingDayModel") (by decide +kernel) rfl (Nat.le_of_ble_eq_true rfl) ?_
  intro p e s m args below meth c Q Af ls hC hP hD hS hA hl hret
  have hx := hC.1
  have hb := hC.2.1
  have hown := hC.2.2.2.1
  have hg := hC.g
  have hK := hC.K
  have hl : lv_has ls 4 [(0, .ref (ad 0))] := hl
  have hq : qM [] [] F A F A := qM.rf hT
  obtain ⟨H, hH⟩ : ∃ H, H = s.heap := ⟨_, rfl⟩
  have hP : va_P D classes (wM cA ad F L A B) H := by rw [hH]; exact hP
  have hS : va_S Af s.heap H [] := by rw [hH]; exact hS
  obtain ⟨locs, hlo⟩ : ∃ q : List Loc, q = [] := ⟨_, rfl⟩
  rw [← hH, ← hlo]
  rw [← hlo] at hS
  refine lv_iconst (v := 0) hx hb dX12_busySmiths_0 (by decide) ?_
  refine lv_istore_n (lv' := [(1, .int 0), (0, .ref (ad 0))]) hx hb dX12_busySmiths_1 rfl hl (by decide) rfl (fun ls hl => ?_)
  refine lv_aload_n hx hb dX12_busySmiths_2 rfl (lv_at hl 1 rfl) ?_
  refine callv_i (As := []) (rest := []) hC (c_X12_leastOf_0 l D cA H.size ad F L A B  hq.1) (cwV 0 hg (g_V mw_1423 mw_1420 mw_1422 ms_73 mw_20) rfl rfl rfl (by decide +kernel) ⟨(Nat.le_of_ble_eq_true rfl), (Nat.le_of_ble_eq_true rfl)⟩) hP hD hS hA atM_0 rfl rfl hl.1 rfl (Nat.le_of_ble_eq_true rfl) dX12_busySmiths_3 ⟨Nat.zero_le _, Nat.zero_le _⟩ (fun x1 u H locs hw hP hD hS => ?_)
  have hP : va_P D classes (wM cA ad F L A B) H := hP
  have hD : va_D Af (wM cA ad F L A B) := hD
  refine lv_istore_n (lv' := [(2, .int x1), (1, .int 0), (0, .ref (ad 0))]) hx hb dX12_busySmiths_6 rfl hl (by decide) rfl (fun ls hl => ?_)
  refine lv_iconst (v := 0) hx hb dX12_busySmiths_7 (by decide) ?_
  refine lv_istore_n (lv' := [(3, .int 0), (2, .int x1), (1, .int 0), (0, .ref (ad 0))]) hx hb dX12_busySmiths_8 rfl hl (by decide) rfl (fun ls hl => ?_)
  have J9 : ∀ (n9 : Nat) (a2 : Int32) (a4 : Int32) (H : Heap) (locs : List Loc) (ls : Array Slot), (8 - a4.toInt).toNat < n9 → rg a2 0 255 → rg a4 0 8 → va_P D classes (wM cA ad F L A B) H → va_D Af (wM cA ad F L A B) → va_S Af s.heap H locs → lv_has ls 4 [(0, .ref (ad 0)), (1, .int a2), (2, .int x1), (3, .int a4)] → W p l e rm_X12_busySmiths_0 s m args below meth c H locs 0 0 Q (F0 m 9 ls []) := by
    intro n9
    induction n9 with
    | zero =>
      intro _ _ _ _ _ hn
      exact absurd hn (Nat.not_lt_zero _)
    | succ n9 ih9 =>
      intro a2 a4 H locs ls hn9 r3 r5 hP hD hS hl
      refine lv_iload_n hx hb dX12_busySmiths_9 rfl (lv_at hl 3 rfl) ?_
      refine lv_aload_n hx hb dX12_busySmiths_10 rfl (lv_at hl 0 rfl) ?_
      refine callv_i (As := []) (rest := [.int a4]) hC (c_X12_smithMany_0 l D cA H.size ad F L A B  hq.1) (cwV 0 hg (g_V mw_1388 mw_1385 mw_1387 ms_67 mw_20) rfl rfl rfl (by decide +kernel) ⟨(Nat.le_of_ble_eq_true rfl), (Nat.le_of_ble_eq_true rfl)⟩) hP hD hS hA atM_0 rfl rfl hl.1 rfl (Nat.le_of_ble_eq_true rfl) dX12_busySmiths_11 ⟨Nat.zero_le _, Nat.zero_le _⟩ (fun x6 u H locs hw hP hD hS => ?_)
      obtain ⟨r7, g8⟩ := hw
      have hP : va_P D classes (wM cA ad F L A B) H := hP
      have hD : va_D Af (wM cA ad F L A B) := hD
      refine lv_icmp_ge (tgt := 42) hx hb dX12_busySmiths_14 (by decide) (fun c9 => ?_) (fun c9 => ?_)
      · skip
        refine lv_iload_n hx hb dX12_busySmiths_42 rfl (lv_at hl 1 rfl) ?_
        exact hret (a2) () H locs 43 ls rfl dX12_busySmiths_43 hP hD hS r3
      · skip
        have r10 : rg a4 0 7 := rg_lt1 (iNE c9) (r5 : rg a4 0 8) (r7 : rg x6 0 8)
        have r11 : rg x6 1 8 := rg_lt2 (iNE c9) (r5 : rg a4 0 8) (r7 : rg x6 0 8)
        refine lv_iload_n hx hb dX12_busySmiths_17 rfl (lv_at hl 1 rfl) ?_
        refine lv_aload_n hx hb dX12_busySmiths_18 rfl (lv_at hl 0 rfl) ?_
        refine lv_iload_n hx hb dX12_busySmiths_19 rfl (lv_at hl 3 rfl) ?_
        refine callv_i (As := [.int a4]) (rest := [.int a2]) hC (c_X12_smithSum_0 l D cA H.size ad F L A B (a4) hq.1 r10) (cwV 1 hg (g_V mw_1415 mw_1412 mw_1414 ms_72 mw_20) rfl rfl rfl (by decide +kernel) ⟨(Nat.le_of_ble_eq_true rfl), (Nat.le_of_ble_eq_true rfl)⟩) hP hD hS hA atM_0 rfl rfl hl.1 rfl (Nat.le_of_ble_eq_true rfl) dX12_busySmiths_20 ⟨Nat.zero_le _, Nat.zero_le _⟩ (fun x12 u H locs hw hP hD hS => ?_)
        have hP : va_P D classes (wM cA ad F L A B) H := hP
        have hD : va_D Af (wM cA ad F L A B) := hD
        refine lv_iload_n hx hb dX12_busySmiths_23 rfl (lv_at hl 2 rfl) ?_
        have J34 : ∀ (a13 : Int32) (H : Heap) (locs : List Loc) (ls : Array Slot), rg a13 0 128 → va_P D classes (wM cA ad F L A B) H → va_D Af (wM cA ad F L A B) → va_S Af s.heap H locs → lv_has ls 4 [(0, .ref (ad 0)), (2, .int x1), (3, .int a4)] → W p l e rm_X12_busySmiths_0 s m args below meth c H locs 0 0 Q (F0 m 34 ls [.int a13, .int a2]) := by
          intro a13 H locs ls r14 hP hD hS hl
          refine lv_ior hx hb dX12_busySmiths_34 ?_
          refine lv_topi (fun x15 e16 => ?_)
          have r17 : rg x15 0 255 := rg_or 8 e16 r3 r14 (by decide)
          refine lv_istore_n (lv' := [(1, .int x15), (0, .ref (ad 0)), (2, .int x1), (3, .int a4)]) hx hb dX12_busySmiths_35 rfl hl (by decide) rfl (fun ls hl => ?_)
          obtain ⟨x18, e19⟩ : ∃ y : Int32, y = a4 + 1 := ⟨_, rfl⟩
          have r20 : rg x18 1 8 := rg_add e19 r10 (rg_k (by decide) : rg 1 1 1) (by decide)
          refine lv_iinc (v := x18) (lv' := [(3, .int x18), (1, .int x15), (0, .ref (ad 0)), (2, .int x1)]) hx hb dX12_busySmiths_36 hl (k := 3) rfl (by rw [e19]; rfl) (by decide) rfl (fun ls hl => ?_)
          refine lv_goto (tgt := 9) hx hb dX12_busySmiths_39 (by decide) ?_
          exact ih9 (x15) (x18) H locs ls (by have h0 : (1 : Int32).toInt = 1 := rfl; have h1 := ti_addk e19 r10 (by decide); have h2 : rg x18 0 8 := (rg_w r20 (by decide)); unfold rg at h2; omega) r17 (rg_w r20 (by decide)) hP hD hS (lv_sub hl [2, 1, 3, 0] rfl)
        refine lv_icmp_ne (tgt := 33) hx hb dX12_busySmiths_24 (by decide) (fun c21 => ?_) (fun c21 => ?_)
        · skip
          refine lv_iconst (v := 0) hx hb dX12_busySmiths_33 (by decide) ?_
          exact J34 (0) H locs ls (rg_k (by decide)) hP hD hS (lv_sub hl [0, 2, 3] rfl)
        · skip
          refine lv_iconst (v := 1) hx hb dX12_busySmiths_27 (by decide) ?_
          refine lv_iload_n hx hb dX12_busySmiths_28 rfl (lv_at hl 3 rfl) ?_
          refine lv_ishl hx hb dX12_busySmiths_29 ?_
          refine lv_topi (fun x22 e23 => ?_)
          have r24 : rg x22 1 128 := rg_shl1 e23 r10 (by decide)
          refine lv_goto (tgt := 34) hx hb dX12_busySmiths_30 (by decide) ?_
          exact J34 (x22) H locs ls (rg_w r24 (by decide)) hP hD hS (lv_sub hl [0, 2, 3] rfl)
  exact J9 _ (0) (0) H locs ls (Nat.lt_succ_self _) (rg_k (by decide)) (rg_k (by decide)) hP hD hS (lv_sub hl [3, 2, 1, 0] rfl)
abbrev rm_X12_busy_0_v0 : Room := { frames := 3, cells := 0, slots := 0, locals := 68 }
set_option maxHeartbeats 4000000 in
set_option maxRecDepth 100000 in
theorem c_X12_busy_0_v0 (l : Launch) (D : va_G) (cA : Nat → ClassId) (sz : Nat) (ad : Nat → Nat) (F : Nat → Int32) (L : Nat → Int64) (A : Nat → Nat → Int32) (B : Nat → Nat → Int64) (p1 : Int32) (hT : typM F A) (hp1 : rg p1 0 0) : Met l yX12_busy (Cond.code yX12_busy cX12_busy 2 (some .int) :: GW) rm_X12_busy_0_v0 (mPc D classes (tysM cA) (wM cA ad F L A B) sz [.ref (ad 0), .int p1]) (mQi (S := SW) D classes (tysM cA) (wM cA ad F L A B) sz (wfM cA ad) (fun r u => qM [] [16] F A u.1 u.2.2.1 ∧ rg r 0 255)) 0 0 (va_A (wM cA ad F L A B) sz) := by
  refine met_i (own := "ShoeingDayModel") (by decide +kernel) rfl (Nat.le_of_ble_eq_true rfl) ?_
  intro p e s m args below meth c Q Af ls hC hP hD hS hA hl hret
  have hx := hC.1
  have hb := hC.2.1
  have hown := hC.2.2.2.1
  have hg := hC.g
  have hK := hC.K
  have hl : lv_has ls 2 [(0, .ref (ad 0)), (1, .int p1)] := hl
  have hq : qM [] [16] F A F A := qM.rf hT
  obtain ⟨H, hH⟩ : ∃ H, H = s.heap := ⟨_, rfl⟩
  have hP : va_P D classes (wM cA ad F L A B) H := by rw [hH]; exact hP
  have hS : va_S Af s.heap H [] := by rw [hH]; exact hS
  obtain ⟨locs, hlo⟩ : ∃ q : List Loc, q = [] := ⟨_, rfl⟩
  rw [← hH, ← hlo]
  rw [← hlo] at hS
  refine lv_aload_n hx hb dX12_busy_0 rfl (lv_at hl 0 rfl) ?_
  refine callv_v (As := []) (rest := []) hC (c_X12_layNow_0 l D cA H.size ad F L A B  hq.1) (cwV 0 hg (g_V mw_1407 mw_1404 mw_1406 ms_70 mw_20) rfl rfl rfl (by decide +kernel) ⟨(Nat.le_of_ble_eq_true rfl), (Nat.le_of_ble_eq_true rfl)⟩) hP hD hS hA atM_0 rfl rfl hl.1 rfl (Nat.le_of_ble_eq_true rfl) dX12_busy_1 ⟨Nat.zero_le _, Nat.zero_le _⟩ (fun  u H locs hw hP hD hS => ?_)
  obtain ⟨F1, L1, A1, B1⟩ := u
  try dsimp only at hw
  obtain ⟨hq1, g2⟩ := hw
  have hq := hq.call hq1 (by decide)
  have hP : va_P D classes (wM cA ad F1 L1 A1 B1) H := hP
  have hD : va_D Af (wM cA ad F1 L1 A1 B1) := hD
  refine lv_iload_n hx hb dX12_busy_4 rfl (lv_at hl 1 rfl) ?_
  refine lv_if_eq (tgt := 15) hx hb dX12_busy_5 (by decide) (fun c3 => ?_) (fun c3 => ?_)
  · skip
    refine lv_aload_n hx hb dX12_busy_15 rfl (lv_at hl 0 rfl) ?_
    refine callv_i (As := []) (rest := []) hC (c_X12_busySmiths_0 l D cA H.size ad F1 L1 A1 B1  hq.1) (cwV 0 hg (g_V mw_1435 mw_1432 mw_1434 ms_75 mw_20) rfl rfl rfl (by decide +kernel) ⟨(Nat.le_of_ble_eq_true rfl), (Nat.le_of_ble_eq_true rfl)⟩) hP hD hS hA atM_0 rfl rfl hl.1 rfl (Nat.le_of_ble_eq_true rfl) dX12_busy_16 ⟨Nat.zero_le _, Nat.zero_le _⟩ (fun x4 u H locs hw hP hD hS => ?_)
    have r5 := hw
    have hP : va_P D classes (wM cA ad F1 L1 A1 B1) H := hP
    have hD : va_D Af (wM cA ad F1 L1 A1 B1) := hD
    exact hret (x4) (F1, L1, A1, B1) H locs 19 ls rfl dX12_busy_19 hP hD hS ⟨hq, r5⟩
  · skip
    exact rg_emp (((rg_ne1 c3 (hp1 : rg p1 0 0) ((rg_k (by decide)) : rg 0 0 0)).1 rfl) : rg p1 1 0) (by decide)
abbrev rm_X12_busyHorses_0 : Room := { frames := 2, cells := 0, slots := 0, locals := 45 }
set_option maxHeartbeats 4000000 in
set_option maxRecDepth 100000 in
theorem c_X12_busyHorses_0 (l : Launch) (D : va_G) (cA : Nat → ClassId) (sz : Nat) (ad : Nat → Nat) (F : Nat → Int32) (L : Nat → Int64) (A : Nat → Nat → Int32) (B : Nat → Nat → Int64)  (hT : typM F A) : Met l yX12_busyHorses (Cond.code yX12_busyHorses cX12_busyHorses 4 (some .int) :: GW) rm_X12_busyHorses_0 (mPc D classes (tysM cA) (wM cA ad F L A B) sz [.ref (ad 0)]) (mQi (S := Unit) D classes (tysM cA) (wM cA ad F L A B) sz (fun _ : Unit => wM cA ad F L A B) (fun r u => rg r 0 1023)) 0 0 (va_A (wM cA ad F L A B) sz) := by
  refine met_i (own := "ShoeingDayModel") (by decide +kernel) rfl (Nat.le_of_ble_eq_true rfl) ?_
  intro p e s m args below meth c Q Af ls hC hP hD hS hA hl hret
  have hx := hC.1
  have hb := hC.2.1
  have hown := hC.2.2.2.1
  have hg := hC.g
  have hK := hC.K
  have hl : lv_has ls 4 [(0, .ref (ad 0))] := hl
  have hq : qM [] [] F A F A := qM.rf hT
  obtain ⟨H, hH⟩ : ∃ H, H = s.heap := ⟨_, rfl⟩
  have hP : va_P D classes (wM cA ad F L A B) H := by rw [hH]; exact hP
  have hS : va_S Af s.heap H [] := by rw [hH]; exact hS
  obtain ⟨locs, hlo⟩ : ∃ q : List Loc, q = [] := ⟨_, rfl⟩
  rw [← hH, ← hlo]
  rw [← hlo] at hS
  refine lv_iconst (v := 0) hx hb dX12_busyHorses_0 (by decide) ?_
  refine lv_istore_n (lv' := [(1, .int 0), (0, .ref (ad 0))]) hx hb dX12_busyHorses_1 rfl hl (by decide) rfl (fun ls hl => ?_)
  refine lv_aload_n hx hb dX12_busyHorses_2 rfl (lv_at hl 1 rfl) ?_
  refine callv_i (As := []) (rest := []) hC (c_X12_leastOf_0 l D cA H.size ad F L A B  hq.1) (cwV 0 hg (g_V mw_1423 mw_1420 mw_1422 ms_73 mw_20) rfl rfl rfl (by decide +kernel) ⟨(Nat.le_of_ble_eq_true rfl), (Nat.le_of_ble_eq_true rfl)⟩) hP hD hS hA atM_0 rfl rfl hl.1 rfl (Nat.le_of_ble_eq_true rfl) dX12_busyHorses_3 ⟨Nat.zero_le _, Nat.zero_le _⟩ (fun x1 u H locs hw hP hD hS => ?_)
  have hP : va_P D classes (wM cA ad F L A B) H := hP
  have hD : va_D Af (wM cA ad F L A B) := hD
  refine lv_istore_n (lv' := [(2, .int x1), (1, .int 0), (0, .ref (ad 0))]) hx hb dX12_busyHorses_6 rfl hl (by decide) rfl (fun ls hl => ?_)
  refine lv_iconst (v := 0) hx hb dX12_busyHorses_7 (by decide) ?_
  refine lv_istore_n (lv' := [(3, .int 0), (2, .int x1), (1, .int 0), (0, .ref (ad 0))]) hx hb dX12_busyHorses_8 rfl hl (by decide) rfl (fun ls hl => ?_)
  have J9 : ∀ (n9 : Nat) (a2 : Int32) (a4 : Int32) (H : Heap) (locs : List Loc) (ls : Array Slot), (10 - a4.toInt).toNat < n9 → rg a2 0 1023 → rg a4 0 10 → va_P D classes (wM cA ad F L A B) H → va_D Af (wM cA ad F L A B) → va_S Af s.heap H locs → lv_has ls 4 [(0, .ref (ad 0)), (1, .int a2), (2, .int x1), (3, .int a4)] → W p l e rm_X12_busyHorses_0 s m args below meth c H locs 0 0 Q (F0 m 9 ls []) := by
    intro n9
    induction n9 with
    | zero =>
      intro _ _ _ _ _ hn
      exact absurd hn (Nat.not_lt_zero _)
    | succ n9 ih9 =>
      intro a2 a4 H locs ls hn9 r3 r5 hP hD hS hl
      refine lv_iload_n hx hb dX12_busyHorses_9 rfl (lv_at hl 3 rfl) ?_
      refine lv_aload_n hx hb dX12_busyHorses_10 rfl (lv_at hl 0 rfl) ?_
      refine callv_i (As := []) (rest := [.int a4]) hC (c_X12_horseMany_0 l D cA H.size ad F L A B  hq.1) (cwV 0 hg (g_V mw_1399 mw_1396 mw_1398 ms_69 mw_20) rfl rfl rfl (by decide +kernel) ⟨(Nat.le_of_ble_eq_true rfl), (Nat.le_of_ble_eq_true rfl)⟩) hP hD hS hA atM_0 rfl rfl hl.1 rfl (Nat.le_of_ble_eq_true rfl) dX12_busyHorses_11 ⟨Nat.zero_le _, Nat.zero_le _⟩ (fun x6 u H locs hw hP hD hS => ?_)
      obtain ⟨r7, g8⟩ := hw
      have hP : va_P D classes (wM cA ad F L A B) H := hP
      have hD : va_D Af (wM cA ad F L A B) := hD
      refine lv_icmp_ge (tgt := 42) hx hb dX12_busyHorses_14 (by decide) (fun c9 => ?_) (fun c9 => ?_)
      · skip
        refine lv_iload_n hx hb dX12_busyHorses_42 rfl (lv_at hl 1 rfl) ?_
        exact hret (a2) () H locs 43 ls rfl dX12_busyHorses_43 hP hD hS r3
      · skip
        have r10 : rg a4 0 9 := rg_lt1 (iNE c9) (r5 : rg a4 0 10) (r7 : rg x6 0 10)
        have r11 : rg x6 1 10 := rg_lt2 (iNE c9) (r5 : rg a4 0 10) (r7 : rg x6 0 10)
        refine lv_iload_n hx hb dX12_busyHorses_17 rfl (lv_at hl 1 rfl) ?_
        refine lv_aload_n hx hb dX12_busyHorses_18 rfl (lv_at hl 0 rfl) ?_
        refine lv_iload_n hx hb dX12_busyHorses_19 rfl (lv_at hl 3 rfl) ?_
        refine callv_i (As := [.int a4]) (rest := [.int a2]) hC (c_X12_horseSum_0 l D cA H.size ad F L A B (a4) hq.1 r10) (cwV 1 hg (g_V mw_1411 mw_1408 mw_1410 ms_71 mw_20) rfl rfl rfl (by decide +kernel) ⟨(Nat.le_of_ble_eq_true rfl), (Nat.le_of_ble_eq_true rfl)⟩) hP hD hS hA atM_0 rfl rfl hl.1 rfl (Nat.le_of_ble_eq_true rfl) dX12_busyHorses_20 ⟨Nat.zero_le _, Nat.zero_le _⟩ (fun x12 u H locs hw hP hD hS => ?_)
        have hP : va_P D classes (wM cA ad F L A B) H := hP
        have hD : va_D Af (wM cA ad F L A B) := hD
        refine lv_iload_n hx hb dX12_busyHorses_23 rfl (lv_at hl 2 rfl) ?_
        have J34 : ∀ (a13 : Int32) (H : Heap) (locs : List Loc) (ls : Array Slot), rg a13 0 512 → va_P D classes (wM cA ad F L A B) H → va_D Af (wM cA ad F L A B) → va_S Af s.heap H locs → lv_has ls 4 [(0, .ref (ad 0)), (2, .int x1), (3, .int a4)] → W p l e rm_X12_busyHorses_0 s m args below meth c H locs 0 0 Q (F0 m 34 ls [.int a13, .int a2]) := by
          intro a13 H locs ls r14 hP hD hS hl
          refine lv_ior hx hb dX12_busyHorses_34 ?_
          refine lv_topi (fun x15 e16 => ?_)
          have r17 : rg x15 0 1023 := rg_or 10 e16 r3 r14 (by decide)
          refine lv_istore_n (lv' := [(1, .int x15), (0, .ref (ad 0)), (2, .int x1), (3, .int a4)]) hx hb dX12_busyHorses_35 rfl hl (by decide) rfl (fun ls hl => ?_)
          obtain ⟨x18, e19⟩ : ∃ y : Int32, y = a4 + 1 := ⟨_, rfl⟩
          have r20 : rg x18 1 10 := rg_add e19 r10 (rg_k (by decide) : rg 1 1 1) (by decide)
          refine lv_iinc (v := x18) (lv' := [(3, .int x18), (1, .int x15), (0, .ref (ad 0)), (2, .int x1)]) hx hb dX12_busyHorses_36 hl (k := 3) rfl (by rw [e19]; rfl) (by decide) rfl (fun ls hl => ?_)
          refine lv_goto (tgt := 9) hx hb dX12_busyHorses_39 (by decide) ?_
          exact ih9 (x15) (x18) H locs ls (by have h0 : (1 : Int32).toInt = 1 := rfl; have h1 := ti_addk e19 r10 (by decide); have h2 : rg x18 0 10 := (rg_w r20 (by decide)); unfold rg at h2; omega) r17 (rg_w r20 (by decide)) hP hD hS (lv_sub hl [2, 1, 3, 0] rfl)
        refine lv_icmp_ne (tgt := 33) hx hb dX12_busyHorses_24 (by decide) (fun c21 => ?_) (fun c21 => ?_)
        · skip
          refine lv_iconst (v := 0) hx hb dX12_busyHorses_33 (by decide) ?_
          exact J34 (0) H locs ls (rg_k (by decide)) hP hD hS (lv_sub hl [0, 2, 3] rfl)
        · skip
          refine lv_iconst (v := 1) hx hb dX12_busyHorses_27 (by decide) ?_
          refine lv_iload_n hx hb dX12_busyHorses_28 rfl (lv_at hl 3 rfl) ?_
          refine lv_ishl hx hb dX12_busyHorses_29 ?_
          refine lv_topi (fun x22 e23 => ?_)
          have r24 : rg x22 1 512 := rg_shl1 e23 r10 (by decide)
          refine lv_goto (tgt := 34) hx hb dX12_busyHorses_30 (by decide) ?_
          exact J34 (x22) H locs ls (rg_w r24 (by decide)) hP hD hS (lv_sub hl [0, 2, 3] rfl)
  exact J9 _ (0) (0) H locs ls (Nat.lt_succ_self _) (rg_k (by decide)) (rg_k (by decide)) hP hD hS (lv_sub hl [3, 2, 1, 0] rfl)
