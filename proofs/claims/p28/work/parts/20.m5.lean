abbrev rm_X12_parted_0 : Room := { frames := 3, cells := 0, slots := 0, locals := 71 }
set_option maxHeartbeats 4000000 in
set_option maxRecDepth 100000 in
theorem c_X12_parted_0 (l : Launch) (D : va_G) (cA : Nat → ClassId) (sz : Nat) (ad : Nat → Nat) (F : Nat → Int32) (L : Nat → Int64) (A : Nat → Nat → Int32) (B : Nat → Nat → Int64) (p1 : Int32) (p2 : Int32) (p3 : Int32) (p4 : Int32) (hT : typM F A) : Met l yX12_parted (Cond.code yX12_parted cX12_parted 7 (some .int) :: GW) rm_X12_parted_0 (mPc D classes (tysM cA) (wM cA ad F L A B) sz [.ref (ad 0), .int p1, .int p2, .int p3, .int p4]) (mQi (S := SW) D classes (tysM cA) (wM cA ad F L A B) sz (wfM cA ad) (fun r u => qM [12] [16, 23, 24, 25, 26] F A u.1 u.2.2.1)) 0 0 (va_A (wM cA ad F L A B) sz) := by
  refine met_i (own := "ShoeingDayModel") (by decide +kernel) rfl (Nat.le_of_ble_eq_true rfl) ?_
  intro p e s m args below meth c Q Af ls hC hP hD hS hA hl hret
  have hx := hC.1
  have hb := hC.2.1
  have hown := hC.2.2.2.1
  have hg := hC.g
  have hK := hC.K
  have hl : lv_has ls 7 [(0, .ref (ad 0)), (1, .int p1), (2, .int p2), (3, .int p3), (4, .int p4)] := hl
  have hq : qM [12] [16, 23, 24, 25, 26] F A F A := qM.rf hT
  obtain ⟨H, hH⟩ : ∃ H, H = s.heap := ⟨_, rfl⟩
  have hP : va_P D classes (wM cA ad F L A B) H := by rw [hH]; exact hP
  have hS : va_S Af s.heap H [] := by rw [hH]; exact hS
  obtain ⟨locs, hlo⟩ : ∃ q : List Loc, q = [] := ⟨_, rfl⟩
  rw [← hH, ← hlo]
  rw [← hlo] at hS
  refine lv_iload_n hx hb dX12_parted_0 rfl (lv_at hl 1 rfl) ?_
  refine lv_iconst (v := 1) hx hb dX12_parted_1 (by decide) ?_
  refine lv_bipush (v := 9) hx hb dX12_parted_2 (by decide) ?_
  refine calls_i (As := [.int p1, .int 1, .int 9]) (rest := []) hC (c_X12_isIn l D (tysM cA) (wM cA ad F L A B) H.size (p1) (1) (9) (rg_k (by decide)) (rg_k (by decide))) (cwS 3 hg (g_S mw_1391 mw_1389 mw_1390 mw_20) rfl rfl rfl (by decide +kernel) ⟨(Nat.le_of_ble_eq_true rfl), (Nat.le_of_ble_eq_true rfl)⟩) hP hD hS hA rfl hl.1 rfl (Nat.le_of_ble_eq_true rfl) dX12_parted_4 ⟨Nat.zero_le _, Nat.zero_le _⟩ (fun x1 u H locs hw hP hD hS => ?_)
  obtain ⟨r2, g3, g4⟩ := hw
  have hP : va_P D classes (wM cA ad F L A B) H := hP
  have hD : va_D Af (wM cA ad F L A B) := hD
  have J38 : ∀ (F5 : Nat → Int32) (L5 : Nat → Int64) (A5 : Nat → Nat → Int32) (B5 : Nat → Nat → Int64) (H : Heap) (locs : List Loc) (ls : Array Slot), qM [12] [16, 23, 24, 25, 26] F A F5 A5 → va_P D classes (wM cA ad F5 L5 A5 B5) H → va_D Af (wM cA ad F5 L5 A5 B5) → va_S Af s.heap H locs → lv_has ls 7 [] → W p l e rm_X12_parted_0 s m args below meth c H locs 0 0 Q (F0 m 38 ls []) := by
    intro F5 L5 A5 B5 H locs ls hq hP hD hS hl
    refine lv_iconst (v := (-1)) hx hb dX12_parted_38 (by decide) ?_
    exact hret ((-1)) (F5, L5, A5, B5) H locs 39 ls rfl dX12_parted_39 hP hD hS hq
  refine lv_if_eq (tgt := 38) hx hb dX12_parted_7 (by decide) (fun c6 => ?_) (fun c6 => ?_)
  · skip
    have r7 : rg x1 0 0 := rg_eq1 c6 (r2 : rg x1 0 1) ((rg_k (by decide)) : rg 0 0 0) (by decide)
    exact J38 (F) (L) (A) (B) H locs ls hq hP hD hS (lv_sub hl [] rfl)
  · skip
    have g8 := g3.resolve_left c6
    have r9 : rg p1 1 2147483647 := rg_le2 g8.1 ((rg_k (by decide)) : rg 1 1 1) ((rg_top _) : rg p1 (-2147483648) 2147483647)
    have r10 : rg p1 1 9 := rg_le1 g8.2 (r9 : rg p1 1 2147483647) ((rg_k (by decide)) : rg 9 9 9)
    refine lv_iload_n hx hb dX12_parted_10 rfl (lv_at hl 2 rfl) ?_
    refine lv_iconst (v := 0) hx hb dX12_parted_11 (by decide) ?_
    refine lv_iload_n hx hb dX12_parted_12 rfl (lv_at hl 1 rfl) ?_
    refine lv_iconst (v := 1) hx hb dX12_parted_13 (by decide) ?_
    refine lv_isub hx hb dX12_parted_14 ?_
    refine lv_topi (fun x11 e12 => ?_)
    have r13 : rg x11 0 8 := rg_sub e12 r10 ((rg_k (by decide)) : rg 1 1 1) (by decide)
    refine calls_i (As := [.int p2, .int 0, .int x11]) (rest := []) hC (c_X12_isIn l D (tysM cA) (wM cA ad F L A B) H.size (p2) (0) (x11) (rg_k (by decide)) (rg_w r13 (by decide))) (cwS 3 hg (g_S mw_1391 mw_1389 mw_1390 mw_20) rfl rfl rfl (by decide +kernel) ⟨(Nat.le_of_ble_eq_true rfl), (Nat.le_of_ble_eq_true rfl)⟩) hP hD hS hA rfl hl.1 rfl (Nat.le_of_ble_eq_true rfl) dX12_parted_15 ⟨Nat.zero_le _, Nat.zero_le _⟩ (fun x14 u H locs hw hP hD hS => ?_)
    obtain ⟨r15, g16, g17⟩ := hw
    have hP : va_P D classes (wM cA ad F L A B) H := hP
    have hD : va_D Af (wM cA ad F L A B) := hD
    refine lv_if_eq (tgt := 38) hx hb dX12_parted_18 (by decide) (fun c18 => ?_) (fun c18 => ?_)
    · skip
      have r19 : rg x14 0 0 := rg_eq1 c18 (r15 : rg x14 0 1) ((rg_k (by decide)) : rg 0 0 0) (by decide)
      exact J38 (F) (L) (A) (B) H locs ls hq hP hD hS (lv_sub hl [] rfl)
    · skip
      have g20 := g16.resolve_left c18
      have r21 : rg p2 0 2147483647 := rg_le2 g20.1 ((rg_k (by decide)) : rg 0 0 0) ((rg_top _) : rg p2 (-2147483648) 2147483647)
      have r22 : rg p2 0 8 := rg_le1 g20.2 (r21 : rg p2 0 2147483647) (r13 : rg x11 0 8)
      refine lv_aload_n hx hb dX12_parted_21 rfl (lv_at hl 0 rfl) ?_
      refine lv_iload_n hx hb dX12_parted_22 rfl (lv_at hl 3 rfl) ?_
      refine callv_i (As := [.int p3]) (rest := []) hC (c_X12_isSmith_0 l D cA H.size ad F L A B (p3) hq.1) (cwV 1 hg (g_V mw_1384 mw_1381 mw_1383 ms_66 mw_20) rfl rfl rfl (by decide +kernel) ⟨(Nat.le_of_ble_eq_true rfl), (Nat.le_of_ble_eq_true rfl)⟩) hP hD hS hA atM_0 rfl rfl hl.1 rfl (Nat.le_of_ble_eq_true rfl) dX12_parted_23 ⟨Nat.zero_le _, Nat.zero_le _⟩ (fun x23 u H locs hw hP hD hS => ?_)
      obtain ⟨r24, g25, g26⟩ := hw
      have hP : va_P D classes (wM cA ad F L A B) H := hP
      have hD : va_D Af (wM cA ad F L A B) := hD
      refine lv_if_eq (tgt := 38) hx hb dX12_parted_26 (by decide) (fun c27 => ?_) (fun c27 => ?_)
      · skip
        have r28 : rg x23 0 0 := rg_eq1 c27 (r24 : rg x23 0 1) ((rg_k (by decide)) : rg 0 0 0) (by decide)
        exact J38 (F) (L) (A) (B) H locs ls hq hP hD hS (lv_sub hl [] rfl)
      · skip
        have g29 := g25.resolve_left c27
        refine lv_aload_n hx hb dX12_parted_29 rfl (lv_at hl 0 rfl) ?_
        refine lv_iload hx hb dX12_parted_30 (lv_at hl 4 rfl) ?_
        refine callv_i (As := [.int p4]) (rest := []) hC (c_X12_isHorse_0 l D cA H.size ad F L A B (p4) hq.1) (cwV 1 hg (g_V mw_1395 mw_1392 mw_1394 ms_68 mw_20) rfl rfl rfl (by decide +kernel) ⟨(Nat.le_of_ble_eq_true rfl), (Nat.le_of_ble_eq_true rfl)⟩) hP hD hS hA atM_0 rfl rfl hl.1 rfl (Nat.le_of_ble_eq_true rfl) dX12_parted_32 ⟨Nat.zero_le _, Nat.zero_le _⟩ (fun x30 u H locs hw hP hD hS => ?_)
        obtain ⟨r31, g32, g33⟩ := hw
        have hP : va_P D classes (wM cA ad F L A B) H := hP
        have hD : va_D Af (wM cA ad F L A B) := hD
        refine lv_if_ne (tgt := 40) hx hb dX12_parted_35 (by decide) (fun c34 => ?_) (fun c34 => ?_)
        · skip
          have g35 := g32.resolve_left c34
          refine lv_aload_n hx hb dX12_parted_40 rfl (lv_at hl 0 rfl) ?_
          refine callv_v (As := []) (rest := []) hC (c_X12_layNow_0 l D cA H.size ad F L A B  hq.1) (cwV 0 hg (g_V mw_1407 mw_1404 mw_1406 ms_70 mw_20) rfl rfl rfl (by decide +kernel) ⟨(Nat.le_of_ble_eq_true rfl), (Nat.le_of_ble_eq_true rfl)⟩) hP hD hS hA atM_0 rfl rfl hl.1 rfl (Nat.le_of_ble_eq_true rfl) dX12_parted_41 ⟨Nat.zero_le _, Nat.zero_le _⟩ (fun  u H locs hw hP hD hS => ?_)
          obtain ⟨F37, L37, A37, B37⟩ := u
          try dsimp only at hw
          obtain ⟨hq37, g38⟩ := hw
          have hq := hq.call hq37 (by decide)
          have hP : va_P D classes (wM cA ad F37 L37 A37 B37) H := hP
          have hD : va_D Af (wM cA ad F37 L37 A37 B37) := hD
          refine lv_iconst (v := 0) hx hb dX12_parted_44 (by decide) ?_
          refine lv_istore (lv' := [(5, .int 0), (0, .ref (ad 0)), (1, .int p1), (2, .int p2), (3, .int p3), (4, .int p4)]) hx hb dX12_parted_45 hl (by decide) rfl (fun ls hl => ?_)
          have J47 : ∀ (n47 : Nat) (a39 : Int32) (F41 : Nat → Int32) (L41 : Nat → Int64) (A41 : Nat → Nat → Int32) (B41 : Nat → Nat → Int64) (H : Heap) (locs : List Loc) (ls : Array Slot), (9 - a39.toInt).toNat < n47 → rg a39 0 9 → qM [12] [16, 23, 24, 25, 26] F A F41 A41 → va_P D classes (wM cA ad F41 L41 A41 B41) H → va_D Af (wM cA ad F41 L41 A41 B41) → va_S Af s.heap H locs → lv_has ls 7 [(0, .ref (ad 0)), (1, .int p1), (2, .int p2), (3, .int p3), (4, .int p4), (5, .int a39)] → W p l e rm_X12_parted_0 s m args below meth c H locs 0 0 Q (F0 m 47 ls []) := by
            intro n47
            induction n47 with
            | zero =>
              intro _ _ _ _ _ _ _ _ hn
              exact absurd hn (Nat.not_lt_zero _)
            | succ n47 ih47 =>
              intro a39 F41 L41 A41 B41 H locs ls hn47 r40 hq hP hD hS hl
              refine lv_iload hx hb dX12_parted_47 (lv_at hl 5 rfl) ?_
              refine lv_iload_n hx hb dX12_parted_49 rfl (lv_at hl 2 rfl) ?_
              refine lv_icmp_gt (tgt := 100) hx hb dX12_parted_50 (by decide) (fun c42 => ?_) (fun c42 => ?_)
              · skip
                have r43 : rg a39 1 9 := rg_lt2 (iL c42) (r22 : rg p2 0 8) (r40 : rg a39 0 9)
                refine lv_aload_n hx hb dX12_parted_100 rfl (lv_at hl 0 rfl) ?_
                refine va_get (ci := 12) (v := .ref (ad 26)) (C := RX12) (T := TX12) (N := 57) hx hb hg inX12 hown hK hP 0 atM_0 rfl 38 (by decide) (hg _ mw_1146) (fun _ h9 => h9) rfl dX12_parted_101 ?_
                refine lv_bipush (v := 10) hx hb dX12_parted_104 (by decide) ?_
                refine lv_iload_n hx hb dX12_parted_106 rfl (lv_at hl 3 rfl) ?_
                refine lv_imul hx hb dX12_parted_107 ?_
                refine lv_topi (fun x45 e46 => ?_)
                have r47 : rg x45 0 70 := rg_mul e46 ((rg_k (by decide)) : rg 10 10 10) g29 (by decide)
                refine lv_iload hx hb dX12_parted_108 (lv_at hl 4 rfl) ?_
                refine lv_iadd hx hb dX12_parted_110 ?_
                refine lv_topi (fun x48 e49 => ?_)
                have r50 : rg x48 0 79 := rg_add e49 r47 g35 (by decide)
                refine va_iald hx hb hK hP 26 25 atM_26 tyM_26 (in_rg r50 (by decide)) dX12_parted_111 ?_
                refine lv_topi (fun x51 e52 => ?_)
                exact hret (x51) (F41, L41, A41, B41) H locs 112 ls rfl dX12_parted_112 hP hD hS hq
              · skip
                have r44 : rg a39 0 8 := rg_le1 (iNL c42) (r40 : rg a39 0 9) (r22 : rg p2 0 8)
                refine lv_aload_n hx hb dX12_parted_53 rfl (lv_at hl 0 rfl) ?_
                refine lv_iload_n hx hb dX12_parted_54 rfl (lv_at hl 1 rfl) ?_
                refine lv_iload hx hb dX12_parted_55 (lv_at hl 5 rfl) ?_
                refine lv_isub hx hb dX12_parted_57 ?_
                refine lv_topi (fun x53 e54 => ?_)
                have r55 : rg x53 1 9 := sub_pos (r10 : rg p1 1 9) r44 e12 g20.2 (iNL c42) e54
                refine callv_v (As := [.int x53]) (rest := []) hC (c_X12_layPart_0 l D cA H.size ad F41 L41 A41 B41 (x53) hq.1 r55) (cwV 1 hg (g_V mw_1490 mw_1487 mw_1489 ms_83 mw_20) rfl rfl rfl (by decide +kernel) ⟨(Nat.le_of_ble_eq_true rfl), (Nat.le_of_ble_eq_true rfl)⟩) hP hD hS hA atM_0 rfl rfl hl.1 rfl (Nat.le_of_ble_eq_true rfl) dX12_parted_58 ⟨Nat.zero_le _, Nat.zero_le _⟩ (fun  u H locs hw hP hD hS => ?_)
                obtain ⟨F56, L56, A56, B56⟩ := u
                try dsimp only at hw
                have hq56 := hw
                have hq := hq.call hq56 (by decide)
                have hP : va_P D classes (wM cA ad F56 L56 A56 B56) H := hP
                have hD : va_D Af (wM cA ad F56 L56 A56 B56) := hD
                refine lv_iconst (v := 0) hx hb dX12_parted_61 (by decide) ?_
                refine lv_istore (lv' := [(6, .int 0), (0, .ref (ad 0)), (1, .int p1), (2, .int p2), (3, .int p3), (4, .int p4), (5, .int a39)]) hx hb dX12_parted_62 hl (by decide) rfl (fun ls hl => ?_)
                have J64 : ∀ (n64 : Nat) (a57 : Int32) (F59 : Nat → Int32) (L59 : Nat → Int64) (A59 : Nat → Nat → Int32) (B59 : Nat → Nat → Int64) (H : Heap) (locs : List Loc) (ls : Array Slot), (80 - a57.toInt).toNat < n64 → rg a57 0 80 → qM [12] [16, 23, 24, 25, 26] F A F59 A59 → va_P D classes (wM cA ad F59 L59 A59 B59) H → va_D Af (wM cA ad F59 L59 A59 B59) → va_S Af s.heap H locs → lv_has ls 7 [(0, .ref (ad 0)), (1, .int p1), (2, .int p2), (3, .int p3), (4, .int p4), (5, .int a39), (6, .int a57)] → W p l e rm_X12_parted_0 s m args below meth c H locs 0 0 Q (F0 m 64 ls []) := by
                  intro n64
                  induction n64 with
                  | zero =>
                    intro _ _ _ _ _ _ _ _ hn
                    exact absurd hn (Nat.not_lt_zero _)
                  | succ n64 ih64 =>
                    intro a57 F59 L59 A59 B59 H locs ls hn64 r58 hq hP hD hS hl
                    refine lv_iload hx hb dX12_parted_64 (lv_at hl 6 rfl) ?_
                    refine lv_bipush (v := 80) hx hb dX12_parted_66 (by decide) ?_
                    refine lv_icmp_ge (tgt := 94) hx hb dX12_parted_68 (by decide) (fun c60 => ?_) (fun c60 => ?_)
                    · skip
                      have r61 : rg a57 80 80 := rg_le2 (iE c60) ((rg_k (by decide)) : rg 80 80 80) (r58 : rg a57 0 80)
                      obtain ⟨x63, e64⟩ : ∃ y : Int32, y = a39 + 1 := ⟨_, rfl⟩
                      have r65 : rg x63 1 9 := rg_add e64 r44 (rg_k (by decide) : rg 1 1 1) (by decide)
                      refine lv_iinc (v := x63) (lv' := [(5, .int x63), (0, .ref (ad 0)), (1, .int p1), (2, .int p2), (3, .int p3), (4, .int p4), (6, .int a57)]) hx hb dX12_parted_94 hl (k := 5) rfl (by rw [e64]; rfl) (by decide) rfl (fun ls hl => ?_)
                      refine lv_goto (tgt := 47) hx hb dX12_parted_97 (by decide) ?_
                      exact ih47 (x63) (F59) (L59) (A59) (B59) H locs ls (by have h0 : (1 : Int32).toInt = 1 := rfl; have h1 := ti_addk e64 r44 (by decide); have h2 : rg x63 0 9 := (rg_w r65 (by decide)); unfold rg at h2; omega) (rg_w r65 (by decide)) hq hP hD hS (lv_sub hl [1, 2, 3, 4, 5, 0] rfl)
                    · skip
                      have r62 : rg a57 0 79 := rg_lt1 (iNE c60) (r58 : rg a57 0 80) ((rg_k (by decide)) : rg 80 80 80)
                      refine lv_aload_n hx hb dX12_parted_71 rfl (lv_at hl 0 rfl) ?_
                      refine va_get (ci := 12) (v := .ref (ad 16)) (C := RX12) (T := TX12) (N := 57) hx hb hg inX12 hown hK hP 0 atM_0 rfl 26 (by decide) (hg _ mw_1134) (fun _ h9 => h9) rfl dX12_parted_72 ?_
                      refine lv_iload hx hb dX12_parted_75 (lv_at hl 6 rfl) ?_
                      refine lv_dup2_11 hx hb dX12_parted_77 rfl rfl ?_
                      refine va_iald hx hb hK hP 16 15 atM_16 tyM_16 (in_rg r62 (by decide)) dX12_parted_78 ?_
                      refine lv_topi (fun x66 e67 => ?_)
                      refine lv_aload_n hx hb dX12_parted_79 rfl (lv_at hl 0 rfl) ?_
                      refine va_get (ci := 12) (v := .ref (ad 26)) (C := RX12) (T := TX12) (N := 57) hx hb hg inX12 hown hK hP 0 atM_0 rfl 38 (by decide) (hg _ mw_1146) (fun _ h9 => h9) rfl dX12_parted_80 ?_
                      refine lv_iload hx hb dX12_parted_83 (lv_at hl 6 rfl) ?_
                      refine va_iald hx hb hK hP 26 25 atM_26 tyM_26 (in_rg r62 (by decide)) dX12_parted_85 ?_
                      refine lv_topi (fun x68 e69 => ?_)
                      refine lv_isub hx hb dX12_parted_86 ?_
                      refine lv_topi (fun x70 e71 => ?_)
                      refine va_iast hx hb hK hP hD hS 16 15 atM_16 tyM_16 (in_rg r62 (by decide)) dX12_parted_87 (fun H locs hP hD hS => ?_)
                      have hq := hq.ast 16 (a57).toNatClampNeg (x := x70) (by decide) (rg_top _)
                      rw [setM_16] at hP hD
                      have k72 : x70 = (va_up A59 16 (upd (A59 16) (a57).toNatClampNeg x70)) 16 (a57).toNatClampNeg := (rdA).symm
                      obtain ⟨x73, e74⟩ : ∃ y : Int32, y = a57 + 1 := ⟨_, rfl⟩
                      have r75 : rg x73 1 80 := rg_add e74 r62 (rg_k (by decide) : rg 1 1 1) (by decide)
                      refine lv_iinc (v := x73) (lv' := [(6, .int x73), (0, .ref (ad 0)), (1, .int p1), (2, .int p2), (3, .int p3), (4, .int p4), (5, .int a39)]) hx hb dX12_parted_88 hl (k := 6) rfl (by rw [e74]; rfl) (by decide) rfl (fun ls hl => ?_)
                      refine lv_goto (tgt := 64) hx hb dX12_parted_91 (by decide) ?_
                      exact ih64 (x73) (F59) (L59) ((va_up A59 16 (upd (A59 16) (a57).toNatClampNeg x70))) (B59) H locs ls (by have h0 : (1 : Int32).toInt = 1 := rfl; have h1 := ti_addk e74 r62 (by decide); have h2 : rg x73 0 80 := (rg_w r75 (by decide)); unfold rg at h2; omega) (rg_w r75 (by decide)) hq hP hD hS (lv_sub hl [1, 2, 3, 4, 5, 6, 0] rfl)
                exact J64 _ (0) (F56) (L56) (A56) (B56) H locs ls (Nat.lt_succ_self _) (rg_k (by decide)) hq hP hD hS (lv_sub hl [1, 2, 3, 4, 5, 6, 0] rfl)
          exact J47 _ (0) (F37) (L37) (A37) (B37) H locs ls (Nat.lt_succ_self _) (rg_k (by decide)) hq hP hD hS (lv_sub hl [1, 2, 3, 4, 5, 0] rfl)
        · skip
          have r36 : rg x30 0 0 := rg_eq1 c34 (r31 : rg x30 0 1) ((rg_k (by decide)) : rg 0 0 0) (by decide)
          exact J38 (F) (L) (A) (B) H locs ls hq hP hD hS (lv_sub hl [] rfl)
abbrev rm_X12_findEven_0 : Room := { frames := 1, cells := 0, slots := 0, locals := 23 }
set_option maxHeartbeats 4000000 in
set_option maxRecDepth 100000 in
theorem c_X12_findEven_0 (l : Launch) (D : va_G) (cA : Nat → ClassId) (sz : Nat) (ad : Nat → Nat) (F : Nat → Int32) (L : Nat → Int64) (A : Nat → Nat → Int32) (B : Nat → Nat → Int64)  (hT : typM F A) : Met l yX12_findEven (Cond.code yX12_findEven cX12_findEven 5 (some .int) :: GW) rm_X12_findEven_0 (mPc D classes (tysM cA) (wM cA ad F L A B) sz [.ref (ad 0)]) (mQi (S := SW) D classes (tysM cA) (wM cA ad F L A B) sz (wfM cA ad) (fun r u => qM [13] [16] F A u.1 u.2.2.1 ∧ rg r 0 2147483647)) 0 0 (va_A (wM cA ad F L A B) sz) := by
  refine met_i (own := "ShoeingDayModel") (by decide +kernel) rfl (Nat.le_of_ble_eq_true rfl) ?_
  intro p e s m args below meth c Q Af ls hC hP hD hS hA hl hret
  have hx := hC.1
  have hb := hC.2.1
  have hown := hC.2.2.2.1
  have hg := hC.g
  have hK := hC.K
  have hl : lv_has ls 5 [(0, .ref (ad 0))] := hl
  have hq : qM [13] [16] F A F A := qM.rf hT
  obtain ⟨H, hH⟩ : ∃ H, H = s.heap := ⟨_, rfl⟩
  have hP : va_P D classes (wM cA ad F L A B) H := by rw [hH]; exact hP
  have hS : va_S Af s.heap H [] := by rw [hH]; exact hS
  obtain ⟨locs, hlo⟩ : ∃ q : List Loc, q = [] := ⟨_, rfl⟩
  rw [← hH, ← hlo]
  rw [← hlo] at hS
  refine lv_aload_n hx hb dX12_findEven_0 rfl (lv_at hl 0 rfl) ?_
  refine callv_v (As := []) (rest := []) hC (c_X12_layNow_0 l D cA H.size ad F L A B  hq.1) (cwV 0 hg (g_V mw_1407 mw_1404 mw_1406 ms_70 mw_20) rfl rfl rfl (by decide +kernel) ⟨(Nat.le_of_ble_eq_true rfl), (Nat.le_of_ble_eq_true rfl)⟩) hP hD hS hA atM_0 rfl rfl hl.1 rfl (Nat.le_of_ble_eq_true rfl) dX12_findEven_1 ⟨Nat.zero_le _, Nat.zero_le _⟩ (fun  u H locs hw hP hD hS => ?_)
  obtain ⟨F1, L1, A1, B1⟩ := u
  try dsimp only at hw
  obtain ⟨hq1, g2⟩ := hw
  have hq := hq.call hq1 (by decide)
  have hP : va_P D classes (wM cA ad F1 L1 A1 B1) H := hP
  have hD : va_D Af (wM cA ad F1 L1 A1 B1) := hD
  refine lv_iconst (v := 0) hx hb dX12_findEven_4 (by decide) ?_
  refine lv_istore_n (lv' := [(1, .int 0), (0, .ref (ad 0))]) hx hb dX12_findEven_5 rfl hl (by decide) rfl (fun ls hl => ?_)
  refine lv_aload_n hx hb dX12_findEven_6 rfl (lv_at hl 1 rfl) ?_
  refine lv_iconst (v := 0) hx hb dX12_findEven_7 (by decide) ?_
  refine va_put (ci := 12) (v := .int 0) (ty := .int) (C := RX12) (T := TX12) (N := 57) hx hb hg inX12 tyX12 tyX12_ok nmX12 hown hK hP hD hS 0 atM_0 rfl 40 (by decide) (hg _ mw_1148) (fun _ h9 => h9) rfl (by decide +kernel) rfl rfl (Nat.le_of_ble_eq_true rfl) dX12_findEven_8 (fun H locs hP hD hS => ?_)
  have hq := hq.put 13 (x := 0) (by decide) (rg_k (by decide))
  rw [setFM_13] at hP hD
  refine lv_iconst (v := 1) hx hb dX12_findEven_11 (by decide) ?_
  refine lv_istore_n (lv' := [(2, .int 1), (1, .int 0), (0, .ref (ad 0))]) hx hb dX12_findEven_12 rfl hl (by decide) rfl (fun ls hl => ?_)
  have J13 : ∀ (n13 : Nat) (a3 : Int32) (a5 : Int32) (F7 : Nat → Int32) (L7 : Nat → Int64) (A7 : Nat → Nat → Int32) (B7 : Nat → Nat → Int64) (H : Heap) (locs : List Loc) (ls : Array Slot), (256 - a5.toInt).toNat < n13 → rg a3 0 2147483647 → rg a5 1 256 → qM [13] [16] F A F7 A7 → va_P D classes (wM cA ad F7 L7 A7 B7) H → va_D Af (wM cA ad F7 L7 A7 B7) → va_S Af s.heap H locs → lv_has ls 5 [(0, .ref (ad 0)), (1, .int a3), (2, .int a5)] → W p l e rm_X12_findEven_0 s m args below meth c H locs 0 0 Q (F0 m 13 ls []) := by
    intro n13
    induction n13 with
    | zero =>
      intro _ _ _ _ _ _ _ _ _ hn
      exact absurd hn (Nat.not_lt_zero _)
    | succ n13 ih13 =>
      intro a3 a5 F7 L7 A7 B7 H locs ls hn13 r4 r6 hq hP hD hS hl
      refine lv_iload_n hx hb dX12_findEven_13 rfl (lv_at hl 2 rfl) ?_
      refine lv_iconst (v := 1) hx hb dX12_findEven_14 (by decide) ?_
      refine lv_aload_n hx hb dX12_findEven_15 rfl (lv_at hl 0 rfl) ?_
      refine callv_i (As := []) (rest := [.int 1, .int a5]) hC (c_X12_smithMany_0 l D cA H.size ad F7 L7 A7 B7  hq.1) (cwV 0 hg (g_V mw_1388 mw_1385 mw_1387 ms_67 mw_20) rfl rfl rfl (by decide +kernel) ⟨(Nat.le_of_ble_eq_true rfl), (Nat.le_of_ble_eq_true rfl)⟩) hP hD hS hA atM_0 rfl rfl hl.1 rfl (Nat.le_of_ble_eq_true rfl) dX12_findEven_16 ⟨Nat.zero_le _, Nat.zero_le _⟩ (fun x8 u H locs hw hP hD hS => ?_)
      obtain ⟨r9, g10⟩ := hw
      have hP : va_P D classes (wM cA ad F7 L7 A7 B7) H := hP
      have hD : va_D Af (wM cA ad F7 L7 A7 B7) := hD
      refine lv_ishl hx hb dX12_findEven_19 ?_
      refine lv_topi (fun x11 e12 => ?_)
      have r13 : rg x11 1 256 := rg_shl1 e12 r9 (by decide)
      refine lv_icmp_ge (tgt := 112) hx hb dX12_findEven_20 (by decide) (fun c14 => ?_) (fun c14 => ?_)
      · skip
        refine lv_iload_n hx hb dX12_findEven_112 rfl (lv_at hl 1 rfl) ?_
        exact hret (a3) (F7, L7, A7, B7) H locs 113 ls rfl dX12_findEven_113 hP hD hS ⟨hq, r4⟩
      · skip
        have r15 : rg a5 1 255 := rg_lt1 (iNE c14) (r6 : rg a5 1 256) (r13 : rg x11 1 256)
        have r16 : rg x11 2 256 := rg_lt2 (iNE c14) (r6 : rg a5 1 256) (r13 : rg x11 1 256)
        refine lv_iconst (v := 0) hx hb dX12_findEven_23 (by decide) ?_
        refine lv_istore_n (lv' := [(3, .int 0), (0, .ref (ad 0)), (1, .int a3), (2, .int a5)]) hx hb dX12_findEven_24 rfl hl (by decide) rfl (fun ls hl => ?_)
        refine lv_iconst (v := 0) hx hb dX12_findEven_25 (by decide) ?_
        refine lv_istore (lv' := [(4, .int 0), (3, .int 0), (0, .ref (ad 0)), (1, .int a3), (2, .int a5)]) hx hb dX12_findEven_26 hl (by decide) rfl (fun ls hl => ?_)
        have J28 : ∀ (n28 : Nat) (a17 : Int32) (a18 : Int32) (F20 : Nat → Int32) (L20 : Nat → Int64) (A20 : Nat → Nat → Int32) (B20 : Nat → Nat → Int64) (H : Heap) (locs : List Loc) (ls : Array Slot), (8 - a18.toInt).toNat < n28 → rg a18 0 8 → qM [13] [16] F A F20 A20 → va_P D classes (wM cA ad F20 L20 A20 B20) H → va_D Af (wM cA ad F20 L20 A20 B20) → va_S Af s.heap H locs → lv_has ls 5 [(0, .ref (ad 0)), (1, .int a3), (2, .int a5), (3, .int a17), (4, .int a18)] → W p l e rm_X12_findEven_0 s m args below meth c H locs 0 0 Q (F0 m 28 ls []) := by
          intro n28
          induction n28 with
          | zero =>
            intro _ _ _ _ _ _ _ _ _ hn
            exact absurd hn (Nat.not_lt_zero _)
          | succ n28 ih28 =>
            intro a17 a18 F20 L20 A20 B20 H locs ls hn28 r19 hq hP hD hS hl
            refine lv_iload hx hb dX12_findEven_28 (lv_at hl 4 rfl) ?_
            refine lv_aload_n hx hb dX12_findEven_30 rfl (lv_at hl 0 rfl) ?_
            refine callv_i (As := []) (rest := [.int a18]) hC (c_X12_smithMany_0 l D cA H.size ad F20 L20 A20 B20  hq.1) (cwV 0 hg (g_V mw_1388 mw_1385 mw_1387 ms_67 mw_20) rfl rfl rfl (by decide +kernel) ⟨(Nat.le_of_ble_eq_true rfl), (Nat.le_of_ble_eq_true rfl)⟩) hP hD hS hA atM_0 rfl rfl hl.1 rfl (Nat.le_of_ble_eq_true rfl) dX12_findEven_31 ⟨Nat.zero_le _, Nat.zero_le _⟩ (fun x21 u H locs hw hP hD hS => ?_)
            obtain ⟨r22, g23⟩ := hw
            have hP : va_P D classes (wM cA ad F20 L20 A20 B20) H := hP
            have hD : va_D Af (wM cA ad F20 L20 A20 B20) := hD
            refine lv_icmp_ge (tgt := 79) hx hb dX12_findEven_34 (by decide) (fun c24 => ?_) (fun c24 => ?_)
            · skip
              refine lv_iload_n hx hb dX12_findEven_79 rfl (lv_at hl 3 rfl) ?_
              refine lv_iload_n hx hb dX12_findEven_80 rfl (lv_at hl 2 rfl) ?_
              refine calls_i (As := [.int a5]) (rest := [.int a17]) hC (c_X12_bitsOf l D (tysM cA) (wM cA ad F20 L20 A20 B20) H.size (a5)) (cwS 1 hg (g_S mw_1462 mw_1460 mw_1461 mw_20) rfl rfl rfl (by decide +kernel) ⟨(Nat.le_of_ble_eq_true rfl), (Nat.le_of_ble_eq_true rfl)⟩) hP hD hS hA rfl hl.1 rfl (Nat.le_of_ble_eq_true rfl) dX12_findEven_81 ⟨Nat.zero_le _, Nat.zero_le _⟩ (fun x27 u H locs hw hP hD hS => ?_)
              have e28 := hw
              have hP : va_P D classes (wM cA ad F20 L20 A20 B20) H := hP
              have hD : va_D Af (wM cA ad F20 L20 A20 B20) := hD
              have r29 : rg x27 1 31 := rg_bits1 hw r15 (by decide)
              refine calls_i (As := [.int a17, .int x27]) (rest := []) hC (c_X12_up l D (tysM cA) (wM cA ad F20 L20 A20 B20) H.size (a17) (x27) r29) (cwS 2 hg (g_S mw_1500 mw_1498 mw_1499 mw_20) rfl rfl rfl (by decide +kernel) ⟨(Nat.le_of_ble_eq_true rfl), (Nat.le_of_ble_eq_true rfl)⟩) hP hD hS hA rfl hl.1 rfl (Nat.le_of_ble_eq_true rfl) dX12_findEven_84 ⟨Nat.zero_le _, Nat.zero_le _⟩ (fun x30 u H locs hw hP hD hS => ?_)
              have hP : va_P D classes (wM cA ad F20 L20 A20 B20) H := hP
              have hD : va_D Af (wM cA ad F20 L20 A20 B20) := hD
              refine lv_istore (lv' := [(4, .int x30), (0, .ref (ad 0)), (1, .int a3), (2, .int a5), (3, .int a17)]) hx hb dX12_findEven_87 hl (by decide) rfl (fun ls hl => ?_)
              refine lv_iload hx hb dX12_findEven_89 (lv_at hl 0 rfl) ?_
              refine lv_iload_n hx hb dX12_findEven_91 rfl (lv_at hl 2 rfl) ?_
              have J106 : ∀ (a31 : Int32) (F33 : Nat → Int32) (L33 : Nat → Int64) (A33 : Nat → Nat → Int32) (B33 : Nat → Nat → Int64) (H : Heap) (locs : List Loc) (ls : Array Slot), rg a31 0 2147483647 → qM [13] [16] F A F33 A33 → va_P D classes (wM cA ad F33 L33 A33 B33) H → va_D Af (wM cA ad F33 L33 A33 B33) → va_S Af s.heap H locs → lv_has ls 5 [(0, .ref (ad 0)), (1, .int a31), (2, .int a5)] → W p l e rm_X12_findEven_0 s m args below meth c H locs 0 0 Q (F0 m 106 ls []) := by
                intro a31 F33 L33 A33 B33 H locs ls r32 hq hP hD hS hl
                obtain ⟨x34, e35⟩ : ∃ y : Int32, y = a5 + 1 := ⟨_, rfl⟩
                have r36 : rg x34 2 256 := rg_add e35 r15 (rg_k (by decide) : rg 1 1 1) (by decide)
                refine lv_iinc (v := x34) (lv' := [(2, .int x34), (0, .ref (ad 0)), (1, .int a31)]) hx hb dX12_findEven_106 hl (k := 2) rfl (by rw [e35]; rfl) (by decide) rfl (fun ls hl => ?_)
                refine lv_goto (tgt := 13) hx hb dX12_findEven_109 (by decide) ?_
                exact ih13 (a31) (x34) (F33) (L33) (A33) (B33) H locs ls (by have h0 : (1 : Int32).toInt = 1 := rfl; have h1 := ti_addk e35 r15 (by decide); have h2 : rg x34 1 256 := (rg_w r36 (by decide)); unfold rg at h2; omega) r32 (rg_w r36 (by decide)) hq hP hD hS (lv_sub hl [1, 2, 0] rfl)
              refine lv_icmp_gt (tgt := 98) hx hb dX12_findEven_92 (by decide) (fun c37 => ?_) (fun c37 => ?_)
              · skip
                have r38 : rg a3 0 2147483646 := rg_lt1 (iL c37) (r4 : rg a3 0 2147483647) ((rg_top _) : rg x30 (-2147483648) 2147483647)
                have r39 : rg x30 1 2147483647 := rg_lt2 (iL c37) (r4 : rg a3 0 2147483647) ((rg_top _) : rg x30 (-2147483648) 2147483647)
                refine lv_iload hx hb dX12_findEven_98 (lv_at hl 0 rfl) ?_
                refine lv_istore_n (lv' := [(1, .int x30), (4, .int x30), (0, .ref (ad 0)), (2, .int a5), (3, .int a17)]) hx hb dX12_findEven_100 rfl hl (by decide) rfl (fun ls hl => ?_)
                refine lv_aload_n hx hb dX12_findEven_101 rfl (lv_at hl 2 rfl) ?_
                refine lv_iload_n hx hb dX12_findEven_102 rfl (lv_at hl 3 rfl) ?_
                refine va_put (ci := 12) (v := .int a5) (ty := .int) (C := RX12) (T := TX12) (N := 57) hx hb hg inX12 tyX12 tyX12_ok nmX12 hown hK hP hD hS 0 atM_0 rfl 40 (by decide) (hg _ mw_1148) (fun _ h9 => h9) rfl (by decide +kernel) rfl rfl (Nat.le_of_ble_eq_true rfl) dX12_findEven_103 (fun H locs hP hD hS => ?_)
                have hq := hq.put 13 (x := a5) (by decide) (rg_top _)
                rw [setFM_13] at hP hD
                exact J106 (x30) ((upd F20 13 a5)) (L20) (A20) (B20) H locs ls (rg_w r39 (by decide)) hq hP hD hS (lv_sub hl [2, 0, 3] rfl)
              · skip
                refine lv_goto (tgt := 106) hx hb dX12_findEven_95 (by decide) ?_
                exact J106 (a3) (F20) (L20) (A20) (B20) H locs ls r4 hq hP hD hS (lv_sub hl [1, 2, 3] rfl)
            · skip
              have r25 : rg a18 0 7 := rg_lt1 (iNE c24) (r19 : rg a18 0 8) (r22 : rg x21 0 8)
              have r26 : rg x21 1 8 := rg_lt2 (iNE c24) (r19 : rg a18 0 8) (r22 : rg x21 0 8)
              refine lv_iconst (v := 1) hx hb dX12_findEven_37 (by decide) ?_
              refine lv_iload hx hb dX12_findEven_38 (lv_at hl 4 rfl) ?_
              refine lv_ishl hx hb dX12_findEven_40 ?_
              refine lv_topi (fun x40 e41 => ?_)
              have r42 : rg x40 1 128 := rg_shl1 e41 r25 (by decide)
              refine lv_aload_n hx hb dX12_findEven_41 rfl (lv_at hl 0 rfl) ?_
              refine va_get (ci := 12) (v := .ref (ad 9)) (C := RX12) (T := TX12) (N := 57) hx hb hg inX12 hown hK hP 0 atM_0 rfl 17 (by decide) (hg _ mw_1125) (fun _ h9 => h9) rfl dX12_findEven_42 ?_
              refine lv_bipush (v := 8) hx hb dX12_findEven_45 (by decide) ?_
              refine lv_aload_n hx hb dX12_findEven_47 rfl (lv_at hl 0 rfl) ?_
              refine va_get (ci := 12) (v := .int (F20 8)) (C := RX12) (T := TX12) (N := 57) hx hb hg inX12 hown hK hP 0 atM_0 rfl 24 (by decide) (hg _ mw_1132) (fun _ h9 => h9) rfl dX12_findEven_48 ?_
              refine lv_topi (fun x43 e44 => ?_)
              have r45 : rg x43 0 1 := rg_e e44 (hq.1.1 8)
              refine lv_imul hx hb dX12_findEven_51 ?_
              refine lv_topi (fun x46 e47 => ?_)
              have r48 : rg x46 0 8 := rg_mul e47 ((rg_k (by decide)) : rg 8 8 8) r45 (by decide)
              refine lv_iload hx hb dX12_findEven_52 (lv_at hl 4 rfl) ?_
              refine lv_iadd hx hb dX12_findEven_54 ?_
              refine lv_topi (fun x49 e50 => ?_)
              have r51 : rg x49 0 15 := rg_add e50 r48 r25 (by decide)
              refine va_iald hx hb hK hP 9 8 atM_9 tyM_9 (in_rg r51 (by decide)) dX12_findEven_55 ?_
              refine lv_topi (fun x52 e53 => ?_)
              refine lv_ior hx hb dX12_findEven_56 ?_
              refine lv_topi (fun x54 e55 => ?_)
              refine lv_iload_n hx hb dX12_findEven_57 rfl (lv_at hl 2 rfl) ?_
              refine lv_iconst (v := (-1)) hx hb dX12_findEven_58 (by decide) ?_
              refine lv_ixor hx hb dX12_findEven_59 ?_
              refine lv_topi (fun x56 e57 => ?_)
              refine lv_iand hx hb dX12_findEven_60 ?_
              refine lv_topi (fun x58 e59 => ?_)
              have J73 : ∀ (a60 : Int32) (F61 : Nat → Int32) (L61 : Nat → Int64) (A61 : Nat → Nat → Int32) (B61 : Nat → Nat → Int64) (H : Heap) (locs : List Loc) (ls : Array Slot), qM [13] [16] F A F61 A61 → F61 8 = x43 → va_P D classes (wM cA ad F61 L61 A61 B61) H → va_D Af (wM cA ad F61 L61 A61 B61) → va_S Af s.heap H locs → lv_has ls 5 [(0, .ref (ad 0)), (1, .int a3), (2, .int a5), (3, .int a60), (4, .int a18)] → W p l e rm_X12_findEven_0 s m args below meth c H locs 0 0 Q (F0 m 73 ls []) := by
                intro a60 F61 L61 A61 B61 H locs ls hq f62 hP hD hS hl
                obtain ⟨x63, e64⟩ : ∃ y : Int32, y = a18 + 1 := ⟨_, rfl⟩
                have r65 : rg x63 1 8 := rg_add e64 r25 (rg_k (by decide) : rg 1 1 1) (by decide)
                refine lv_iinc (v := x63) (lv' := [(4, .int x63), (0, .ref (ad 0)), (1, .int a3), (2, .int a5), (3, .int a60)]) hx hb dX12_findEven_73 hl (k := 4) rfl (by rw [e64]; rfl) (by decide) rfl (fun ls hl => ?_)
                refine lv_goto (tgt := 28) hx hb dX12_findEven_76 (by decide) ?_
                exact ih28 (a60) (x63) (F61) (L61) (A61) (B61) H locs ls (by have h0 : (1 : Int32).toInt = 1 := rfl; have h1 := ti_addk e64 r25 (by decide); have h2 : rg x63 0 8 := (rg_w r65 (by decide)); unfold rg at h2; omega) (rg_w r65 (by decide)) hq hP hD hS (lv_sub hl [1, 2, 3, 4, 0] rfl)
              refine lv_if_ne (tgt := 73) hx hb dX12_findEven_61 (by decide) (fun c66 => ?_) (fun c66 => ?_)
              · skip
                exact J73 (a17) (F20) (L20) (A20) (B20) H locs ls hq (e44.symm) hP hD hS (lv_sub hl [0, 1, 2, 3, 4] rfl)
              · skip
                have r67 : rg x58 0 0 := rg_eq1 c66 ((rg_top _) : rg x58 (-2147483648) 2147483647) ((rg_k (by decide)) : rg 0 0 0) (by decide)
                refine lv_iload_n hx hb dX12_findEven_64 rfl (lv_at hl 3 rfl) ?_
                refine lv_aload_n hx hb dX12_findEven_65 rfl (lv_at hl 0 rfl) ?_
                refine lv_iload hx hb dX12_findEven_66 (lv_at hl 4 rfl) ?_
                refine callv_i (As := [.int a18]) (rest := [.int a17]) hC (c_X12_smithSum_0 l D cA H.size ad F20 L20 A20 B20 (a18) hq.1 r25) (cwV 1 hg (g_V mw_1415 mw_1412 mw_1414 ms_72 mw_20) rfl rfl rfl (by decide +kernel) ⟨(Nat.le_of_ble_eq_true rfl), (Nat.le_of_ble_eq_true rfl)⟩) hP hD hS hA atM_0 rfl rfl hl.1 rfl (Nat.le_of_ble_eq_true rfl) dX12_findEven_68 ⟨Nat.zero_le _, Nat.zero_le _⟩ (fun x68 u H locs hw hP hD hS => ?_)
                have hP : va_P D classes (wM cA ad F20 L20 A20 B20) H := hP
                have hD : va_D Af (wM cA ad F20 L20 A20 B20) := hD
                refine lv_iadd hx hb dX12_findEven_71 ?_
                refine lv_topi (fun x69 e70 => ?_)
                refine lv_istore_n (lv' := [(3, .int x69), (0, .ref (ad 0)), (1, .int a3), (2, .int a5), (4, .int a18)]) hx hb dX12_findEven_72 rfl hl (by decide) rfl (fun ls hl => ?_)
                exact J73 (x69) (F20) (L20) (A20) (B20) H locs ls hq (e44.symm) hP hD hS (lv_sub hl [1, 2, 3, 0, 4] rfl)
        exact J28 _ (0) (0) (F7) (L7) (A7) (B7) H locs ls (Nat.lt_succ_self _) (rg_k (by decide)) hq hP hD hS (lv_sub hl [2, 3, 4, 1, 0] rfl)
  exact J13 _ (0) (1) ((upd F1 13 (0 : Int32))) (L1) (A1) (B1) H locs ls (Nat.lt_succ_self _) (rg_k (by decide)) (rg_k (by decide)) hq hP hD hS (lv_sub hl [2, 1, 0] rfl)
abbrev rm_X12_even_0 : Room := { frames := 2, cells := 0, slots := 0, locals := 47 }
set_option maxHeartbeats 4000000 in
set_option maxRecDepth 100000 in
theorem c_X12_even_0 (l : Launch) (D : va_G) (cA : Nat → ClassId) (sz : Nat) (ad : Nat → Nat) (F : Nat → Int32) (L : Nat → Int64) (A : Nat → Nat → Int32) (B : Nat → Nat → Int64)  (hT : typM F A) : Met l yX12_even (Cond.code yX12_even cX12_even 1 (some .int) :: GW) rm_X12_even_0 (mPc D classes (tysM cA) (wM cA ad F L A B) sz [.ref (ad 0)]) (mQi (S := SW) D classes (tysM cA) (wM cA ad F L A B) sz (wfM cA ad) (fun r u => qM [13] [16] F A u.1 u.2.2.1 ∧ rg r 0 2147483647)) 0 0 (va_A (wM cA ad F L A B) sz) := by
  refine met_i (own := "ShoeingDayModel") (by decide +kernel) rfl (Nat.le_of_ble_eq_true rfl) ?_
  intro p e s m args below meth c Q Af ls hC hP hD hS hA hl hret
  have hx := hC.1
  have hb := hC.2.1
  have hown := hC.2.2.2.1
  have hg := hC.g
  have hK := hC.K
  have hl : lv_has ls 1 [(0, .ref (ad 0))] := hl
  have hq : qM [13] [16] F A F A := qM.rf hT
  obtain ⟨H, hH⟩ : ∃ H, H = s.heap := ⟨_, rfl⟩
  have hP : va_P D classes (wM cA ad F L A B) H := by rw [hH]; exact hP
  have hS : va_S Af s.heap H [] := by rw [hH]; exact hS
  obtain ⟨locs, hlo⟩ : ∃ q : List Loc, q = [] := ⟨_, rfl⟩
  rw [← hH, ← hlo]
  rw [← hlo] at hS
  refine lv_aload_n hx hb dX12_even_0 rfl (lv_at hl 0 rfl) ?_
  refine callv_i (As := []) (rest := []) hC (c_X12_findEven_0 l D cA H.size ad F L A B  hq.1) (cwV 0 hg (g_V mw_1516 mw_1513 mw_1515 ms_87 mw_20) rfl rfl rfl (by decide +kernel) ⟨(Nat.le_of_ble_eq_true rfl), (Nat.le_of_ble_eq_true rfl)⟩) hP hD hS hA atM_0 rfl rfl hl.1 rfl (Nat.le_of_ble_eq_true rfl) dX12_even_1 ⟨Nat.zero_le _, Nat.zero_le _⟩ (fun x1 u H locs hw hP hD hS => ?_)
  obtain ⟨F2, L2, A2, B2⟩ := u
  try dsimp only at hw
  obtain ⟨hq2, r3⟩ := hw
  have hq := hq.call hq2 (by decide)
  have hP : va_P D classes (wM cA ad F2 L2 A2 B2) H := hP
  have hD : va_D Af (wM cA ad F2 L2 A2 B2) := hD
  exact hret (x1) (F2, L2, A2, B2) H locs 4 ls rfl dX12_even_4 hP hD hS ⟨hq, r3⟩
abbrev rm_X12_proof_0 : Room := { frames := 2, cells := 0, slots := 0, locals := 47 }
set_option maxHeartbeats 4000000 in
set_option maxRecDepth 100000 in
theorem c_X12_proof_0 (l : Launch) (D : va_G) (cA : Nat → ClassId) (sz : Nat) (ad : Nat → Nat) (F : Nat → Int32) (L : Nat → Int64) (A : Nat → Nat → Int32) (B : Nat → Nat → Int64)  (hT : typM F A) : Met l yX12_proof (Cond.code yX12_proof cX12_proof 1 (some .int) :: GW) rm_X12_proof_0 (mPc D classes (tysM cA) (wM cA ad F L A B) sz [.ref (ad 0)]) (mQi (S := SW) D classes (tysM cA) (wM cA ad F L A B) sz (wfM cA ad) (fun r u => qM [13] [16] F A u.1 u.2.2.1)) 0 0 (va_A (wM cA ad F L A B) sz) := by
  refine met_i (own := "ShoeingDayModel") (by decide +kernel) rfl (Nat.le_of_ble_eq_true rfl) ?_
  intro p e s m args below meth c Q Af ls hC hP hD hS hA hl hret
  have hx := hC.1
  have hb := hC.2.1
  have hown := hC.2.2.2.1
  have hg := hC.g
  have hK := hC.K
  have hl : lv_has ls 1 [(0, .ref (ad 0))] := hl
  have hq : qM [13] [16] F A F A := qM.rf hT
  obtain ⟨H, hH⟩ : ∃ H, H = s.heap := ⟨_, rfl⟩
  have hP : va_P D classes (wM cA ad F L A B) H := by rw [hH]; exact hP
  have hS : va_S Af s.heap H [] := by rw [hH]; exact hS
  obtain ⟨locs, hlo⟩ : ∃ q : List Loc, q = [] := ⟨_, rfl⟩
  rw [← hH, ← hlo]
  rw [← hlo] at hS
  refine lv_aload_n hx hb dX12_proof_0 rfl (lv_at hl 0 rfl) ?_
  refine callv_i (As := []) (rest := []) hC (c_X12_findEven_0 l D cA H.size ad F L A B  hq.1) (cwV 0 hg (g_V mw_1516 mw_1513 mw_1515 ms_87 mw_20) rfl rfl rfl (by decide +kernel) ⟨(Nat.le_of_ble_eq_true rfl), (Nat.le_of_ble_eq_true rfl)⟩) hP hD hS hA atM_0 rfl rfl hl.1 rfl (Nat.le_of_ble_eq_true rfl) dX12_proof_1 ⟨Nat.zero_le _, Nat.zero_le _⟩ (fun x1 u H locs hw hP hD hS => ?_)
  obtain ⟨F2, L2, A2, B2⟩ := u
  try dsimp only at hw
  obtain ⟨hq2, r3⟩ := hw
  have hq := hq.call hq2 (by decide)
  have hP : va_P D classes (wM cA ad F2 L2 A2 B2) H := hP
  have hD : va_D Af (wM cA ad F2 L2 A2 B2) := hD
  refine lv_pop hx hb dX12_proof_4 rfl ?_
  refine lv_aload_n hx hb dX12_proof_5 rfl (lv_at hl 0 rfl) ?_
  refine va_get (ci := 12) (v := .int (F2 13)) (C := RX12) (T := TX12) (N := 57) hx hb hg inX12 hown hK hP 0 atM_0 rfl 40 (by decide) (hg _ mw_1148) (fun _ h9 => h9) rfl dX12_proof_6 ?_
  refine lv_topi (fun x4 e5 => ?_)
  exact hret (x4) (F2, L2, A2, B2) H locs 9 ls rfl dX12_proof_9 hP hD hS hq
abbrev rm_X12_keepAct_0 : Room := { frames := 0, cells := 0, slots := 0, locals := 0 }
set_option maxHeartbeats 4000000 in
set_option maxRecDepth 100000 in
theorem c_X12_keepAct_0 (l : Launch) (D : va_G) (cA : Nat → ClassId) (sz : Nat) (ad : Nat → Nat) (F : Nat → Int32) (L : Nat → Int64) (A : Nat → Nat → Int32) (B : Nat → Nat → Int64)  (hT : typM F A) (hI : xM F) (hLM : LM F A) : Met l yX12_keepAct (Cond.code yX12_keepAct cX12_keepAct 2 none :: GW) rm_X12_keepAct_0 (mPc D classes (tysM cA) (wM cA ad F L A B) sz [.ref (ad 0)]) (mQv (S := SW) D classes (tysM cA) (wM cA ad F L A B) sz (wfM cA ad) (fun u => qM [14, 15] [27] F A u.1 u.2.2.1 ∧ xM u.1 ∧ (LM u.1 u.2.2.1))) 0 0 (va_A (wM cA ad F L A B) sz) := by
  refine met_v (own := "ShoeingDayModel") (by decide +kernel) rfl (Nat.le_of_ble_eq_true rfl) ?_
  intro p e s m args below meth c Q Af ls hC hP hD hS hA hl hret
  have hx := hC.1
  have hb := hC.2.1
  have hown := hC.2.2.2.1
  have hg := hC.g
  have hK := hC.K
  have hl : lv_has ls 2 [(0, .ref (ad 0))] := hl
  have hq : qM [14, 15] [27] F A F A := qM.rf hT
  obtain ⟨H, hH⟩ : ∃ H, H = s.heap := ⟨_, rfl⟩
  have hP : va_P D classes (wM cA ad F L A B) H := by rw [hH]; exact hP
  have hS : va_S Af s.heap H [] := by rw [hH]; exact hS
  obtain ⟨locs, hlo⟩ : ∃ q : List Loc, q = [] := ⟨_, rfl⟩
  rw [← hH, ← hlo]
  rw [← hlo] at hS
  refine lv_aload_n hx hb dX12_keepAct_0 rfl (lv_at hl 0 rfl) ?_
  refine va_get (ci := 12) (v := .int (F 14)) (C := RX12) (T := TX12) (N := 57) hx hb hg inX12 hown hK hP 0 atM_0 rfl 42 (by decide) (hg _ mw_1150) (fun _ h9 => h9) rfl dX12_keepAct_1 ?_
  refine lv_topi (fun x1 e2 => ?_)
  have r3 : rg x1 0 40 := rg_e e2 (hq.1.1 14)
  refine lv_bipush (v := 40) hx hb dX12_keepAct_4 (by decide) ?_
  have J49 : ∀ (F4 : Nat → Int32) (L4 : Nat → Int64) (A4 : Nat → Nat → Int32) (B4 : Nat → Nat → Int64) (a5 : Int32) (H : Heap) (locs : List Loc) (ls : Array Slot), qM [14, 15] [27] F A F4 A4 → F4 14 = a5 → rg a5 0 39 → (∀ i : Nat, (i : Int) < a5.toInt → DM (sN F A) (hN F A) (A4 27) (81 * i)) → va_P D classes (wM cA ad F4 L4 A4 B4) H → va_D Af (wM cA ad F4 L4 A4 B4) → va_S Af s.heap H locs → lv_has ls 2 [(0, .ref (ad 0))] → W p l e rm_X12_keepAct_0 s m args below meth c H locs 0 0 Q (F0 m 49 ls []) := by
    intro F4 L4 A4 B4 a5 H locs ls hq f6 r7 v8 hP hD hS hl
    refine lv_iconst (v := 0) hx hb dX12_keepAct_49 (by decide) ?_
    refine lv_istore_n (lv' := [(1, .int 0), (0, .ref (ad 0))]) hx hb dX12_keepAct_50 rfl hl (by decide) rfl (fun ls hl => ?_)
    have J51 : ∀ (n51 : Nat) (a9 : Int32) (F11 : Nat → Int32) (L11 : Nat → Int64) (A11 : Nat → Nat → Int32) (B11 : Nat → Nat → Int64) (H : Heap) (locs : List Loc) (ls : Array Slot), (80 - a9.toInt).toNat < n51 → rg a9 0 80 → qM [14, 15] [27] F A F11 A11 → F11 14 = a5 → (kaI (sN F A) (hN F A) (A11 27) (A 17) a5 a9.toInt) → va_P D classes (wM cA ad F11 L11 A11 B11) H → va_D Af (wM cA ad F11 L11 A11 B11) → va_S Af s.heap H locs → lv_has ls 2 [(0, .ref (ad 0)), (1, .int a9)] → W p l e rm_X12_keepAct_0 s m args below meth c H locs 0 0 Q (F0 m 51 ls []) := by
      intro n51
      induction n51 with
      | zero =>
        intro _ _ _ _ _ _ _ _ hn
        exact absurd hn (Nat.not_lt_zero _)
      | succ n51 ih51 =>
        intro a9 F11 L11 A11 B11 H locs ls hn51 r10 hq f12 v13 hP hD hS hl
        refine lv_iload_n hx hb dX12_keepAct_51 rfl (lv_at hl 1 rfl) ?_
        refine lv_bipush (v := 80) hx hb dX12_keepAct_52 (by decide) ?_
        refine lv_icmp_ge (tgt := 83) hx hb dX12_keepAct_54 (by decide) (fun c14 => ?_) (fun c14 => ?_)
        · skip
          have r15 : rg a9 80 80 := rg_le2 (iE c14) ((rg_k (by decide)) : rg 80 80 80) (r10 : rg a9 0 80)
          refine lv_aload_n hx hb dX12_keepAct_83 rfl (lv_at hl 0 rfl) ?_
          refine va_get (ci := 12) (v := .ref (ad 27)) (C := RX12) (T := TX12) (N := 57) hx hb hg inX12 hown hK hP 0 atM_0 rfl 41 (by decide) (hg _ mw_1149) (fun _ h9 => h9) rfl dX12_keepAct_84 ?_
          refine lv_bipush (v := 81) hx hb dX12_keepAct_87 (by decide) ?_
          refine lv_aload_n hx hb dX12_keepAct_89 rfl (lv_at hl 0 rfl) ?_
          refine va_get (ci := 12) (v := .int a5) (C := RX12) (T := TX12) (N := 57) hx hb hg inX12 hown hK hP 0 atM_0 rfl 42 (by decide) (hg _ mw_1150) (fun _ h9 => h9) (congrArg (fun z => some (Value.int z)) (f12)) dX12_keepAct_90 ?_
          refine lv_imul hx hb dX12_keepAct_93 ?_
          refine lv_topi (fun x17 e18 => ?_)
          have r19 : rg x17 0 3159 := rg_mul e18 ((rg_k (by decide)) : rg 81 81 81) r7 (by decide)
          refine lv_bipush (v := 80) hx hb dX12_keepAct_94 (by decide) ?_
          refine lv_iadd hx hb dX12_keepAct_96 ?_
          refine lv_topi (fun x20 e21 => ?_)
          have r22 : rg x20 80 3239 := rg_add e21 r19 ((rg_k (by decide)) : rg 80 80 80) (by decide)
          refine lv_aload_n hx hb dX12_keepAct_97 rfl (lv_at hl 0 rfl) ?_
          refine va_get (ci := 12) (v := .int (F11 10)) (C := RX12) (T := TX12) (N := 57) hx hb hg inX12 hown hK hP 0 atM_0 rfl 28 (by decide) (hg _ mw_1136) (fun _ h9 => h9) rfl dX12_keepAct_98 ?_
          refine lv_topi (fun x23 e24 => ?_)
          refine va_iast hx hb hK hP hD hS 27 26 atM_27 tyM_27 (in_rg r22 (by decide)) dX12_keepAct_101 (fun H locs hP hD hS => ?_)
          have hq := hq.ast 27 (x20).toNatClampNeg (x := x23) (by decide) (rg_top _)
          rw [setM_27] at hP hD
          have k25 : x23 = (va_up A11 27 (upd (A11 27) (x20).toNatClampNeg x23)) 27 (x20).toNatClampNeg := (rdA).symm
          refine lv_aload_n hx hb dX12_keepAct_102 rfl (lv_at hl 0 rfl) ?_
          refine lv_dup hx hb dX12_keepAct_103 rfl ?_
          refine va_get (ci := 12) (v := .int a5) (C := RX12) (T := TX12) (N := 57) hx hb hg inX12 hown hK hP 0 atM_0 rfl 42 (by decide) (hg _ mw_1150) (fun _ h9 => h9) (congrArg (fun z => some (Value.int z)) (f12)) dX12_keepAct_104 ?_
          refine lv_iconst (v := 1) hx hb dX12_keepAct_107 (by decide) ?_
          refine lv_iadd hx hb dX12_keepAct_108 ?_
          refine lv_topi (fun x26 e27 => ?_)
          have r28 : rg x26 1 40 := rg_add e27 r7 ((rg_k (by decide)) : rg 1 1 1) (by decide)
          refine va_put (ci := 12) (v := .int x26) (ty := .int) (C := RX12) (T := TX12) (N := 57) hx hb hg inX12 tyX12 tyX12_ok nmX12 hown hK hP hD hS 0 atM_0 rfl 42 (by decide) (hg _ mw_1150) (fun _ h9 => h9) rfl (by decide +kernel) rfl rfl (Nat.le_of_ble_eq_true rfl) dX12_keepAct_109 (fun H locs hP hD hS => ?_)
          have hq := hq.put 14 (x := x26) (by decide) (rg_w r28 (by decide))
          rw [setFM_14] at hP hD
          refine lv_aload_n hx hb dX12_keepAct_112 rfl (lv_at hl 0 rfl) ?_
          refine lv_iconst (v := 0) hx hb dX12_keepAct_113 (by decide) ?_
          refine va_put (ci := 12) (v := .int 0) (ty := .int) (C := RX12) (T := TX12) (N := 57) hx hb hg inX12 tyX12 tyX12_ok nmX12 hown hK hP hD hS 0 atM_0 rfl 43 (by decide) (hg _ mw_1151) (fun _ h9 => h9) rfl (by decide +kernel) rfl rfl (Nat.le_of_ble_eq_true rfl) dX12_keepAct_114 (fun H locs hP hD hS => ?_)
          have hq := hq.put 15 (x := 0) (by decide) (rg_k (by decide))
          rw [setFM_15] at hP hD
          exact hret ((upd (upd F11 14 x26) 15 (0 : Int32)), L11, (va_up A11 27 (upd (A11 27) (x20).toNatClampNeg x23)), B11) H locs 117 ls dX12_keepAct_117 hP hD hS ⟨hq, (xM.of (a := x26) (b := (0 : Int32)) (rfl) (rfl) (by have h1 := (r28 : rg x26 1 40); have h2 := ((rg_k (by decide)) : rg (0 : Int32) 0 0); unfold rg at h1 h2; omega)), (show LM (upd (upd F11 14 x26) 15 (0 : Int32)) (va_up A11 27 (upd (A11 27) (x20).toNatClampNeg x23)) from LM.was hLM (hq.2.1 8 (by decide)) (hq.2.2 3 (by decide)) (hq.2.2 4 (by decide)) (hq.2.2 10 (by decide)) (hq.2.2 36 (by decide)) (hq.2.2 37 (by decide)) (by rw [hq.2.2 17 (by decide)]; exact hLM.1) (by rw [va_us]; exact ka_end v13 (by have := (r15 : rg a9 80 80).1; omega) ((rg_w r7 (by decide)) : rg a5 0 40) hLM.1 e18 e21 e27))⟩
        · skip
          have r16 : rg a9 0 79 := rg_lt1 (iNE c14) (r10 : rg a9 0 80) ((rg_k (by decide)) : rg 80 80 80)
          refine lv_aload_n hx hb dX12_keepAct_57 rfl (lv_at hl 0 rfl) ?_
          refine va_get (ci := 12) (v := .ref (ad 27)) (C := RX12) (T := TX12) (N := 57) hx hb hg inX12 hown hK hP 0 atM_0 rfl 41 (by decide) (hg _ mw_1149) (fun _ h9 => h9) rfl dX12_keepAct_58 ?_
          refine lv_bipush (v := 81) hx hb dX12_keepAct_61 (by decide) ?_
          refine lv_aload_n hx hb dX12_keepAct_63 rfl (lv_at hl 0 rfl) ?_
          refine va_get (ci := 12) (v := .int a5) (C := RX12) (T := TX12) (N := 57) hx hb hg inX12 hown hK hP 0 atM_0 rfl 42 (by decide) (hg _ mw_1150) (fun _ h9 => h9) (congrArg (fun z => some (Value.int z)) (f12)) dX12_keepAct_64 ?_
          refine lv_imul hx hb dX12_keepAct_67 ?_
          refine lv_topi (fun x29 e30 => ?_)
          have r31 : rg x29 0 3159 := rg_mul e30 ((rg_k (by decide)) : rg 81 81 81) r7 (by decide)
          refine lv_iload_n hx hb dX12_keepAct_68 rfl (lv_at hl 1 rfl) ?_
          refine lv_iadd hx hb dX12_keepAct_69 ?_
          refine lv_topi (fun x32 e33 => ?_)
          have r34 : rg x32 0 3238 := rg_add e33 r31 r16 (by decide)
          refine lv_aload_n hx hb dX12_keepAct_70 rfl (lv_at hl 0 rfl) ?_
          refine va_get (ci := 12) (v := .ref (ad 17)) (C := RX12) (T := TX12) (N := 57) hx hb hg inX12 hown hK hP 0 atM_0 rfl 27 (by decide) (hg _ mw_1135) (fun _ h9 => h9) rfl dX12_keepAct_71 ?_
          refine lv_iload_n hx hb dX12_keepAct_74 rfl (lv_at hl 1 rfl) ?_
          refine va_iald hx hb hK hP 17 16 atM_17 tyM_17 (in_rg r16 (by decide)) dX12_keepAct_75 ?_
          refine lv_topi (fun x35 e36 => ?_)
          refine va_iast hx hb hK hP hD hS 27 26 atM_27 tyM_27 (in_rg r34 (by decide)) dX12_keepAct_76 (fun H locs hP hD hS => ?_)
          have hq := hq.ast 27 (x32).toNatClampNeg (x := x35) (by decide) (rg_top _)
          rw [setM_27] at hP hD
          have k37 : x35 = (va_up A11 27 (upd (A11 27) (x32).toNatClampNeg x35)) 27 (x32).toNatClampNeg := (rdA).symm
          obtain ⟨x38, e39⟩ : ∃ y : Int32, y = a9 + 1 := ⟨_, rfl⟩
          have r40 : rg x38 1 80 := rg_add e39 r16 (rg_k (by decide) : rg 1 1 1) (by decide)
          refine lv_iinc (v := x38) (lv' := [(1, .int x38), (0, .ref (ad 0))]) hx hb dX12_keepAct_77 hl (k := 1) rfl (by rw [e39]; rfl) (by decide) rfl (fun ls hl => ?_)
          refine lv_goto (tgt := 51) hx hb dX12_keepAct_80 (by decide) ?_
          exact ih51 (x38) (F11) (L11) ((va_up A11 27 (upd (A11 27) (x32).toNatClampNeg x35))) (B11) H locs ls (by have h0 : (1 : Int32).toInt = 1 := rfl; have h1 := ti_addk e39 r16 (by decide); have h2 : rg x38 0 80 := (rg_w r40 (by decide)); unfold rg at h2; omega) (rg_w r40 (by decide)) hq (f12) (by rw [va_us]; exact ka_step v13 ((rg_w r7 (by decide)) : rg a5 0 40) (r16 : rg a9 0 79) e30 e33 (e36.trans (congrFun (hq.2.2 17 (by decide)) _)) e39) hP hD hS (lv_sub hl [1, 0] rfl)
    exact J51 _ (0) (F4) (L4) (A4) (B4) H locs ls (Nat.lt_succ_self _) (rg_k (by decide)) hq (f6) ⟨v8, cp_0⟩ hP hD hS (lv_sub hl [1, 0] rfl)
  refine lv_icmp_ne (tgt := 49) hx hb dX12_keepAct_6 (by decide) (fun c41 => ?_) (fun c41 => ?_)
  · skip
    have r42 : rg x1 0 39 := (rg_ne1 c41 (r3 : rg x1 0 40) ((rg_k (by decide)) : rg 40 40 40)).2 rfl
    exact J49 (F) (L) (A) (B) (x1) H locs ls hq (e2.symm) r42 (fun i hi => hLM.2.2.1 i (by have := congrArg Int32.toInt e2; have h15 : rg (F 15) 0 40 := hT.1 15; have := h15.1; omega)) hP hD hS (lv_sub hl [0] rfl)
  · skip
    have r43 : rg x1 40 40 := rg_eq1 c41 (r3 : rg x1 0 40) ((rg_k (by decide)) : rg 40 40 40) (by decide)
    refine lv_iconst (v := 0) hx hb dX12_keepAct_9 (by decide) ?_
    refine lv_istore_n (lv' := [(1, .int 0), (0, .ref (ad 0))]) hx hb dX12_keepAct_10 rfl hl (by decide) rfl (fun ls hl => ?_)
    have J11 : ∀ (n11 : Nat) (a44 : Int32) (F46 : Nat → Int32) (L46 : Nat → Int64) (A46 : Nat → Nat → Int32) (B46 : Nat → Nat → Int64) (H : Heap) (locs : List Loc) (ls : Array Slot), (3240 - a44.toInt).toNat < n11 → rg a44 0 3240 → qM [14, 15] [27] F A F46 A46 → xM F46 → F46 14 = x1 → (shI (A46 27) (A 27) a44.toInt) → va_P D classes (wM cA ad F46 L46 A46 B46) H → va_D Af (wM cA ad F46 L46 A46 B46) → va_S Af s.heap H locs → lv_has ls 2 [(0, .ref (ad 0)), (1, .int a44)] → W p l e rm_X12_keepAct_0 s m args below meth c H locs 0 0 Q (F0 m 11 ls []) := by
      intro n11
      induction n11 with
      | zero =>
        intro _ _ _ _ _ _ _ _ hn
        exact absurd hn (Nat.not_lt_zero _)
      | succ n11 ih11 =>
        intro a44 F46 L46 A46 B46 H locs ls hn11 r45 hq i47 f48 v49 hP hD hS hl
        refine lv_iload_n hx hb dX12_keepAct_11 rfl (lv_at hl 1 rfl) ?_
        refine lv_sipush (v := 3240) hx hb dX12_keepAct_12 (by decide) ?_
        refine lv_icmp_ge (tgt := 39) hx hb dX12_keepAct_15 (by decide) (fun c50 => ?_) (fun c50 => ?_)
        · skip
          have r51 : rg a44 3240 3240 := rg_le2 (iE c50) ((rg_k (by decide)) : rg 3240 3240 3240) (r45 : rg a44 0 3240)
          refine lv_aload_n hx hb dX12_keepAct_39 rfl (lv_at hl 0 rfl) ?_
          refine lv_dup hx hb dX12_keepAct_40 rfl ?_
          refine va_get (ci := 12) (v := .int x1) (C := RX12) (T := TX12) (N := 57) hx hb hg inX12 hown hK hP 0 atM_0 rfl 42 (by decide) (hg _ mw_1150) (fun _ h9 => h9) (congrArg (fun z => some (Value.int z)) (f48)) dX12_keepAct_41 ?_
          refine lv_iconst (v := 1) hx hb dX12_keepAct_44 (by decide) ?_
          refine lv_isub hx hb dX12_keepAct_45 ?_
          refine lv_topi (fun x53 e54 => ?_)
          have r55 : rg x53 39 39 := rg_sub e54 r43 ((rg_k (by decide)) : rg 1 1 1) (by decide)
          refine va_put (ci := 12) (v := .int x53) (ty := .int) (C := RX12) (T := TX12) (N := 57) hx hb hg inX12 tyX12 tyX12_ok nmX12 hown hK hP hD hS 0 atM_0 rfl 42 (by decide) (hg _ mw_1150) (fun _ h9 => h9) rfl (by decide +kernel) rfl rfl (Nat.le_of_ble_eq_true rfl) dX12_keepAct_46 (fun H locs hP hD hS => ?_)
          have hq := hq.put 14 (x := x53) (by decide) (rg_w r55 (by decide))
          rw [setFM_14] at hP hD
          exact J49 ((upd F46 14 x53)) (L46) (A46) (B46) (x53) H locs ls hq (rfl) (rg_w r55 (by decide)) (fun i hi => sh_DM v49 (by have := (r51 : rg a44 3240 3240).1; omega) (by have := (r55 : rg x53 39 39).2; omega) (hLM.2.2.1 (i + 1) (by have := congrArg Int32.toInt e2; have := (r43 : rg x1 40 40).1; have h15 : rg (F 15) 0 40 := hT.1 15; have := h15.1; have := (r55 : rg x53 39 39).2; omega))) hP hD hS (lv_sub hl [0] rfl)
        · skip
          have r52 : rg a44 0 3239 := rg_lt1 (iNE c50) (r45 : rg a44 0 3240) ((rg_k (by decide)) : rg 3240 3240 3240)
          refine lv_aload_n hx hb dX12_keepAct_18 rfl (lv_at hl 0 rfl) ?_
          refine va_get (ci := 12) (v := .ref (ad 27)) (C := RX12) (T := TX12) (N := 57) hx hb hg inX12 hown hK hP 0 atM_0 rfl 41 (by decide) (hg _ mw_1149) (fun _ h9 => h9) rfl dX12_keepAct_19 ?_
          refine lv_iload_n hx hb dX12_keepAct_22 rfl (lv_at hl 1 rfl) ?_
          refine lv_aload_n hx hb dX12_keepAct_23 rfl (lv_at hl 0 rfl) ?_
          refine va_get (ci := 12) (v := .ref (ad 27)) (C := RX12) (T := TX12) (N := 57) hx hb hg inX12 hown hK hP 0 atM_0 rfl 41 (by decide) (hg _ mw_1149) (fun _ h9 => h9) rfl dX12_keepAct_24 ?_
          refine lv_iload_n hx hb dX12_keepAct_27 rfl (lv_at hl 1 rfl) ?_
          refine lv_bipush (v := 81) hx hb dX12_keepAct_28 (by decide) ?_
          refine lv_iadd hx hb dX12_keepAct_30 ?_
          refine lv_topi (fun x56 e57 => ?_)
          have r58 : rg x56 81 3320 := rg_add e57 r52 ((rg_k (by decide)) : rg 81 81 81) (by decide)
          refine va_iald hx hb hK hP 27 26 atM_27 tyM_27 (in_rg r58 (by decide)) dX12_keepAct_31 ?_
          refine lv_topi (fun x59 e60 => ?_)
          refine va_iast hx hb hK hP hD hS 27 26 atM_27 tyM_27 (in_rg r52 (by decide)) dX12_keepAct_32 (fun H locs hP hD hS => ?_)
          have hq := hq.ast 27 (a44).toNatClampNeg (x := x59) (by decide) (rg_top _)
          rw [setM_27] at hP hD
          have k61 : x59 = (va_up A46 27 (upd (A46 27) (a44).toNatClampNeg x59)) 27 (a44).toNatClampNeg := (rdA).symm
          obtain ⟨x62, e63⟩ : ∃ y : Int32, y = a44 + 1 := ⟨_, rfl⟩
          have r64 : rg x62 1 3240 := rg_add e63 r52 (rg_k (by decide) : rg 1 1 1) (by decide)
          refine lv_iinc (v := x62) (lv' := [(1, .int x62), (0, .ref (ad 0))]) hx hb dX12_keepAct_33 hl (k := 1) rfl (by rw [e63]; rfl) (by decide) rfl (fun ls hl => ?_)
          refine lv_goto (tgt := 11) hx hb dX12_keepAct_36 (by decide) ?_
          exact ih11 (x62) (F46) (L46) ((va_up A46 27 (upd (A46 27) (a44).toNatClampNeg x59))) (B46) H locs ls (by have h0 : (1 : Int32).toInt = 1 := rfl; have h1 := ti_addk e63 r52 (by decide); have h2 : rg x62 0 3240 := (rg_w r64 (by decide)); unfold rg at h2; omega) (rg_w r64 (by decide)) hq i47 (f48) (by rw [va_us]; exact sh_step v49 (r52 : rg a44 0 3239) e57 e60 e63) hP hD hS (lv_sub hl [1, 0] rfl)
    exact J11 _ (0) (F) (L) (A) (B) H locs ls (Nat.lt_succ_self _) (rg_k (by decide)) hq hI (e2.symm) sh_0 hP hD hS (lv_sub hl [1, 0] rfl)
abbrev rm_X12_keepNow_0 : Room := { frames := 0, cells := 0, slots := 0, locals := 0 }
set_option maxHeartbeats 4000000 in
set_option maxRecDepth 100000 in
theorem c_X12_keepNow_0 (l : Launch) (D : va_G) (cA : Nat → ClassId) (sz : Nat) (ad : Nat → Nat) (F : Nat → Int32) (L : Nat → Int64) (A : Nat → Nat → Int32) (B : Nat → Nat → Int64)  (hT : typM F A) : Met l yX12_keepNow (Cond.code yX12_keepNow cX12_keepNow 2 none :: GW) rm_X12_keepNow_0 (mPc D classes (tysM cA) (wM cA ad F L A B) sz [.ref (ad 0)]) (mQv (S := SW) D classes (tysM cA) (wM cA ad F L A B) sz (wfM cA ad) (fun u => qM [] [17] F A u.1 u.2.2.1 ∧ (cpI (u.2.2.1 17) (A 16) 0 0 80))) 0 0 (va_A (wM cA ad F L A B) sz) := by
  refine met_v (own := "ShoeingDayModel") (by decide +kernel) rfl (Nat.le_of_ble_eq_true rfl) ?_
  intro p e s m args below meth c Q Af ls hC hP hD hS hA hl hret
  have hx := hC.1
  have hb := hC.2.1
  have hown := hC.2.2.2.1
  have hg := hC.g
  have hK := hC.K
  have hl : lv_has ls 2 [(0, .ref (ad 0))] := hl
  have hq : qM [] [17] F A F A := qM.rf hT
  obtain ⟨H, hH⟩ : ∃ H, H = s.heap := ⟨_, rfl⟩
  have hP : va_P D classes (wM cA ad F L A B) H := by rw [hH]; exact hP
  have hS : va_S Af s.heap H [] := by rw [hH]; exact hS
  obtain ⟨locs, hlo⟩ : ∃ q : List Loc, q = [] := ⟨_, rfl⟩
  rw [← hH, ← hlo]
  rw [← hlo] at hS
  refine lv_iconst (v := 0) hx hb dX12_keepNow_0 (by decide) ?_
  refine lv_istore_n (lv' := [(1, .int 0), (0, .ref (ad 0))]) hx hb dX12_keepNow_1 rfl hl (by decide) rfl (fun ls hl => ?_)
  have J2 : ∀ (n2 : Nat) (a1 : Int32) (F3 : Nat → Int32) (L3 : Nat → Int64) (A3 : Nat → Nat → Int32) (B3 : Nat → Nat → Int64) (H : Heap) (locs : List Loc) (ls : Array Slot), (80 - a1.toInt).toNat < n2 → rg a1 0 80 → qM [] [17] F A F3 A3 → (cpI (A3 17) (A 16) 0 0 a1.toInt) → va_P D classes (wM cA ad F3 L3 A3 B3) H → va_D Af (wM cA ad F3 L3 A3 B3) → va_S Af s.heap H locs → lv_has ls 2 [(0, .ref (ad 0)), (1, .int a1)] → W p l e rm_X12_keepNow_0 s m args below meth c H locs 0 0 Q (F0 m 2 ls []) := by
    intro n2
    induction n2 with
    | zero =>
      intro _ _ _ _ _ _ _ _ hn
      exact absurd hn (Nat.not_lt_zero _)
    | succ n2 ih2 =>
      intro a1 F3 L3 A3 B3 H locs ls hn2 r2 hq v4 hP hD hS hl
      refine lv_iload_n hx hb dX12_keepNow_2 rfl (lv_at hl 1 rfl) ?_
      refine lv_bipush (v := 80) hx hb dX12_keepNow_3 (by decide) ?_
      refine lv_icmp_ge (tgt := 26) hx hb dX12_keepNow_5 (by decide) (fun c5 => ?_) (fun c5 => ?_)
      · skip
        have r6 : rg a1 80 80 := rg_le2 (iE c5) ((rg_k (by decide)) : rg 80 80 80) (r2 : rg a1 0 80)
        exact hret (F3, L3, A3, B3) H locs 26 ls dX12_keepNow_26 hP hD hS ⟨hq, (cp_end v4 (by have := (r6 : rg a1 80 80).1; omega))⟩
      · skip
        have r7 : rg a1 0 79 := rg_lt1 (iNE c5) (r2 : rg a1 0 80) ((rg_k (by decide)) : rg 80 80 80)
        refine lv_aload_n hx hb dX12_keepNow_8 rfl (lv_at hl 0 rfl) ?_
        refine va_get (ci := 12) (v := .ref (ad 17)) (C := RX12) (T := TX12) (N := 57) hx hb hg inX12 hown hK hP 0 atM_0 rfl 27 (by decide) (hg _ mw_1135) (fun _ h9 => h9) rfl dX12_keepNow_9 ?_
        refine lv_iload_n hx hb dX12_keepNow_12 rfl (lv_at hl 1 rfl) ?_
        refine lv_aload_n hx hb dX12_keepNow_13 rfl (lv_at hl 0 rfl) ?_
        refine va_get (ci := 12) (v := .ref (ad 16)) (C := RX12) (T := TX12) (N := 57) hx hb hg inX12 hown hK hP 0 atM_0 rfl 26 (by decide) (hg _ mw_1134) (fun _ h9 => h9) rfl dX12_keepNow_14 ?_
        refine lv_iload_n hx hb dX12_keepNow_17 rfl (lv_at hl 1 rfl) ?_
        refine va_iald hx hb hK hP 16 15 atM_16 tyM_16 (in_rg r7 (by decide)) dX12_keepNow_18 ?_
        refine lv_topi (fun x8 e9 => ?_)
        refine va_iast hx hb hK hP hD hS 17 16 atM_17 tyM_17 (in_rg r7 (by decide)) dX12_keepNow_19 (fun H locs hP hD hS => ?_)
        have hq := hq.ast 17 (a1).toNatClampNeg (x := x8) (by decide) (rg_top _)
        rw [setM_17] at hP hD
        have k10 : x8 = (va_up A3 17 (upd (A3 17) (a1).toNatClampNeg x8)) 17 (a1).toNatClampNeg := (rdA).symm
        obtain ⟨x11, e12⟩ : ∃ y : Int32, y = a1 + 1 := ⟨_, rfl⟩
        have r13 : rg x11 1 80 := rg_add e12 r7 (rg_k (by decide) : rg 1 1 1) (by decide)
        refine lv_iinc (v := x11) (lv' := [(1, .int x11), (0, .ref (ad 0))]) hx hb dX12_keepNow_20 hl (k := 1) rfl (by rw [e12]; rfl) (by decide) rfl (fun ls hl => ?_)
        refine lv_goto (tgt := 2) hx hb dX12_keepNow_23 (by decide) ?_
        exact ih2 (x11) (F3) (L3) ((va_up A3 17 (upd (A3 17) (a1).toNatClampNeg x8))) (B3) H locs ls (by have h0 : (1 : Int32).toInt = 1 := rfl; have h1 := ti_addk e12 r7 (by decide); have h2 : rg x11 0 80 := (rg_w r13 (by decide)); unfold rg at h2; omega) (rg_w r13 (by decide)) hq (by rw [va_us]; exact cp_step v4 (r7 : rg a1 0 79) (Nat.zero_add _).symm (Nat.zero_add _).symm (e9.trans (congrFun (hq.2.2 16 (by decide)) _)) e12) hP hD hS (lv_sub hl [1, 0] rfl)
  exact J2 _ (0) (F) (L) (A) (B) H locs ls (Nat.lt_succ_self _) (rg_k (by decide)) hq cp_0 hP hD hS (lv_sub hl [1, 0] rfl)
abbrev rm_X12_run_0 : Room := { frames := 4, cells := 0, slots := 0, locals := 98 }
set_option maxHeartbeats 4000000 in
set_option maxRecDepth 100000 in
theorem c_X12_run_0 (l : Launch) (D : va_G) (cA : Nat → ClassId) (sz : Nat) (ad : Nat → Nat) (F : Nat → Int32) (L : Nat → Int64) (A : Nat → Nat → Int32) (B : Nat → Nat → Int64) (p1 : Int32) (hT : typM F A) (hI : xM F) (hLM : LM F A) : Met l yX12_run (Cond.code yX12_run cX12_run 5 (some .int) :: GW) rm_X12_run_0 (mPc D classes (tysM cA) (wM cA ad F L A B) sz [.ref (ad 0), .int p1]) (mQi (S := SW) D classes (tysM cA) (wM cA ad F L A B) sz (wfM cA ad) (fun r u => qM [10, 14, 15] [16, 17, 18, 19, 20, 27] F A u.1 u.2.2.1 ∧ xM u.1 ∧ rg r (-998) 999 ∧ (LM u.1 u.2.2.1))) 0 0 (va_A (wM cA ad F L A B) sz) := by
  refine met_i (own := "ShoeingDayModel") (by decide +kernel) rfl (Nat.le_of_ble_eq_true rfl) ?_
  intro p e s m args below meth c Q Af ls hC hP hD hS hA hl hret
  have hx := hC.1
  have hb := hC.2.1
  have hown := hC.2.2.2.1
  have hg := hC.g
  have hK := hC.K
  have hl : lv_has ls 5 [(0, .ref (ad 0)), (1, .int p1)] := hl
  have hq : qM [10, 14, 15] [16, 17, 18, 19, 20, 27] F A F A := qM.rf hT
  obtain ⟨H, hH⟩ : ∃ H, H = s.heap := ⟨_, rfl⟩
  have hP : va_P D classes (wM cA ad F L A B) H := by rw [hH]; exact hP
  have hS : va_S Af s.heap H [] := by rw [hH]; exact hS
  obtain ⟨locs, hlo⟩ : ∃ q : List Loc, q = [] := ⟨_, rfl⟩
  rw [← hH, ← hlo]
  rw [← hlo] at hS
  refine lv_iload_n hx hb dX12_run_0 rfl (lv_at hl 1 rfl) ?_
  refine lv_iconst (v := 1) hx hb dX12_run_1 (by decide) ?_
  refine lv_sipush (v := 999) hx hb dX12_run_2 (by decide) ?_
  refine calls_i (As := [.int p1, .int 1, .int 999]) (rest := []) hC (c_X12_isIn l D (tysM cA) (wM cA ad F L A B) H.size (p1) (1) (999) (rg_k (by decide)) (rg_k (by decide))) (cwS 3 hg (g_S mw_1391 mw_1389 mw_1390 mw_20) rfl rfl rfl (by decide +kernel) ⟨(Nat.le_of_ble_eq_true rfl), (Nat.le_of_ble_eq_true rfl)⟩) hP hD hS hA rfl hl.1 rfl (Nat.le_of_ble_eq_true rfl) dX12_run_5 ⟨Nat.zero_le _, Nat.zero_le _⟩ (fun x1 u H locs hw hP hD hS => ?_)
  obtain ⟨r2, g3, g4⟩ := hw
  have hP : va_P D classes (wM cA ad F L A B) H := hP
  have hD : va_D Af (wM cA ad F L A B) := hD
  refine lv_if_ne (tgt := 13) hx hb dX12_run_8 (by decide) (fun c5 => ?_) (fun c5 => ?_)
  · skip
    have g6 := g3.resolve_left c5
    have r7 : rg p1 1 2147483647 := rg_le2 g6.1 ((rg_k (by decide)) : rg 1 1 1) ((rg_top _) : rg p1 (-2147483648) 2147483647)
    have r8 : rg p1 1 999 := rg_le1 g6.2 (r7 : rg p1 1 2147483647) ((rg_k (by decide)) : rg 999 999 999)
    refine lv_aload_n hx hb dX12_run_13 rfl (lv_at hl 0 rfl) ?_
    refine callv_v (As := []) (rest := []) hC (c_X12_keepAct_0 l D cA H.size ad F L A B  hq.1 hI hLM) (cwV 0 hg (g_V mw_1540 mw_1537 mw_1539 ms_89 mw_20) rfl rfl rfl (by decide +kernel) ⟨(Nat.le_of_ble_eq_true rfl), (Nat.le_of_ble_eq_true rfl)⟩) hP hD hS hA atM_0 rfl rfl hl.1 rfl (Nat.le_of_ble_eq_true rfl) dX12_run_14 ⟨Nat.zero_le _, Nat.zero_le _⟩ (fun  u H locs hw hP hD hS => ?_)
    obtain ⟨F10, L10, A10, B10⟩ := u
    try dsimp only at hw
    obtain ⟨hq10, i11, g12⟩ := hw
    have hq := hq.call hq10 (by decide)
    have hP : va_P D classes (wM cA ad F10 L10 A10 B10) H := hP
    have hD : va_D Af (wM cA ad F10 L10 A10 B10) := hD
    refine lv_aload_n hx hb dX12_run_17 rfl (lv_at hl 0 rfl) ?_
    refine callv_v (As := []) (rest := []) hC (c_X12_layNow_0 l D cA H.size ad F10 L10 A10 B10  hq.1) (cwV 0 hg (g_V mw_1407 mw_1404 mw_1406 ms_70 mw_20) rfl rfl rfl (by decide +kernel) ⟨(Nat.le_of_ble_eq_true rfl), (Nat.le_of_ble_eq_true rfl)⟩) hP hD hS hA atM_0 rfl rfl hl.1 rfl (Nat.le_of_ble_eq_true rfl) dX12_run_18 ⟨Nat.zero_le _, Nat.zero_le _⟩ (fun  u H locs hw hP hD hS => ?_)
    obtain ⟨F13, L13, A13, B13⟩ := u
    try dsimp only at hw
    obtain ⟨hq13, g14⟩ := hw
    have hq := hq.call hq13 (by decide)
    have hP : va_P D classes (wM cA ad F13 L13 A13 B13) H := hP
    have hD : va_D Af (wM cA ad F13 L13 A13 B13) := hD
    have lm0 : LM F13 A13 := (LM.fr g12 (hq13.2.1 8 (by decide)) (hq13.2.1 14 (by decide)) (hq13.2.1 15 (by decide)) (hq13.2.2 3 (by decide)) (hq13.2.2 4 (by decide)) (hq13.2.2 10 (by decide)) (hq13.2.2 17 (by decide)) (hq13.2.2 27 (by decide)) (hq13.2.2 36 (by decide)) (hq13.2.2 37 (by decide)))
    have lz0 := LM.lay g12 (hq13.2.1 8 (by decide)) (hq13.2.2 3 (by decide)) (hq13.2.2 4 (by decide)) g14
    refine lv_iload_n hx hb dX12_run_21 rfl (lv_at hl 1 rfl) ?_
    refine lv_istore_n (lv' := [(2, .int p1), (0, .ref (ad 0)), (1, .int p1)]) hx hb dX12_run_22 rfl hl (by decide) rfl (fun ls hl => ?_)
    have J23 : ∀ (n23 : Nat) (a15 : Int32) (F17 : Nat → Int32) (L17 : Nat → Int64) (A17 : Nat → Nat → Int32) (B17 : Nat → Nat → Int64) (H : Heap) (locs : List Loc) (ls : Array Slot), a15.toInt.toNat < n23 → rg a15 0 999 → qM [10, 14, 15] [16, 17, 18, 19, 20, 27] F A F17 A17 → xM F17 → (LM F17 A17 ∧ ok99 (A17 16) ∧ zo (A17 16) (sN F17 A17) (hN F17 A17)) → va_P D classes (wM cA ad F17 L17 A17 B17) H → va_D Af (wM cA ad F17 L17 A17 B17) → va_S Af s.heap H locs → lv_has ls 5 [(0, .ref (ad 0)), (1, .int p1), (2, .int a15)] → W p l e rm_X12_run_0 s m args below meth c H locs 0 0 Q (F0 m 23 ls []) := by
      intro n23
      induction n23 with
      | zero =>
        intro _ _ _ _ _ _ _ _ hn
        exact absurd hn (Nat.not_lt_zero _)
      | succ n23 ih23 =>
        intro a15 F17 L17 A17 B17 H locs ls hn23 r16 hq i18 v19 hP hD hS hl
        refine lv_iload_n hx hb dX12_run_23 rfl (lv_at hl 2 rfl) ?_
        have J65 : ∀ (F20 : Nat → Int32) (L20 : Nat → Int64) (A20 : Nat → Nat → Int32) (B20 : Nat → Nat → Int64) (H : Heap) (locs : List Loc) (ls : Array Slot), qM [10, 14, 15] [16, 17, 18, 19, 20, 27] F A F20 A20 → xM F20 → (LM F20 A20 ∧ ok99 (A20 16) ∧ zo (A20 16) (sN F20 A20) (hN F20 A20)) → va_P D classes (wM cA ad F20 L20 A20 B20) H → va_D Af (wM cA ad F20 L20 A20 B20) → va_S Af s.heap H locs → lv_has ls 5 [(0, .ref (ad 0)), (1, .int p1), (2, .int a15)] → W p l e rm_X12_run_0 s m args below meth c H locs 0 0 Q (F0 m 65 ls []) := by
          intro F20 L20 A20 B20 H locs ls hq i21 v22 hP hD hS hl
          refine lv_aload_n hx hb dX12_run_65 rfl (lv_at hl 0 rfl) ?_
          refine callv_v (As := []) (rest := []) hC (c_X12_keepNow_0 l D cA H.size ad F20 L20 A20 B20  hq.1) (cwV 0 hg (g_V mw_1544 mw_1541 mw_1543 ms_90 mw_20) rfl rfl rfl (by decide +kernel) ⟨(Nat.le_of_ble_eq_true rfl), (Nat.le_of_ble_eq_true rfl)⟩) hP hD hS hA atM_0 rfl rfl hl.1 rfl (Nat.le_of_ble_eq_true rfl) dX12_run_66 ⟨Nat.zero_le _, Nat.zero_le _⟩ (fun  u H locs hw hP hD hS => ?_)
          obtain ⟨F23, L23, A23, B23⟩ := u
          try dsimp only at hw
          obtain ⟨hq23, g24⟩ := hw
          have hq := hq.call hq23 (by decide)
          have hP : va_P D classes (wM cA ad F23 L23 A23 B23) H := hP
          have hD : va_D Af (wM cA ad F23 L23 A23 B23) := hD
          have lm9 : LM F23 A23 := LM.keep v22.1 (hq23.2.1 8 (by decide)) (hq23.2.1 14 (by decide)) (hq23.2.1 15 (by decide)) (hq23.2.2 3 (by decide)) (hq23.2.2 4 (by decide)) (hq23.2.2 10 (by decide)) (hq23.2.2 27 (by decide)) (hq23.2.2 36 (by decide)) (hq23.2.2 37 (by decide)) (cp_DM g24 (Int.le_refl _) (ok_DM v22.2.1 v22.2.2))
          refine lv_aload_n hx hb dX12_run_69 rfl (lv_at hl 0 rfl) ?_
          refine lv_dup hx hb dX12_run_70 rfl ?_
          refine va_get (ci := 12) (v := .int (F23 10)) (C := RX12) (T := TX12) (N := 57) hx hb hg inX12 hown hK hP 0 atM_0 rfl 28 (by decide) (hg _ mw_1136) (fun _ h9 => h9) rfl dX12_run_71 ?_
          refine lv_topi (fun x25 e26 => ?_)
          refine lv_iload_n hx hb dX12_run_74 rfl (lv_at hl 1 rfl) ?_
          refine lv_iload_n hx hb dX12_run_75 rfl (lv_at hl 2 rfl) ?_
          refine lv_isub hx hb dX12_run_76 ?_
          refine lv_topi (fun x27 e28 => ?_)
          have r29 : rg x27 (-998) 999 := rg_sub e28 r8 r16 (by decide)
          refine lv_iadd hx hb dX12_run_77 ?_
          refine lv_topi (fun x30 e31 => ?_)
          refine va_put (ci := 12) (v := .int x30) (ty := .int) (C := RX12) (T := TX12) (N := 57) hx hb hg inX12 tyX12 tyX12_ok nmX12 hown hK hP hD hS 0 atM_0 rfl 28 (by decide) (hg _ mw_1136) (fun _ h9 => h9) rfl (by decide +kernel) rfl rfl (Nat.le_of_ble_eq_true rfl) dX12_run_78 (fun H locs hP hD hS => ?_)
          have hq := hq.put 10 (x := x30) (by decide) (rg_top _)
          rw [setFM_10] at hP hD
          refine lv_iload_n hx hb dX12_run_81 rfl (lv_at hl 1 rfl) ?_
          refine lv_iload_n hx hb dX12_run_82 rfl (lv_at hl 2 rfl) ?_
          refine lv_isub hx hb dX12_run_83 ?_
          refine tope e28 ?_
          exact hret (x27) ((upd F23 10 x30), L23, A23, B23) H locs 84 ls rfl dX12_run_84 hP hD hS ⟨hq, (xM.fr (xM.fr i21 (hq23.2.1 14 (by decide)) (hq23.2.1 15 (by decide))) rfl rfl), r29, (show LM (upd F23 10 x30) A23 from LM.fr lm9 rfl rfl rfl rfl rfl rfl rfl rfl rfl rfl)⟩
        refine lv_if_le (tgt := 65) hx hb dX12_run_24 (by decide) (fun c32 => ?_) (fun c32 => ?_)
        · skip
          have r33 : rg a15 0 0 := rg_le1 (iE c32) (r16 : rg a15 0 999) ((rg_k (by decide)) : rg 0 0 0)
          exact J65 (F17) (L17) (A17) (B17) H locs ls hq i18 v19 hP hD hS (lv_sub hl [0, 1, 2] rfl)
        · skip
          have r34 : rg a15 1 999 := rg_lt2 (iNE c32) ((rg_k (by decide)) : rg 0 0 0) (r16 : rg a15 0 999)
          refine lv_aload_n hx hb dX12_run_27 rfl (lv_at hl 0 rfl) ?_
          refine callv_i (As := []) (rest := []) hC (c_X12_leastOf_0_e l D cA H.size ad F17 L17 A17 B17  hq.1 v19.2.1) (cwV 0 hg (g_V mw_1423 mw_1420 mw_1422 ms_73 mw_20) rfl rfl rfl (by decide +kernel) ⟨(Nat.le_of_ble_eq_true rfl), (Nat.le_of_ble_eq_true rfl)⟩) hP hD hS hA atM_0 rfl rfl hl.1 rfl (Nat.le_of_ble_eq_true rfl) dX12_run_28 ⟨Nat.zero_le _, Nat.zero_le _⟩ (fun x35 u H locs hw hP hD hS => ?_)
          obtain ⟨r36, g37⟩ := hw
          have hP : va_P D classes (wM cA ad F17 L17 A17 B17) H := hP
          have hD : va_D Af (wM cA ad F17 L17 A17 B17) := hD
          refine lv_if_le (tgt := 65) hx hb dX12_run_31 (by decide) (fun c38 => ?_) (fun c38 => ?_)
          · skip
            have r39 : rg x35 0 0 := rg_le1 (iE c38) (r36 : rg x35 0 990) ((rg_k (by decide)) : rg 0 0 0)
            exact J65 (F17) (L17) (A17) (B17) H locs ls hq i18 v19 hP hD hS (lv_sub hl [0, 1, 2] rfl)
          · skip
            have r40 : rg x35 1 990 := rg_lt2 (iNE c38) ((rg_k (by decide)) : rg 0 0 0) (r36 : rg x35 0 990)
            refine lv_aload_n hx hb dX12_run_34 rfl (lv_at hl 0 rfl) ?_
            refine callv_i (As := []) (rest := []) hC (c_X12_layRound_0 l D cA H.size ad F17 L17 A17 B17  hq.1 v19.2.1 v19.2.2 (pos_of g37 (by have := (iNE c38); have : (0 : Int32).toInt = 0 := rfl; omega))) (cwV 0 hg (g_V mw_1451 mw_1448 mw_1450 ms_78 mw_20) rfl rfl rfl (by decide +kernel) ⟨(Nat.le_of_ble_eq_true rfl), (Nat.le_of_ble_eq_true rfl)⟩) hP hD hS hA atM_0 rfl rfl hl.1 rfl (Nat.le_of_ble_eq_true rfl) dX12_run_35 ⟨Nat.zero_le _, Nat.zero_le _⟩ (fun x41 u H locs hw hP hD hS => ?_)
            obtain ⟨F42, L42, A42, B42⟩ := u
            try dsimp only at hw
            obtain ⟨hq42, r43, g44⟩ := hw
            have hq := hq.call hq42 (by decide)
            have hP : va_P D classes (wM cA ad F42 L42 A42 B42) H := hP
            have hD : va_D Af (wM cA ad F42 L42 A42 B42) := hD
            obtain ⟨Lm, hrn, hr1⟩ := g44
            rw [← hq42.2.2 16 (by decide)] at hrn
            have lm1 : LM F42 A42 := (LM.fr v19.1 (hq42.2.1 8 (by decide)) (hq42.2.1 14 (by decide)) (hq42.2.1 15 (by decide)) (hq42.2.2 3 (by decide)) (hq42.2.2 4 (by decide)) (hq42.2.2 10 (by decide)) (hq42.2.2 17 (by decide)) (hq42.2.2 27 (by decide)) (hq42.2.2 36 (by decide)) (hq42.2.2 37 (by decide)))
            have hk99 : ok99 (A42 16) := by rw [hq42.2.2 16 (by decide)]; exact v19.2.1
            have zo1 : zo (A42 16) (sN F42 A42) (hN F42 A42) := by unfold sN hN; rw [hq42.2.2 16 (by decide), hq42.2.2 3 (by decide), hq42.2.2 4 (by decide), hq42.2.1 8 (by decide)]; exact v19.2.2
            have hwi : ∀ i : Nat, rg (A42 18 i) (-1) 9 := fun i => (hq.1.2 18 i : rg _ (-1) 9)
            refine lv_istore_n (lv' := [(3, .int x41), (0, .ref (ad 0)), (1, .int p1), (2, .int a15)]) hx hb dX12_run_38 rfl hl (by decide) rfl (fun ls hl => ?_)
            refine lv_iload_n hx hb dX12_run_39 rfl (lv_at hl 0 rfl) ?_
            refine lv_iload_n hx hb dX12_run_40 rfl (lv_at hl 3 rfl) ?_
            refine lv_icmp_ge (tgt := 48) hx hb dX12_run_41 (by decide) (fun c45 => ?_) (fun c45 => ?_)
            · skip
              have r46 : rg a15 1 990 := rg_le1 (iE c45) (r34 : rg a15 1 999) (r43 : rg x41 (-2147483648) 990)
              have r47 : rg x41 1 990 := rg_le2 (iE c45) (r34 : rg a15 1 999) (r43 : rg x41 (-2147483648) 990)
              refine lv_iload_n hx hb dX12_run_48 rfl (lv_at hl 3 rfl) ?_
              refine lv_istore (lv' := [(4, .int a15), (3, .int x41), (0, .ref (ad 0)), (1, .int p1), (2, .int a15)]) hx hb dX12_run_49 hl (by decide) rfl (fun ls hl => ?_)
              refine lv_aload_n hx hb dX12_run_51 rfl (lv_at hl 2 rfl) ?_
              refine lv_iload hx hb dX12_run_52 (lv_at hl 0 rfl) ?_
              refine callv_v (As := [.int a15]) (rest := []) hC (c_X12_works_0 l D cA H.size ad F42 L42 A42 B42 (a15) hq.1) (cwV 1 hg (g_V mw_1466 mw_1463 mw_1465 ms_81 mw_20) rfl rfl rfl (by decide +kernel) ⟨(Nat.le_of_ble_eq_true rfl), (Nat.le_of_ble_eq_true rfl)⟩) hP hD hS hA atM_0 rfl rfl hl.1 rfl (Nat.le_of_ble_eq_true rfl) dX12_run_54 ⟨Nat.zero_le _, Nat.zero_le _⟩ (fun  u H locs hw hP hD hS => ?_)
              obtain ⟨F48, L48, A48, B48⟩ := u
              try dsimp only at hw
              obtain ⟨hq48, g49⟩ := hw
              have hq := hq.call hq48 (by decide)
              have hP : va_P D classes (wM cA ad F48 L48 A48 B48) H := hP
              have hD : va_D Af (wM cA ad F48 L48 A48 B48) := hD
              have hby : 1 ≤ a15.toInt ∧ a15.toInt ≤ x41.toInt ∧ a15.toInt ≤ a15.toInt := by have := hr1; have := (iE c45); have := ((rg_w r46 (by decide)) : rg a15 1 999).1; omega
              have hwk := wk_of g49 hk99 hrn (by omega) (by omega) hwi
              have lm2 : LM F48 A48 := (LM.fr lm1 (hq48.2.1 8 (by decide)) (hq48.2.1 14 (by decide)) (hq48.2.1 15 (by decide)) (hq48.2.2 3 (by decide)) (hq48.2.2 4 (by decide)) (hq48.2.2 10 (by decide)) (hq48.2.2 17 (by decide)) (hq48.2.2 27 (by decide)) (hq48.2.2 36 (by decide)) (hq48.2.2 37 (by decide)))
              have zo2 : zo (A48 16) (sN F48 A48) (hN F48 A48) := by unfold sN hN; rw [hq48.2.2 3 (by decide), hq48.2.2 4 (by decide), hq48.2.1 8 (by decide)]; exact wk_ok hwk.1 zo1
              refine lv_iload_n hx hb dX12_run_57 rfl (lv_at hl 4 rfl) ?_
              refine lv_iload hx hb dX12_run_58 (lv_at hl 0 rfl) ?_
              refine lv_isub hx hb dX12_run_60 ?_
              refine lv_topi (fun x50 e51 => ?_)
              have r52 : rg x50 0 998 := (by have h1 := ((rg_w r46 (by decide)) : rg a15 1 999).1; have h2 := ((rg_w r46 (by decide)) : rg a15 1 999).2; have h3 := hby; have h4 := (ti_sub (a := a15) (b := a15) (by omega) (by omega)); rw [← e51] at h4; exact ⟨by omega, by omega⟩)
              refine lv_istore_n (lv' := [(2, .int x50), (4, .int a15), (3, .int x41), (0, .ref (ad 0)), (1, .int p1)]) hx hb dX12_run_61 rfl hl (by decide) rfl (fun ls hl => ?_)
              refine lv_goto (tgt := 23) hx hb dX12_run_62 (by decide) ?_
              exact ih23 (x50) (F48) (L48) (A48) (B48) H locs ls (by have h1 := ((rg_w r46 (by decide)) : rg a15 1 999).1; have h2 := ((rg_w r46 (by decide)) : rg a15 1 999).2; have h3 := hby; have h4 := (ti_sub (a := a15) (b := a15) (by omega) (by omega)); rw [← e51] at h4; omega) (rg_w r52 (by decide)) hq (xM.fr (xM.fr i18 (hq42.2.1 14 (by decide)) (hq42.2.1 15 (by decide))) (hq48.2.1 14 (by decide)) (hq48.2.1 15 (by decide))) ⟨lm2, hwk.2, zo2⟩ hP hD hS (lv_sub hl [3, 4, 0] rfl)
            · skip
              refine lv_iload_n hx hb dX12_run_44 rfl (lv_at hl 0 rfl) ?_
              refine lv_goto (tgt := 49) hx hb dX12_run_45 (by decide) ?_
              refine lv_istore (lv' := [(4, .int x41), (3, .int x41), (0, .ref (ad 0)), (1, .int p1), (2, .int a15)]) hx hb dX12_run_49 hl (by decide) rfl (fun ls hl => ?_)
              refine lv_aload_n hx hb dX12_run_51 rfl (lv_at hl 2 rfl) ?_
              refine lv_iload hx hb dX12_run_52 (lv_at hl 0 rfl) ?_
              refine callv_v (As := [.int x41]) (rest := []) hC (c_X12_works_0 l D cA H.size ad F42 L42 A42 B42 (x41) hq.1) (cwV 1 hg (g_V mw_1466 mw_1463 mw_1465 ms_81 mw_20) rfl rfl rfl (by decide +kernel) ⟨(Nat.le_of_ble_eq_true rfl), (Nat.le_of_ble_eq_true rfl)⟩) hP hD hS hA atM_0 rfl rfl hl.1 rfl (Nat.le_of_ble_eq_true rfl) dX12_run_54 ⟨Nat.zero_le _, Nat.zero_le _⟩ (fun  u H locs hw hP hD hS => ?_)
              obtain ⟨F53, L53, A53, B53⟩ := u
              try dsimp only at hw
              obtain ⟨hq53, g54⟩ := hw
              have hq := hq.call hq53 (by decide)
              have hP : va_P D classes (wM cA ad F53 L53 A53 B53) H := hP
              have hD : va_D Af (wM cA ad F53 L53 A53 B53) := hD
              have hby : 1 ≤ x41.toInt ∧ x41.toInt ≤ x41.toInt ∧ x41.toInt ≤ a15.toInt := by have := hr1; have := (iNE c45); have := (r34 : rg a15 1 999).1; omega
              have hwk := wk_of g54 hk99 hrn (by omega) (by omega) hwi
              have lm2 : LM F53 A53 := (LM.fr lm1 (hq53.2.1 8 (by decide)) (hq53.2.1 14 (by decide)) (hq53.2.1 15 (by decide)) (hq53.2.2 3 (by decide)) (hq53.2.2 4 (by decide)) (hq53.2.2 10 (by decide)) (hq53.2.2 17 (by decide)) (hq53.2.2 27 (by decide)) (hq53.2.2 36 (by decide)) (hq53.2.2 37 (by decide)))
              have zo2 : zo (A53 16) (sN F53 A53) (hN F53 A53) := by unfold sN hN; rw [hq53.2.2 3 (by decide), hq53.2.2 4 (by decide), hq53.2.1 8 (by decide)]; exact wk_ok hwk.1 zo1
              refine lv_iload_n hx hb dX12_run_57 rfl (lv_at hl 4 rfl) ?_
              refine lv_iload hx hb dX12_run_58 (lv_at hl 0 rfl) ?_
              refine lv_isub hx hb dX12_run_60 ?_
              refine lv_topi (fun x55 e56 => ?_)
              have r57 : rg x55 0 998 := (by have h1 := (r34 : rg a15 1 999).1; have h2 := (r34 : rg a15 1 999).2; have h3 := hby; have h4 := (ti_sub (a := a15) (b := x41) (by omega) (by omega)); rw [← e56] at h4; exact ⟨by omega, by omega⟩)
              refine lv_istore_n (lv' := [(2, .int x55), (4, .int x41), (3, .int x41), (0, .ref (ad 0)), (1, .int p1)]) hx hb dX12_run_61 rfl hl (by decide) rfl (fun ls hl => ?_)
              refine lv_goto (tgt := 23) hx hb dX12_run_62 (by decide) ?_
              exact ih23 (x55) (F53) (L53) (A53) (B53) H locs ls (by have h1 := (r34 : rg a15 1 999).1; have h2 := (r34 : rg a15 1 999).2; have h3 := hby; have h4 := (ti_sub (a := a15) (b := x41) (by omega) (by omega)); rw [← e56] at h4; omega) (rg_w r57 (by decide)) hq (xM.fr (xM.fr i18 (hq42.2.1 14 (by decide)) (hq42.2.1 15 (by decide))) (hq53.2.1 14 (by decide)) (hq53.2.1 15 (by decide))) ⟨lm2, hwk.2, zo2⟩ hP hD hS (lv_sub hl [3, 4, 0] rfl)
    exact J23 _ (p1) (F13) (L13) (A13) (B13) H locs ls (Nat.lt_succ_self _) (rg_w r8 (by decide)) hq (xM.fr i11 (hq13.2.1 14 (by decide)) (hq13.2.1 15 (by decide))) ⟨lm0, lz0.1, lz0.2⟩ hP hD hS (lv_sub hl [1, 2, 0] rfl)
  · skip
    have r9 : rg x1 0 0 := rg_eq1 c5 (r2 : rg x1 0 1) ((rg_k (by decide)) : rg 0 0 0) (by decide)
    refine lv_iconst (v := (-1)) hx hb dX12_run_11 (by decide) ?_
    exact hret ((-1)) (F, L, A, B) H locs 12 ls rfl dX12_run_12 hP hD hS ⟨hq, hI, (rg_k (by decide)), (show LM F A from hLM)⟩
abbrev rm_X12_more_0 : Room := { frames := 2, cells := 0, slots := 0, locals := 43 }
set_option maxHeartbeats 4000000 in
set_option maxRecDepth 100000 in
theorem c_X12_more_0 (l : Launch) (D : va_G) (cA : Nat → ClassId) (sz : Nat) (ad : Nat → Nat) (F : Nat → Int32) (L : Nat → Int64) (A : Nat → Nat → Int32) (B : Nat → Nat → Int64) (p1 : Int32) (p2 : Int32) (p3 : Int32) (hT : typM F A) (hI : xM F) (hLM : LM F A) : Met l yX12_more (Cond.code yX12_more cX12_more 4 (some .int) :: GW) rm_X12_more_0 (mPc D classes (tysM cA) (wM cA ad F L A B) sz [.ref (ad 0), .int p1, .int p2, .int p3]) (mQi (S := SW) D classes (tysM cA) (wM cA ad F L A B) sz (wfM cA ad) (fun r u => qM [14, 15] [17, 27] F A u.1 u.2.2.1 ∧ xM u.1 ∧ rg r (-1) 99 ∧ (LM u.1 u.2.2.1))) 0 0 (va_A (wM cA ad F L A B) sz) := by
  refine met_i (own := "ShoeingDayModel") (by decide +kernel) rfl (Nat.le_of_ble_eq_true rfl) ?_
  intro p e s m args below meth c Q Af ls hC hP hD hS hA hl hret
  have hx := hC.1
  have hb := hC.2.1
  have hown := hC.2.2.2.1
  have hg := hC.g
  have hK := hC.K
  have hl : lv_has ls 4 [(0, .ref (ad 0)), (1, .int p1), (2, .int p2), (3, .int p3)] := hl
  have hq : qM [14, 15] [17, 27] F A F A := qM.rf hT
  obtain ⟨H, hH⟩ : ∃ H, H = s.heap := ⟨_, rfl⟩
  have hP : va_P D classes (wM cA ad F L A B) H := by rw [hH]; exact hP
  have hS : va_S Af s.heap H [] := by rw [hH]; exact hS
  obtain ⟨locs, hlo⟩ : ∃ q : List Loc, q = [] := ⟨_, rfl⟩
  rw [← hH, ← hlo]
  rw [← hlo] at hS
  refine lv_aload_n hx hb dX12_more_0 rfl (lv_at hl 0 rfl) ?_
  refine lv_iload_n hx hb dX12_more_1 rfl (lv_at hl 1 rfl) ?_
  refine callv_i (As := [.int p1]) (rest := []) hC (c_X12_isSmith_0 l D cA H.size ad F L A B (p1) hq.1) (cwV 1 hg (g_V mw_1384 mw_1381 mw_1383 ms_66 mw_20) rfl rfl rfl (by decide +kernel) ⟨(Nat.le_of_ble_eq_true rfl), (Nat.le_of_ble_eq_true rfl)⟩) hP hD hS hA atM_0 rfl rfl hl.1 rfl (Nat.le_of_ble_eq_true rfl) dX12_more_2 ⟨Nat.zero_le _, Nat.zero_le _⟩ (fun x1 u H locs hw hP hD hS => ?_)
  obtain ⟨r2, g3, g4⟩ := hw
  have hP : va_P D classes (wM cA ad F L A B) H := hP
  have hD : va_D Af (wM cA ad F L A B) := hD
  have J49 : ∀ (F5 : Nat → Int32) (L5 : Nat → Int64) (A5 : Nat → Nat → Int32) (B5 : Nat → Nat → Int64) (H : Heap) (locs : List Loc) (ls : Array Slot), qM [14, 15] [17, 27] F A F5 A5 → xM F5 → (LM F5 A5) → va_P D classes (wM cA ad F5 L5 A5 B5) H → va_D Af (wM cA ad F5 L5 A5 B5) → va_S Af s.heap H locs → lv_has ls 4 [] → W p l e rm_X12_more_0 s m args below meth c H locs 0 0 Q (F0 m 49 ls []) := by
    intro F5 L5 A5 B5 H locs ls hq i6 v7 hP hD hS hl
    refine lv_iconst (v := (-1)) hx hb dX12_more_49 (by decide) ?_
    exact hret ((-1)) (F5, L5, A5, B5) H locs 50 ls rfl dX12_more_50 hP hD hS ⟨hq, i6, (rg_k (by decide)), v7⟩
  refine lv_if_eq (tgt := 49) hx hb dX12_more_5 (by decide) (fun c8 => ?_) (fun c8 => ?_)
  · skip
    have r9 : rg x1 0 0 := rg_eq1 c8 (r2 : rg x1 0 1) ((rg_k (by decide)) : rg 0 0 0) (by decide)
    exact J49 (F) (L) (A) (B) H locs ls hq hI hLM hP hD hS (lv_sub hl [] rfl)
  · skip
    have g10 := g3.resolve_left c8
    refine lv_aload_n hx hb dX12_more_8 rfl (lv_at hl 0 rfl) ?_
    refine lv_iload_n hx hb dX12_more_9 rfl (lv_at hl 2 rfl) ?_
    refine callv_i (As := [.int p2]) (rest := []) hC (c_X12_isHorse_0 l D cA H.size ad F L A B (p2) hq.1) (cwV 1 hg (g_V mw_1395 mw_1392 mw_1394 ms_68 mw_20) rfl rfl rfl (by decide +kernel) ⟨(Nat.le_of_ble_eq_true rfl), (Nat.le_of_ble_eq_true rfl)⟩) hP hD hS hA atM_0 rfl rfl hl.1 rfl (Nat.le_of_ble_eq_true rfl) dX12_more_10 ⟨Nat.zero_le _, Nat.zero_le _⟩ (fun x11 u H locs hw hP hD hS => ?_)
    obtain ⟨r12, g13, g14⟩ := hw
    have hP : va_P D classes (wM cA ad F L A B) H := hP
    have hD : va_D Af (wM cA ad F L A B) := hD
    refine lv_if_eq (tgt := 49) hx hb dX12_more_13 (by decide) (fun c15 => ?_) (fun c15 => ?_)
    · skip
      have r16 : rg x11 0 0 := rg_eq1 c15 (r12 : rg x11 0 1) ((rg_k (by decide)) : rg 0 0 0) (by decide)
      exact J49 (F) (L) (A) (B) H locs ls hq hI hLM hP hD hS (lv_sub hl [] rfl)
    · skip
      have g17 := g13.resolve_left c15
      refine lv_iload_n hx hb dX12_more_16 rfl (lv_at hl 3 rfl) ?_
      refine lv_bipush (v := (-99)) hx hb dX12_more_17 (by decide) ?_
      refine lv_bipush (v := 99) hx hb dX12_more_19 (by decide) ?_
      refine calls_i (As := [.int p3, .int (-99), .int 99]) (rest := []) hC (c_X12_isIn l D (tysM cA) (wM cA ad F L A B) H.size (p3) ((-99)) (99) (rg_k (by decide)) (rg_k (by decide))) (cwS 3 hg (g_S mw_1391 mw_1389 mw_1390 mw_20) rfl rfl rfl (by decide +kernel) ⟨(Nat.le_of_ble_eq_true rfl), (Nat.le_of_ble_eq_true rfl)⟩) hP hD hS hA rfl hl.1 rfl (Nat.le_of_ble_eq_true rfl) dX12_more_21 ⟨Nat.zero_le _, Nat.zero_le _⟩ (fun x18 u H locs hw hP hD hS => ?_)
      obtain ⟨r19, g20, g21⟩ := hw
      have hP : va_P D classes (wM cA ad F L A B) H := hP
      have hD : va_D Af (wM cA ad F L A B) := hD
      refine lv_if_eq (tgt := 49) hx hb dX12_more_24 (by decide) (fun c22 => ?_) (fun c22 => ?_)
      · skip
        have r23 : rg x18 0 0 := rg_eq1 c22 (r19 : rg x18 0 1) ((rg_k (by decide)) : rg 0 0 0) (by decide)
        exact J49 (F) (L) (A) (B) H locs ls hq hI hLM hP hD hS (lv_sub hl [] rfl)
      · skip
        have g24 := g20.resolve_left c22
        have r25 : rg p3 (-99) 2147483647 := rg_le2 g24.1 ((rg_k (by decide)) : rg (-99) (-99) (-99)) ((rg_top _) : rg p3 (-2147483648) 2147483647)
        have r26 : rg p3 (-99) 99 := rg_le1 g24.2 (r25 : rg p3 (-99) 2147483647) ((rg_k (by decide)) : rg 99 99 99)
        refine lv_aload_n hx hb dX12_more_27 rfl (lv_at hl 0 rfl) ?_
        refine va_get (ci := 12) (v := .ref (ad 17)) (C := RX12) (T := TX12) (N := 57) hx hb hg inX12 hown hK hP 0 atM_0 rfl 27 (by decide) (hg _ mw_1135) (fun _ h9 => h9) rfl dX12_more_28 ?_
        refine lv_bipush (v := 10) hx hb dX12_more_31 (by decide) ?_
        refine lv_iload_n hx hb dX12_more_33 rfl (lv_at hl 1 rfl) ?_
        refine lv_imul hx hb dX12_more_34 ?_
        refine lv_topi (fun x27 e28 => ?_)
        have r29 : rg x27 0 70 := rg_mul e28 ((rg_k (by decide)) : rg 10 10 10) g10 (by decide)
        refine lv_iload_n hx hb dX12_more_35 rfl (lv_at hl 2 rfl) ?_
        refine lv_iadd hx hb dX12_more_36 ?_
        refine lv_topi (fun x30 e31 => ?_)
        have r32 : rg x30 0 79 := rg_add e31 r29 g17 (by decide)
        refine va_iald hx hb hK hP 17 16 atM_17 tyM_17 (in_rg r32 (by decide)) dX12_more_37 ?_
        refine lv_topi (fun x33 e34 => ?_)
        refine lv_iload_n hx hb dX12_more_38 rfl (lv_at hl 3 rfl) ?_
        refine lv_iadd hx hb dX12_more_39 ?_
        refine lv_topi (fun x35 e36 => ?_)
        refine lv_iconst (v := 0) hx hb dX12_more_40 (by decide) ?_
        refine lv_bipush (v := 99) hx hb dX12_more_41 (by decide) ?_
        refine calls_i (As := [.int x35, .int 0, .int 99]) (rest := []) hC (c_X12_isIn l D (tysM cA) (wM cA ad F L A B) H.size (x35) (0) (99) (rg_k (by decide)) (rg_k (by decide))) (cwS 3 hg (g_S mw_1391 mw_1389 mw_1390 mw_20) rfl rfl rfl (by decide +kernel) ⟨(Nat.le_of_ble_eq_true rfl), (Nat.le_of_ble_eq_true rfl)⟩) hP hD hS hA rfl hl.1 rfl (Nat.le_of_ble_eq_true rfl) dX12_more_43 ⟨Nat.zero_le _, Nat.zero_le _⟩ (fun x37 u H locs hw hP hD hS => ?_)
        obtain ⟨r38, g39, g40⟩ := hw
        have hP : va_P D classes (wM cA ad F L A B) H := hP
        have hD : va_D Af (wM cA ad F L A B) := hD
        refine lv_if_ne (tgt := 51) hx hb dX12_more_46 (by decide) (fun c41 => ?_) (fun c41 => ?_)
        · skip
          have g42 := g39.resolve_left c41
          have r43 : rg x35 0 2147483647 := rg_le2 g42.1 ((rg_k (by decide)) : rg 0 0 0) ((rg_top _) : rg x35 (-2147483648) 2147483647)
          have r44 : rg x35 0 99 := rg_le1 g42.2 (r43 : rg x35 0 2147483647) ((rg_k (by decide)) : rg 99 99 99)
          refine lv_aload_n hx hb dX12_more_51 rfl (lv_at hl 0 rfl) ?_
          refine callv_v (As := []) (rest := []) hC (c_X12_keepAct_0 l D cA H.size ad F L A B  hq.1 hI hLM) (cwV 0 hg (g_V mw_1540 mw_1537 mw_1539 ms_89 mw_20) rfl rfl rfl (by decide +kernel) ⟨(Nat.le_of_ble_eq_true rfl), (Nat.le_of_ble_eq_true rfl)⟩) hP hD hS hA atM_0 rfl rfl hl.1 rfl (Nat.le_of_ble_eq_true rfl) dX12_more_52 ⟨Nat.zero_le _, Nat.zero_le _⟩ (fun  u H locs hw hP hD hS => ?_)
          obtain ⟨F46, L46, A46, B46⟩ := u
          try dsimp only at hw
          obtain ⟨hq46, i47, g48⟩ := hw
          have hq := hq.call hq46 (by decide)
          have hP : va_P D classes (wM cA ad F46 L46 A46 B46) H := hP
          have hD : va_D Af (wM cA ad F46 L46 A46 B46) := hD
          have hsN : sN F46 A46 = sN F A := by unfold sN; rw [hq.2.2 3 (by decide), hq.2.1 8 (by decide)]
          have hhN : hN F46 A46 = hN F A := by unfold hN; rw [hq.2.2 4 (by decide), hq.2.1 8 (by decide)]
          refine lv_aload_n hx hb dX12_more_55 rfl (lv_at hl 0 rfl) ?_
          refine va_get (ci := 12) (v := .ref (ad 17)) (C := RX12) (T := TX12) (N := 57) hx hb hg inX12 hown hK hP 0 atM_0 rfl 27 (by decide) (hg _ mw_1135) (fun _ h9 => h9) rfl dX12_more_56 ?_
          refine lv_bipush (v := 10) hx hb dX12_more_59 (by decide) ?_
          refine lv_iload_n hx hb dX12_more_61 rfl (lv_at hl 1 rfl) ?_
          refine lv_imul hx hb dX12_more_62 ?_
          refine tope e28 ?_
          refine lv_iload_n hx hb dX12_more_63 rfl (lv_at hl 2 rfl) ?_
          refine lv_iadd hx hb dX12_more_64 ?_
          refine tope e31 ?_
          refine lv_dup2_11 hx hb dX12_more_65 rfl rfl ?_
          refine va_iald hx hb hK hP 17 16 atM_17 tyM_17 (in_rg r32 (by decide)) dX12_more_66 ?_
          refine tope ((e34).trans (congrFun (hq46.2.2 17 (by decide)) _).symm) ?_
          refine lv_iload_n hx hb dX12_more_67 rfl (lv_at hl 3 rfl) ?_
          refine lv_iadd hx hb dX12_more_68 ?_
          refine tope e36 ?_
          refine va_iast hx hb hK hP hD hS 17 16 atM_17 tyM_17 (in_rg r32 (by decide)) dX12_more_69 (fun H locs hP hD hS => ?_)
          have hq := hq.ast 17 (x30).toNatClampNeg (x := x35) (by decide) (rg_top _)
          rw [setM_17] at hP hD
          have k49 : x35 = (va_up A46 17 (upd (A46 17) (x30).toNatClampNeg x35)) 17 (x30).toNatClampNeg := (rdA).symm
          refine lv_aload_n hx hb dX12_more_70 rfl (lv_at hl 0 rfl) ?_
          refine va_get (ci := 12) (v := .ref (ad 17)) (C := RX12) (T := TX12) (N := 57) hx hb hg inX12 hown hK hP 0 atM_0 rfl 27 (by decide) (hg _ mw_1135) (fun _ h9 => h9) rfl dX12_more_71 ?_
          refine lv_bipush (v := 10) hx hb dX12_more_74 (by decide) ?_
          refine lv_iload_n hx hb dX12_more_76 rfl (lv_at hl 1 rfl) ?_
          refine lv_imul hx hb dX12_more_77 ?_
          refine tope e28 ?_
          refine lv_iload_n hx hb dX12_more_78 rfl (lv_at hl 2 rfl) ?_
          refine lv_iadd hx hb dX12_more_79 ?_
          refine tope e31 ?_
          refine va_iald hx hb hK hP 17 16 atM_17 tyM_17 (in_rg r32 (by decide)) dX12_more_80 ?_
          refine tope (k49) ?_
          exact hret (x35) (F46, L46, (va_up A46 17 (upd (A46 17) (x30).toNatClampNeg x35)), B46) H locs 81 ls rfl dX12_more_81 hP hD hS ⟨hq, i47, (rg_w r44 (by decide)), (show LM F46 (va_up A46 17 (upd (A46 17) (x30).toNatClampNeg x35)) from LM.now g48 (by rw [hsN, hhN]; exact DM_put (k := x30.toNatClampNeg) (by rw [← hsN, ← hhN]; exact (g48).1) (Nat.zero_add _).symm (okc_of (r44 : rg x35 0 99) (cell_in (g10 : rg p1 0 7) (g17 : rg p2 0 9) e28 e31 ((g4).resolve_left c8).2 ((g14).resolve_left c15).2).1 (cell_in (g10 : rg p1 0 7) (g17 : rg p2 0 9) e28 e31 ((g4).resolve_left c8).2 ((g14).resolve_left c15).2).2)))⟩
        · skip
          have r45 : rg x37 0 0 := rg_eq1 c41 (r38 : rg x37 0 1) ((rg_k (by decide)) : rg 0 0 0) (by decide)
          exact J49 (F) (L) (A) (B) H locs ls hq hI hLM hP hD hS (lv_sub hl [] rfl)
abbrev rm_X12_breaks_0 : Room := { frames := 2, cells := 0, slots := 0, locals := 43 }
set_option maxHeartbeats 4000000 in
set_option maxRecDepth 100000 in
theorem c_X12_breaks_0 (l : Launch) (D : va_G) (cA : Nat → ClassId) (sz : Nat) (ad : Nat → Nat) (F : Nat → Int32) (L : Nat → Int64) (A : Nat → Nat → Int32) (B : Nat → Nat → Int64) (p1 : Int32) (p2 : Int32) (hT : typM F A) (hI : xM F) (hLM : LM F A) : Met l yX12_breaks (Cond.code yX12_breaks cX12_breaks 5 (some .int) :: GW) rm_X12_breaks_0 (mPc D classes (tysM cA) (wM cA ad F L A B) sz [.ref (ad 0), .int p1, .int p2]) (mQi (S := SW) D classes (tysM cA) (wM cA ad F L A B) sz (wfM cA ad) (fun r u => qM [14, 15] [17, 27] F A u.1 u.2.2.1 ∧ xM u.1 ∧ (LM u.1 u.2.2.1))) 0 0 (va_A (wM cA ad F L A B) sz) := by
  refine met_i (own := "ShoeingDayModel") (by decide +kernel) rfl (Nat.le_of_ble_eq_true rfl) ?_
  intro p e s m args below meth c Q Af ls hC hP hD hS hA hl hret
  have hx := hC.1
  have hb := hC.2.1
  have hown := hC.2.2.2.1
  have hg := hC.g
  have hK := hC.K
  have hl : lv_has ls 5 [(0, .ref (ad 0)), (1, .int p1), (2, .int p2)] := hl
  have hq : qM [14, 15] [17, 27] F A F A := qM.rf hT
  obtain ⟨H, hH⟩ : ∃ H, H = s.heap := ⟨_, rfl⟩
  have hP : va_P D classes (wM cA ad F L A B) H := by rw [hH]; exact hP
  have hS : va_S Af s.heap H [] := by rw [hH]; exact hS
  obtain ⟨locs, hlo⟩ : ∃ q : List Loc, q = [] := ⟨_, rfl⟩
  rw [← hH, ← hlo]
  rw [← hlo] at hS
  refine lv_aload_n hx hb dX12_breaks_0 rfl (lv_at hl 0 rfl) ?_
  refine lv_iload_n hx hb dX12_breaks_1 rfl (lv_at hl 1 rfl) ?_
  refine callv_i (As := [.int p1]) (rest := []) hC (c_X12_isSmith_0 l D cA H.size ad F L A B (p1) hq.1) (cwV 1 hg (g_V mw_1384 mw_1381 mw_1383 ms_66 mw_20) rfl rfl rfl (by decide +kernel) ⟨(Nat.le_of_ble_eq_true rfl), (Nat.le_of_ble_eq_true rfl)⟩) hP hD hS hA atM_0 rfl rfl hl.1 rfl (Nat.le_of_ble_eq_true rfl) dX12_breaks_2 ⟨Nat.zero_le _, Nat.zero_le _⟩ (fun x1 u H locs hw hP hD hS => ?_)
  obtain ⟨r2, g3, g4⟩ := hw
  have hP : va_P D classes (wM cA ad F L A B) H := hP
  have hD : va_D Af (wM cA ad F L A B) := hD
  have J21 : ∀ (F5 : Nat → Int32) (L5 : Nat → Int64) (A5 : Nat → Nat → Int32) (B5 : Nat → Nat → Int64) (H : Heap) (locs : List Loc) (ls : Array Slot), qM [14, 15] [17, 27] F A F5 A5 → xM F5 → (LM F5 A5) → va_P D classes (wM cA ad F5 L5 A5 B5) H → va_D Af (wM cA ad F5 L5 A5 B5) → va_S Af s.heap H locs → lv_has ls 5 [] → W p l e rm_X12_breaks_0 s m args below meth c H locs 0 0 Q (F0 m 21 ls []) := by
    intro F5 L5 A5 B5 H locs ls hq i6 v7 hP hD hS hl
    refine lv_iconst (v := (-1)) hx hb dX12_breaks_21 (by decide) ?_
    exact hret ((-1)) (F5, L5, A5, B5) H locs 22 ls rfl dX12_breaks_22 hP hD hS ⟨hq, i6, v7⟩
  refine lv_if_eq (tgt := 21) hx hb dX12_breaks_5 (by decide) (fun c8 => ?_) (fun c8 => ?_)
  · skip
    have r9 : rg x1 0 0 := rg_eq1 c8 (r2 : rg x1 0 1) ((rg_k (by decide)) : rg 0 0 0) (by decide)
    exact J21 (F) (L) (A) (B) H locs ls hq hI hLM hP hD hS (lv_sub hl [] rfl)
  · skip
    have g10 := g3.resolve_left c8
    refine lv_aload_n hx hb dX12_breaks_8 rfl (lv_at hl 0 rfl) ?_
    refine lv_iload_n hx hb dX12_breaks_9 rfl (lv_at hl 2 rfl) ?_
    refine callv_i (As := [.int p2]) (rest := []) hC (c_X12_isSmith_0 l D cA H.size ad F L A B (p2) hq.1) (cwV 1 hg (g_V mw_1384 mw_1381 mw_1383 ms_66 mw_20) rfl rfl rfl (by decide +kernel) ⟨(Nat.le_of_ble_eq_true rfl), (Nat.le_of_ble_eq_true rfl)⟩) hP hD hS hA atM_0 rfl rfl hl.1 rfl (Nat.le_of_ble_eq_true rfl) dX12_breaks_10 ⟨Nat.zero_le _, Nat.zero_le _⟩ (fun x11 u H locs hw hP hD hS => ?_)
    obtain ⟨r12, g13, g14⟩ := hw
    have hP : va_P D classes (wM cA ad F L A B) H := hP
    have hD : va_D Af (wM cA ad F L A B) := hD
    refine lv_if_eq (tgt := 21) hx hb dX12_breaks_13 (by decide) (fun c15 => ?_) (fun c15 => ?_)
    · skip
      have r16 : rg x11 0 0 := rg_eq1 c15 (r12 : rg x11 0 1) ((rg_k (by decide)) : rg 0 0 0) (by decide)
      exact J21 (F) (L) (A) (B) H locs ls hq hI hLM hP hD hS (lv_sub hl [] rfl)
    · skip
      have g17 := g13.resolve_left c15
      refine lv_iload_n hx hb dX12_breaks_16 rfl (lv_at hl 1 rfl) ?_
      refine lv_iload_n hx hb dX12_breaks_17 rfl (lv_at hl 2 rfl) ?_
      refine lv_icmp_ne (tgt := 23) hx hb dX12_breaks_18 (by decide) (fun c18 => ?_) (fun c18 => ?_)
      · skip
        refine lv_iconst (v := 0) hx hb dX12_breaks_23 (by decide) ?_
        refine lv_istore_n (lv' := [(3, .int 0), (0, .ref (ad 0)), (1, .int p1), (2, .int p2)]) hx hb dX12_breaks_24 rfl hl (by decide) rfl (fun ls hl => ?_)
        have J25 : ∀ (n25 : Nat) (a19 : Int32) (F21 : Nat → Int32) (L21 : Nat → Int64) (A21 : Nat → Nat → Int32) (B21 : Nat → Nat → Int64) (H : Heap) (locs : List Loc) (ls : Array Slot), (10 - a19.toInt).toNat < n25 → rg a19 0 10 → qM [14, 15] [17, 27] F A F21 A21 → xM F21 → (LM F21 A21 ∧ brJ (A21 17) p1 p2 a19.toInt ∧ sN F21 A21 = sN F A) → va_P D classes (wM cA ad F21 L21 A21 B21) H → va_D Af (wM cA ad F21 L21 A21 B21) → va_S Af s.heap H locs → lv_has ls 5 [(0, .ref (ad 0)), (1, .int p1), (2, .int p2), (3, .int a19)] → W p l e rm_X12_breaks_0 s m args below meth c H locs 0 0 Q (F0 m 25 ls []) := by
          intro n25
          induction n25 with
          | zero =>
            intro _ _ _ _ _ _ _ _ hn
            exact absurd hn (Nat.not_lt_zero _)
          | succ n25 ih25 =>
            intro a19 F21 L21 A21 B21 H locs ls hn25 r20 hq i22 v23 hP hD hS hl
            refine lv_iload_n hx hb dX12_breaks_25 rfl (lv_at hl 3 rfl) ?_
            refine lv_bipush (v := 10) hx hb dX12_breaks_26 (by decide) ?_
            refine lv_icmp_ge (tgt := 67) hx hb dX12_breaks_28 (by decide) (fun c24 => ?_) (fun c24 => ?_)
            · skip
              have r25 : rg a19 10 10 := rg_le2 (iE c24) ((rg_k (by decide)) : rg 10 10 10) (r20 : rg a19 0 10)
              refine lv_aload_n hx hb dX12_breaks_67 rfl (lv_at hl 0 rfl) ?_
              refine callv_v (As := []) (rest := []) hC (c_X12_keepAct_0 l D cA H.size ad F21 L21 A21 B21  hq.1 i22 v23.1) (cwV 0 hg (g_V mw_1540 mw_1537 mw_1539 ms_89 mw_20) rfl rfl rfl (by decide +kernel) ⟨(Nat.le_of_ble_eq_true rfl), (Nat.le_of_ble_eq_true rfl)⟩) hP hD hS hA atM_0 rfl rfl hl.1 rfl (Nat.le_of_ble_eq_true rfl) dX12_breaks_68 ⟨Nat.zero_le _, Nat.zero_le _⟩ (fun  u H locs hw hP hD hS => ?_)
              obtain ⟨F27, L27, A27, B27⟩ := u
              try dsimp only at hw
              obtain ⟨hq27, i28, g29⟩ := hw
              have hq := hq.call hq27 (by decide)
              have hP : va_P D classes (wM cA ad F27 L27 A27 B27) H := hP
              have hD : va_D Af (wM cA ad F27 L27 A27 B27) := hD
              have hb0 : brI (A27 17) p1 p2 (0 : Int32).toInt := by rw [hq27.2.2 17 (by decide)]; exact brJ_I v23.2.1 (by have := (r25 : rg a19 10 10).1; omega)
              have hs0 : sN F27 A27 = sN F A := by unfold sN; rw [hq.2.2 3 (by decide), hq.2.1 8 (by decide)]
              refine lv_iconst (v := 0) hx hb dX12_breaks_71 (by decide) ?_
              refine lv_istore_n (lv' := [(3, .int 0), (0, .ref (ad 0)), (1, .int p1), (2, .int p2)]) hx hb dX12_breaks_72 rfl hl (by decide) rfl (fun ls hl => ?_)
              refine lv_iconst (v := 0) hx hb dX12_breaks_73 (by decide) ?_
              refine lv_istore (lv' := [(4, .int 0), (3, .int 0), (0, .ref (ad 0)), (1, .int p1), (2, .int p2)]) hx hb dX12_breaks_74 hl (by decide) rfl (fun ls hl => ?_)
              have J76 : ∀ (n76 : Nat) (a30 : Int32) (a31 : Int32) (F33 : Nat → Int32) (L33 : Nat → Int64) (A33 : Nat → Nat → Int32) (B33 : Nat → Nat → Int64) (H : Heap) (locs : List Loc) (ls : Array Slot), (10 - a31.toInt).toNat < n76 → rg a31 0 10 → qM [14, 15] [17, 27] F A F33 A33 → xM F33 → (LM F33 A33 ∧ brI (A33 17) p1 p2 a31.toInt ∧ sN F33 A33 = sN F A) → va_P D classes (wM cA ad F33 L33 A33 B33) H → va_D Af (wM cA ad F33 L33 A33 B33) → va_S Af s.heap H locs → lv_has ls 5 [(0, .ref (ad 0)), (1, .int p1), (2, .int p2), (3, .int a30), (4, .int a31)] → W p l e rm_X12_breaks_0 s m args below meth c H locs 0 0 Q (F0 m 76 ls []) := by
                intro n76
                induction n76 with
                | zero =>
                  intro _ _ _ _ _ _ _ _ _ hn
                  exact absurd hn (Nat.not_lt_zero _)
                | succ n76 ih76 =>
                  intro a30 a31 F33 L33 A33 B33 H locs ls hn76 r32 hq i34 v35 hP hD hS hl
                  refine lv_iload hx hb dX12_breaks_76 (lv_at hl 4 rfl) ?_
                  refine lv_bipush (v := 10) hx hb dX12_breaks_78 (by decide) ?_
                  refine lv_icmp_ge (tgt := 144) hx hb dX12_breaks_80 (by decide) (fun c36 => ?_) (fun c36 => ?_)
                  · skip
                    have r37 : rg a31 10 10 := rg_le2 (iE c36) ((rg_k (by decide)) : rg 10 10 10) (r32 : rg a31 0 10)
                    refine lv_iload_n hx hb dX12_breaks_144 rfl (lv_at hl 3 rfl) ?_
                    exact hret (a30) (F33, L33, A33, B33) H locs 145 ls rfl dX12_breaks_145 hP hD hS ⟨hq, i34, v35.1⟩
                  · skip
                    have r38 : rg a31 0 9 := rg_lt1 (iNE c36) (r32 : rg a31 0 10) ((rg_k (by decide)) : rg 10 10 10)
                    refine lv_iload_n hx hb dX12_breaks_83 rfl (lv_at hl 3 rfl) ?_
                    refine lv_aload_n hx hb dX12_breaks_84 rfl (lv_at hl 0 rfl) ?_
                    refine va_get (ci := 12) (v := .ref (ad 17)) (C := RX12) (T := TX12) (N := 57) hx hb hg inX12 hown hK hP 0 atM_0 rfl 27 (by decide) (hg _ mw_1135) (fun _ h9 => h9) rfl dX12_breaks_85 ?_
                    refine lv_bipush (v := 10) hx hb dX12_breaks_88 (by decide) ?_
                    refine lv_iload_n hx hb dX12_breaks_90 rfl (lv_at hl 1 rfl) ?_
                    refine lv_imul hx hb dX12_breaks_91 ?_
                    refine lv_topi (fun x39 e40 => ?_)
                    have r41 : rg x39 0 70 := rg_mul e40 ((rg_k (by decide)) : rg 10 10 10) g10 (by decide)
                    refine lv_iload hx hb dX12_breaks_92 (lv_at hl 4 rfl) ?_
                    refine lv_iadd hx hb dX12_breaks_94 ?_
                    refine lv_topi (fun x42 e43 => ?_)
                    have r44 : rg x42 0 79 := rg_add e43 r41 r38 (by decide)
                    refine va_iald hx hb hK hP 17 16 atM_17 tyM_17 (in_rg r44 (by decide)) dX12_breaks_95 ?_
                    refine lv_topi (fun x45 e46 => ?_)
                    refine lv_iadd hx hb dX12_breaks_96 ?_
                    refine lv_topi (fun x47 e48 => ?_)
                    refine lv_istore_n (lv' := [(3, .int x47), (0, .ref (ad 0)), (1, .int p1), (2, .int p2), (4, .int a31)]) hx hb dX12_breaks_97 rfl hl (by decide) rfl (fun ls hl => ?_)
                    refine lv_aload_n hx hb dX12_breaks_98 rfl (lv_at hl 1 rfl) ?_
                    refine va_get (ci := 12) (v := .ref (ad 17)) (C := RX12) (T := TX12) (N := 57) hx hb hg inX12 hown hK hP 0 atM_0 rfl 27 (by decide) (hg _ mw_1135) (fun _ h9 => h9) rfl dX12_breaks_99 ?_
                    refine lv_bipush (v := 10) hx hb dX12_breaks_102 (by decide) ?_
                    refine lv_iload_n hx hb dX12_breaks_104 rfl (lv_at hl 3 rfl) ?_
                    refine lv_imul hx hb dX12_breaks_105 ?_
                    refine lv_topi (fun x49 e50 => ?_)
                    have r51 : rg x49 0 70 := rg_mul e50 ((rg_k (by decide)) : rg 10 10 10) g17 (by decide)
                    refine lv_iload hx hb dX12_breaks_106 (lv_at hl 4 rfl) ?_
                    refine lv_iadd hx hb dX12_breaks_108 ?_
                    refine lv_topi (fun x52 e53 => ?_)
                    have r54 : rg x52 0 79 := rg_add e53 r51 r38 (by decide)
                    refine lv_dup2_11 hx hb dX12_breaks_109 rfl rfl ?_
                    refine va_iald hx hb hK hP 17 16 atM_17 tyM_17 (in_rg r54 (by decide)) dX12_breaks_110 ?_
                    refine lv_topi (fun x55 e56 => ?_)
                    refine lv_aload_n hx hb dX12_breaks_111 rfl (lv_at hl 1 rfl) ?_
                    refine va_get (ci := 12) (v := .ref (ad 17)) (C := RX12) (T := TX12) (N := 57) hx hb hg inX12 hown hK hP 0 atM_0 rfl 27 (by decide) (hg _ mw_1135) (fun _ h9 => h9) rfl dX12_breaks_112 ?_
                    refine lv_bipush (v := 10) hx hb dX12_breaks_115 (by decide) ?_
                    refine lv_iload_n hx hb dX12_breaks_117 rfl (lv_at hl 2 rfl) ?_
                    refine lv_imul hx hb dX12_breaks_118 ?_
                    refine tope e40 ?_
                    refine lv_iload hx hb dX12_breaks_119 (lv_at hl 4 rfl) ?_
                    refine lv_iadd hx hb dX12_breaks_121 ?_
                    refine tope e43 ?_
                    refine va_iald hx hb hK hP 17 16 atM_17 tyM_17 (in_rg r44 (by decide)) dX12_breaks_122 ?_
                    refine tope (e46) ?_
                    refine lv_iadd hx hb dX12_breaks_123 ?_
                    refine lv_topi (fun x57 e58 => ?_)
                    refine va_iast hx hb hK hP hD hS 17 16 atM_17 tyM_17 (in_rg r54 (by decide)) dX12_breaks_124 (fun H locs hP hD hS => ?_)
                    have hq := hq.ast 17 (x52).toNatClampNeg (x := x57) (by decide) (rg_top _)
                    rw [setM_17] at hP hD
                    have k59 : x57 = (va_up A33 17 (upd (A33 17) (x52).toNatClampNeg x57)) 17 (x52).toNatClampNeg := (rdA).symm
                    refine lv_aload_n hx hb dX12_breaks_125 rfl (lv_at hl 1 rfl) ?_
                    refine va_get (ci := 12) (v := .ref (ad 17)) (C := RX12) (T := TX12) (N := 57) hx hb hg inX12 hown hK hP 0 atM_0 rfl 27 (by decide) (hg _ mw_1135) (fun _ h9 => h9) rfl dX12_breaks_126 ?_
                    refine lv_bipush (v := 10) hx hb dX12_breaks_129 (by decide) ?_
                    refine lv_iload_n hx hb dX12_breaks_131 rfl (lv_at hl 2 rfl) ?_
                    refine lv_imul hx hb dX12_breaks_132 ?_
                    refine tope e40 ?_
                    refine lv_iload hx hb dX12_breaks_133 (lv_at hl 4 rfl) ?_
                    refine lv_iadd hx hb dX12_breaks_135 ?_
                    refine tope e43 ?_
                    refine lv_iconst (v := 0) hx hb dX12_breaks_136 (by decide) ?_
                    refine va_iast hx hb hK hP hD hS 17 16 atM_17 tyM_17 (in_rg r44 (by decide)) dX12_breaks_137 (fun H locs hP hD hS => ?_)
                    have hq := hq.ast 17 (x42).toNatClampNeg (x := 0) (by decide) (rg_k (by decide))
                    rw [setM_17] at hP hD
                    have k60 : (0 : Int32) = (va_up (va_up A33 17 (upd (A33 17) (x52).toNatClampNeg x57)) 17 (upd ((va_up A33 17 (upd (A33 17) (x52).toNatClampNeg x57)) 17) (x42).toNatClampNeg 0)) 17 (x42).toNatClampNeg := (rdA).symm
                    obtain ⟨x61, e62⟩ : ∃ y : Int32, y = a31 + 1 := ⟨_, rfl⟩
                    have r63 : rg x61 1 10 := rg_add e62 r38 (rg_k (by decide) : rg 1 1 1) (by decide)
                    refine lv_iinc (v := x61) (lv' := [(4, .int x61), (3, .int x47), (0, .ref (ad 0)), (1, .int p1), (2, .int p2)]) hx hb dX12_breaks_138 hl (k := 4) rfl (by rw [e62]; rfl) (by decide) rfl (fun ls hl => ?_)
                    refine lv_goto (tgt := 76) hx hb dX12_breaks_141 (by decide) ?_
                    exact ih76 (x47) (x61) (F33) (L33) ((va_up (va_up A33 17 (upd (A33 17) (x52).toNatClampNeg x57)) 17 (upd ((va_up A33 17 (upd (A33 17) (x52).toNatClampNeg x57)) 17) (x42).toNatClampNeg 0))) (B33) H locs ls (by have h0 : (1 : Int32).toInt = 1 := rfl; have h1 := ti_addk e62 r38 (by decide); have h2 : rg x61 0 10 := (rg_w r63 (by decide)); unfold rg at h2; omega) (rg_w r63 (by decide)) hq i34 ⟨LM.now2 v35.1 (br_step v35.1.1 v35.2.1 (g10 : rg p1 0 7) (g17 : rg p2 0 7) (r38 : rg a31 0 9) c18 (by rw [v35.2.2]; exact ((g14).resolve_left c15).2) e40 e43 e46 e50 e53 e56 e58 e62).1, (br_step v35.1.1 v35.2.1 (g10 : rg p1 0 7) (g17 : rg p2 0 7) (r38 : rg a31 0 9) c18 (by rw [v35.2.2]; exact ((g14).resolve_left c15).2) e40 e43 e46 e50 e53 e56 e58 e62).2, v35.2.2⟩ hP hD hS (lv_sub hl [2, 3, 4, 1, 0] rfl)
              exact J76 _ (0) (0) (F27) (L27) (A27) (B27) H locs ls (Nat.lt_succ_self _) (rg_k (by decide)) hq i28 ⟨g29, hb0, hs0⟩ hP hD hS (lv_sub hl [2, 3, 4, 1, 0] rfl)
            · skip
              have r26 : rg a19 0 9 := rg_lt1 (iNE c24) (r20 : rg a19 0 10) ((rg_k (by decide)) : rg 10 10 10)
              refine lv_aload_n hx hb dX12_breaks_31 rfl (lv_at hl 0 rfl) ?_
              refine va_get (ci := 12) (v := .ref (ad 17)) (C := RX12) (T := TX12) (N := 57) hx hb hg inX12 hown hK hP 0 atM_0 rfl 27 (by decide) (hg _ mw_1135) (fun _ h9 => h9) rfl dX12_breaks_32 ?_
              refine lv_bipush (v := 10) hx hb dX12_breaks_35 (by decide) ?_
              refine lv_iload_n hx hb dX12_breaks_37 rfl (lv_at hl 1 rfl) ?_
              refine lv_imul hx hb dX12_breaks_38 ?_
              refine lv_topi (fun x64 e65 => ?_)
              have r66 : rg x64 0 70 := rg_mul e65 ((rg_k (by decide)) : rg 10 10 10) g10 (by decide)
              refine lv_iload_n hx hb dX12_breaks_39 rfl (lv_at hl 3 rfl) ?_
              refine lv_iadd hx hb dX12_breaks_40 ?_
              refine lv_topi (fun x67 e68 => ?_)
              have r69 : rg x67 0 79 := rg_add e68 r66 r26 (by decide)
              refine va_iald hx hb hK hP 17 16 atM_17 tyM_17 (in_rg r69 (by decide)) dX12_breaks_41 ?_
              refine lv_topi (fun x70 e71 => ?_)
              refine lv_aload_n hx hb dX12_breaks_42 rfl (lv_at hl 0 rfl) ?_
              refine va_get (ci := 12) (v := .ref (ad 17)) (C := RX12) (T := TX12) (N := 57) hx hb hg inX12 hown hK hP 0 atM_0 rfl 27 (by decide) (hg _ mw_1135) (fun _ h9 => h9) rfl dX12_breaks_43 ?_
              refine lv_bipush (v := 10) hx hb dX12_breaks_46 (by decide) ?_
              refine lv_iload_n hx hb dX12_breaks_48 rfl (lv_at hl 2 rfl) ?_
              refine lv_imul hx hb dX12_breaks_49 ?_
              refine lv_topi (fun x72 e73 => ?_)
              have r74 : rg x72 0 70 := rg_mul e73 ((rg_k (by decide)) : rg 10 10 10) g17 (by decide)
              refine lv_iload_n hx hb dX12_breaks_50 rfl (lv_at hl 3 rfl) ?_
              refine lv_iadd hx hb dX12_breaks_51 ?_
              refine lv_topi (fun x75 e76 => ?_)
              have r77 : rg x75 0 79 := rg_add e76 r74 r26 (by decide)
              refine va_iald hx hb hK hP 17 16 atM_17 tyM_17 (in_rg r77 (by decide)) dX12_breaks_52 ?_
              refine lv_topi (fun x78 e79 => ?_)
              refine lv_iadd hx hb dX12_breaks_53 ?_
              refine lv_topi (fun x80 e81 => ?_)
              refine lv_bipush (v := 99) hx hb dX12_breaks_54 (by decide) ?_
              refine lv_icmp_le (tgt := 61) hx hb dX12_breaks_56 (by decide) (fun c82 => ?_) (fun c82 => ?_)
              · skip
                have r83 : rg x80 (-2147483648) 99 := rg_le1 (iE c82) ((rg_top _) : rg x80 (-2147483648) 2147483647) ((rg_k (by decide)) : rg 99 99 99)
                obtain ⟨x85, e86⟩ : ∃ y : Int32, y = a19 + 1 := ⟨_, rfl⟩
                have r87 : rg x85 1 10 := rg_add e86 r26 (rg_k (by decide) : rg 1 1 1) (by decide)
                refine lv_iinc (v := x85) (lv' := [(3, .int x85), (0, .ref (ad 0)), (1, .int p1), (2, .int p2)]) hx hb dX12_breaks_61 hl (k := 3) rfl (by rw [e86]; rfl) (by decide) rfl (fun ls hl => ?_)
                refine lv_goto (tgt := 25) hx hb dX12_breaks_64 (by decide) ?_
                exact ih25 (x85) (F21) (L21) (A21) (B21) H locs ls (by have h0 : (1 : Int32).toInt = 1 := rfl; have h1 := ti_addk e86 r26 (by decide); have h2 : rg x85 0 10 := (rg_w r87 (by decide)); unfold rg at h2; omega) (rg_w r87 (by decide)) hq i22 ⟨v23.1, brJ_step v23.1.1 v23.2.1 (g10 : rg p1 0 7) (g17 : rg p2 0 7) (r26 : rg a19 0 9) e65 e68 e71 e73 e76 e79 e81 (by have := (iE c82); have : (99 : Int32).toInt = 99 := rfl; omega) e86, v23.2.2⟩ hP hD hS (lv_sub hl [1, 2, 3, 0] rfl)
              · skip
                have r84 : rg x80 100 2147483647 := rg_lt2 (iNE c82) ((rg_k (by decide)) : rg 99 99 99) ((rg_top _) : rg x80 (-2147483648) 2147483647)
                refine lv_iconst (v := (-1)) hx hb dX12_breaks_59 (by decide) ?_
                exact hret ((-1)) (F21, L21, A21, B21) H locs 60 ls rfl dX12_breaks_60 hP hD hS ⟨hq, i22, v23.1⟩
        exact J25 _ (0) (F) (L) (A) (B) H locs ls (Nat.lt_succ_self _) (rg_k (by decide)) hq hI ⟨hLM, brJ_0, rfl⟩ hP hD hS (lv_sub hl [1, 2, 3, 0] rfl)
      · skip
        exact J21 (F) (L) (A) (B) H locs ls hq hI hLM hP hD hS (lv_sub hl [] rfl)
abbrev rm_X12_exchange_0 : Room := { frames := 0, cells := 0, slots := 0, locals := 0 }
set_option maxHeartbeats 4000000 in
set_option maxRecDepth 100000 in
theorem c_X12_exchange_0 (l : Launch) (D : va_G) (cA : Nat → ClassId) (sz : Nat) (ad : Nat → Nat) (F : Nat → Int32) (L : Nat → Int64) (A : Nat → Nat → Int32) (B : Nat → Nat → Int64)  (hT : typM F A) (hLM : LM F A) (hU : 1 ≤ (F 15).toInt) : Met l yX12_exchange (Cond.code yX12_exchange cX12_exchange 4 none :: GW) rm_X12_exchange_0 (mPc D classes (tysM cA) (wM cA ad F L A B) sz [.ref (ad 0)]) (mQv (S := SW) D classes (tysM cA) (wM cA ad F L A B) sz (wfM cA ad) (fun u => qM [10] [17, 27] F A u.1 u.2.2.1 ∧ (LM u.1 u.2.2.1))) 0 0 (va_A (wM cA ad F L A B) sz) := by
  refine met_v (own := "ShoeingDayModel") (by decide +kernel) rfl (Nat.le_of_ble_eq_true rfl) ?_
  intro p e s m args below meth c Q Af ls hC hP hD hS hA hl hret
  have hx := hC.1
  have hb := hC.2.1
  have hown := hC.2.2.2.1
  have hg := hC.g
  have hK := hC.K
  have hl : lv_has ls 4 [(0, .ref (ad 0))] := hl
  have hq : qM [10] [17, 27] F A F A := qM.rf hT
  obtain ⟨H, hH⟩ : ∃ H, H = s.heap := ⟨_, rfl⟩
  have hP : va_P D classes (wM cA ad F L A B) H := by rw [hH]; exact hP
  have hS : va_S Af s.heap H [] := by rw [hH]; exact hS
  obtain ⟨locs, hlo⟩ : ∃ q : List Loc, q = [] := ⟨_, rfl⟩
  rw [← hH, ← hlo]
  rw [← hlo] at hS
  refine lv_bipush (v := 81) hx hb dX12_exchange_0 (by decide) ?_
  refine lv_aload_n hx hb dX12_exchange_2 rfl (lv_at hl 0 rfl) ?_
  refine va_get (ci := 12) (v := .int (F 14)) (C := RX12) (T := TX12) (N := 57) hx hb hg inX12 hown hK hP 0 atM_0 rfl 42 (by decide) (hg _ mw_1150) (fun _ h9 => h9) rfl dX12_exchange_3 ?_
  refine lv_topi (fun x1 e2 => ?_)
  have r3 : rg x1 0 40 := rg_e e2 (hq.1.1 14)
  refine lv_imul hx hb dX12_exchange_6 ?_
  refine lv_topi (fun x4 e5 => ?_)
  have r6 : rg x4 0 3240 := rg_mul e5 ((rg_k (by decide)) : rg 81 81 81) r3 (by decide)
  refine lv_istore_n (lv' := [(1, .int x4), (0, .ref (ad 0))]) hx hb dX12_exchange_7 rfl hl (by decide) rfl (fun ls hl => ?_)
  refine lv_iconst (v := 0) hx hb dX12_exchange_8 (by decide) ?_
  refine lv_istore_n (lv' := [(2, .int 0), (1, .int x4), (0, .ref (ad 0))]) hx hb dX12_exchange_9 rfl hl (by decide) rfl (fun ls hl => ?_)
  have J10 : ∀ (n10 : Nat) (a7 : Int32) (F9 : Nat → Int32) (L9 : Nat → Int64) (A9 : Nat → Nat → Int32) (B9 : Nat → Nat → Int64) (H : Heap) (locs : List Loc) (ls : Array Slot), (80 - a7.toInt).toNat < n10 → rg a7 0 80 → qM [10] [17, 27] F A F9 A9 → (exI (sN F A) (hN F A) (A9 17) (A9 27) ((F 14).toInt + (F 15).toInt)) → va_P D classes (wM cA ad F9 L9 A9 B9) H → va_D Af (wM cA ad F9 L9 A9 B9) → va_S Af s.heap H locs → lv_has ls 4 [(0, .ref (ad 0)), (1, .int x4), (2, .int a7)] → W p l e rm_X12_exchange_0 s m args below meth c H locs 0 0 Q (F0 m 10 ls []) := by
    intro n10
    induction n10 with
    | zero =>
      intro _ _ _ _ _ _ _ _ hn
      exact absurd hn (Nat.not_lt_zero _)
    | succ n10 ih10 =>
      intro a7 F9 L9 A9 B9 H locs ls hn10 r8 hq v10 hP hD hS hl
      refine lv_iload_n hx hb dX12_exchange_10 rfl (lv_at hl 2 rfl) ?_
      refine lv_bipush (v := 80) hx hb dX12_exchange_11 (by decide) ?_
      refine lv_icmp_ge (tgt := 52) hx hb dX12_exchange_13 (by decide) (fun c11 => ?_) (fun c11 => ?_)
      · skip
        have r12 : rg a7 80 80 := rg_le2 (iE c11) ((rg_k (by decide)) : rg 80 80 80) (r8 : rg a7 0 80)
        refine lv_aload_n hx hb dX12_exchange_52 rfl (lv_at hl 0 rfl) ?_
        refine va_get (ci := 12) (v := .ref (ad 27)) (C := RX12) (T := TX12) (N := 57) hx hb hg inX12 hown hK hP 0 atM_0 rfl 41 (by decide) (hg _ mw_1149) (fun _ h9 => h9) rfl dX12_exchange_53 ?_
        refine lv_iload_n hx hb dX12_exchange_56 rfl (lv_at hl 1 rfl) ?_
        refine lv_bipush (v := 80) hx hb dX12_exchange_57 (by decide) ?_
        refine lv_iadd hx hb dX12_exchange_59 ?_
        refine lv_topi (fun x14 e15 => ?_)
        have r16 : rg x14 80 3320 := rg_add e15 r6 ((rg_k (by decide)) : rg 80 80 80) (by decide)
        refine va_iald hx hb hK hP 27 26 atM_27 tyM_27 (in_rg r16 (by decide)) dX12_exchange_60 ?_
        refine lv_topi (fun x17 e18 => ?_)
        refine lv_istore_n (lv' := [(2, .int x17), (0, .ref (ad 0)), (1, .int x4)]) hx hb dX12_exchange_61 rfl hl (by decide) rfl (fun ls hl => ?_)
        refine lv_aload_n hx hb dX12_exchange_62 rfl (lv_at hl 1 rfl) ?_
        refine va_get (ci := 12) (v := .ref (ad 27)) (C := RX12) (T := TX12) (N := 57) hx hb hg inX12 hown hK hP 0 atM_0 rfl 41 (by decide) (hg _ mw_1149) (fun _ h9 => h9) rfl dX12_exchange_63 ?_
        refine lv_iload_n hx hb dX12_exchange_66 rfl (lv_at hl 2 rfl) ?_
        refine lv_bipush (v := 80) hx hb dX12_exchange_67 (by decide) ?_
        refine lv_iadd hx hb dX12_exchange_69 ?_
        refine tope e15 ?_
        refine lv_aload_n hx hb dX12_exchange_70 rfl (lv_at hl 1 rfl) ?_
        refine va_get (ci := 12) (v := .int (F9 10)) (C := RX12) (T := TX12) (N := 57) hx hb hg inX12 hown hK hP 0 atM_0 rfl 28 (by decide) (hg _ mw_1136) (fun _ h9 => h9) rfl dX12_exchange_71 ?_
        refine lv_topi (fun x19 e20 => ?_)
        refine va_iast hx hb hK hP hD hS 27 26 atM_27 tyM_27 (in_rg r16 (by decide)) dX12_exchange_74 (fun H locs hP hD hS => ?_)
        have hq := hq.ast 27 (x14).toNatClampNeg (x := x19) (by decide) (rg_top _)
        rw [setM_27] at hP hD
        have k21 : x19 = (va_up A9 27 (upd (A9 27) (x14).toNatClampNeg x19)) 27 (x14).toNatClampNeg := (rdA).symm
        refine lv_aload_n hx hb dX12_exchange_75 rfl (lv_at hl 1 rfl) ?_
        refine lv_iload_n hx hb dX12_exchange_76 rfl (lv_at hl 0 rfl) ?_
        refine va_put (ci := 12) (v := .int x17) (ty := .int) (C := RX12) (T := TX12) (N := 57) hx hb hg inX12 tyX12 tyX12_ok nmX12 hown hK hP hD hS 0 atM_0 rfl 28 (by decide) (hg _ mw_1136) (fun _ h9 => h9) rfl (by decide +kernel) rfl rfl (Nat.le_of_ble_eq_true rfl) dX12_exchange_77 (fun H locs hP hD hS => ?_)
        have hq := hq.put 10 (x := x17) (by decide) (rg_top _)
        rw [setFM_10] at hP hD
        exact hret ((upd F9 10 x17), L9, (va_up A9 27 (upd (A9 27) (x14).toNatClampNeg x19)), B9) H locs 80 ls dX12_exchange_80 hP hD hS ⟨hq, (show LM (upd F9 10 x17) (va_up A9 27 (upd (A9 27) (x14).toNatClampNeg x19)) from LM.was hLM (hq.2.1 8 (by decide)) (hq.2.2 3 (by decide)) (hq.2.2 4 (by decide)) (hq.2.2 10 (by decide)) (hq.2.2 36 (by decide)) (hq.2.2 37 (by decide)) v10.1 (fun i hi => (ex_end v10 (r3 : rg x1 0 40) e5 e15).2 i (by rw [show (upd F9 10 x17) 14 = F 14 from hq.2.1 14 (by decide), show (upd F9 10 x17) 15 = F 15 from hq.2.1 15 (by decide)] at hi; exact hi)))⟩
      · skip
        have r13 : rg a7 0 79 := rg_lt1 (iNE c11) (r8 : rg a7 0 80) ((rg_k (by decide)) : rg 80 80 80)
        refine lv_aload_n hx hb dX12_exchange_16 rfl (lv_at hl 0 rfl) ?_
        refine va_get (ci := 12) (v := .ref (ad 27)) (C := RX12) (T := TX12) (N := 57) hx hb hg inX12 hown hK hP 0 atM_0 rfl 41 (by decide) (hg _ mw_1149) (fun _ h9 => h9) rfl dX12_exchange_17 ?_
        refine lv_iload_n hx hb dX12_exchange_20 rfl (lv_at hl 1 rfl) ?_
        refine lv_iload_n hx hb dX12_exchange_21 rfl (lv_at hl 2 rfl) ?_
        refine lv_iadd hx hb dX12_exchange_22 ?_
        refine lv_topi (fun x22 e23 => ?_)
        have r24 : rg x22 0 3319 := rg_add e23 r6 r13 (by decide)
        refine va_iald hx hb hK hP 27 26 atM_27 tyM_27 (in_rg r24 (by decide)) dX12_exchange_23 ?_
        refine lv_topi (fun x25 e26 => ?_)
        refine lv_istore_n (lv' := [(3, .int x25), (0, .ref (ad 0)), (1, .int x4), (2, .int a7)]) hx hb dX12_exchange_24 rfl hl (by decide) rfl (fun ls hl => ?_)
        refine lv_aload_n hx hb dX12_exchange_25 rfl (lv_at hl 1 rfl) ?_
        refine va_get (ci := 12) (v := .ref (ad 27)) (C := RX12) (T := TX12) (N := 57) hx hb hg inX12 hown hK hP 0 atM_0 rfl 41 (by decide) (hg _ mw_1149) (fun _ h9 => h9) rfl dX12_exchange_26 ?_
        refine lv_iload_n hx hb dX12_exchange_29 rfl (lv_at hl 2 rfl) ?_
        refine lv_iload_n hx hb dX12_exchange_30 rfl (lv_at hl 3 rfl) ?_
        refine lv_iadd hx hb dX12_exchange_31 ?_
        refine tope e23 ?_
        refine lv_aload_n hx hb dX12_exchange_32 rfl (lv_at hl 1 rfl) ?_
        refine va_get (ci := 12) (v := .ref (ad 17)) (C := RX12) (T := TX12) (N := 57) hx hb hg inX12 hown hK hP 0 atM_0 rfl 27 (by decide) (hg _ mw_1135) (fun _ h9 => h9) rfl dX12_exchange_33 ?_
        refine lv_iload_n hx hb dX12_exchange_36 rfl (lv_at hl 3 rfl) ?_
        refine va_iald hx hb hK hP 17 16 atM_17 tyM_17 (in_rg r13 (by decide)) dX12_exchange_37 ?_
        refine lv_topi (fun x27 e28 => ?_)
        refine va_iast hx hb hK hP hD hS 27 26 atM_27 tyM_27 (in_rg r24 (by decide)) dX12_exchange_38 (fun H locs hP hD hS => ?_)
        have hq := hq.ast 27 (x22).toNatClampNeg (x := x27) (by decide) (rg_top _)
        rw [setM_27] at hP hD
        have k29 : x27 = (va_up A9 27 (upd (A9 27) (x22).toNatClampNeg x27)) 27 (x22).toNatClampNeg := (rdA).symm
        refine lv_aload_n hx hb dX12_exchange_39 rfl (lv_at hl 1 rfl) ?_
        refine va_get (ci := 12) (v := .ref (ad 17)) (C := RX12) (T := TX12) (N := 57) hx hb hg inX12 hown hK hP 0 atM_0 rfl 27 (by decide) (hg _ mw_1135) (fun _ h9 => h9) rfl dX12_exchange_40 ?_
        refine lv_iload_n hx hb dX12_exchange_43 rfl (lv_at hl 3 rfl) ?_
        refine lv_iload_n hx hb dX12_exchange_44 rfl (lv_at hl 0 rfl) ?_
        refine va_iast hx hb hK hP hD hS 17 16 atM_17 tyM_17 (in_rg r13 (by decide)) dX12_exchange_45 (fun H locs hP hD hS => ?_)
        have hq := hq.ast 17 (a7).toNatClampNeg (x := x25) (by decide) (rg_top _)
        rw [setM_17] at hP hD
        have k30 : x25 = (va_up (va_up A9 27 (upd (A9 27) (x22).toNatClampNeg x27)) 17 (upd ((va_up A9 27 (upd (A9 27) (x22).toNatClampNeg x27)) 17) (a7).toNatClampNeg x25)) 17 (a7).toNatClampNeg := (rdA).symm
        obtain ⟨x31, e32⟩ : ∃ y : Int32, y = a7 + 1 := ⟨_, rfl⟩
        have r33 : rg x31 1 80 := rg_add e32 r13 (rg_k (by decide) : rg 1 1 1) (by decide)
        refine lv_iinc (v := x31) (lv' := [(2, .int x31), (3, .int x25), (0, .ref (ad 0)), (1, .int x4)]) hx hb dX12_exchange_46 hl (k := 3) rfl (by rw [e32]; rfl) (by decide) rfl (fun ls hl => ?_)
        refine lv_goto (tgt := 10) hx hb dX12_exchange_49 (by decide) ?_
        exact ih10 (x31) (F9) (L9) ((va_up (va_up A9 27 (upd (A9 27) (x22).toNatClampNeg x27)) 17 (upd ((va_up A9 27 (upd (A9 27) (x22).toNatClampNeg x27)) 17) (a7).toNatClampNeg x25))) (B9) H locs ls (by have h0 : (1 : Int32).toInt = 1 := rfl; have h1 := ti_addk e32 r13 (by decide); have h2 : rg x31 0 80 := (rg_w r33 (by decide)); unfold rg at h2; omega) (rg_w r33 (by decide)) hq (ex_step v10 (r3 : rg x1 0 40) (by have := congrArg Int32.toInt e2; omega) (r13 : rg a7 0 79) e5 e23 e26 e28) hP hD hS (lv_sub hl [2, 3, 0] rfl)
  exact J10 _ (0) (F) (L) (A) (B) H locs ls (Nat.lt_succ_self _) (rg_k (by decide)) hq ⟨hLM.1, hLM.2.2.1⟩ hP hD hS (lv_sub hl [2, 1, 0] rfl)
abbrev rm_X12_undo_0 : Room := { frames := 1, cells := 0, slots := 0, locals := 23 }
set_option maxHeartbeats 4000000 in
set_option maxRecDepth 100000 in
theorem c_X12_undo_0 (l : Launch) (D : va_G) (cA : Nat → ClassId) (sz : Nat) (ad : Nat → Nat) (F : Nat → Int32) (L : Nat → Int64) (A : Nat → Nat → Int32) (B : Nat → Nat → Int64)  (hT : typM F A) (hI : xM F) (hLM : LM F A) : Met l yX12_undo (Cond.code yX12_undo cX12_undo 1 (some .boolean) :: GW) rm_X12_undo_0 (mPc D classes (tysM cA) (wM cA ad F L A B) sz [.ref (ad 0)]) (mQi (S := SW) D classes (tysM cA) (wM cA ad F L A B) sz (wfM cA ad) (fun r u => qM [10, 14, 15] [17, 27] F A u.1 u.2.2.1 ∧ xM u.1 ∧ rg r 0 1 ∧ (LM u.1 u.2.2.1))) 0 0 (va_A (wM cA ad F L A B) sz) := by
  refine met_i (own := "ShoeingDayModel") (by decide +kernel) rfl (Nat.le_of_ble_eq_true rfl) ?_
  intro p e s m args below meth c Q Af ls hC hP hD hS hA hl hret
  have hx := hC.1
  have hb := hC.2.1
  have hown := hC.2.2.2.1
  have hg := hC.g
  have hK := hC.K
  have hl : lv_has ls 1 [(0, .ref (ad 0))] := hl
  have hq : qM [10, 14, 15] [17, 27] F A F A := qM.rf hT
  obtain ⟨H, hH⟩ : ∃ H, H = s.heap := ⟨_, rfl⟩
  have hP : va_P D classes (wM cA ad F L A B) H := by rw [hH]; exact hP
  have hS : va_S Af s.heap H [] := by rw [hH]; exact hS
  obtain ⟨locs, hlo⟩ : ∃ q : List Loc, q = [] := ⟨_, rfl⟩
  rw [← hH, ← hlo]
  rw [← hlo] at hS
  refine lv_aload_n hx hb dX12_undo_0 rfl (lv_at hl 0 rfl) ?_
  refine va_get (ci := 12) (v := .int (F 14)) (C := RX12) (T := TX12) (N := 57) hx hb hg inX12 hown hK hP 0 atM_0 rfl 42 (by decide) (hg _ mw_1150) (fun _ h9 => h9) rfl dX12_undo_1 ?_
  refine lv_topi (fun x1 e2 => ?_)
  have r3 : rg x1 0 40 := rg_e e2 (hq.1.1 14)
  refine lv_if_ne (tgt := 9) hx hb dX12_undo_4 (by decide) (fun c4 => ?_) (fun c4 => ?_)
  · skip
    have r5 : rg x1 1 40 := (rg_ne1 c4 (r3 : rg x1 0 40) ((rg_k (by decide)) : rg 0 0 0)).1 rfl
    refine lv_aload_n hx hb dX12_undo_9 rfl (lv_at hl 0 rfl) ?_
    refine lv_dup hx hb dX12_undo_10 rfl ?_
    refine va_get (ci := 12) (v := .int x1) (C := RX12) (T := TX12) (N := 57) hx hb hg inX12 hown hK hP 0 atM_0 rfl 42 (by decide) (hg _ mw_1150) (fun _ h9 => h9) (congrArg (fun z => some (Value.int z)) (e2.symm)) dX12_undo_11 ?_
    refine lv_iconst (v := 1) hx hb dX12_undo_14 (by decide) ?_
    refine lv_isub hx hb dX12_undo_15 ?_
    refine lv_topi (fun x7 e8 => ?_)
    have r9 : rg x7 0 39 := rg_sub e8 r5 ((rg_k (by decide)) : rg 1 1 1) (by decide)
    refine va_put (ci := 12) (v := .int x7) (ty := .int) (C := RX12) (T := TX12) (N := 57) hx hb hg inX12 tyX12 tyX12_ok nmX12 hown hK hP hD hS 0 atM_0 rfl 42 (by decide) (hg _ mw_1150) (fun _ h9 => h9) rfl (by decide +kernel) rfl rfl (Nat.le_of_ble_eq_true rfl) dX12_undo_16 (fun H locs hP hD hS => ?_)
    have hq := hq.put 14 (x := x7) (by decide) (rg_w r9 (by decide))
    rw [setFM_14] at hP hD
    refine lv_aload_n hx hb dX12_undo_19 rfl (lv_at hl 0 rfl) ?_
    refine lv_dup hx hb dX12_undo_20 rfl ?_
    refine va_get (ci := 12) (v := .int (F 15)) (C := RX12) (T := TX12) (N := 57) hx hb hg inX12 hown hK hP 0 atM_0 rfl 43 (by decide) (hg _ mw_1151) (fun _ h9 => h9) rfl dX12_undo_21 ?_
    refine lv_topi (fun x10 e11 => ?_)
    have r12 : rg x10 0 39 := xM.u hI e2 r5 e11
    refine lv_iconst (v := 1) hx hb dX12_undo_24 (by decide) ?_
    refine lv_iadd hx hb dX12_undo_25 ?_
    refine lv_topi (fun x13 e14 => ?_)
    have r15 : rg x13 1 40 := rg_add e14 r12 ((rg_k (by decide)) : rg 1 1 1) (by decide)
    refine va_put (ci := 12) (v := .int x13) (ty := .int) (C := RX12) (T := TX12) (N := 57) hx hb hg inX12 tyX12 tyX12_ok nmX12 hown hK hP hD hS 0 atM_0 rfl 43 (by decide) (hg _ mw_1151) (fun _ h9 => h9) rfl (by decide +kernel) rfl rfl (Nat.le_of_ble_eq_true rfl) dX12_undo_26 (fun H locs hP hD hS => ?_)
    have hq := hq.put 15 (x := x13) (by decide) (rg_w r15 (by decide))
    rw [setFM_15] at hP hD
    refine lv_aload_n hx hb dX12_undo_29 rfl (lv_at hl 0 rfl) ?_
    refine callv_v (As := []) (rest := []) hC (c_X12_exchange_0 l D cA H.size ad (upd (upd F 14 x7) 15 x13) L A B  hq.1 (LM.sum hLM rfl (show x7.toInt + x13.toInt = (F 14).toInt + (F 15).toInt by have := tiS e8 (r5 : rg x1 1 40) (rg_k (by decide) : rg 1 1 1) (by decide); have := tiA e14 (r12 : rg x10 0 39) (rg_k (by decide) : rg 1 1 1) (by decide); have : (1 : Int32).toInt = 1 := rfl; have := congrArg Int32.toInt e2; have := congrArg Int32.toInt e11; omega)) (show 1 ≤ x13.toInt by have := tiA e14 (r12 : rg x10 0 39) (rg_k (by decide) : rg 1 1 1) (by decide); have : (1 : Int32).toInt = 1 := rfl; have := (r12 : rg x10 0 39).1; omega)) (cwV 0 hg (g_V mw_1528 mw_1525 mw_1527 ms_88 mw_20) rfl rfl rfl (by decide +kernel) ⟨(Nat.le_of_ble_eq_true rfl), (Nat.le_of_ble_eq_true rfl)⟩) hP hD hS hA atM_0 rfl rfl hl.1 rfl (Nat.le_of_ble_eq_true rfl) dX12_undo_30 ⟨Nat.zero_le _, Nat.zero_le _⟩ (fun  u H locs hw hP hD hS => ?_)
    obtain ⟨F16, L16, A16, B16⟩ := u
    try dsimp only at hw
    obtain ⟨hq16, g17⟩ := hw
    have hq := hq.call hq16 (by decide)
    have hP : va_P D classes (wM cA ad F16 L16 A16 B16) H := hP
    have hD : va_D Af (wM cA ad F16 L16 A16 B16) := hD
    refine lv_iconst (v := 1) hx hb dX12_undo_33 (by decide) ?_
    exact hret (1) (F16, L16, A16, B16) H locs 34 ls rfl dX12_undo_34 hP hD hS ⟨hq, (xM.of (a := x7) (b := x13) ((hq16.2.1 14 (by decide)).trans (rfl)) ((hq16.2.1 15 (by decide)).trans (rfl)) (xM.tb hI e2 e11 e8 r5 e14 r12)), (rg_k (by decide)), g17⟩
  · skip
    have r6 : rg x1 0 0 := rg_eq1 c4 (r3 : rg x1 0 40) ((rg_k (by decide)) : rg 0 0 0) (by decide)
    refine lv_iconst (v := 0) hx hb dX12_undo_7 (by decide) ?_
    exact hret (0) (F, L, A, B) H locs 8 ls rfl dX12_undo_8 hP hD hS ⟨hq, hI, (rg_k (by decide)), (show LM F A from hLM)⟩
abbrev rm_X12_redo_0 : Room := { frames := 1, cells := 0, slots := 0, locals := 23 }
set_option maxHeartbeats 4000000 in
set_option maxRecDepth 100000 in
theorem c_X12_redo_0 (l : Launch) (D : va_G) (cA : Nat → ClassId) (sz : Nat) (ad : Nat → Nat) (F : Nat → Int32) (L : Nat → Int64) (A : Nat → Nat → Int32) (B : Nat → Nat → Int64)  (hT : typM F A) (hI : xM F) (hLM : LM F A) : Met l yX12_redo (Cond.code yX12_redo cX12_redo 1 (some .boolean) :: GW) rm_X12_redo_0 (mPc D classes (tysM cA) (wM cA ad F L A B) sz [.ref (ad 0)]) (mQi (S := SW) D classes (tysM cA) (wM cA ad F L A B) sz (wfM cA ad) (fun r u => qM [10, 14, 15] [17, 27] F A u.1 u.2.2.1 ∧ xM u.1 ∧ rg r 0 1 ∧ (LM u.1 u.2.2.1))) 0 0 (va_A (wM cA ad F L A B) sz) := by
  refine met_i (own := "ShoeingDayModel") (by decide +kernel) rfl (Nat.le_of_ble_eq_true rfl) ?_
  intro p e s m args below meth c Q Af ls hC hP hD hS hA hl hret
  have hx := hC.1
  have hb := hC.2.1
  have hown := hC.2.2.2.1
  have hg := hC.g
  have hK := hC.K
  have hl : lv_has ls 1 [(0, .ref (ad 0))] := hl
  have hq : qM [10, 14, 15] [17, 27] F A F A := qM.rf hT
  obtain ⟨H, hH⟩ : ∃ H, H = s.heap := ⟨_, rfl⟩
  have hP : va_P D classes (wM cA ad F L A B) H := by rw [hH]; exact hP
  have hS : va_S Af s.heap H [] := by rw [hH]; exact hS
  obtain ⟨locs, hlo⟩ : ∃ q : List Loc, q = [] := ⟨_, rfl⟩
  rw [← hH, ← hlo]
  rw [← hlo] at hS
  refine lv_aload_n hx hb dX12_redo_0 rfl (lv_at hl 0 rfl) ?_
  refine va_get (ci := 12) (v := .int (F 15)) (C := RX12) (T := TX12) (N := 57) hx hb hg inX12 hown hK hP 0 atM_0 rfl 43 (by decide) (hg _ mw_1151) (fun _ h9 => h9) rfl dX12_redo_1 ?_
  refine lv_topi (fun x1 e2 => ?_)
  have r3 : rg x1 0 40 := rg_e e2 (hq.1.1 15)
  refine lv_if_ne (tgt := 9) hx hb dX12_redo_4 (by decide) (fun c4 => ?_) (fun c4 => ?_)
  · skip
    have r5 : rg x1 1 40 := (rg_ne1 c4 (r3 : rg x1 0 40) ((rg_k (by decide)) : rg 0 0 0)).1 rfl
    refine lv_aload_n hx hb dX12_redo_9 rfl (lv_at hl 0 rfl) ?_
    refine callv_v (As := []) (rest := []) hC (c_X12_exchange_0 l D cA H.size ad F L A B  hq.1 hLM (by have := congrArg Int32.toInt e2; have := (r5 : rg x1 1 40).1; omega)) (cwV 0 hg (g_V mw_1528 mw_1525 mw_1527 ms_88 mw_20) rfl rfl rfl (by decide +kernel) ⟨(Nat.le_of_ble_eq_true rfl), (Nat.le_of_ble_eq_true rfl)⟩) hP hD hS hA atM_0 rfl rfl hl.1 rfl (Nat.le_of_ble_eq_true rfl) dX12_redo_10 ⟨Nat.zero_le _, Nat.zero_le _⟩ (fun  u H locs hw hP hD hS => ?_)
    obtain ⟨F7, L7, A7, B7⟩ := u
    try dsimp only at hw
    obtain ⟨hq7, g8⟩ := hw
    have hq := hq.call hq7 (by decide)
    have hP : va_P D classes (wM cA ad F7 L7 A7 B7) H := hP
    have hD : va_D Af (wM cA ad F7 L7 A7 B7) := hD
    refine lv_aload_n hx hb dX12_redo_13 rfl (lv_at hl 0 rfl) ?_
    refine lv_dup hx hb dX12_redo_14 rfl ?_
    refine va_get (ci := 12) (v := .int (F7 14)) (C := RX12) (T := TX12) (N := 57) hx hb hg inX12 hown hK hP 0 atM_0 rfl 42 (by decide) (hg _ mw_1150) (fun _ h9 => h9) rfl dX12_redo_15 ?_
    refine lv_topi (fun x9 e10 => ?_)
    have r11 : rg x9 0 39 := xM.d (xM.fr hI (hq7.2.1 14 (by decide)) (hq7.2.1 15 (by decide))) ((hq7.2.1 15 (by decide)).trans (e2.symm)).symm r5 e10
    refine lv_iconst (v := 1) hx hb dX12_redo_18 (by decide) ?_
    refine lv_iadd hx hb dX12_redo_19 ?_
    refine lv_topi (fun x12 e13 => ?_)
    have r14 : rg x12 1 40 := rg_add e13 r11 ((rg_k (by decide)) : rg 1 1 1) (by decide)
    refine va_put (ci := 12) (v := .int x12) (ty := .int) (C := RX12) (T := TX12) (N := 57) hx hb hg inX12 tyX12 tyX12_ok nmX12 hown hK hP hD hS 0 atM_0 rfl 42 (by decide) (hg _ mw_1150) (fun _ h9 => h9) rfl (by decide +kernel) rfl rfl (Nat.le_of_ble_eq_true rfl) dX12_redo_20 (fun H locs hP hD hS => ?_)
    have hq := hq.put 14 (x := x12) (by decide) (rg_w r14 (by decide))
    rw [setFM_14] at hP hD
    refine lv_aload_n hx hb dX12_redo_23 rfl (lv_at hl 0 rfl) ?_
    refine lv_dup hx hb dX12_redo_24 rfl ?_
    refine va_get (ci := 12) (v := .int x1) (C := RX12) (T := TX12) (N := 57) hx hb hg inX12 hown hK hP 0 atM_0 rfl 43 (by decide) (hg _ mw_1151) (fun _ h9 => h9) (congrArg (fun z => some (Value.int z)) ((hq7.2.1 15 (by decide)).trans (e2.symm))) dX12_redo_25 ?_
    refine lv_iconst (v := 1) hx hb dX12_redo_28 (by decide) ?_
    refine lv_isub hx hb dX12_redo_29 ?_
    refine lv_topi (fun x15 e16 => ?_)
    have r17 : rg x15 0 39 := rg_sub e16 r5 ((rg_k (by decide)) : rg 1 1 1) (by decide)
    refine va_put (ci := 12) (v := .int x15) (ty := .int) (C := RX12) (T := TX12) (N := 57) hx hb hg inX12 tyX12 tyX12_ok nmX12 hown hK hP hD hS 0 atM_0 rfl 43 (by decide) (hg _ mw_1151) (fun _ h9 => h9) rfl (by decide +kernel) rfl rfl (Nat.le_of_ble_eq_true rfl) dX12_redo_30 (fun H locs hP hD hS => ?_)
    have hq := hq.put 15 (x := x15) (by decide) (rg_w r17 (by decide))
    rw [setFM_15] at hP hD
    refine lv_iconst (v := 1) hx hb dX12_redo_33 (by decide) ?_
    exact hret (1) ((upd (upd F7 14 x12) 15 x15), L7, A7, B7) H locs 34 ls rfl dX12_redo_34 hP hD hS ⟨hq, (xM.of (a := x12) (b := x15) (rfl) (rfl) (xM.da hI (e10.trans (hq7.2.1 14 (by decide))) e2 e13 r11 e16 r5)), (rg_k (by decide)), (show LM (upd (upd F7 14 x12) 15 x15) A7 from LM.sum g8 rfl (show x12.toInt + x15.toInt = (F7 14).toInt + (F7 15).toInt by have := tiA e13 (r11 : rg x9 0 39) (rg_k (by decide) : rg 1 1 1) (by decide); have := tiS e16 (r5 : rg x1 1 40) (rg_k (by decide) : rg 1 1 1) (by decide); have : (1 : Int32).toInt = 1 := rfl; have := congrArg Int32.toInt e10; have := congrArg Int32.toInt (show F7 15 = x1 from (hq7.2.1 15 (by decide)).trans (e2.symm)); omega))⟩
  · skip
    have r6 : rg x1 0 0 := rg_eq1 c4 (r3 : rg x1 0 40) ((rg_k (by decide)) : rg 0 0 0) (by decide)
    refine lv_iconst (v := 0) hx hb dX12_redo_7 (by decide) ?_
    exact hret (0) (F, L, A, B) H locs 8 ls rfl dX12_redo_8 hP hD hS ⟨hq, hI, (rg_k (by decide)), (show LM F A from hLM)⟩
abbrev rm_X12_round_0 : Room := { frames := 1, cells := 0, slots := 0, locals := 22 }
set_option maxHeartbeats 4000000 in
set_option maxRecDepth 100000 in
theorem c_X12_round_0 (l : Launch) (D : va_G) (cA : Nat → ClassId) (sz : Nat) (ad : Nat → Nat) (F : Nat → Int32) (L : Nat → Int64) (A : Nat → Nat → Int32) (B : Nat → Nat → Int64) (p1 : Int32) (hT : typM F A) : Met l yX12_round (Cond.code yX12_round cX12_round 2 (some .int) :: GW) rm_X12_round_0 (mPc D classes (tysM cA) (wM cA ad F L A B) sz [.ref (ad 0), .int p1]) (mQi (S := SW) D classes (tysM cA) (wM cA ad F L A B) sz (wfM cA ad) (fun r u => qM [16] [28, 29] F A u.1 u.2.2.1 ∧ rg r (-1) 11)) 0 0 (va_A (wM cA ad F L A B) sz) := by
  refine met_i (own := "ShoeingDayModel") (by decide +kernel) rfl (Nat.le_of_ble_eq_true rfl) ?_
  intro p e s m args below meth c Q Af ls hC hP hD hS hA hl hret
  have hx := hC.1
  have hb := hC.2.1
  have hown := hC.2.2.2.1
  have hg := hC.g
  have hK := hC.K
  have hl : lv_has ls 2 [(0, .ref (ad 0)), (1, .int p1)] := hl
  have hq : qM [16] [28, 29] F A F A := qM.rf hT
  obtain ⟨H, hH⟩ : ∃ H, H = s.heap := ⟨_, rfl⟩
  have hP : va_P D classes (wM cA ad F L A B) H := by rw [hH]; exact hP
  have hS : va_S Af s.heap H [] := by rw [hH]; exact hS
  obtain ⟨locs, hlo⟩ : ∃ q : List Loc, q = [] := ⟨_, rfl⟩
  rw [← hH, ← hlo]
  rw [← hlo] at hS
  refine lv_iload_n hx hb dX12_round_0 rfl (lv_at hl 1 rfl) ?_
  refine lv_iconst (v := 1) hx hb dX12_round_1 (by decide) ?_
  refine lv_bipush (v := 99) hx hb dX12_round_2 (by decide) ?_
  refine calls_i (As := [.int p1, .int 1, .int 99]) (rest := []) hC (c_X12_isIn l D (tysM cA) (wM cA ad F L A B) H.size (p1) (1) (99) (rg_k (by decide)) (rg_k (by decide))) (cwS 3 hg (g_S mw_1391 mw_1389 mw_1390 mw_20) rfl rfl rfl (by decide +kernel) ⟨(Nat.le_of_ble_eq_true rfl), (Nat.le_of_ble_eq_true rfl)⟩) hP hD hS hA rfl hl.1 rfl (Nat.le_of_ble_eq_true rfl) dX12_round_4 ⟨Nat.zero_le _, Nat.zero_le _⟩ (fun x1 u H locs hw hP hD hS => ?_)
  obtain ⟨r2, g3, g4⟩ := hw
  have hP : va_P D classes (wM cA ad F L A B) H := hP
  have hD : va_D Af (wM cA ad F L A B) := hD
  have J19 : ∀ (F5 : Nat → Int32) (L5 : Nat → Int64) (A5 : Nat → Nat → Int32) (B5 : Nat → Nat → Int64) (H : Heap) (locs : List Loc) (ls : Array Slot), qM [16] [28, 29] F A F5 A5 → va_P D classes (wM cA ad F5 L5 A5 B5) H → va_D Af (wM cA ad F5 L5 A5 B5) → va_S Af s.heap H locs → lv_has ls 2 [] → W p l e rm_X12_round_0 s m args below meth c H locs 0 0 Q (F0 m 19 ls []) := by
    intro F5 L5 A5 B5 H locs ls hq hP hD hS hl
    refine lv_iconst (v := (-1)) hx hb dX12_round_19 (by decide) ?_
    exact hret ((-1)) (F5, L5, A5, B5) H locs 20 ls rfl dX12_round_20 hP hD hS ⟨hq, (rg_k (by decide))⟩
  refine lv_if_eq (tgt := 19) hx hb dX12_round_7 (by decide) (fun c6 => ?_) (fun c6 => ?_)
  · skip
    have r7 : rg x1 0 0 := rg_eq1 c6 (r2 : rg x1 0 1) ((rg_k (by decide)) : rg 0 0 0) (by decide)
    exact J19 (F) (L) (A) (B) H locs ls hq hP hD hS (lv_sub hl [] rfl)
  · skip
    have g8 := g3.resolve_left c6
    have r9 : rg p1 1 2147483647 := rg_le2 g8.1 ((rg_k (by decide)) : rg 1 1 1) ((rg_top _) : rg p1 (-2147483648) 2147483647)
    have r10 : rg p1 1 99 := rg_le1 g8.2 (r9 : rg p1 1 2147483647) ((rg_k (by decide)) : rg 99 99 99)
    refine lv_aload_n hx hb dX12_round_10 rfl (lv_at hl 0 rfl) ?_
    refine va_get (ci := 12) (v := .int (F 16)) (C := RX12) (T := TX12) (N := 57) hx hb hg inX12 hown hK hP 0 atM_0 rfl 47 (by decide) (hg _ mw_1155) (fun _ h9 => h9) rfl dX12_round_11 ?_
    refine lv_topi (fun x11 e12 => ?_)
    have r13 : rg x11 0 12 := rg_e e12 (hq.1.1 16)
    refine lv_bipush (v := 12) hx hb dX12_round_14 (by decide) ?_
    refine lv_icmp_ne (tgt := 21) hx hb dX12_round_16 (by decide) (fun c14 => ?_) (fun c14 => ?_)
    · skip
      have r15 : rg x11 0 11 := (rg_ne1 c14 (r13 : rg x11 0 12) ((rg_k (by decide)) : rg 12 12 12)).2 rfl
      refine lv_aload_n hx hb dX12_round_21 rfl (lv_at hl 0 rfl) ?_
      refine va_get (ci := 12) (v := .ref (ad 28)) (C := RX12) (T := TX12) (N := 57) hx hb hg inX12 hown hK hP 0 atM_0 rfl 44 (by decide) (hg _ mw_1152) (fun _ h9 => h9) rfl dX12_round_22 ?_
      refine lv_aload_n hx hb dX12_round_25 rfl (lv_at hl 0 rfl) ?_
      refine va_get (ci := 12) (v := .int x11) (C := RX12) (T := TX12) (N := 57) hx hb hg inX12 hown hK hP 0 atM_0 rfl 47 (by decide) (hg _ mw_1155) (fun _ h9 => h9) (congrArg (fun z => some (Value.int z)) (e12.symm)) dX12_round_26 ?_
      refine lv_iload_n hx hb dX12_round_29 rfl (lv_at hl 1 rfl) ?_
      refine va_iast hx hb hK hP hD hS 28 27 atM_28 tyM_28 (in_rg r15 (by decide)) dX12_round_30 (fun H locs hP hD hS => ?_)
      have hq := hq.ast 28 (x11).toNatClampNeg (x := p1) (by decide) (rg_top _)
      rw [setM_28] at hP hD
      have k17 : p1 = (va_up A 28 (upd (A 28) (x11).toNatClampNeg p1)) 28 (x11).toNatClampNeg := (rdA).symm
      refine lv_aload_n hx hb dX12_round_31 rfl (lv_at hl 0 rfl) ?_
      refine va_get (ci := 12) (v := .ref (ad 29)) (C := RX12) (T := TX12) (N := 57) hx hb hg inX12 hown hK hP 0 atM_0 rfl 45 (by decide) (hg _ mw_1153) (fun _ h9 => h9) rfl dX12_round_32 ?_
      refine lv_aload_n hx hb dX12_round_35 rfl (lv_at hl 0 rfl) ?_
      refine va_get (ci := 12) (v := .int x11) (C := RX12) (T := TX12) (N := 57) hx hb hg inX12 hown hK hP 0 atM_0 rfl 47 (by decide) (hg _ mw_1155) (fun _ h9 => h9) (congrArg (fun z => some (Value.int z)) (e12.symm)) dX12_round_36 ?_
      refine lv_iconst (v := 0) hx hb dX12_round_39 (by decide) ?_
      refine va_iast hx hb hK hP hD hS 29 28 atM_29 tyM_29 (in_rg r15 (by decide)) dX12_round_40 (fun H locs hP hD hS => ?_)
      have hq := hq.ast 29 (x11).toNatClampNeg (x := 0) (by decide) (rg_k (by decide))
      rw [setM_29] at hP hD
      have k18 : (0 : Int32) = (va_up (va_up A 28 (upd (A 28) (x11).toNatClampNeg p1)) 29 (upd ((va_up A 28 (upd (A 28) (x11).toNatClampNeg p1)) 29) (x11).toNatClampNeg 0)) 29 (x11).toNatClampNeg := (rdA).symm
      refine lv_aload_n hx hb dX12_round_41 rfl (lv_at hl 0 rfl) ?_
      refine lv_dup hx hb dX12_round_42 rfl ?_
      refine va_get (ci := 12) (v := .int x11) (C := RX12) (T := TX12) (N := 57) hx hb hg inX12 hown hK hP 0 atM_0 rfl 47 (by decide) (hg _ mw_1155) (fun _ h9 => h9) (congrArg (fun z => some (Value.int z)) (e12.symm)) dX12_round_43 ?_
      refine lv_iconst (v := 1) hx hb dX12_round_46 (by decide) ?_
      refine lv_iadd hx hb dX12_round_47 ?_
      refine lv_topi (fun x19 e20 => ?_)
      have r21 : rg x19 1 12 := rg_add e20 r15 ((rg_k (by decide)) : rg 1 1 1) (by decide)
      refine va_put (ci := 12) (v := .int x19) (ty := .int) (C := RX12) (T := TX12) (N := 57) hx hb hg inX12 tyX12 tyX12_ok nmX12 hown hK hP hD hS 0 atM_0 rfl 47 (by decide) (hg _ mw_1155) (fun _ h9 => h9) rfl (by decide +kernel) rfl rfl (Nat.le_of_ble_eq_true rfl) dX12_round_48 (fun H locs hP hD hS => ?_)
      have hq := hq.put 16 (x := x19) (by decide) (rg_w r21 (by decide))
      rw [setFM_16] at hP hD
      refine lv_aload_n hx hb dX12_round_51 rfl (lv_at hl 0 rfl) ?_
      refine va_get (ci := 12) (v := .int x19) (C := RX12) (T := TX12) (N := 57) hx hb hg inX12 hown hK hP 0 atM_0 rfl 47 (by decide) (hg _ mw_1155) (fun _ h9 => h9) (congrArg (fun z => some (Value.int z)) (rfl)) dX12_round_52 ?_
      refine lv_iconst (v := 1) hx hb dX12_round_55 (by decide) ?_
      refine lv_isub hx hb dX12_round_56 ?_
      refine lv_topi (fun x22 e23 => ?_)
      have r24 : rg x22 0 11 := rg_sub e23 r21 ((rg_k (by decide)) : rg 1 1 1) (by decide)
      exact hret (x22) ((upd F 16 x19), L, (va_up (va_up A 28 (upd (A 28) (x11).toNatClampNeg p1)) 29 (upd ((va_up A 28 (upd (A 28) (x11).toNatClampNeg p1)) 29) (x11).toNatClampNeg 0)), B) H locs 57 ls rfl dX12_round_57 hP hD hS ⟨hq, (rg_w r24 (by decide))⟩
    · skip
      have r16 : rg x11 12 12 := rg_eq1 c14 (r13 : rg x11 0 12) ((rg_k (by decide)) : rg 12 12 12) (by decide)
      exact J19 (F) (L) (A) (B) H locs ls hq hP hD hS (lv_sub hl [] rfl)
