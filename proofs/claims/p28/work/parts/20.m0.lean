abbrev rm_X12_feed_0 : Room := { frames := 0, cells := 0, slots := 0, locals := 0 }
set_option maxHeartbeats 4000000 in
set_option maxRecDepth 100000 in
theorem c_X12_feed_0 (l : Launch) (D : va_G) (cA : Nat → ClassId) (sz : Nat) (ad : Nat → Nat) (F : Nat → Int32) (L : Nat → Int64) (A : Nat → Nat → Int32) (B : Nat → Nat → Int64) (p1 : Int32) (p2 : Int32) (p3 : Int32) (p4 : Int32) (p5 : Int32) (hT : typM F A) : Met l yX12_feed (Cond.code yX12_feed cX12_feed 8 (some .int) :: GW) rm_X12_feed_0 (mPc D classes (tysM cA) (wM cA ad F L A B) sz [.ref (ad 0), .int p1, .int p2, .int p3, .int p4, .int p5]) (mQi (S := SW) D classes (tysM cA) (wM cA ad F L A B) sz (wfM cA ad) (fun r u => qM [0] [1] F A u.1 u.2.2.1 ∧ rg r (-1) 1700)) 0 0 (va_A (wM cA ad F L A B) sz) := by
  refine met_i (own := "ShoeingDayModel") (by decide +kernel) rfl (Nat.le_of_ble_eq_true rfl) ?_
  intro p e s m args below meth c Q Af ls hC hP hD hS hA hl hret
  have hx := hC.1
  have hb := hC.2.1
  have hown := hC.2.2.2.1
  have hg := hC.g
  have hK := hC.K
  have hl : lv_has ls 8 [(0, .ref (ad 0)), (1, .int p1), (2, .int p2), (3, .int p3), (4, .int p4), (5, .int p5)] := hl
  have hq : qM [0] [1] F A F A := qM.rf hT
  obtain ⟨H, hH⟩ : ∃ H, H = s.heap := ⟨_, rfl⟩
  have hP : va_P D classes (wM cA ad F L A B) H := by rw [hH]; exact hP
  have hS : va_S Af s.heap H [] := by rw [hH]; exact hS
  obtain ⟨locs, hlo⟩ : ∃ q : List Loc, q = [] := ⟨_, rfl⟩
  rw [← hH, ← hlo]
  rw [← hlo] at hS
  refine lv_aload_n hx hb dX12_feed_0 rfl (lv_at hl 0 rfl) ?_
  refine va_get (ci := 12) (v := .int (F 0)) (C := RX12) (T := TX12) (N := 57) hx hb hg inX12 hown hK hP 0 atM_0 rfl 2 (by decide) (hg _ mw_1110) (fun _ h9 => h9) rfl dX12_feed_1 ?_
  refine lv_topi (fun x1 e2 => ?_)
  have r3 : rg x1 0 1700 := rg_e e2 (hq.1.1 0)
  refine lv_bipush (v := 20) hx hb dX12_feed_4 (by decide) ?_
  refine lv_iadd hx hb dX12_feed_6 ?_
  refine lv_topi (fun x4 e5 => ?_)
  have r6 : rg x4 20 1720 := rg_add e5 r3 ((rg_k (by decide)) : rg 20 20 20) (by decide)
  refine lv_sipush (v := 1700) hx hb dX12_feed_7 (by decide) ?_
  refine lv_icmp_le (tgt := 15) hx hb dX12_feed_10 (by decide) (fun c7 => ?_) (fun c7 => ?_)
  · skip
    have r8 : rg x4 20 1700 := rg_le1 (iE c7) (r6 : rg x4 20 1720) ((rg_k (by decide)) : rg 1700 1700 1700)
    refine lv_iconst (v := 0) hx hb dX12_feed_15 (by decide) ?_
    refine lv_istore (lv' := [(6, .int 0), (0, .ref (ad 0)), (1, .int p1), (2, .int p2), (3, .int p3), (4, .int p4), (5, .int p5)]) hx hb dX12_feed_16 hl (by decide) rfl (fun ls hl => ?_)
    have J18 : ∀ (n18 : Nat) (a10 : Int32) (F12 : Nat → Int32) (L12 : Nat → Int64) (A12 : Nat → Nat → Int32) (B12 : Nat → Nat → Int64) (H : Heap) (locs : List Loc) (ls : Array Slot), (20 - a10.toInt).toNat < n18 → rg a10 0 20 → qM [0] [1] F A F12 A12 → F12 0 = x1 → va_P D classes (wM cA ad F12 L12 A12 B12) H → va_D Af (wM cA ad F12 L12 A12 B12) → va_S Af s.heap H locs → lv_has ls 8 [(0, .ref (ad 0)), (1, .int p1), (2, .int p2), (3, .int p3), (4, .int p4), (5, .int p5), (6, .int a10)] → W p l e rm_X12_feed_0 s m args below meth c H locs 0 0 Q (F0 m 18 ls []) := by
      intro n18
      induction n18 with
      | zero =>
        intro _ _ _ _ _ _ _ _ hn
        exact absurd hn (Nat.not_lt_zero _)
      | succ n18 ih18 =>
        intro a10 F12 L12 A12 B12 H locs ls hn18 r11 hq f13 hP hD hS hl
        refine lv_iload hx hb dX12_feed_18 (lv_at hl 6 rfl) ?_
        refine lv_bipush (v := 20) hx hb dX12_feed_20 (by decide) ?_
        refine lv_icmp_ge (tgt := 105) hx hb dX12_feed_22 (by decide) (fun c14 => ?_) (fun c14 => ?_)
        · skip
          have r15 : rg a10 20 20 := rg_le2 (iE c14) ((rg_k (by decide)) : rg 20 20 20) (r11 : rg a10 0 20)
          refine lv_aload_n hx hb dX12_feed_105 rfl (lv_at hl 0 rfl) ?_
          refine lv_dup hx hb dX12_feed_106 rfl ?_
          refine va_get (ci := 12) (v := .int x1) (C := RX12) (T := TX12) (N := 57) hx hb hg inX12 hown hK hP 0 atM_0 rfl 2 (by decide) (hg _ mw_1110) (fun _ h9 => h9) (congrArg (fun z => some (Value.int z)) (f13)) dX12_feed_107 ?_
          refine lv_bipush (v := 20) hx hb dX12_feed_110 (by decide) ?_
          refine lv_iadd hx hb dX12_feed_112 ?_
          refine tope e5 ?_
          refine va_put (ci := 12) (v := .int x4) (ty := .int) (C := RX12) (T := TX12) (N := 57) hx hb hg inX12 tyX12 tyX12_ok nmX12 hown hK hP hD hS 0 atM_0 rfl 2 (by decide) (hg _ mw_1110) (fun _ h9 => h9) rfl (by decide +kernel) rfl rfl (Nat.le_of_ble_eq_true rfl) dX12_feed_113 (fun H locs hP hD hS => ?_)
          have hq := hq.put 0 (x := x4) (by decide) (rg_w r8 (by decide))
          rw [setFM_0] at hP hD
          refine lv_aload_n hx hb dX12_feed_116 rfl (lv_at hl 0 rfl) ?_
          refine va_get (ci := 12) (v := .int x4) (C := RX12) (T := TX12) (N := 57) hx hb hg inX12 hown hK hP 0 atM_0 rfl 2 (by decide) (hg _ mw_1110) (fun _ h9 => h9) (congrArg (fun z => some (Value.int z)) (rfl)) dX12_feed_117 ?_
          exact hret (x4) ((upd F12 0 x4), L12, A12, B12) H locs 120 ls rfl dX12_feed_120 hP hD hS ⟨hq, (rg_w r8 (by decide))⟩
        · skip
          have r16 : rg a10 0 19 := rg_lt1 (iNE c14) (r11 : rg a10 0 20) ((rg_k (by decide)) : rg 20 20 20)
          refine lv_iload hx hb dX12_feed_25 (lv_at hl 6 rfl) ?_
          refine lv_iconst (v := 4) hx hb dX12_feed_27 (by decide) ?_
          have J71 : ∀ (a17 : Int32) (F18 : Nat → Int32) (L18 : Nat → Int64) (A18 : Nat → Nat → Int32) (B18 : Nat → Nat → Int64) (H : Heap) (locs : List Loc) (ls : Array Slot), qM [0] [1] F A F18 A18 → F18 0 = x1 → va_P D classes (wM cA ad F18 L18 A18 B18) H → va_D Af (wM cA ad F18 L18 A18 B18) → va_S Af s.heap H locs → lv_has ls 8 [(0, .ref (ad 0)), (1, .int p1), (2, .int p2), (3, .int p3), (4, .int p4), (5, .int p5), (6, .int a10)] → W p l e rm_X12_feed_0 s m args below meth c H locs 0 0 Q (F0 m 71 ls [.int a17]) := by
            intro a17 F18 L18 A18 B18 H locs ls hq f19 hP hD hS hl
            refine lv_istore (lv' := [(7, .int a17), (0, .ref (ad 0)), (1, .int p1), (2, .int p2), (3, .int p3), (4, .int p4), (5, .int p5), (6, .int a10)]) hx hb dX12_feed_71 hl (by decide) rfl (fun ls hl => ?_)
            refine lv_aload_n hx hb dX12_feed_73 rfl (lv_at hl 1 rfl) ?_
            refine va_get (ci := 12) (v := .ref (ad 1)) (C := RX12) (T := TX12) (N := 57) hx hb hg inX12 hown hK hP 0 atM_0 rfl 0 (by decide) (hg _ mw_1108) (fun _ h9 => h9) rfl dX12_feed_74 ?_
            refine lv_aload_n hx hb dX12_feed_77 rfl (lv_at hl 1 rfl) ?_
            refine va_get (ci := 12) (v := .int x1) (C := RX12) (T := TX12) (N := 57) hx hb hg inX12 hown hK hP 0 atM_0 rfl 2 (by decide) (hg _ mw_1110) (fun _ h9 => h9) (congrArg (fun z => some (Value.int z)) (f19)) dX12_feed_78 ?_
            refine lv_iload hx hb dX12_feed_81 (lv_at hl 7 rfl) ?_
            refine lv_iadd hx hb dX12_feed_83 ?_
            refine lv_topi (fun x20 e21 => ?_)
            have r22 : rg x20 0 1719 := rg_add e21 r3 r16 (by decide)
            refine lv_iload hx hb dX12_feed_84 (lv_at hl 0 rfl) ?_
            refine lv_bipush (v := 24) hx hb dX12_feed_86 (by decide) ?_
            refine lv_bipush (v := 8) hx hb dX12_feed_88 (by decide) ?_
            refine lv_iload hx hb dX12_feed_90 (lv_at hl 7 rfl) ?_
            refine lv_iconst (v := 3) hx hb dX12_feed_92 (by decide) ?_
            refine lv_iand hx hb dX12_feed_93 ?_
            refine lv_topi (fun x23 e24 => ?_)
            have r25 : rg x23 0 3 := rg_andr e24 ((rg_k (by decide)) : rg 3 3 3) (by decide)
            refine lv_imul hx hb dX12_feed_94 ?_
            refine lv_topi (fun x26 e27 => ?_)
            have r28 : rg x26 0 24 := rg_mul e27 ((rg_k (by decide)) : rg 8 8 8) r25 (by decide)
            refine lv_isub hx hb dX12_feed_95 ?_
            refine lv_topi (fun x29 e30 => ?_)
            have r31 : rg x29 0 24 := rg_sub e30 ((rg_k (by decide)) : rg 24 24 24) r28 (by decide)
            refine lv_ishr hx hb dX12_feed_96 ?_
            refine lv_topi (fun x32 e33 => ?_)
            refine lv_i2b hx hb dX12_feed_97 rfl ?_
            refine lv_topi (fun x34 e35 => ?_)
            refine va_bast hx hb hK hP hD hS 1 0 atM_1 tyM_1 (in_rg r22 (by decide)) dX12_feed_98 (fun H locs hP hD hS => ?_)
            have hq := hq.ast 1 (x20).toNatClampNeg (x := (vp_nar .byte x34)) (by decide) (rg_top _)
            rw [setM_1] at hP hD
            obtain ⟨x36, e37⟩ : ∃ y : Int32, y = a10 + 1 := ⟨_, rfl⟩
            have r38 : rg x36 1 20 := rg_add e37 r16 (rg_k (by decide) : rg 1 1 1) (by decide)
            refine lv_iinc (v := x36) (lv' := [(6, .int x36), (7, .int a17), (0, .ref (ad 0)), (1, .int p1), (2, .int p2), (3, .int p3), (4, .int p4), (5, .int p5)]) hx hb dX12_feed_99 hl (k := 7) rfl (by rw [e37]; rfl) (by decide) rfl (fun ls hl => ?_)
            refine lv_goto (tgt := 18) hx hb dX12_feed_102 (by decide) ?_
            exact ih18 (x36) (F18) (L18) ((va_up A18 1 (upd (A18 1) (x20).toNatClampNeg (vp_nar .byte x34)))) (B18) H locs ls (by have h0 : (1 : Int32).toInt = 1 := rfl; have h1 := ti_addk e37 r16 (by decide); have h2 : rg x36 0 20 := (rg_w r38 (by decide)); unfold rg at h2; omega) (rg_w r38 (by decide)) hq (f19) hP hD hS (lv_sub hl [2, 3, 4, 5, 6, 7, 0] rfl)
          refine lv_icmp_ge (tgt := 35) hx hb dX12_feed_28 (by decide) (fun c39 => ?_) (fun c39 => ?_)
          · skip
            have r40 : rg a10 4 19 := rg_le2 (iE c39) ((rg_k (by decide)) : rg 4 4 4) (r16 : rg a10 0 19)
            refine lv_iload hx hb dX12_feed_35 (lv_at hl 6 rfl) ?_
            refine lv_bipush (v := 8) hx hb dX12_feed_37 (by decide) ?_
            refine lv_icmp_ge (tgt := 46) hx hb dX12_feed_39 (by decide) (fun c42 => ?_) (fun c42 => ?_)
            · skip
              have r43 : rg a10 8 19 := rg_le2 (iE c42) ((rg_k (by decide)) : rg 8 8 8) (r40 : rg a10 4 19)
              refine lv_iload hx hb dX12_feed_46 (lv_at hl 6 rfl) ?_
              refine lv_bipush (v := 12) hx hb dX12_feed_48 (by decide) ?_
              refine lv_icmp_ge (tgt := 57) hx hb dX12_feed_50 (by decide) (fun c45 => ?_) (fun c45 => ?_)
              · skip
                have r46 : rg a10 12 19 := rg_le2 (iE c45) ((rg_k (by decide)) : rg 12 12 12) (r43 : rg a10 8 19)
                refine lv_iload hx hb dX12_feed_57 (lv_at hl 6 rfl) ?_
                refine lv_bipush (v := 16) hx hb dX12_feed_59 (by decide) ?_
                refine lv_icmp_ge (tgt := 69) hx hb dX12_feed_61 (by decide) (fun c48 => ?_) (fun c48 => ?_)
                · skip
                  have r49 : rg a10 16 19 := rg_le2 (iE c48) ((rg_k (by decide)) : rg 16 16 16) (r46 : rg a10 12 19)
                  refine lv_iload hx hb dX12_feed_69 (lv_at hl 5 rfl) ?_
                  exact J71 (p5) (F12) (L12) (A12) (B12) H locs ls hq (f13) hP hD hS (lv_sub hl [0, 1, 2, 3, 4, 5, 6] rfl)
                · skip
                  have r50 : rg a10 12 15 := rg_lt1 (iNE c48) (r46 : rg a10 12 19) ((rg_k (by decide)) : rg 16 16 16)
                  refine lv_iload hx hb dX12_feed_64 (lv_at hl 4 rfl) ?_
                  refine lv_goto (tgt := 71) hx hb dX12_feed_66 (by decide) ?_
                  exact J71 (p4) (F12) (L12) (A12) (B12) H locs ls hq (f13) hP hD hS (lv_sub hl [0, 1, 2, 3, 4, 5, 6] rfl)
              · skip
                have r47 : rg a10 8 11 := rg_lt1 (iNE c45) (r43 : rg a10 8 19) ((rg_k (by decide)) : rg 12 12 12)
                refine lv_iload_n hx hb dX12_feed_53 rfl (lv_at hl 3 rfl) ?_
                refine lv_goto (tgt := 71) hx hb dX12_feed_54 (by decide) ?_
                exact J71 (p3) (F12) (L12) (A12) (B12) H locs ls hq (f13) hP hD hS (lv_sub hl [0, 1, 2, 3, 4, 5, 6] rfl)
            · skip
              have r44 : rg a10 4 7 := rg_lt1 (iNE c42) (r40 : rg a10 4 19) ((rg_k (by decide)) : rg 8 8 8)
              refine lv_iload_n hx hb dX12_feed_42 rfl (lv_at hl 2 rfl) ?_
              refine lv_goto (tgt := 71) hx hb dX12_feed_43 (by decide) ?_
              exact J71 (p2) (F12) (L12) (A12) (B12) H locs ls hq (f13) hP hD hS (lv_sub hl [0, 1, 2, 3, 4, 5, 6] rfl)
          · skip
            have r41 : rg a10 0 3 := rg_lt1 (iNE c39) (r16 : rg a10 0 19) ((rg_k (by decide)) : rg 4 4 4)
            refine lv_iload_n hx hb dX12_feed_31 rfl (lv_at hl 1 rfl) ?_
            refine lv_goto (tgt := 71) hx hb dX12_feed_32 (by decide) ?_
            exact J71 (p1) (F12) (L12) (A12) (B12) H locs ls hq (f13) hP hD hS (lv_sub hl [0, 1, 2, 3, 4, 5, 6] rfl)
    exact J18 _ (0) (F) (L) (A) (B) H locs ls (Nat.lt_succ_self _) (rg_k (by decide)) hq (e2.symm) hP hD hS (lv_sub hl [1, 2, 3, 4, 5, 6, 0] rfl)
  · skip
    have r9 : rg x4 1701 1720 := rg_lt2 (iNE c7) ((rg_k (by decide)) : rg 1700 1700 1700) (r6 : rg x4 20 1720)
    refine lv_iconst (v := (-1)) hx hb dX12_feed_13 (by decide) ?_
    exact hret ((-1)) (F, L, A, B) H locs 14 ls rfl dX12_feed_14 hP hD hS ⟨hq, (rg_k (by decide))⟩
abbrev rm_X12_end_0 : Room := { frames := 0, cells := 0, slots := 0, locals := 0 }
set_option maxHeartbeats 4000000 in
set_option maxRecDepth 100000 in
theorem c_X12_end_0 (l : Launch) (D : va_G) (cA : Nat → ClassId) (sz : Nat) (ad : Nat → Nat) (F : Nat → Int32) (L : Nat → Int64) (A : Nat → Nat → Int32) (B : Nat → Nat → Int64) (p1 : Int32) (hT : typM F A) : Met l yX12_end (Cond.code yX12_end cX12_end 2 (some .int) :: GW) rm_X12_end_0 (mPc D classes (tysM cA) (wM cA ad F L A B) sz [.ref (ad 0), .int p1]) (mQi (S := SW) D classes (tysM cA) (wM cA ad F L A B) sz (wfM cA ad) (fun r u => qM [0] [] F A u.1 u.2.2.1 ∧ rg r (-1) 1700)) 0 0 (va_A (wM cA ad F L A B) sz) := by
  refine met_i (own := "ShoeingDayModel") (by decide +kernel) rfl (Nat.le_of_ble_eq_true rfl) ?_
  intro p e s m args below meth c Q Af ls hC hP hD hS hA hl hret
  have hx := hC.1
  have hb := hC.2.1
  have hown := hC.2.2.2.1
  have hg := hC.g
  have hK := hC.K
  have hl : lv_has ls 2 [(0, .ref (ad 0)), (1, .int p1)] := hl
  have hq : qM [0] [] F A F A := qM.rf hT
  obtain ⟨H, hH⟩ : ∃ H, H = s.heap := ⟨_, rfl⟩
  have hP : va_P D classes (wM cA ad F L A B) H := by rw [hH]; exact hP
  have hS : va_S Af s.heap H [] := by rw [hH]; exact hS
  obtain ⟨locs, hlo⟩ : ∃ q : List Loc, q = [] := ⟨_, rfl⟩
  rw [← hH, ← hlo]
  rw [← hlo] at hS
  refine lv_iload_n hx hb dX12_end_0 rfl (lv_at hl 1 rfl) ?_
  have J12 : ∀ (F1 : Nat → Int32) (L1 : Nat → Int64) (A1 : Nat → Nat → Int32) (B1 : Nat → Nat → Int64) (H : Heap) (locs : List Loc) (ls : Array Slot), qM [0] [] F A F1 A1 → va_P D classes (wM cA ad F1 L1 A1 B1) H → va_D Af (wM cA ad F1 L1 A1 B1) → va_S Af s.heap H locs → lv_has ls 2 [] → W p l e rm_X12_end_0 s m args below meth c H locs 0 0 Q (F0 m 12 ls []) := by
    intro F1 L1 A1 B1 H locs ls hq hP hD hS hl
    refine lv_iconst (v := (-1)) hx hb dX12_end_12 (by decide) ?_
    exact hret ((-1)) (F1, L1, A1, B1) H locs 13 ls rfl dX12_end_13 hP hD hS ⟨hq, (rg_k (by decide))⟩
  refine lv_if_lt (tgt := 12) hx hb dX12_end_1 (by decide) (fun c2 => ?_) (fun c2 => ?_)
  · skip
    have r3 : rg p1 (-2147483648) (-1) := rg_lt1 (iL c2) ((rg_top _) : rg p1 (-2147483648) 2147483647) ((rg_k (by decide)) : rg 0 0 0)
    exact J12 (F) (L) (A) (B) H locs ls hq hP hD hS (lv_sub hl [] rfl)
  · skip
    have r4 : rg p1 0 2147483647 := rg_le2 (iNL c2) ((rg_k (by decide)) : rg 0 0 0) ((rg_top _) : rg p1 (-2147483648) 2147483647)
    refine lv_iload_n hx hb dX12_end_4 rfl (lv_at hl 1 rfl) ?_
    refine lv_aload_n hx hb dX12_end_5 rfl (lv_at hl 0 rfl) ?_
    refine va_get (ci := 12) (v := .int (F 0)) (C := RX12) (T := TX12) (N := 57) hx hb hg inX12 hown hK hP 0 atM_0 rfl 2 (by decide) (hg _ mw_1110) (fun _ h9 => h9) rfl dX12_end_6 ?_
    refine lv_topi (fun x5 e6 => ?_)
    have r7 : rg x5 0 1700 := rg_e e6 (hq.1.1 0)
    refine lv_icmp_le (tgt := 14) hx hb dX12_end_9 (by decide) (fun c8 => ?_) (fun c8 => ?_)
    · skip
      have r9 : rg p1 0 1700 := rg_le1 (iE c8) (r4 : rg p1 0 2147483647) (r7 : rg x5 0 1700)
      refine lv_aload_n hx hb dX12_end_14 rfl (lv_at hl 0 rfl) ?_
      refine lv_iload_n hx hb dX12_end_15 rfl (lv_at hl 1 rfl) ?_
      refine va_put (ci := 12) (v := .int p1) (ty := .int) (C := RX12) (T := TX12) (N := 57) hx hb hg inX12 tyX12 tyX12_ok nmX12 hown hK hP hD hS 0 atM_0 rfl 2 (by decide) (hg _ mw_1110) (fun _ h9 => h9) rfl (by decide +kernel) rfl rfl (Nat.le_of_ble_eq_true rfl) dX12_end_16 (fun H locs hP hD hS => ?_)
      have hq := hq.put 0 (x := p1) (by decide) r9
      rw [setFM_0] at hP hD
      refine lv_iload_n hx hb dX12_end_19 rfl (lv_at hl 1 rfl) ?_
      exact hret (p1) ((upd F 0 p1), L, A, B) H locs 20 ls rfl dX12_end_20 hP hD hS ⟨hq, (rg_w r9 (by decide))⟩
    · skip
      have r10 : rg p1 1 2147483647 := rg_lt2 (iNE c8) (r7 : rg x5 0 1700) (r4 : rg p1 0 2147483647)
      exact J12 (F) (L) (A) (B) H locs ls hq hP hD hS (lv_sub hl [] rfl)
abbrev rm_X12_begin_0 : Room := { frames := 0, cells := 0, slots := 0, locals := 0 }
set_option maxHeartbeats 4000000 in
set_option maxRecDepth 100000 in
theorem c_X12_begin_0 (l : Launch) (D : va_G) (cA : Nat → ClassId) (sz : Nat) (ad : Nat → Nat) (F : Nat → Int32) (L : Nat → Int64) (A : Nat → Nat → Int32) (B : Nat → Nat → Int64)  (hT : typM F A) (hI : xM F) : Met l yX12_begin (Cond.code yX12_begin cX12_begin 2 none :: GW) rm_X12_begin_0 (mPc D classes (tysM cA) (wM cA ad F L A B) sz [.ref (ad 0)]) (mQv (S := SW) D classes (tysM cA) (wM cA ad F L A B) sz (wfM cA ad) (fun u => qM [10, 14, 15] [17] F A u.1 u.2.2.1 ∧ xM u.1 ∧ (cpI (u.2.2.1 17) (A 10) 0 (80 * (F 8).toNatClampNeg) 80 ∧ u.1 14 = 0 ∧ u.1 15 = 0))) 0 0 (va_A (wM cA ad F L A B) sz) := by
  refine met_v (own := "ShoeingDayModel") (by decide +kernel) rfl (Nat.le_of_ble_eq_true rfl) ?_
  intro p e s m args below meth c Q Af ls hC hP hD hS hA hl hret
  have hx := hC.1
  have hb := hC.2.1
  have hown := hC.2.2.2.1
  have hg := hC.g
  have hK := hC.K
  have hl : lv_has ls 2 [(0, .ref (ad 0))] := hl
  have hq : qM [10, 14, 15] [17] F A F A := qM.rf hT
  obtain ⟨H, hH⟩ : ∃ H, H = s.heap := ⟨_, rfl⟩
  have hP : va_P D classes (wM cA ad F L A B) H := by rw [hH]; exact hP
  have hS : va_S Af s.heap H [] := by rw [hH]; exact hS
  obtain ⟨locs, hlo⟩ : ∃ q : List Loc, q = [] := ⟨_, rfl⟩
  rw [← hH, ← hlo]
  rw [← hlo] at hS
  refine lv_iconst (v := 0) hx hb dX12_begin_0 (by decide) ?_
  refine lv_istore_n (lv' := [(1, .int 0), (0, .ref (ad 0))]) hx hb dX12_begin_1 rfl hl (by decide) rfl (fun ls hl => ?_)
  have J2 : ∀ (n2 : Nat) (a1 : Int32) (F3 : Nat → Int32) (L3 : Nat → Int64) (A3 : Nat → Nat → Int32) (B3 : Nat → Nat → Int64) (H : Heap) (locs : List Loc) (ls : Array Slot), (80 - a1.toInt).toNat < n2 → rg a1 0 80 → qM [10, 14, 15] [17] F A F3 A3 → xM F3 → (cpI (A3 17) (A 10) 0 (80 * (F 8).toNatClampNeg) a1.toInt) → va_P D classes (wM cA ad F3 L3 A3 B3) H → va_D Af (wM cA ad F3 L3 A3 B3) → va_S Af s.heap H locs → lv_has ls 2 [(0, .ref (ad 0)), (1, .int a1)] → W p l e rm_X12_begin_0 s m args below meth c H locs 0 0 Q (F0 m 2 ls []) := by
    intro n2
    induction n2 with
    | zero =>
      intro _ _ _ _ _ _ _ _ hn
      exact absurd hn (Nat.not_lt_zero _)
    | succ n2 ih2 =>
      intro a1 F3 L3 A3 B3 H locs ls hn2 r2 hq i4 v5 hP hD hS hl
      refine lv_iload_n hx hb dX12_begin_2 rfl (lv_at hl 1 rfl) ?_
      refine lv_bipush (v := 80) hx hb dX12_begin_3 (by decide) ?_
      refine lv_icmp_ge (tgt := 34) hx hb dX12_begin_5 (by decide) (fun c6 => ?_) (fun c6 => ?_)
      · skip
        have r7 : rg a1 80 80 := rg_le2 (iE c6) ((rg_k (by decide)) : rg 80 80 80) (r2 : rg a1 0 80)
        refine lv_aload_n hx hb dX12_begin_34 rfl (lv_at hl 0 rfl) ?_
        refine lv_iconst (v := 0) hx hb dX12_begin_35 (by decide) ?_
        refine va_put (ci := 12) (v := .int 0) (ty := .int) (C := RX12) (T := TX12) (N := 57) hx hb hg inX12 tyX12 tyX12_ok nmX12 hown hK hP hD hS 0 atM_0 rfl 28 (by decide) (hg _ mw_1136) (fun _ h9 => h9) rfl (by decide +kernel) rfl rfl (Nat.le_of_ble_eq_true rfl) dX12_begin_36 (fun H locs hP hD hS => ?_)
        have hq := hq.put 10 (x := 0) (by decide) (rg_k (by decide))
        rw [setFM_10] at hP hD
        refine lv_aload_n hx hb dX12_begin_39 rfl (lv_at hl 0 rfl) ?_
        refine lv_iconst (v := 0) hx hb dX12_begin_40 (by decide) ?_
        refine va_put (ci := 12) (v := .int 0) (ty := .int) (C := RX12) (T := TX12) (N := 57) hx hb hg inX12 tyX12 tyX12_ok nmX12 hown hK hP hD hS 0 atM_0 rfl 42 (by decide) (hg _ mw_1150) (fun _ h9 => h9) rfl (by decide +kernel) rfl rfl (Nat.le_of_ble_eq_true rfl) dX12_begin_41 (fun H locs hP hD hS => ?_)
        have hq := hq.put 14 (x := 0) (by decide) (rg_k (by decide))
        rw [setFM_14] at hP hD
        refine lv_aload_n hx hb dX12_begin_44 rfl (lv_at hl 0 rfl) ?_
        refine lv_iconst (v := 0) hx hb dX12_begin_45 (by decide) ?_
        refine va_put (ci := 12) (v := .int 0) (ty := .int) (C := RX12) (T := TX12) (N := 57) hx hb hg inX12 tyX12 tyX12_ok nmX12 hown hK hP hD hS 0 atM_0 rfl 43 (by decide) (hg _ mw_1151) (fun _ h9 => h9) rfl (by decide +kernel) rfl rfl (Nat.le_of_ble_eq_true rfl) dX12_begin_46 (fun H locs hP hD hS => ?_)
        have hq := hq.put 15 (x := 0) (by decide) (rg_k (by decide))
        rw [setFM_15] at hP hD
        exact hret ((upd (upd (upd F3 10 (0 : Int32)) 14 (0 : Int32)) 15 (0 : Int32)), L3, A3, B3) H locs 49 ls dX12_begin_49 hP hD hS ⟨hq, (xM.of (a := (0 : Int32)) (b := (0 : Int32)) (rfl) (rfl) (by have h1 := ((rg_k (by decide)) : rg (0 : Int32) 0 0); have h2 := ((rg_k (by decide)) : rg (0 : Int32) 0 0); unfold rg at h1 h2; omega)), ⟨cp_end v5 (by have := (r7 : rg a1 80 80).1; omega), rfl, rfl⟩⟩
      · skip
        have r8 : rg a1 0 79 := rg_lt1 (iNE c6) (r2 : rg a1 0 80) ((rg_k (by decide)) : rg 80 80 80)
        refine lv_aload_n hx hb dX12_begin_8 rfl (lv_at hl 0 rfl) ?_
        refine va_get (ci := 12) (v := .ref (ad 17)) (C := RX12) (T := TX12) (N := 57) hx hb hg inX12 hown hK hP 0 atM_0 rfl 27 (by decide) (hg _ mw_1135) (fun _ h9 => h9) rfl dX12_begin_9 ?_
        refine lv_iload_n hx hb dX12_begin_12 rfl (lv_at hl 1 rfl) ?_
        refine lv_aload_n hx hb dX12_begin_13 rfl (lv_at hl 0 rfl) ?_
        refine va_get (ci := 12) (v := .ref (ad 10)) (C := RX12) (T := TX12) (N := 57) hx hb hg inX12 hown hK hP 0 atM_0 rfl 18 (by decide) (hg _ mw_1126) (fun _ h9 => h9) rfl dX12_begin_14 ?_
        refine lv_bipush (v := 80) hx hb dX12_begin_17 (by decide) ?_
        refine lv_aload_n hx hb dX12_begin_19 rfl (lv_at hl 0 rfl) ?_
        refine va_get (ci := 12) (v := .int (F3 8)) (C := RX12) (T := TX12) (N := 57) hx hb hg inX12 hown hK hP 0 atM_0 rfl 24 (by decide) (hg _ mw_1132) (fun _ h9 => h9) rfl dX12_begin_20 ?_
        refine lv_topi (fun x9 e10 => ?_)
        have r11 : rg x9 0 1 := rg_e e10 (hq.1.1 8)
        refine lv_imul hx hb dX12_begin_23 ?_
        refine lv_topi (fun x12 e13 => ?_)
        have r14 : rg x12 0 80 := rg_mul e13 ((rg_k (by decide)) : rg 80 80 80) r11 (by decide)
        refine lv_iload_n hx hb dX12_begin_24 rfl (lv_at hl 1 rfl) ?_
        refine lv_iadd hx hb dX12_begin_25 ?_
        refine lv_topi (fun x15 e16 => ?_)
        have r17 : rg x15 0 159 := rg_add e16 r14 r8 (by decide)
        refine va_iald hx hb hK hP 10 9 atM_10 tyM_10 (in_rg r17 (by decide)) dX12_begin_26 ?_
        refine lv_topi (fun x18 e19 => ?_)
        refine va_iast hx hb hK hP hD hS 17 16 atM_17 tyM_17 (in_rg r8 (by decide)) dX12_begin_27 (fun H locs hP hD hS => ?_)
        have hq := hq.ast 17 (a1).toNatClampNeg (x := x18) (by decide) (rg_top _)
        rw [setM_17] at hP hD
        have k20 : x18 = (va_up A3 17 (upd (A3 17) (a1).toNatClampNeg x18)) 17 (a1).toNatClampNeg := (rdA).symm
        obtain ⟨x21, e22⟩ : ∃ y : Int32, y = a1 + 1 := ⟨_, rfl⟩
        have r23 : rg x21 1 80 := rg_add e22 r8 (rg_k (by decide) : rg 1 1 1) (by decide)
        refine lv_iinc (v := x21) (lv' := [(1, .int x21), (0, .ref (ad 0))]) hx hb dX12_begin_28 hl (k := 1) rfl (by rw [e22]; rfl) (by decide) rfl (fun ls hl => ?_)
        refine lv_goto (tgt := 2) hx hb dX12_begin_31 (by decide) ?_
        exact ih2 (x21) (F3) (L3) ((va_up A3 17 (upd (A3 17) (a1).toNatClampNeg x18))) (B3) H locs ls (by have h0 : (1 : Int32).toInt = 1 := rfl; have h1 := ti_addk e22 r8 (by decide); have h2 : rg x21 0 80 := (rg_w r23 (by decide)); unfold rg at h2; omega) (rg_w r23 (by decide)) hq i4 (by rw [va_us]; exact cp_step v5 (r8 : rg a1 0 79) (Nat.zero_add _).symm (by rw [(ad_off (cn := 80) rfl (by decide) ((rg_w r11 (by decide)) : rg x9 0 40) ((rg_w r8 (by decide)) : rg a1 0 80) e13 e16).1, e10, hq.2.1 8 (by decide)]) (e19.trans (congrFun (hq.2.2 10 (by decide)) _)) e22) hP hD hS (lv_sub hl [1, 0] rfl)
  exact J2 _ (0) (F) (L) (A) (B) H locs ls (Nat.lt_succ_self _) (rg_k (by decide)) hq hI cp_0 hP hD hS (lv_sub hl [1, 0] rfl)
abbrev rm_X12_clearBank_0 : Room := { frames := 0, cells := 0, slots := 0, locals := 0 }
set_option maxHeartbeats 4000000 in
set_option maxRecDepth 100000 in
theorem c_X12_clearBank_0 (l : Launch) (D : va_G) (cA : Nat → ClassId) (sz : Nat) (ad : Nat → Nat) (F : Nat → Int32) (L : Nat → Int64) (A : Nat → Nat → Int32) (B : Nat → Nat → Int64)  (hT : typM F A) : Met l yX12_clearBank (Cond.code yX12_clearBank cX12_clearBank 2 none :: GW) rm_X12_clearBank_0 (mPc D classes (tysM cA) (wM cA ad F L A B) sz [.ref (ad 0)]) (mQv (S := SW) D classes (tysM cA) (wM cA ad F L A B) sz (wfM cA ad) (fun u => qM [] [3, 4, 5, 6, 7, 10, 12, 13] F A u.1 u.2.2.1 ∧ (rdB u.2.2.1 A (F 9).toNatClampNeg))) 0 0 (va_A (wM cA ad F L A B) sz) := by
  refine met_v (own := "ShoeingDayModel") (by decide +kernel) rfl (Nat.le_of_ble_eq_true rfl) ?_
  intro p e s m args below meth c Q Af ls hC hP hD hS hA hl hret
  have hx := hC.1
  have hb := hC.2.1
  have hown := hC.2.2.2.1
  have hg := hC.g
  have hK := hC.K
  have hl : lv_has ls 2 [(0, .ref (ad 0))] := hl
  have hq : qM [] [3, 4, 5, 6, 7, 10, 12, 13] F A F A := qM.rf hT
  obtain ⟨H, hH⟩ : ∃ H, H = s.heap := ⟨_, rfl⟩
  have hP : va_P D classes (wM cA ad F L A B) H := by rw [hH]; exact hP
  have hS : va_S Af s.heap H [] := by rw [hH]; exact hS
  obtain ⟨locs, hlo⟩ : ∃ q : List Loc, q = [] := ⟨_, rfl⟩
  rw [← hH, ← hlo]
  rw [← hlo] at hS
  refine lv_aload_n hx hb dX12_clearBank_0 rfl (lv_at hl 0 rfl) ?_
  refine va_get (ci := 12) (v := .ref (ad 3)) (C := RX12) (T := TX12) (N := 57) hx hb hg inX12 hown hK hP 0 atM_0 rfl 11 (by decide) (hg _ mw_1119) (fun _ h9 => h9) rfl dX12_clearBank_1 ?_
  refine lv_aload_n hx hb dX12_clearBank_4 rfl (lv_at hl 0 rfl) ?_
  refine va_get (ci := 12) (v := .int (F 9)) (C := RX12) (T := TX12) (N := 57) hx hb hg inX12 hown hK hP 0 atM_0 rfl 25 (by decide) (hg _ mw_1133) (fun _ h9 => h9) rfl dX12_clearBank_5 ?_
  refine lv_topi (fun x1 e2 => ?_)
  have r3 : rg x1 0 1 := rg_e e2 (hq.1.1 9)
  refine lv_iconst (v := 0) hx hb dX12_clearBank_8 (by decide) ?_
  refine va_iast hx hb hK hP hD hS 3 2 atM_3 tyM_3 (in_rg r3 (by decide)) dX12_clearBank_9 (fun H locs hP hD hS => ?_)
  have hq := hq.ast 3 (x1).toNatClampNeg (x := 0) (by decide) (rg_k (by decide))
  rw [setM_3] at hP hD
  have k4 : (0 : Int32) = (va_up A 3 (upd (A 3) (x1).toNatClampNeg 0)) 3 (x1).toNatClampNeg := (rdA).symm
  refine lv_aload_n hx hb dX12_clearBank_10 rfl (lv_at hl 0 rfl) ?_
  refine va_get (ci := 12) (v := .ref (ad 4)) (C := RX12) (T := TX12) (N := 57) hx hb hg inX12 hown hK hP 0 atM_0 rfl 12 (by decide) (hg _ mw_1120) (fun _ h9 => h9) rfl dX12_clearBank_11 ?_
  refine lv_aload_n hx hb dX12_clearBank_14 rfl (lv_at hl 0 rfl) ?_
  refine va_get (ci := 12) (v := .int x1) (C := RX12) (T := TX12) (N := 57) hx hb hg inX12 hown hK hP 0 atM_0 rfl 25 (by decide) (hg _ mw_1133) (fun _ h9 => h9) (congrArg (fun z => some (Value.int z)) (e2.symm)) dX12_clearBank_15 ?_
  refine lv_iconst (v := 0) hx hb dX12_clearBank_18 (by decide) ?_
  refine va_iast hx hb hK hP hD hS 4 3 atM_4 tyM_4 (in_rg r3 (by decide)) dX12_clearBank_19 (fun H locs hP hD hS => ?_)
  have hq := hq.ast 4 (x1).toNatClampNeg (x := 0) (by decide) (rg_k (by decide))
  rw [setM_4] at hP hD
  have k5 : (0 : Int32) = (va_up (va_up A 3 (upd (A 3) (x1).toNatClampNeg 0)) 4 (upd ((va_up A 3 (upd (A 3) (x1).toNatClampNeg 0)) 4) (x1).toNatClampNeg 0)) 4 (x1).toNatClampNeg := (rdA).symm
  refine lv_aload_n hx hb dX12_clearBank_20 rfl (lv_at hl 0 rfl) ?_
  refine va_get (ci := 12) (v := .ref (ad 5)) (C := RX12) (T := TX12) (N := 57) hx hb hg inX12 hown hK hP 0 atM_0 rfl 13 (by decide) (hg _ mw_1121) (fun _ h9 => h9) rfl dX12_clearBank_21 ?_
  refine lv_aload_n hx hb dX12_clearBank_24 rfl (lv_at hl 0 rfl) ?_
  refine va_get (ci := 12) (v := .int x1) (C := RX12) (T := TX12) (N := 57) hx hb hg inX12 hown hK hP 0 atM_0 rfl 25 (by decide) (hg _ mw_1133) (fun _ h9 => h9) (congrArg (fun z => some (Value.int z)) (e2.symm)) dX12_clearBank_25 ?_
  refine lv_iconst (v := 0) hx hb dX12_clearBank_28 (by decide) ?_
  refine va_iast hx hb hK hP hD hS 5 4 atM_5 tyM_5 (in_rg r3 (by decide)) dX12_clearBank_29 (fun H locs hP hD hS => ?_)
  have hq := hq.ast 5 (x1).toNatClampNeg (x := 0) (by decide) (rg_k (by decide))
  rw [setM_5] at hP hD
  have k6 : (0 : Int32) = (va_up (va_up (va_up A 3 (upd (A 3) (x1).toNatClampNeg 0)) 4 (upd ((va_up A 3 (upd (A 3) (x1).toNatClampNeg 0)) 4) (x1).toNatClampNeg 0)) 5 (upd ((va_up (va_up A 3 (upd (A 3) (x1).toNatClampNeg 0)) 4 (upd ((va_up A 3 (upd (A 3) (x1).toNatClampNeg 0)) 4) (x1).toNatClampNeg 0)) 5) (x1).toNatClampNeg 0)) 5 (x1).toNatClampNeg := (rdA).symm
  refine lv_aload_n hx hb dX12_clearBank_30 rfl (lv_at hl 0 rfl) ?_
  refine va_get (ci := 12) (v := .ref (ad 6)) (C := RX12) (T := TX12) (N := 57) hx hb hg inX12 hown hK hP 0 atM_0 rfl 14 (by decide) (hg _ mw_1122) (fun _ h9 => h9) rfl dX12_clearBank_31 ?_
  refine lv_aload_n hx hb dX12_clearBank_34 rfl (lv_at hl 0 rfl) ?_
  refine va_get (ci := 12) (v := .int x1) (C := RX12) (T := TX12) (N := 57) hx hb hg inX12 hown hK hP 0 atM_0 rfl 25 (by decide) (hg _ mw_1133) (fun _ h9 => h9) (congrArg (fun z => some (Value.int z)) (e2.symm)) dX12_clearBank_35 ?_
  refine lv_iconst (v := 0) hx hb dX12_clearBank_38 (by decide) ?_
  refine va_iast hx hb hK hP hD hS 6 5 atM_6 tyM_6 (in_rg r3 (by decide)) dX12_clearBank_39 (fun H locs hP hD hS => ?_)
  have hq := hq.ast 6 (x1).toNatClampNeg (x := 0) (by decide) (rg_k (by decide))
  rw [setM_6] at hP hD
  have k7 : (0 : Int32) = (va_up (va_up (va_up (va_up A 3 (upd (A 3) (x1).toNatClampNeg 0)) 4 (upd ((va_up A 3 (upd (A 3) (x1).toNatClampNeg 0)) 4) (x1).toNatClampNeg 0)) 5 (upd ((va_up (va_up A 3 (upd (A 3) (x1).toNatClampNeg 0)) 4 (upd ((va_up A 3 (upd (A 3) (x1).toNatClampNeg 0)) 4) (x1).toNatClampNeg 0)) 5) (x1).toNatClampNeg 0)) 6 (upd ((va_up (va_up (va_up A 3 (upd (A 3) (x1).toNatClampNeg 0)) 4 (upd ((va_up A 3 (upd (A 3) (x1).toNatClampNeg 0)) 4) (x1).toNatClampNeg 0)) 5 (upd ((va_up (va_up A 3 (upd (A 3) (x1).toNatClampNeg 0)) 4 (upd ((va_up A 3 (upd (A 3) (x1).toNatClampNeg 0)) 4) (x1).toNatClampNeg 0)) 5) (x1).toNatClampNeg 0)) 6) (x1).toNatClampNeg 0)) 6 (x1).toNatClampNeg := (rdA).symm
  refine lv_aload_n hx hb dX12_clearBank_40 rfl (lv_at hl 0 rfl) ?_
  refine va_get (ci := 12) (v := .ref (ad 7)) (C := RX12) (T := TX12) (N := 57) hx hb hg inX12 hown hK hP 0 atM_0 rfl 15 (by decide) (hg _ mw_1123) (fun _ h9 => h9) rfl dX12_clearBank_41 ?_
  refine lv_aload_n hx hb dX12_clearBank_44 rfl (lv_at hl 0 rfl) ?_
  refine va_get (ci := 12) (v := .int x1) (C := RX12) (T := TX12) (N := 57) hx hb hg inX12 hown hK hP 0 atM_0 rfl 25 (by decide) (hg _ mw_1133) (fun _ h9 => h9) (congrArg (fun z => some (Value.int z)) (e2.symm)) dX12_clearBank_45 ?_
  refine lv_iconst (v := (-1)) hx hb dX12_clearBank_48 (by decide) ?_
  refine va_iast hx hb hK hP hD hS 7 6 atM_7 tyM_7 (in_rg r3 (by decide)) dX12_clearBank_49 (fun H locs hP hD hS => ?_)
  have hq := hq.ast 7 (x1).toNatClampNeg (x := (-1)) (by decide) (rg_k (by decide))
  rw [setM_7] at hP hD
  have k8 : ((-1) : Int32) = (va_up (va_up (va_up (va_up (va_up A 3 (upd (A 3) (x1).toNatClampNeg 0)) 4 (upd ((va_up A 3 (upd (A 3) (x1).toNatClampNeg 0)) 4) (x1).toNatClampNeg 0)) 5 (upd ((va_up (va_up A 3 (upd (A 3) (x1).toNatClampNeg 0)) 4 (upd ((va_up A 3 (upd (A 3) (x1).toNatClampNeg 0)) 4) (x1).toNatClampNeg 0)) 5) (x1).toNatClampNeg 0)) 6 (upd ((va_up (va_up (va_up A 3 (upd (A 3) (x1).toNatClampNeg 0)) 4 (upd ((va_up A 3 (upd (A 3) (x1).toNatClampNeg 0)) 4) (x1).toNatClampNeg 0)) 5 (upd ((va_up (va_up A 3 (upd (A 3) (x1).toNatClampNeg 0)) 4 (upd ((va_up A 3 (upd (A 3) (x1).toNatClampNeg 0)) 4) (x1).toNatClampNeg 0)) 5) (x1).toNatClampNeg 0)) 6) (x1).toNatClampNeg 0)) 7 (upd ((va_up (va_up (va_up (va_up A 3 (upd (A 3) (x1).toNatClampNeg 0)) 4 (upd ((va_up A 3 (upd (A 3) (x1).toNatClampNeg 0)) 4) (x1).toNatClampNeg 0)) 5 (upd ((va_up (va_up A 3 (upd (A 3) (x1).toNatClampNeg 0)) 4 (upd ((va_up A 3 (upd (A 3) (x1).toNatClampNeg 0)) 4) (x1).toNatClampNeg 0)) 5) (x1).toNatClampNeg 0)) 6 (upd ((va_up (va_up (va_up A 3 (upd (A 3) (x1).toNatClampNeg 0)) 4 (upd ((va_up A 3 (upd (A 3) (x1).toNatClampNeg 0)) 4) (x1).toNatClampNeg 0)) 5 (upd ((va_up (va_up A 3 (upd (A 3) (x1).toNatClampNeg 0)) 4 (upd ((va_up A 3 (upd (A 3) (x1).toNatClampNeg 0)) 4) (x1).toNatClampNeg 0)) 5) (x1).toNatClampNeg 0)) 6) (x1).toNatClampNeg 0)) 7) (x1).toNatClampNeg (-1))) 7 (x1).toNatClampNeg := (rdA).symm
  refine lv_aload_n hx hb dX12_clearBank_50 rfl (lv_at hl 0 rfl) ?_
  refine va_get (ci := 12) (v := .ref (ad 13)) (C := RX12) (T := TX12) (N := 57) hx hb hg inX12 hown hK hP 0 atM_0 rfl 21 (by decide) (hg _ mw_1129) (fun _ h9 => h9) rfl dX12_clearBank_51 ?_
  refine lv_aload_n hx hb dX12_clearBank_54 rfl (lv_at hl 0 rfl) ?_
  refine va_get (ci := 12) (v := .int x1) (C := RX12) (T := TX12) (N := 57) hx hb hg inX12 hown hK hP 0 atM_0 rfl 25 (by decide) (hg _ mw_1133) (fun _ h9 => h9) (congrArg (fun z => some (Value.int z)) (e2.symm)) dX12_clearBank_55 ?_
  refine lv_iconst (v := 0) hx hb dX12_clearBank_58 (by decide) ?_
  refine va_zast hx hb hK hP hD hS 13 12 atM_13 tyM_13 (in_rg r3 (by decide)) dX12_clearBank_59 (fun H locs hP hD hS => ?_)
  have hq := hq.ast 13 (x1).toNatClampNeg (x := (vp_nar .boolean 0)) (by decide) (rg_nz _)
  rw [setM_13] at hP hD
  refine lv_bipush (v := 80) hx hb dX12_clearBank_60 (by decide) ?_
  refine lv_aload_n hx hb dX12_clearBank_62 rfl (lv_at hl 0 rfl) ?_
  refine va_get (ci := 12) (v := .int x1) (C := RX12) (T := TX12) (N := 57) hx hb hg inX12 hown hK hP 0 atM_0 rfl 25 (by decide) (hg _ mw_1133) (fun _ h9 => h9) (congrArg (fun z => some (Value.int z)) (e2.symm)) dX12_clearBank_63 ?_
  refine lv_imul hx hb dX12_clearBank_66 ?_
  refine lv_topi (fun x9 e10 => ?_)
  have r11 : rg x9 0 80 := rg_mul e10 ((rg_k (by decide)) : rg 80 80 80) r3 (by decide)
  refine lv_istore_n (lv' := [(1, .int x9), (0, .ref (ad 0))]) hx hb dX12_clearBank_67 rfl hl (by decide) rfl (fun ls hl => ?_)
  have J68 : ∀ (n68 : Nat) (a12 : Int32) (F14 : Nat → Int32) (L14 : Nat → Int64) (A14 : Nat → Nat → Int32) (B14 : Nat → Nat → Int64) (H : Heap) (locs : List Loc) (ls : Array Slot), (160 - a12.toInt).toNat < n68 → rg a12 0 160 → qM [] [3, 4, 5, 6, 7, 10, 12, 13] F A F14 A14 → F14 9 = x1 → (clI A14 A x1.toNatClampNeg a12.toInt ∧ ((80 * x1.toNatClampNeg : Nat) : Int) ≤ a12.toInt) → va_P D classes (wM cA ad F14 L14 A14 B14) H → va_D Af (wM cA ad F14 L14 A14 B14) → va_S Af s.heap H locs → lv_has ls 2 [(0, .ref (ad 0)), (1, .int a12)] → W p l e rm_X12_clearBank_0 s m args below meth c H locs 0 0 Q (F0 m 68 ls []) := by
    intro n68
    induction n68 with
    | zero =>
      intro _ _ _ _ _ _ _ _ hn
      exact absurd hn (Nat.not_lt_zero _)
    | succ n68 ih68 =>
      intro a12 F14 L14 A14 B14 H locs ls hn68 r13 hq f15 v16 hP hD hS hl
      refine lv_iload_n hx hb dX12_clearBank_68 rfl (lv_at hl 1 rfl) ?_
      refine lv_bipush (v := 80) hx hb dX12_clearBank_69 (by decide) ?_
      refine lv_aload_n hx hb dX12_clearBank_71 rfl (lv_at hl 0 rfl) ?_
      refine va_get (ci := 12) (v := .int x1) (C := RX12) (T := TX12) (N := 57) hx hb hg inX12 hown hK hP 0 atM_0 rfl 25 (by decide) (hg _ mw_1133) (fun _ h9 => h9) (congrArg (fun z => some (Value.int z)) (f15)) dX12_clearBank_72 ?_
      refine lv_imul hx hb dX12_clearBank_75 ?_
      refine tope e10 ?_
      refine lv_bipush (v := 80) hx hb dX12_clearBank_76 (by decide) ?_
      refine lv_iadd hx hb dX12_clearBank_78 ?_
      refine lv_topi (fun x17 e18 => ?_)
      have r19 : rg x17 80 160 := rg_add e18 r11 ((rg_k (by decide)) : rg 80 80 80) (by decide)
      refine lv_icmp_ge (tgt := 102) hx hb dX12_clearBank_79 (by decide) (fun c20 => ?_) (fun c20 => ?_)
      · skip
        have r21 : rg a12 80 160 := rg_le2 (iE c20) (r19 : rg x17 80 160) (r13 : rg a12 0 160)
        exact hret (F14, L14, A14, B14) H locs 102 ls dX12_clearBank_102 hP hD hS ⟨hq, (by rw [← e2]; exact cl_end v16.1 (cl_lim2 (r3 : rg x1 0 1) e10 e18 (iE c20)))⟩
      · skip
        have r22 : rg a12 0 159 := rg_lt1 (iNE c20) (r13 : rg a12 0 160) (r19 : rg x17 80 160)
        refine lv_aload_n hx hb dX12_clearBank_82 rfl (lv_at hl 0 rfl) ?_
        refine va_get (ci := 12) (v := .ref (ad 10)) (C := RX12) (T := TX12) (N := 57) hx hb hg inX12 hown hK hP 0 atM_0 rfl 18 (by decide) (hg _ mw_1126) (fun _ h9 => h9) rfl dX12_clearBank_83 ?_
        refine lv_iload_n hx hb dX12_clearBank_86 rfl (lv_at hl 1 rfl) ?_
        refine lv_iconst (v := 0) hx hb dX12_clearBank_87 (by decide) ?_
        refine va_iast hx hb hK hP hD hS 10 9 atM_10 tyM_10 (in_rg r22 (by decide)) dX12_clearBank_88 (fun H locs hP hD hS => ?_)
        have hq := hq.ast 10 (a12).toNatClampNeg (x := 0) (by decide) (rg_k (by decide))
        rw [setM_10] at hP hD
        have k23 : (0 : Int32) = (va_up A14 10 (upd (A14 10) (a12).toNatClampNeg 0)) 10 (a12).toNatClampNeg := (rdA).symm
        refine lv_aload_n hx hb dX12_clearBank_89 rfl (lv_at hl 0 rfl) ?_
        refine va_get (ci := 12) (v := .ref (ad 12)) (C := RX12) (T := TX12) (N := 57) hx hb hg inX12 hown hK hP 0 atM_0 rfl 20 (by decide) (hg _ mw_1128) (fun _ h9 => h9) rfl dX12_clearBank_90 ?_
        refine lv_iload_n hx hb dX12_clearBank_93 rfl (lv_at hl 1 rfl) ?_
        refine lv_iconst (v := 0) hx hb dX12_clearBank_94 (by decide) ?_
        refine va_zast hx hb hK hP hD hS 12 11 atM_12 tyM_12 (in_rg r22 (by decide)) dX12_clearBank_95 (fun H locs hP hD hS => ?_)
        have hq := hq.ast 12 (a12).toNatClampNeg (x := (vp_nar .boolean 0)) (by decide) (rg_nz _)
        rw [setM_12] at hP hD
        obtain ⟨x24, e25⟩ : ∃ y : Int32, y = a12 + 1 := ⟨_, rfl⟩
        have r26 : rg x24 1 160 := rg_add e25 r22 (rg_k (by decide) : rg 1 1 1) (by decide)
        refine lv_iinc (v := x24) (lv' := [(1, .int x24), (0, .ref (ad 0))]) hx hb dX12_clearBank_96 hl (k := 1) rfl (by rw [e25]; rfl) (by decide) rfl (fun ls hl => ?_)
        refine lv_goto (tgt := 68) hx hb dX12_clearBank_99 (by decide) ?_
        exact ih68 (x24) (F14) (L14) ((va_up (va_up A14 10 (upd (A14 10) (a12).toNatClampNeg 0)) 12 (upd ((va_up A14 10 (upd (A14 10) (a12).toNatClampNeg 0)) 12) (a12).toNatClampNeg (vp_nar .boolean 0)))) (B14) H locs ls (by have h0 : (1 : Int32).toInt = 1 := rfl; have h1 := ti_addk e25 r22 (by decide); have h2 : rg x24 0 160 := (rg_w r26 (by decide)); unfold rg at h2; omega) (rg_w r26 (by decide)) hq (f15) (cl_step v16.1 (r22 : rg a12 0 159) (flip_lt (r3 : rg x1 0 1)) v16.2 (cl_lim (r3 : rg x1 0 1) e10 e18 (iNE c20)) rfl rfl rfl e25) hP hD hS (lv_sub hl [1, 0] rfl)
  exact J68 _ (x9) (F) (L) ((va_up (va_up (va_up (va_up (va_up (va_up A 3 (upd (A 3) (x1).toNatClampNeg 0)) 4 (upd ((va_up A 3 (upd (A 3) (x1).toNatClampNeg 0)) 4) (x1).toNatClampNeg 0)) 5 (upd ((va_up (va_up A 3 (upd (A 3) (x1).toNatClampNeg 0)) 4 (upd ((va_up A 3 (upd (A 3) (x1).toNatClampNeg 0)) 4) (x1).toNatClampNeg 0)) 5) (x1).toNatClampNeg 0)) 6 (upd ((va_up (va_up (va_up A 3 (upd (A 3) (x1).toNatClampNeg 0)) 4 (upd ((va_up A 3 (upd (A 3) (x1).toNatClampNeg 0)) 4) (x1).toNatClampNeg 0)) 5 (upd ((va_up (va_up A 3 (upd (A 3) (x1).toNatClampNeg 0)) 4 (upd ((va_up A 3 (upd (A 3) (x1).toNatClampNeg 0)) 4) (x1).toNatClampNeg 0)) 5) (x1).toNatClampNeg 0)) 6) (x1).toNatClampNeg 0)) 7 (upd ((va_up (va_up (va_up (va_up A 3 (upd (A 3) (x1).toNatClampNeg 0)) 4 (upd ((va_up A 3 (upd (A 3) (x1).toNatClampNeg 0)) 4) (x1).toNatClampNeg 0)) 5 (upd ((va_up (va_up A 3 (upd (A 3) (x1).toNatClampNeg 0)) 4 (upd ((va_up A 3 (upd (A 3) (x1).toNatClampNeg 0)) 4) (x1).toNatClampNeg 0)) 5) (x1).toNatClampNeg 0)) 6 (upd ((va_up (va_up (va_up A 3 (upd (A 3) (x1).toNatClampNeg 0)) 4 (upd ((va_up A 3 (upd (A 3) (x1).toNatClampNeg 0)) 4) (x1).toNatClampNeg 0)) 5 (upd ((va_up (va_up A 3 (upd (A 3) (x1).toNatClampNeg 0)) 4 (upd ((va_up A 3 (upd (A 3) (x1).toNatClampNeg 0)) 4) (x1).toNatClampNeg 0)) 5) (x1).toNatClampNeg 0)) 6) (x1).toNatClampNeg 0)) 7) (x1).toNatClampNeg (-1))) 13 (upd ((va_up (va_up (va_up (va_up (va_up A 3 (upd (A 3) (x1).toNatClampNeg 0)) 4 (upd ((va_up A 3 (upd (A 3) (x1).toNatClampNeg 0)) 4) (x1).toNatClampNeg 0)) 5 (upd ((va_up (va_up A 3 (upd (A 3) (x1).toNatClampNeg 0)) 4 (upd ((va_up A 3 (upd (A 3) (x1).toNatClampNeg 0)) 4) (x1).toNatClampNeg 0)) 5) (x1).toNatClampNeg 0)) 6 (upd ((va_up (va_up (va_up A 3 (upd (A 3) (x1).toNatClampNeg 0)) 4 (upd ((va_up A 3 (upd (A 3) (x1).toNatClampNeg 0)) 4) (x1).toNatClampNeg 0)) 5 (upd ((va_up (va_up A 3 (upd (A 3) (x1).toNatClampNeg 0)) 4 (upd ((va_up A 3 (upd (A 3) (x1).toNatClampNeg 0)) 4) (x1).toNatClampNeg 0)) 5) (x1).toNatClampNeg 0)) 6) (x1).toNatClampNeg 0)) 7 (upd ((va_up (va_up (va_up (va_up A 3 (upd (A 3) (x1).toNatClampNeg 0)) 4 (upd ((va_up A 3 (upd (A 3) (x1).toNatClampNeg 0)) 4) (x1).toNatClampNeg 0)) 5 (upd ((va_up (va_up A 3 (upd (A 3) (x1).toNatClampNeg 0)) 4 (upd ((va_up A 3 (upd (A 3) (x1).toNatClampNeg 0)) 4) (x1).toNatClampNeg 0)) 5) (x1).toNatClampNeg 0)) 6 (upd ((va_up (va_up (va_up A 3 (upd (A 3) (x1).toNatClampNeg 0)) 4 (upd ((va_up A 3 (upd (A 3) (x1).toNatClampNeg 0)) 4) (x1).toNatClampNeg 0)) 5 (upd ((va_up (va_up A 3 (upd (A 3) (x1).toNatClampNeg 0)) 4 (upd ((va_up A 3 (upd (A 3) (x1).toNatClampNeg 0)) 4) (x1).toNatClampNeg 0)) 5) (x1).toNatClampNeg 0)) 6) (x1).toNatClampNeg 0)) 7) (x1).toNatClampNeg (-1))) 13) (x1).toNatClampNeg (vp_nar .boolean 0)))) (B) H locs ls (Nat.lt_succ_self _) (rg_w r11 (by decide)) hq (e2.symm) (cl_init rfl rfl rfl (r3 : rg x1 0 1) e10) hP hD hS (lv_sub hl [1, 0] rfl)
abbrev rm_X12_isDigit : Room := { frames := 0, cells := 0, slots := 0, locals := 0 }
set_option maxHeartbeats 4000000 in
set_option maxRecDepth 100000 in
theorem c_X12_isDigit (l : Launch) (D : va_G) (tys : List (ClassId × FieldType)) (ws : va_W) (sz : Nat) (p0 : Int32) (hp0 : rg p0 0 255) : Met l yX12_isDigit (Cond.code yX12_isDigit cX12_isDigit 1 (some .boolean) :: GW) rm_X12_isDigit (mPc D classes tys (ws) sz [.int p0]) (mQi (S := Unit) D classes tys (ws) sz (fun _ : Unit => ws) (fun r u => rg r 0 1 ∧ (r = 0 ∨ (rg p0 48 57)))) 0 0 (va_A (ws) sz) := by
  refine met_i (own := "ShoeingDayModel") (by decide +kernel) rfl (Nat.le_of_ble_eq_true rfl) ?_
  intro p e s m args below meth c Q Af ls hC hP hD hS hA hl hret
  have hx := hC.1
  have hb := hC.2.1
  have hown := hC.2.2.2.1
  have hg := hC.g
  have hK := hC.K
  have hl : lv_has ls 1 [(0, .int p0)] := hl
  obtain ⟨H, hH⟩ : ∃ H, H = s.heap := ⟨_, rfl⟩
  have hP : va_P D classes (ws) H := by rw [hH]; exact hP
  have hS : va_S Af s.heap H [] := by rw [hH]; exact hS
  obtain ⟨locs, hlo⟩ : ∃ q : List Loc, q = [] := ⟨_, rfl⟩
  rw [← hH, ← hlo]
  rw [← hlo] at hS
  refine lv_iload_n hx hb dX12_isDigit_0 rfl (lv_at hl 0 rfl) ?_
  refine lv_bipush (v := 48) hx hb dX12_isDigit_1 (by decide) ?_
  have J16 : ∀ (H : Heap) (locs : List Loc) (ls : Array Slot), va_P D classes (ws) H → va_D Af (ws) → va_S Af s.heap H locs → lv_has ls 1 [] → W p l e rm_X12_isDigit s m args below meth c H locs 0 0 Q (F0 m 16 ls []) := by
    intro H locs ls hP hD hS hl
    refine lv_iconst (v := 0) hx hb dX12_isDigit_16 (by decide) ?_
    exact hret (0) () H locs 17 ls rfl dX12_isDigit_17 hP hD hS ⟨(rg_k (by decide)), Or.inl rfl⟩
  refine lv_icmp_lt (tgt := 16) hx hb dX12_isDigit_3 (by decide) (fun c1 => ?_) (fun c1 => ?_)
  · skip
    have r2 : rg p0 0 47 := rg_lt1 (iL c1) (hp0 : rg p0 0 255) ((rg_k (by decide)) : rg 48 48 48)
    exact J16  H locs ls  hP hD hS (lv_sub hl [] rfl)
  · skip
    have r3 : rg p0 48 255 := rg_le2 (iNL c1) ((rg_k (by decide)) : rg 48 48 48) (hp0 : rg p0 0 255)
    refine lv_iload_n hx hb dX12_isDigit_6 rfl (lv_at hl 0 rfl) ?_
    refine lv_bipush (v := 57) hx hb dX12_isDigit_7 (by decide) ?_
    refine lv_icmp_gt (tgt := 16) hx hb dX12_isDigit_9 (by decide) (fun c4 => ?_) (fun c4 => ?_)
    · skip
      have r5 : rg p0 58 255 := rg_lt2 (iL c4) ((rg_k (by decide)) : rg 57 57 57) (r3 : rg p0 48 255)
      exact J16  H locs ls  hP hD hS (lv_sub hl [] rfl)
    · skip
      have r6 : rg p0 48 57 := rg_le1 (iNL c4) (r3 : rg p0 48 255) ((rg_k (by decide)) : rg 57 57 57)
      refine lv_iconst (v := 1) hx hb dX12_isDigit_12 (by decide) ?_
      refine lv_goto (tgt := 17) hx hb dX12_isDigit_13 (by decide) ?_
      exact hret (1) () H locs 17 ls rfl dX12_isDigit_17 hP hD hS ⟨(rg_k (by decide)), Or.inr r6⟩
abbrev rm_X12_isKept : Room := { frames := 0, cells := 0, slots := 0, locals := 0 }
set_option maxHeartbeats 4000000 in
set_option maxRecDepth 100000 in
theorem c_X12_isKept (l : Launch) (D : va_G) (tys : List (ClassId × FieldType)) (ws : va_W) (sz : Nat) (p0 : Int64)  : Met l yX12_isKept (Cond.code yX12_isKept cX12_isKept 2 (some .boolean) :: GW) rm_X12_isKept (mPc D classes tys (ws) sz [.long p0]) (mQi (S := Unit) D classes tys (ws) sz (fun _ : Unit => ws) (fun r u => rg r 0 1)) 0 0 (va_A (ws) sz) := by
  refine met_i (own := "ShoeingDayModel") (by decide +kernel) rfl (Nat.le_of_ble_eq_true rfl) ?_
  intro p e s m args below meth c Q Af ls hC hP hD hS hA hl hret
  have hx := hC.1
  have hb := hC.2.1
  have hown := hC.2.2.2.1
  have hg := hC.g
  have hK := hC.K
  have hl : lv_has ls 2 [(0, .long p0)] := hl
  obtain ⟨H, hH⟩ : ∃ H, H = s.heap := ⟨_, rfl⟩
  have hP : va_P D classes (ws) H := by rw [hH]; exact hP
  have hS : va_S Af s.heap H [] := by rw [hH]; exact hS
  obtain ⟨locs, hlo⟩ : ∃ q : List Loc, q = [] := ⟨_, rfl⟩
  rw [← hH, ← hlo]
  rw [← hlo] at hS
  refine lv_lload_n hx hb dX12_isKept_0 rfl (lv_at hl 0 rfl) ?_
  refine lv_ldc2 (v := 495756866664) hx hb hown (hg _ mw_1299) dX12_isKept_1 ?_
  refine W.lcmp hx hb dX12_isKept_4 ?_
  refine lv_topi (fun x1 e2 => ?_)
  have J56 : ∀ (H : Heap) (locs : List Loc) (ls : Array Slot), va_P D classes (ws) H → va_D Af (ws) → va_S Af s.heap H locs → lv_has ls 2 [] → W p l e rm_X12_isKept s m args below meth c H locs 0 0 Q (F0 m 56 ls []) := by
    intro H locs ls hP hD hS hl
    refine lv_iconst (v := 1) hx hb dX12_isKept_56 (by decide) ?_
    refine lv_goto (tgt := 61) hx hb dX12_isKept_57 (by decide) ?_
    exact hret (1) () H locs 61 ls rfl dX12_isKept_61 hP hD hS (rg_k (by decide))
  refine lv_if_eq (tgt := 56) hx hb dX12_isKept_5 (by decide) (fun c3 => ?_) (fun c3 => ?_)
  · skip
    have r4 : rg x1 0 0 := rg_eq1 c3 ((rg_top _) : rg x1 (-2147483648) 2147483647) ((rg_k (by decide)) : rg 0 0 0) (by decide)
    exact J56  H locs ls  hP hD hS (lv_sub hl [] rfl)
  · skip
    refine lv_lload_n hx hb dX12_isKept_8 rfl (lv_at hl 0 rfl) ?_
    refine lv_ldc2 (v := 120265316263282) hx hb hown (hg _ mw_1300) dX12_isKept_9 ?_
    refine W.lcmp hx hb dX12_isKept_12 ?_
    refine lv_topi (fun x5 e6 => ?_)
    refine lv_if_eq (tgt := 56) hx hb dX12_isKept_13 (by decide) (fun c7 => ?_) (fun c7 => ?_)
    · skip
      have r8 : rg x5 0 0 := rg_eq1 c7 ((rg_top _) : rg x5 (-2147483648) 2147483647) ((rg_k (by decide)) : rg 0 0 0) (by decide)
      exact J56  H locs ls  hP hD hS (lv_sub hl [] rfl)
    · skip
      refine lv_lload_n hx hb dX12_isKept_16 rfl (lv_at hl 0 rfl) ?_
      refine lv_ldc2 (v := 2002872165) hx hb hown (hg _ mw_1301) dX12_isKept_17 ?_
      refine W.lcmp hx hb dX12_isKept_20 ?_
      refine lv_topi (fun x9 e10 => ?_)
      refine lv_if_eq (tgt := 56) hx hb dX12_isKept_21 (by decide) (fun c11 => ?_) (fun c11 => ?_)
      · skip
        have r12 : rg x9 0 0 := rg_eq1 c11 ((rg_top _) : rg x9 (-2147483648) 2147483647) ((rg_k (by decide)) : rg 0 0 0) (by decide)
        exact J56  H locs ls  hP hD hS (lv_sub hl [] rfl)
      · skip
        refine lv_lload_n hx hb dX12_isKept_24 rfl (lv_at hl 0 rfl) ?_
        refine lv_ldc2 (v := 448546370405) hx hb hown (hg _ mw_1302) dX12_isKept_25 ?_
        refine W.lcmp hx hb dX12_isKept_28 ?_
        refine lv_topi (fun x13 e14 => ?_)
        refine lv_if_eq (tgt := 56) hx hb dX12_isKept_29 (by decide) (fun c15 => ?_) (fun c15 => ?_)
        · skip
          have r16 : rg x13 0 0 := rg_eq1 c15 ((rg_top _) : rg x13 (-2147483648) 2147483647) ((rg_k (by decide)) : rg 0 0 0) (by decide)
          exact J56  H locs ls  hP hD hS (lv_sub hl [] rfl)
        · skip
          refine lv_lload_n hx hb dX12_isKept_32 rfl (lv_at hl 0 rfl) ?_
          refine lv_ldc2 (v := 448546566771) hx hb hown (hg _ mw_1303) dX12_isKept_33 ?_
          refine W.lcmp hx hb dX12_isKept_36 ?_
          refine lv_topi (fun x17 e18 => ?_)
          refine lv_if_eq (tgt := 56) hx hb dX12_isKept_37 (by decide) (fun c19 => ?_) (fun c19 => ?_)
          · skip
            have r20 : rg x17 0 0 := rg_eq1 c19 ((rg_top _) : rg x17 (-2147483648) 2147483647) ((rg_k (by decide)) : rg 0 0 0) (by decide)
            exact J56  H locs ls  hP hD hS (lv_sub hl [] rfl)
          · skip
            refine lv_lload_n hx hb dX12_isKept_40 rfl (lv_at hl 0 rfl) ?_
            refine lv_ldc2 (v := 465558201459) hx hb hown (hg _ mw_1304) dX12_isKept_41 ?_
            refine W.lcmp hx hb dX12_isKept_44 ?_
            refine lv_topi (fun x21 e22 => ?_)
            refine lv_if_eq (tgt := 56) hx hb dX12_isKept_45 (by decide) (fun c23 => ?_) (fun c23 => ?_)
            · skip
              have r24 : rg x21 0 0 := rg_eq1 c23 ((rg_top _) : rg x21 (-2147483648) 2147483647) ((rg_k (by decide)) : rg 0 0 0) (by decide)
              exact J56  H locs ls  hP hD hS (lv_sub hl [] rfl)
            · skip
              refine lv_lload_n hx hb dX12_isKept_48 rfl (lv_at hl 0 rfl) ?_
              refine lv_ldc2 (v := 1818326117) hx hb hown (hg _ mw_1305) dX12_isKept_49 ?_
              refine W.lcmp hx hb dX12_isKept_52 ?_
              refine lv_topi (fun x25 e26 => ?_)
              refine lv_if_ne (tgt := 60) hx hb dX12_isKept_53 (by decide) (fun c27 => ?_) (fun c27 => ?_)
              · skip
                refine lv_iconst (v := 0) hx hb dX12_isKept_60 (by decide) ?_
                exact hret (0) () H locs 61 ls rfl dX12_isKept_61 hP hD hS (rg_k (by decide))
              · skip
                have r28 : rg x25 0 0 := rg_eq1 c27 ((rg_top _) : rg x25 (-2147483648) 2147483647) ((rg_k (by decide)) : rg 0 0 0) (by decide)
                exact J56  H locs ls  hP hD hS (lv_sub hl [] rfl)
abbrev rm_X12_isLetter : Room := { frames := 0, cells := 0, slots := 0, locals := 0 }
set_option maxHeartbeats 4000000 in
set_option maxRecDepth 100000 in
theorem c_X12_isLetter (l : Launch) (D : va_G) (tys : List (ClassId × FieldType)) (ws : va_W) (sz : Nat) (p0 : Int32) (hp0 : rg p0 0 255) : Met l yX12_isLetter (Cond.code yX12_isLetter cX12_isLetter 1 (some .boolean) :: GW) rm_X12_isLetter (mPc D classes tys (ws) sz [.int p0]) (mQi (S := Unit) D classes tys (ws) sz (fun _ : Unit => ws) (fun r u => rg r 0 1 ∧ (r = 0 ∨ (rg p0 97 122)))) 0 0 (va_A (ws) sz) := by
  refine met_i (own := "ShoeingDayModel") (by decide +kernel) rfl (Nat.le_of_ble_eq_true rfl) ?_
  intro p e s m args below meth c Q Af ls hC hP hD hS hA hl hret
  have hx := hC.1
  have hb := hC.2.1
  have hown := hC.2.2.2.1
  have hg := hC.g
  have hK := hC.K
  have hl : lv_has ls 1 [(0, .int p0)] := hl
  obtain ⟨H, hH⟩ : ∃ H, H = s.heap := ⟨_, rfl⟩
  have hP : va_P D classes (ws) H := by rw [hH]; exact hP
  have hS : va_S Af s.heap H [] := by rw [hH]; exact hS
  obtain ⟨locs, hlo⟩ : ∃ q : List Loc, q = [] := ⟨_, rfl⟩
  rw [← hH, ← hlo]
  rw [← hlo] at hS
  refine lv_iload_n hx hb dX12_isLetter_0 rfl (lv_at hl 0 rfl) ?_
  refine lv_bipush (v := 97) hx hb dX12_isLetter_1 (by decide) ?_
  have J16 : ∀ (H : Heap) (locs : List Loc) (ls : Array Slot), va_P D classes (ws) H → va_D Af (ws) → va_S Af s.heap H locs → lv_has ls 1 [] → W p l e rm_X12_isLetter s m args below meth c H locs 0 0 Q (F0 m 16 ls []) := by
    intro H locs ls hP hD hS hl
    refine lv_iconst (v := 0) hx hb dX12_isLetter_16 (by decide) ?_
    exact hret (0) () H locs 17 ls rfl dX12_isLetter_17 hP hD hS ⟨(rg_k (by decide)), Or.inl rfl⟩
  refine lv_icmp_lt (tgt := 16) hx hb dX12_isLetter_3 (by decide) (fun c1 => ?_) (fun c1 => ?_)
  · skip
    have r2 : rg p0 0 96 := rg_lt1 (iL c1) (hp0 : rg p0 0 255) ((rg_k (by decide)) : rg 97 97 97)
    exact J16  H locs ls  hP hD hS (lv_sub hl [] rfl)
  · skip
    have r3 : rg p0 97 255 := rg_le2 (iNL c1) ((rg_k (by decide)) : rg 97 97 97) (hp0 : rg p0 0 255)
    refine lv_iload_n hx hb dX12_isLetter_6 rfl (lv_at hl 0 rfl) ?_
    refine lv_bipush (v := 122) hx hb dX12_isLetter_7 (by decide) ?_
    refine lv_icmp_gt (tgt := 16) hx hb dX12_isLetter_9 (by decide) (fun c4 => ?_) (fun c4 => ?_)
    · skip
      have r5 : rg p0 123 255 := rg_lt2 (iL c4) ((rg_k (by decide)) : rg 122 122 122) (r3 : rg p0 97 255)
      exact J16  H locs ls  hP hD hS (lv_sub hl [] rfl)
    · skip
      have r6 : rg p0 97 122 := rg_le1 (iNL c4) (r3 : rg p0 97 255) ((rg_k (by decide)) : rg 122 122 122)
      refine lv_iconst (v := 1) hx hb dX12_isLetter_12 (by decide) ?_
      refine lv_goto (tgt := 17) hx hb dX12_isLetter_13 (by decide) ?_
      exact hret (1) () H locs 17 ls rfl dX12_isLetter_17 hP hD hS ⟨(rg_k (by decide)), Or.inr r6⟩
abbrev rm_X12_sign_0 : Room := { frames := 0, cells := 0, slots := 0, locals := 0 }
set_option maxHeartbeats 4000000 in
set_option maxRecDepth 100000 in
theorem c_X12_sign_0 (l : Launch) (D : va_G) (cA : Nat → ClassId) (sz : Nat) (ad : Nat → Nat) (F : Nat → Int32) (L : Nat → Int64) (A : Nat → Nat → Int32) (B : Nat → Nat → Int64) (p1 : Int32) (hT : typM F A) (hp1 : rg p1 0 1701) : Met l yX12_sign (Cond.code yX12_sign cX12_sign 2 (some .int) :: GW) rm_X12_sign_0 (mPc D classes (tysM cA) (wM cA ad F L A B) sz [.ref (ad 0), .int p1]) (mQi (S := Unit) D classes (tysM cA) (wM cA ad F L A B) sz (fun _ : Unit => wM cA ad F L A B) (fun r u => rg r 0 255 ∧ (r = 0 ∨ p1.toInt < (F 1).toInt))) 0 0 (va_A (wM cA ad F L A B) sz) := by
  refine met_i (own := "ShoeingDayModel") (by decide +kernel) rfl (Nat.le_of_ble_eq_true rfl) ?_
  intro p e s m args below meth c Q Af ls hC hP hD hS hA hl hret
  have hx := hC.1
  have hb := hC.2.1
  have hown := hC.2.2.2.1
  have hg := hC.g
  have hK := hC.K
  have hl : lv_has ls 2 [(0, .ref (ad 0)), (1, .int p1)] := hl
  have hq : qM [] [] F A F A := qM.rf hT
  obtain ⟨H, hH⟩ : ∃ H, H = s.heap := ⟨_, rfl⟩
  have hP : va_P D classes (wM cA ad F L A B) H := by rw [hH]; exact hP
  have hS : va_S Af s.heap H [] := by rw [hH]; exact hS
  obtain ⟨locs, hlo⟩ : ∃ q : List Loc, q = [] := ⟨_, rfl⟩
  rw [← hH, ← hlo]
  rw [← hlo] at hS
  refine lv_iload_n hx hb dX12_sign_0 rfl (lv_at hl 1 rfl) ?_
  refine lv_aload_n hx hb dX12_sign_1 rfl (lv_at hl 0 rfl) ?_
  refine va_get (ci := 12) (v := .int (F 1)) (C := RX12) (T := TX12) (N := 57) hx hb hg inX12 hown hK hP 0 atM_0 rfl 3 (by decide) (hg _ mw_1111) (fun _ h9 => h9) rfl dX12_sign_2 ?_
  refine lv_topi (fun x1 e2 => ?_)
  have r3 : rg x1 0 1700 := rg_e e2 (hq.1.1 1)
  refine lv_icmp_ge (tgt := 21) hx hb dX12_sign_5 (by decide) (fun c4 => ?_) (fun c4 => ?_)
  · skip
    refine lv_iconst (v := 0) hx hb dX12_sign_21 (by decide) ?_
    exact hret (0) () H locs 22 ls rfl dX12_sign_22 hP hD hS ⟨(rg_k (by decide)), (Or.inl rfl)⟩
  · skip
    have r5 : rg p1 0 1699 := rg_lt1 (iNE c4) (hp1 : rg p1 0 1701) (r3 : rg x1 0 1700)
    have r6 : rg x1 1 1700 := rg_lt2 (iNE c4) (hp1 : rg p1 0 1701) (r3 : rg x1 0 1700)
    refine lv_aload_n hx hb dX12_sign_8 rfl (lv_at hl 0 rfl) ?_
    refine va_get (ci := 12) (v := .ref (ad 2)) (C := RX12) (T := TX12) (N := 57) hx hb hg inX12 hown hK hP 0 atM_0 rfl 1 (by decide) (hg _ mw_1109) (fun _ h9 => h9) rfl dX12_sign_9 ?_
    refine lv_iload_n hx hb dX12_sign_12 rfl (lv_at hl 1 rfl) ?_
    refine va_bald hx hb hK hP 2 1 atM_2 tyM_2 (in_rg r5 (by decide)) dX12_sign_13 ?_
    refine lv_topi (fun x7 e8 => ?_)
    refine lv_sipush (v := 255) hx hb dX12_sign_14 (by decide) ?_
    refine lv_iand hx hb dX12_sign_17 ?_
    refine lv_topi (fun x9 e10 => ?_)
    have r11 : rg x9 0 255 := rg_andr e10 ((rg_k (by decide)) : rg 255 255 255) (by decide)
    refine lv_goto (tgt := 22) hx hb dX12_sign_18 (by decide) ?_
    exact hret (x9) () H locs 22 ls rfl dX12_sign_22 hP hD hS ⟨r11, (Or.inr (by have := ((r11 : rg x9 0 255)).1; have := ((r11 : rg x9 0 255)).2; have := ((r6 : rg x1 1 1700)).1; have := ((r6 : rg x1 1 1700)).2; have := congrArg Int32.toInt e2; have := ((r5 : rg p1 0 1699)).1; have := ((r5 : rg p1 0 1699)).2; have := (iNE c4); omega))⟩
abbrev rm_X12_goOn_0 : Room := { frames := 1, cells := 0, slots := 0, locals := 21 }
set_option maxHeartbeats 4000000 in
set_option maxRecDepth 100000 in
theorem c_X12_goOn_0 (l : Launch) (D : va_G) (cA : Nat → ClassId) (sz : Nat) (ad : Nat → Nat) (F : Nat → Int32) (L : Nat → Int64) (A : Nat → Nat → Int32) (B : Nat → Nat → Int64)  (hT : typM F A) (hG : (F 5).toInt ≤ (F 1).toInt) : Met l yX12_goOn (Cond.code yX12_goOn cX12_goOn 3 none :: GW) rm_X12_goOn_0 (mPc D classes (tysM cA) (wM cA ad F L A B) sz [.ref (ad 0)]) (mQv (S := SW) D classes (tysM cA) (wM cA ad F L A B) sz (wfM cA ad) (fun u => qM [4, 5, 6, 7] [] F A u.1 u.2.2.1 ∧ (gP F u.1))) 0 0 (va_A (wM cA ad F L A B) sz) := by
  refine met_v (own := "ShoeingDayModel") (by decide +kernel) rfl (Nat.le_of_ble_eq_true rfl) ?_
  intro p e s m args below meth c Q Af ls hC hP hD hS hA hl hret
  have hx := hC.1
  have hb := hC.2.1
  have hown := hC.2.2.2.1
  have hg := hC.g
  have hK := hC.K
  have hl : lv_has ls 3 [(0, .ref (ad 0))] := hl
  have hq : qM [4, 5, 6, 7] [] F A F A := qM.rf hT
  obtain ⟨H, hH⟩ : ∃ H, H = s.heap := ⟨_, rfl⟩
  have hP : va_P D classes (wM cA ad F L A B) H := by rw [hH]; exact hP
  have hS : va_S Af s.heap H [] := by rw [hH]; exact hS
  obtain ⟨locs, hlo⟩ : ∃ q : List Loc, q = [] := ⟨_, rfl⟩
  rw [← hH, ← hlo]
  rw [← hlo] at hS
  refine lv_aload_n hx hb dX12_goOn_0 rfl (lv_at hl 0 rfl) ?_
  refine lv_aload_n hx hb dX12_goOn_1 rfl (lv_at hl 0 rfl) ?_
  refine va_get (ci := 12) (v := .int (F 5)) (C := RX12) (T := TX12) (N := 57) hx hb hg inX12 hown hK hP 0 atM_0 rfl 7 (by decide) (hg _ mw_1115) (fun _ h9 => h9) rfl dX12_goOn_2 ?_
  refine lv_topi (fun x1 e2 => ?_)
  have r3 : rg x1 0 1700 := (by have f1 : rg (F 1) 0 1700 := hq.1.1 1; have f2 : rg (F 5) 0 1701 := hq.1.1 5; have := hG; have := congrArg Int32.toInt e2; unfold rg at *; omega)
  refine va_put (ci := 12) (v := .int x1) (ty := .int) (C := RX12) (T := TX12) (N := 57) hx hb hg inX12 tyX12 tyX12_ok nmX12 hown hK hP hD hS 0 atM_0 rfl 6 (by decide) (hg _ mw_1114) (fun _ h9 => h9) rfl (by decide +kernel) rfl rfl (Nat.le_of_ble_eq_true rfl) dX12_goOn_5 (fun H locs hP hD hS => ?_)
  have hq := hq.put 4 (x := x1) (by decide) r3
  rw [setFM_4] at hP hD
  have J8 : ∀ (n8 : Nat) (F4 : Nat → Int32) (L4 : Nat → Int64) (A4 : Nat → Nat → Int32) (B4 : Nat → Nat → Int64) (H : Heap) (locs : List Loc) (ls : Array Slot), (1700 - (F4 4).toInt).toNat < n8 → qM [4, 5, 6, 7] [] F A F4 A4 → F4 5 = x1 → (gI F F4) → va_P D classes (wM cA ad F4 L4 A4 B4) H → va_D Af (wM cA ad F4 L4 A4 B4) → va_S Af s.heap H locs → lv_has ls 3 [(0, .ref (ad 0))] → W p l e rm_X12_goOn_0 s m args below meth c H locs 0 0 Q (F0 m 8 ls []) := by
    intro n8
    induction n8 with
    | zero =>
      intro _ _ _ _ _ _ _ hn
      exact absurd hn (Nat.not_lt_zero _)
    | succ n8 ih8 =>
      intro F4 L4 A4 B4 H locs ls hn8 hq f5 v6 hP hD hS hl
      refine lv_aload_n hx hb dX12_goOn_8 rfl (lv_at hl 0 rfl) ?_
      refine va_get (ci := 12) (v := .int (F4 4)) (C := RX12) (T := TX12) (N := 57) hx hb hg inX12 hown hK hP 0 atM_0 rfl 6 (by decide) (hg _ mw_1114) (fun _ h9 => h9) rfl dX12_goOn_9 ?_
      refine lv_topi (fun x7 e8 => ?_)
      have r9 : rg x7 0 1700 := rg_e e8 (hq.1.1 4)
      refine lv_aload_n hx hb dX12_goOn_12 rfl (lv_at hl 0 rfl) ?_
      refine va_get (ci := 12) (v := .int (F4 1)) (C := RX12) (T := TX12) (N := 57) hx hb hg inX12 hown hK hP 0 atM_0 rfl 3 (by decide) (hg _ mw_1111) (fun _ h9 => h9) rfl dX12_goOn_13 ?_
      refine lv_topi (fun x10 e11 => ?_)
      have r12 : rg x10 0 1700 := rg_e e11 (hq.1.1 1)
      have J58 : ∀ (F13 : Nat → Int32) (L13 : Nat → Int64) (A13 : Nat → Nat → Int32) (B13 : Nat → Nat → Int64) (H : Heap) (locs : List Loc) (ls : Array Slot), qM [4, 5, 6, 7] [] F A F13 A13 → F13 1 = x10 → F13 4 = x7 → F13 5 = x1 → (gI F F13) → va_P D classes (wM cA ad F13 L13 A13 B13) H → va_D Af (wM cA ad F13 L13 A13 B13) → va_S Af s.heap H locs → lv_has ls 3 [(0, .ref (ad 0))] → W p l e rm_X12_goOn_0 s m args below meth c H locs 0 0 Q (F0 m 58 ls []) := by
        intro F13 L13 A13 B13 H locs ls hq f14 f15 f16 v17 hP hD hS hl
        refine lv_aload_n hx hb dX12_goOn_58 rfl (lv_at hl 0 rfl) ?_
        refine lv_aload_n hx hb dX12_goOn_59 rfl (lv_at hl 0 rfl) ?_
        refine va_get (ci := 12) (v := .int x7) (C := RX12) (T := TX12) (N := 57) hx hb hg inX12 hown hK hP 0 atM_0 rfl 6 (by decide) (hg _ mw_1114) (fun _ h9 => h9) (congrArg (fun z => some (Value.int z)) (f15)) dX12_goOn_60 ?_
        refine callv_i (As := [.int x7]) (rest := []) hC (c_X12_sign_0 l D cA H.size ad F13 L13 A13 B13 (x7) hq.1 (rg_w r9 (by decide))) (cwV 1 hg (g_V mw_1292 mw_1289 mw_1291 ms_49 mw_20) rfl rfl rfl (by decide +kernel) ⟨(Nat.le_of_ble_eq_true rfl), (Nat.le_of_ble_eq_true rfl)⟩) hP hD hS hA atM_0 rfl rfl hl.1 rfl (Nat.le_of_ble_eq_true rfl) dX12_goOn_63 ⟨Nat.zero_le _, Nat.zero_le _⟩ (fun x18 u H locs hw hP hD hS => ?_)
        obtain ⟨r19, g20⟩ := hw
        have hP : va_P D classes (wM cA ad F13 L13 A13 B13) H := hP
        have hD : va_D Af (wM cA ad F13 L13 A13 B13) := hD
        refine lv_istore_n (lv' := [(1, .int x18), (0, .ref (ad 0))]) hx hb dX12_goOn_66 rfl hl (by decide) rfl (fun ls hl => ?_)
        refine lv_aload_n hx hb dX12_goOn_67 rfl (lv_at hl 1 rfl) ?_
        refine lv_aload_n hx hb dX12_goOn_68 rfl (lv_at hl 1 rfl) ?_
        refine va_get (ci := 12) (v := .int x7) (C := RX12) (T := TX12) (N := 57) hx hb hg inX12 hown hK hP 0 atM_0 rfl 6 (by decide) (hg _ mw_1114) (fun _ h9 => h9) (congrArg (fun z => some (Value.int z)) (f15)) dX12_goOn_69 ?_
        refine lv_iconst (v := 1) hx hb dX12_goOn_72 (by decide) ?_
        refine lv_iadd hx hb dX12_goOn_73 ?_
        refine lv_topi (fun x21 e22 => ?_)
        have r23 : rg x21 1 1701 := rg_add e22 r9 ((rg_k (by decide)) : rg 1 1 1) (by decide)
        refine va_put (ci := 12) (v := .int x21) (ty := .int) (C := RX12) (T := TX12) (N := 57) hx hb hg inX12 tyX12 tyX12_ok nmX12 hown hK hP hD hS 0 atM_0 rfl 7 (by decide) (hg _ mw_1115) (fun _ h9 => h9) rfl (by decide +kernel) rfl rfl (Nat.le_of_ble_eq_true rfl) dX12_goOn_74 (fun H locs hP hD hS => ?_)
        have hq := hq.put 5 (x := x21) (by decide) (rg_w r23 (by decide))
        rw [setFM_5] at hP hD
        refine lv_aload_n hx hb dX12_goOn_77 rfl (lv_at hl 1 rfl) ?_
        refine va_get (ci := 12) (v := .int x7) (C := RX12) (T := TX12) (N := 57) hx hb hg inX12 hown hK hP 0 atM_0 rfl 6 (by decide) (hg _ mw_1114) (fun _ h9 => h9) (congrArg (fun z => some (Value.int z)) (f15)) dX12_goOn_78 ?_
        refine lv_aload_n hx hb dX12_goOn_81 rfl (lv_at hl 1 rfl) ?_
        refine va_get (ci := 12) (v := .int x10) (C := RX12) (T := TX12) (N := 57) hx hb hg inX12 hown hK hP 0 atM_0 rfl 3 (by decide) (hg _ mw_1111) (fun _ h9 => h9) (congrArg (fun z => some (Value.int z)) (f14)) dX12_goOn_82 ?_
        refine lv_icmp_lt (tgt := 112) hx hb dX12_goOn_85 (by decide) (fun c24 => ?_) (fun c24 => ?_)
        · skip
          have r25 : rg x7 0 1699 := rg_lt1 (iL c24) (r9 : rg x7 0 1700) (r12 : rg x10 0 1700)
          have r26 : rg x10 1 1700 := rg_lt2 (iL c24) (r9 : rg x7 0 1700) (r12 : rg x10 0 1700)
          refine lv_iload_n hx hb dX12_goOn_112 rfl (lv_at hl 0 rfl) ?_
          refine calls_i (As := [.int x18]) (rest := []) hC (c_X12_isLetter l D (tysM cA) (wM cA ad (upd F13 5 x21) L13 A13 B13) H.size (x18) r19) (cwS 1 hg (g_S mw_1295 mw_1293 mw_1294 mw_20) rfl rfl rfl (by decide +kernel) ⟨(Nat.le_of_ble_eq_true rfl), (Nat.le_of_ble_eq_true rfl)⟩) hP hD hS hA rfl hl.1 rfl (Nat.le_of_ble_eq_true rfl) dX12_goOn_113 ⟨Nat.zero_le _, Nat.zero_le _⟩ (fun x27 u H locs hw hP hD hS => ?_)
          obtain ⟨r28, g29⟩ := hw
          have hP : va_P D classes (wM cA ad (upd F13 5 x21) L13 A13 B13) H := hP
          have hD : va_D Af (wM cA ad (upd F13 5 x21) L13 A13 B13) := hD
          refine lv_if_eq (tgt := 239) hx hb dX12_goOn_116 (by decide) (fun c30 => ?_) (fun c30 => ?_)
          · skip
            have r31 : rg x27 0 0 := rg_eq1 c30 (r28 : rg x27 0 1) ((rg_k (by decide)) : rg 0 0 0) (by decide)
            refine lv_iload_n hx hb dX12_goOn_239 rfl (lv_at hl 0 rfl) ?_
            refine calls_i (As := [.int x18]) (rest := []) hC (c_X12_isDigit l D (tysM cA) (wM cA ad (upd F13 5 x21) L13 A13 B13) H.size (x18) r19) (cwS 1 hg (g_S mw_1308 mw_1306 mw_1307 mw_20) rfl rfl rfl (by decide +kernel) ⟨(Nat.le_of_ble_eq_true rfl), (Nat.le_of_ble_eq_true rfl)⟩) hP hD hS hA rfl hl.1 rfl (Nat.le_of_ble_eq_true rfl) dX12_goOn_240 ⟨Nat.zero_le _, Nat.zero_le _⟩ (fun x33 u H locs hw hP hD hS => ?_)
            obtain ⟨r34, g35⟩ := hw
            have hP : va_P D classes (wM cA ad (upd F13 5 x21) L13 A13 B13) H := hP
            have hD : va_D Af (wM cA ad (upd F13 5 x21) L13 A13 B13) := hD
            refine lv_if_eq (tgt := 361) hx hb dX12_goOn_243 (by decide) (fun c36 => ?_) (fun c36 => ?_)
            · skip
              have r37 : rg x33 0 0 := rg_eq1 c36 (r34 : rg x33 0 1) ((rg_k (by decide)) : rg 0 0 0) (by decide)
              refine lv_aload_n hx hb dX12_goOn_361 rfl (lv_at hl 1 rfl) ?_
              refine lv_iload_n hx hb dX12_goOn_362 rfl (lv_at hl 0 rfl) ?_
              refine lv_bipush (v := 59) hx hb dX12_goOn_363 (by decide) ?_
              have J373 : ∀ (a39 : Int32) (F41 : Nat → Int32) (L41 : Nat → Int64) (A41 : Nat → Nat → Int32) (B41 : Nat → Nat → Int64) (H : Heap) (locs : List Loc) (ls : Array Slot), rg a39 1 5 → qM [4, 5, 6, 7] [] F A F41 A41 → (gL F F41) → va_P D classes (wM cA ad F41 L41 A41 B41) H → va_D Af (wM cA ad F41 L41 A41 B41) → va_S Af s.heap H locs → lv_has ls 3 [] → W p l e rm_X12_goOn_0 s m args below meth c H locs 0 0 Q (F0 m 373 ls [.int a39, .ref (ad 0)]) := by
                intro a39 F41 L41 A41 B41 H locs ls r40 hq v42 hP hD hS hl
                refine va_put (ci := 12) (v := .int a39) (ty := .int) (C := RX12) (T := TX12) (N := 57) hx hb hg inX12 tyX12 tyX12_ok nmX12 hown hK hP hD hS 0 atM_0 rfl 8 (by decide) (hg _ mw_1116) (fun _ h9 => h9) rfl (by decide +kernel) rfl rfl (Nat.le_of_ble_eq_true rfl) dX12_goOn_373 (fun H locs hP hD hS => ?_)
                have hq := hq.put 6 (x := a39) (by decide) (rg_w r40 (by decide))
                rw [setFM_6] at hP hD
                exact hret ((upd F41 6 a39), L41, A41, B41) H locs 376 ls dX12_goOn_376 hP hD hS ⟨hq, (gP.of (t := (F41 4)) (e := (F41 5)) (z := (F41 1)) (k := a39) rfl rfl rfl (rfl) (by first | rfl | exact v6.2.2 | exact v17.2.2 | exact v42.2.2.2) (by have := hG; have f9 : rg (F41 1) 0 1700 := hq.1.1 1; have := f9.1; have := f9.2; have := ((r23 : rg x21 1 1701)).1; have := ((r23 : rg x21 1 1701)).2; have := tiA e22 (r25 : rg x7 0 1699) ((rg_k (by decide)) : rg (1 : Int32) 1 1) (by decide); have := ((r25 : rg x7 0 1699)).1; have := ((r25 : rg x7 0 1699)).2; have := congrArg Int32.toInt e8; have := ((r40 : rg a39 1 5)).1; have := ((r40 : rg a39 1 5)).2; have := congrArg Int32.toInt f5; have := congrArg Int32.toInt f14; have := congrArg Int32.toInt f15; have := congrArg Int32.toInt f16; have := (iL c24); have := c30; have := c36; have : (1 : Int32).toInt = 1 := rfl; have := congrArg Int32.toInt v6.2.2; have := v6; unfold gI at this; have := congrArg Int32.toInt v17.2.2; have := v17; unfold gI at this; have := congrArg Int32.toInt v42.2.2.2; have := v42; unfold gL at this; omega) (fun _ => by have := hG; have f9 : rg (F41 1) 0 1700 := hq.1.1 1; have := f9.1; have := f9.2; have := ((r23 : rg x21 1 1701)).1; have := ((r23 : rg x21 1 1701)).2; have := tiA e22 (r25 : rg x7 0 1699) ((rg_k (by decide)) : rg (1 : Int32) 1 1) (by decide); have := ((r25 : rg x7 0 1699)).1; have := ((r25 : rg x7 0 1699)).2; have := congrArg Int32.toInt e8; have := ((r40 : rg a39 1 5)).1; have := ((r40 : rg a39 1 5)).2; have := congrArg Int32.toInt f5; have := congrArg Int32.toInt f14; have := congrArg Int32.toInt f15; have := congrArg Int32.toInt f16; have := (iL c24); have := c30; have := c36; have : (1 : Int32).toInt = 1 := rfl; have := congrArg Int32.toInt v6.2.2; have := v6; unfold gI at this; have := congrArg Int32.toInt v17.2.2; have := v17; unfold gI at this; have := congrArg Int32.toInt v42.2.2.2; have := v42; unfold gL at this; omega))⟩
              refine lv_icmp_ne (tgt := 372) hx hb dX12_goOn_365 (by decide) (fun c43 => ?_) (fun c43 => ?_)
              · skip
                refine lv_iconst (v := 1) hx hb dX12_goOn_372 (by decide) ?_
                exact J373 (1) ((upd F13 5 x21)) (L13) (A13) (B13) H locs ls (rg_k (by decide)) hq (gL.of (t := x7) (e := x21) (z := x10) (f15) (rfl) (f14) (by first | rfl | exact v6.2.2 | exact v17.2.2 | exact e11 | exact (e11).trans (v6.2.2) | exact (e11).trans (v17.2.2)) (by have := hG; have f9 : rg (F13 1) 0 1700 := hq.1.1 1; have := f9.1; have := f9.2; have := ((r23 : rg x21 1 1701)).1; have := ((r23 : rg x21 1 1701)).2; have := tiA e22 (r25 : rg x7 0 1699) ((rg_k (by decide)) : rg (1 : Int32) 1 1) (by decide); have := ((r25 : rg x7 0 1699)).1; have := ((r25 : rg x7 0 1699)).2; have := congrArg Int32.toInt e8; have := ((r26 : rg x10 1 1700)).1; have := ((r26 : rg x10 1 1700)).2; have := congrArg Int32.toInt e11; have := ((r19 : rg x18 0 255)).1; have := ((r19 : rg x18 0 255)).2; have := congrArg Int32.toInt f5; have := congrArg Int32.toInt f14; have := congrArg Int32.toInt f15; have := congrArg Int32.toInt f16; have := (iL c24); have := c30; have := c36; have := c43; have : (1 : Int32).toInt = 1 := rfl; have := congrArg Int32.toInt v6.2.2; have := v6; unfold gI at this; have := congrArg Int32.toInt v17.2.2; have := v17; unfold gI at this; omega)) hP hD hS (lv_sub hl [] rfl)
              · skip
                have r44 : rg x18 59 59 := rg_eq1 c43 (r19 : rg x18 0 255) ((rg_k (by decide)) : rg 59 59 59) (by decide)
                refine lv_iconst (v := 5) hx hb dX12_goOn_368 (by decide) ?_
                refine lv_goto (tgt := 373) hx hb dX12_goOn_369 (by decide) ?_
                exact J373 (5) ((upd F13 5 x21)) (L13) (A13) (B13) H locs ls (rg_k (by decide)) hq (gL.of (t := x7) (e := x21) (z := x10) (f15) (rfl) (f14) (by first | rfl | exact v6.2.2 | exact v17.2.2 | exact e11 | exact (e11).trans (v6.2.2) | exact (e11).trans (v17.2.2)) (by have := hG; have f9 : rg (F13 1) 0 1700 := hq.1.1 1; have := f9.1; have := f9.2; have := ((r23 : rg x21 1 1701)).1; have := ((r23 : rg x21 1 1701)).2; have := tiA e22 (r25 : rg x7 0 1699) ((rg_k (by decide)) : rg (1 : Int32) 1 1) (by decide); have := ((r25 : rg x7 0 1699)).1; have := ((r25 : rg x7 0 1699)).2; have := congrArg Int32.toInt e8; have := ((r26 : rg x10 1 1700)).1; have := ((r26 : rg x10 1 1700)).2; have := congrArg Int32.toInt e11; have := ((r44 : rg x18 59 59)).1; have := ((r44 : rg x18 59 59)).2; have := congrArg Int32.toInt f5; have := congrArg Int32.toInt f14; have := congrArg Int32.toInt f15; have := congrArg Int32.toInt f16; have := (iL c24); have := c30; have := c36; have := c43; have : (1 : Int32).toInt = 1 := rfl; have : (5 : Int32).toInt = 5 := rfl; have := congrArg Int32.toInt v6.2.2; have := v6; unfold gI at this; have := congrArg Int32.toInt v17.2.2; have := v17; unfold gI at this; omega)) hP hD hS (lv_sub hl [] rfl)
            · skip
              have g38 := g35.resolve_left c36
              refine lv_aload_n hx hb dX12_goOn_246 rfl (lv_at hl 1 rfl) ?_
              refine lv_iconst (v := 0) hx hb dX12_goOn_247 (by decide) ?_
              refine va_put (ci := 12) (v := .int 0) (ty := .int) (C := RX12) (T := TX12) (N := 57) hx hb hg inX12 tyX12 tyX12_ok nmX12 hown hK hP hD hS 0 atM_0 rfl 9 (by decide) (hg _ mw_1117) (fun _ h9 => h9) rfl (by decide +kernel) rfl rfl (Nat.le_of_ble_eq_true rfl) dX12_goOn_248 (fun H locs hP hD hS => ?_)
              have hq := hq.put 7 (x := 0) (by decide) (rg_k (by decide))
              rw [setFM_7] at hP hD
              refine lv_aload_n hx hb dX12_goOn_251 rfl (lv_at hl 1 rfl) ?_
              refine lv_aload_n hx hb dX12_goOn_252 rfl (lv_at hl 1 rfl) ?_
              refine va_get (ci := 12) (v := .int x7) (C := RX12) (T := TX12) (N := 57) hx hb hg inX12 hown hK hP 0 atM_0 rfl 6 (by decide) (hg _ mw_1114) (fun _ h9 => h9) (congrArg (fun z => some (Value.int z)) (f15)) dX12_goOn_253 ?_
              refine va_put (ci := 12) (v := .int x7) (ty := .int) (C := RX12) (T := TX12) (N := 57) hx hb hg inX12 tyX12 tyX12_ok nmX12 hown hK hP hD hS 0 atM_0 rfl 7 (by decide) (hg _ mw_1115) (fun _ h9 => h9) rfl (by decide +kernel) rfl rfl (Nat.le_of_ble_eq_true rfl) dX12_goOn_256 (fun H locs hP hD hS => ?_)
              have hq := hq.put 5 (x := x7) (by decide) (rg_w r25 (by decide))
              rw [setFM_5] at hP hD
              have J259 : ∀ (n259 : Nat) (F45 : Nat → Int32) (L45 : Nat → Int64) (A45 : Nat → Nat → Int32) (B45 : Nat → Nat → Int64) (H : Heap) (locs : List Loc) (ls : Array Slot), (1701 - (F45 5).toInt).toNat < n259 → qM [4, 5, 6, 7] [] F A F45 A45 → F45 4 = x7 → (gD F F45) → va_P D classes (wM cA ad F45 L45 A45 B45) H → va_D Af (wM cA ad F45 L45 A45 B45) → va_S Af s.heap H locs → lv_has ls 3 [(0, .ref (ad 0))] → W p l e rm_X12_goOn_0 s m args below meth c H locs 0 0 Q (F0 m 259 ls []) := by
                intro n259
                induction n259 with
                | zero =>
                  intro _ _ _ _ _ _ _ hn
                  exact absurd hn (Nat.not_lt_zero _)
                | succ n259 ih259 =>
                  intro F45 L45 A45 B45 H locs ls hn259 hq f46 v47 hP hD hS hl
                  refine lv_aload_n hx hb dX12_goOn_259 rfl (lv_at hl 0 rfl) ?_
                  refine lv_aload_n hx hb dX12_goOn_260 rfl (lv_at hl 0 rfl) ?_
                  refine va_get (ci := 12) (v := .int (F45 5)) (C := RX12) (T := TX12) (N := 57) hx hb hg inX12 hown hK hP 0 atM_0 rfl 7 (by decide) (hg _ mw_1115) (fun _ h9 => h9) rfl dX12_goOn_261 ?_
                  refine lv_topi (fun x48 e49 => ?_)
                  have r50 : rg x48 0 1701 := rg_e e49 (hq.1.1 5)
                  refine callv_i (As := [.int x48]) (rest := []) hC (c_X12_sign_0 l D cA H.size ad F45 L45 A45 B45 (x48) hq.1 r50) (cwV 1 hg (g_V mw_1292 mw_1289 mw_1291 ms_49 mw_20) rfl rfl rfl (by decide +kernel) ⟨(Nat.le_of_ble_eq_true rfl), (Nat.le_of_ble_eq_true rfl)⟩) hP hD hS hA atM_0 rfl rfl hl.1 rfl (Nat.le_of_ble_eq_true rfl) dX12_goOn_264 ⟨Nat.zero_le _, Nat.zero_le _⟩ (fun x51 u H locs hw hP hD hS => ?_)
                  obtain ⟨r52, g53⟩ := hw
                  have hP : va_P D classes (wM cA ad F45 L45 A45 B45) H := hP
                  have hD : va_D Af (wM cA ad F45 L45 A45 B45) := hD
                  refine calls_i (As := [.int x51]) (rest := []) hC (c_X12_isDigit l D (tysM cA) (wM cA ad F45 L45 A45 B45) H.size (x51) r52) (cwS 1 hg (g_S mw_1308 mw_1306 mw_1307 mw_20) rfl rfl rfl (by decide +kernel) ⟨(Nat.le_of_ble_eq_true rfl), (Nat.le_of_ble_eq_true rfl)⟩) hP hD hS hA rfl hl.1 rfl (Nat.le_of_ble_eq_true rfl) dX12_goOn_267 ⟨Nat.zero_le _, Nat.zero_le _⟩ (fun x54 u H locs hw hP hD hS => ?_)
                  obtain ⟨r55, g56⟩ := hw
                  have hP : va_P D classes (wM cA ad F45 L45 A45 B45) H := hP
                  have hD : va_D Af (wM cA ad F45 L45 A45 B45) := hD
                  refine lv_if_eq (tgt := 322) hx hb dX12_goOn_270 (by decide) (fun c57 => ?_) (fun c57 => ?_)
                  · skip
                    have r58 : rg x54 0 0 := rg_eq1 c57 (r55 : rg x54 0 1) ((rg_k (by decide)) : rg 0 0 0) (by decide)
                    refine lv_aload_n hx hb dX12_goOn_322 rfl (lv_at hl 0 rfl) ?_
                    refine lv_aload_n hx hb dX12_goOn_323 rfl (lv_at hl 0 rfl) ?_
                    refine va_get (ci := 12) (v := .int x48) (C := RX12) (T := TX12) (N := 57) hx hb hg inX12 hown hK hP 0 atM_0 rfl 7 (by decide) (hg _ mw_1115) (fun _ h9 => h9) (congrArg (fun z => some (Value.int z)) (e49.symm)) dX12_goOn_324 ?_
                    refine lv_aload_n hx hb dX12_goOn_327 rfl (lv_at hl 0 rfl) ?_
                    refine va_get (ci := 12) (v := .int x7) (C := RX12) (T := TX12) (N := 57) hx hb hg inX12 hown hK hP 0 atM_0 rfl 6 (by decide) (hg _ mw_1114) (fun _ h9 => h9) (congrArg (fun z => some (Value.int z)) (f46)) dX12_goOn_328 ?_
                    refine lv_isub hx hb dX12_goOn_331 ?_
                    refine lv_topi (fun x60 e61 => ?_)
                    have r62 : rg x60 (-1699) 1701 := rg_sub e61 r50 r25 (by decide)
                    refine lv_iconst (v := 4) hx hb dX12_goOn_332 (by decide) ?_
                    have J350 : ∀ (F63 : Nat → Int32) (L63 : Nat → Int64) (A63 : Nat → Nat → Int32) (B63 : Nat → Nat → Int64) (H : Heap) (locs : List Loc) (ls : Array Slot), qM [4, 5, 6, 7] [] F A F63 A63 → (gD F F63) → va_P D classes (wM cA ad F63 L63 A63 B63) H → va_D Af (wM cA ad F63 L63 A63 B63) → va_S Af s.heap H locs → lv_has ls 3 [] → W p l e rm_X12_goOn_0 s m args below meth c H locs 0 0 Q (F0 m 350 ls [.ref (ad 0)]) := by
                      intro F63 L63 A63 B63 H locs ls hq v64 hP hD hS hl
                      refine lv_iconst (v := 1) hx hb dX12_goOn_350 (by decide) ?_
                      refine lv_goto (tgt := 355) hx hb dX12_goOn_351 (by decide) ?_
                      refine va_put (ci := 12) (v := .int 1) (ty := .int) (C := RX12) (T := TX12) (N := 57) hx hb hg inX12 tyX12 tyX12_ok nmX12 hown hK hP hD hS 0 atM_0 rfl 8 (by decide) (hg _ mw_1116) (fun _ h9 => h9) rfl (by decide +kernel) rfl rfl (Nat.le_of_ble_eq_true rfl) dX12_goOn_355 (fun H locs hP hD hS => ?_)
                      have hq := hq.put 6 (x := 1) (by decide) (rg_k (by decide))
                      rw [setFM_6] at hP hD
                      refine lv_goto (tgt := 376) hx hb dX12_goOn_358 (by decide) ?_
                      exact hret ((upd F63 6 (1 : Int32)), L63, A63, B63) H locs 376 ls dX12_goOn_376 hP hD hS ⟨hq, (gP.of (t := (F63 4)) (e := (F63 5)) (z := (F63 1)) (k := (1 : Int32)) rfl rfl rfl (rfl) (by first | rfl | exact v6.2.2 | exact v17.2.2 | exact v47.2.2.2 | exact v64.2.2.2) (by have := hG; have f9 : rg (F63 1) 0 1700 := hq.1.1 1; have := f9.1; have := f9.2; have := ((r62 : rg x60 (-1699) 1701)).1; have := ((r62 : rg x60 (-1699) 1701)).2; have := tiS e61 (r50 : rg x48 0 1701) (r25 : rg x7 0 1699) (by decide); have := ((r25 : rg x7 0 1699)).1; have := ((r25 : rg x7 0 1699)).2; have := congrArg Int32.toInt e8; have := ((r50 : rg x48 0 1701)).1; have := ((r50 : rg x48 0 1701)).2; have := congrArg Int32.toInt e49; have := ((r23 : rg x21 1 1701)).1; have := ((r23 : rg x21 1 1701)).2; have := tiA e22 (r25 : rg x7 0 1699) ((rg_k (by decide)) : rg (1 : Int32) 1 1) (by decide); have := congrArg Int32.toInt f5; have := congrArg Int32.toInt f14; have := congrArg Int32.toInt f15; have := congrArg Int32.toInt f16; have := congrArg Int32.toInt f46; have := (iL c24); have := c30; have := c36; have := c57; have : (1 : Int32).toInt = 1 := rfl; have := congrArg Int32.toInt v6.2.2; have := v6; unfold gI at this; have := congrArg Int32.toInt v17.2.2; have := v17; unfold gI at this; have := congrArg Int32.toInt v47.2.2.2; have := v47; unfold gD at this; have := congrArg Int32.toInt v64.2.2.2; have := v64; unfold gD at this; omega) (fun h => absurd h (by decide)))⟩
                    refine lv_icmp_gt (tgt := 350) hx hb dX12_goOn_333 (by decide) (fun c65 => ?_) (fun c65 => ?_)
                    · skip
                      have r66 : rg x60 5 1701 := rg_lt2 (iL c65) ((rg_k (by decide)) : rg 4 4 4) (r62 : rg x60 (-1699) 1701)
                      exact J350 (F45) (L45) (A45) (B45) H locs ls hq (gD.of (t := x7) (e := x48) (z := (F45 1)) (f46) (e49.symm) rfl (by first | rfl | exact v6.2.2 | exact v17.2.2 | exact v47.2.2.2) (by have := hG; have f9 : rg (F45 1) 0 1700 := hq.1.1 1; have := f9.1; have := f9.2; have := ((r66 : rg x60 5 1701)).1; have := ((r66 : rg x60 5 1701)).2; have := tiS e61 (r50 : rg x48 0 1701) (r25 : rg x7 0 1699) (by decide); have := ((r25 : rg x7 0 1699)).1; have := ((r25 : rg x7 0 1699)).2; have := congrArg Int32.toInt e8; have := ((r50 : rg x48 0 1701)).1; have := ((r50 : rg x48 0 1701)).2; have := congrArg Int32.toInt e49; have := ((r23 : rg x21 1 1701)).1; have := ((r23 : rg x21 1 1701)).2; have := tiA e22 (r25 : rg x7 0 1699) ((rg_k (by decide)) : rg (1 : Int32) 1 1) (by decide); have := congrArg Int32.toInt f5; have := congrArg Int32.toInt f14; have := congrArg Int32.toInt f15; have := congrArg Int32.toInt f16; have := congrArg Int32.toInt f46; have := (iL c24); have := c30; have := c36; have := c57; have := (iL c65); have : (1 : Int32).toInt = 1 := rfl; have := congrArg Int32.toInt v6.2.2; have := v6; unfold gI at this; have := congrArg Int32.toInt v17.2.2; have := v17; unfold gI at this; have := congrArg Int32.toInt v47.2.2.2; have := v47; unfold gD at this; omega)) hP hD hS (lv_sub hl [] rfl)
                    · skip
                      have r67 : rg x60 (-1699) 4 := rg_le1 (iNL c65) (r62 : rg x60 (-1699) 1701) ((rg_k (by decide)) : rg 4 4 4)
                      refine lv_aload_n hx hb dX12_goOn_336 rfl (lv_at hl 0 rfl) ?_
                      refine lv_aload_n hx hb dX12_goOn_337 rfl (lv_at hl 0 rfl) ?_
                      refine va_get (ci := 12) (v := .int x48) (C := RX12) (T := TX12) (N := 57) hx hb hg inX12 hown hK hP 0 atM_0 rfl 7 (by decide) (hg _ mw_1115) (fun _ h9 => h9) (congrArg (fun z => some (Value.int z)) (e49.symm)) dX12_goOn_338 ?_
                      refine callv_i (As := [.int x48]) (rest := [.ref (ad 0)]) hC (c_X12_sign_0 l D cA H.size ad F45 L45 A45 B45 (x48) hq.1 r50) (cwV 1 hg (g_V mw_1292 mw_1289 mw_1291 ms_49 mw_20) rfl rfl rfl (by decide +kernel) ⟨(Nat.le_of_ble_eq_true rfl), (Nat.le_of_ble_eq_true rfl)⟩) hP hD hS hA atM_0 rfl rfl hl.1 rfl (Nat.le_of_ble_eq_true rfl) dX12_goOn_341 ⟨Nat.zero_le _, Nat.zero_le _⟩ (fun x68 u H locs hw hP hD hS => ?_)
                      obtain ⟨r69, g70⟩ := hw
                      have hP : va_P D classes (wM cA ad F45 L45 A45 B45) H := hP
                      have hD : va_D Af (wM cA ad F45 L45 A45 B45) := hD
                      refine calls_i (As := [.int x68]) (rest := [.ref (ad 0)]) hC (c_X12_isLetter l D (tysM cA) (wM cA ad F45 L45 A45 B45) H.size (x68) r69) (cwS 1 hg (g_S mw_1295 mw_1293 mw_1294 mw_20) rfl rfl rfl (by decide +kernel) ⟨(Nat.le_of_ble_eq_true rfl), (Nat.le_of_ble_eq_true rfl)⟩) hP hD hS hA rfl hl.1 rfl (Nat.le_of_ble_eq_true rfl) dX12_goOn_344 ⟨Nat.zero_le _, Nat.zero_le _⟩ (fun x71 u H locs hw hP hD hS => ?_)
                      obtain ⟨r72, g73⟩ := hw
                      have hP : va_P D classes (wM cA ad F45 L45 A45 B45) H := hP
                      have hD : va_D Af (wM cA ad F45 L45 A45 B45) := hD
                      refine lv_if_eq (tgt := 354) hx hb dX12_goOn_347 (by decide) (fun c74 => ?_) (fun c74 => ?_)
                      · skip
                        have r75 : rg x71 0 0 := rg_eq1 c74 (r72 : rg x71 0 1) ((rg_k (by decide)) : rg 0 0 0) (by decide)
                        refine lv_iconst (v := 4) hx hb dX12_goOn_354 (by decide) ?_
                        refine va_put (ci := 12) (v := .int 4) (ty := .int) (C := RX12) (T := TX12) (N := 57) hx hb hg inX12 tyX12 tyX12_ok nmX12 hown hK hP hD hS 0 atM_0 rfl 8 (by decide) (hg _ mw_1116) (fun _ h9 => h9) rfl (by decide +kernel) rfl rfl (Nat.le_of_ble_eq_true rfl) dX12_goOn_355 (fun H locs hP hD hS => ?_)
                        have hq := hq.put 6 (x := 4) (by decide) (rg_k (by decide))
                        rw [setFM_6] at hP hD
                        refine lv_goto (tgt := 376) hx hb dX12_goOn_358 (by decide) ?_
                        exact hret ((upd F45 6 (4 : Int32)), L45, A45, B45) H locs 376 ls dX12_goOn_376 hP hD hS ⟨hq, (gP.of (t := x7) (e := x48) (z := (F45 1)) (k := (4 : Int32)) (f46) (e49.symm) rfl (rfl) (by first | rfl | exact v6.2.2 | exact v17.2.2 | exact v47.2.2.2) (by have := hG; have f9 : rg (F45 1) 0 1700 := hq.1.1 1; have := f9.1; have := f9.2; have := ((r67 : rg x60 (-1699) 4)).1; have := ((r67 : rg x60 (-1699) 4)).2; have := tiS e61 (r50 : rg x48 0 1701) (r25 : rg x7 0 1699) (by decide); have := ((r25 : rg x7 0 1699)).1; have := ((r25 : rg x7 0 1699)).2; have := congrArg Int32.toInt e8; have := ((r50 : rg x48 0 1701)).1; have := ((r50 : rg x48 0 1701)).2; have := congrArg Int32.toInt e49; have := ((r23 : rg x21 1 1701)).1; have := ((r23 : rg x21 1 1701)).2; have := tiA e22 (r25 : rg x7 0 1699) ((rg_k (by decide)) : rg (1 : Int32) 1 1) (by decide); have := congrArg Int32.toInt f5; have := congrArg Int32.toInt f14; have := congrArg Int32.toInt f15; have := congrArg Int32.toInt f16; have := congrArg Int32.toInt f46; have := (iL c24); have := c30; have := c36; have := c57; have := (iNL c65); have := c74; have : (1 : Int32).toInt = 1 := rfl; have : (4 : Int32).toInt = 4 := rfl; have := congrArg Int32.toInt v6.2.2; have := v6; unfold gI at this; have := congrArg Int32.toInt v17.2.2; have := v17; unfold gI at this; have := congrArg Int32.toInt v47.2.2.2; have := v47; unfold gD at this; omega) (fun h => absurd h (by decide)))⟩
                      · skip
                        have g76 := g73.resolve_left c74
                        exact J350 (F45) (L45) (A45) (B45) H locs ls hq (gD.of (t := x7) (e := x48) (z := (F45 1)) (f46) (e49.symm) rfl (by first | rfl | exact v6.2.2 | exact v17.2.2 | exact v47.2.2.2) (by have := hG; have f9 : rg (F45 1) 0 1700 := hq.1.1 1; have := f9.1; have := f9.2; have := ((r67 : rg x60 (-1699) 4)).1; have := ((r67 : rg x60 (-1699) 4)).2; have := tiS e61 (r50 : rg x48 0 1701) (r25 : rg x7 0 1699) (by decide); have := ((r25 : rg x7 0 1699)).1; have := ((r25 : rg x7 0 1699)).2; have := congrArg Int32.toInt e8; have := ((r50 : rg x48 0 1701)).1; have := ((r50 : rg x48 0 1701)).2; have := congrArg Int32.toInt e49; have := ((r23 : rg x21 1 1701)).1; have := ((r23 : rg x21 1 1701)).2; have := tiA e22 (r25 : rg x7 0 1699) ((rg_k (by decide)) : rg (1 : Int32) 1 1) (by decide); have := congrArg Int32.toInt f5; have := congrArg Int32.toInt f14; have := congrArg Int32.toInt f15; have := congrArg Int32.toInt f16; have := congrArg Int32.toInt f46; have := (iL c24); have := c30; have := c36; have := c57; have := (iNL c65); have := c74; have : (1 : Int32).toInt = 1 := rfl; have := congrArg Int32.toInt v6.2.2; have := v6; unfold gI at this; have := congrArg Int32.toInt v17.2.2; have := v17; unfold gI at this; have := congrArg Int32.toInt v47.2.2.2; have := v47; unfold gD at this; omega)) hP hD hS (lv_sub hl [] rfl)
                  · skip
                    have g59 := g56.resolve_left c57
                    refine lv_aload_n hx hb dX12_goOn_273 rfl (lv_at hl 0 rfl) ?_
                    refine va_get (ci := 12) (v := .int x48) (C := RX12) (T := TX12) (N := 57) hx hb hg inX12 hown hK hP 0 atM_0 rfl 7 (by decide) (hg _ mw_1115) (fun _ h9 => h9) (congrArg (fun z => some (Value.int z)) (e49.symm)) dX12_goOn_274 ?_
                    refine lv_aload_n hx hb dX12_goOn_277 rfl (lv_at hl 0 rfl) ?_
                    refine va_get (ci := 12) (v := .int x7) (C := RX12) (T := TX12) (N := 57) hx hb hg inX12 hown hK hP 0 atM_0 rfl 6 (by decide) (hg _ mw_1114) (fun _ h9 => h9) (congrArg (fun z => some (Value.int z)) (f46)) dX12_goOn_278 ?_
                    refine lv_isub hx hb dX12_goOn_281 ?_
                    refine lv_topi (fun x77 e78 => ?_)
                    have r79 : rg x77 (-1699) 1701 := rg_sub e78 r50 r25 (by decide)
                    refine lv_iconst (v := 4) hx hb dX12_goOn_282 (by decide) ?_
                    have J309 : ∀ (F80 : Nat → Int32) (L80 : Nat → Int64) (A80 : Nat → Nat → Int32) (B80 : Nat → Nat → Int64) (H : Heap) (locs : List Loc) (ls : Array Slot), qM [4, 5, 6, 7] [] F A F80 A80 → F80 4 = x7 → F80 5 = x48 → (gD F F80) → va_P D classes (wM cA ad F80 L80 A80 B80) H → va_D Af (wM cA ad F80 L80 A80 B80) → va_S Af s.heap H locs → lv_has ls 3 [(0, .ref (ad 0))] → W p l e rm_X12_goOn_0 s m args below meth c H locs 0 0 Q (F0 m 309 ls []) := by
                      intro F80 L80 A80 B80 H locs ls hq f81 f82 v83 hP hD hS hl
                      refine lv_aload_n hx hb dX12_goOn_309 rfl (lv_at hl 0 rfl) ?_
                      refine lv_dup hx hb dX12_goOn_310 rfl ?_
                      refine va_get (ci := 12) (v := .int x48) (C := RX12) (T := TX12) (N := 57) hx hb hg inX12 hown hK hP 0 atM_0 rfl 7 (by decide) (hg _ mw_1115) (fun _ h9 => h9) (congrArg (fun z => some (Value.int z)) (f82)) dX12_goOn_311 ?_
                      refine lv_iconst (v := 1) hx hb dX12_goOn_314 (by decide) ?_
                      refine lv_iadd hx hb dX12_goOn_315 ?_
                      refine lv_topi (fun x84 e85 => ?_)
                      have f86 := sgn_lt g53 g59 (by decide)
                      have r87 : rg x84 1 1700 := (by have := f86; have f9 : rg (F80 1) 0 1700 := hq.1.1 1; have := f9.1; have := f9.2; have := tiA e85 (r50 : rg x48 0 1701) (rg_k (by decide) : rg 1 1 1) (by decide); have : (1 : Int32).toInt = 1 := rfl; have := tiA e85 (r50 : rg x48 0 1701) ((rg_k (by decide)) : rg (1 : Int32) 1 1) (by decide); have := ((r50 : rg x48 0 1701)).1; have := ((r50 : rg x48 0 1701)).2; have := congrArg Int32.toInt e49; have := ((r79 : rg x77 (-1699) 1701)).1; have := ((r79 : rg x77 (-1699) 1701)).2; have := tiS e78 (r50 : rg x48 0 1701) (r25 : rg x7 0 1699) (by decide); have := ((r25 : rg x7 0 1699)).1; have := ((r25 : rg x7 0 1699)).2; have := congrArg Int32.toInt e8; have := ((r23 : rg x21 1 1701)).1; have := ((r23 : rg x21 1 1701)).2; have := tiA e22 (r25 : rg x7 0 1699) ((rg_k (by decide)) : rg (1 : Int32) 1 1) (by decide); have := congrArg Int32.toInt f5; have := congrArg Int32.toInt f14; have := congrArg Int32.toInt f15; have := congrArg Int32.toInt f16; have := congrArg Int32.toInt f46; have := congrArg Int32.toInt f81; have := congrArg Int32.toInt f82; have := (iL c24); have := c30; have := c36; have := c57; have := f86; have : (1 : Int32).toInt = 1 := rfl; have := congrArg Int32.toInt v6.2.2; have := v6; unfold gI at this; have := congrArg Int32.toInt v17.2.2; have := v17; unfold gI at this; have := congrArg Int32.toInt v47.2.2.2; have := v47; unfold gD at this; have := congrArg Int32.toInt v83.2.2.2; have := v83; unfold gD at this; unfold rg at *; omega)
                      refine va_put (ci := 12) (v := .int x84) (ty := .int) (C := RX12) (T := TX12) (N := 57) hx hb hg inX12 tyX12 tyX12_ok nmX12 hown hK hP hD hS 0 atM_0 rfl 7 (by decide) (hg _ mw_1115) (fun _ h9 => h9) rfl (by decide +kernel) rfl rfl (Nat.le_of_ble_eq_true rfl) dX12_goOn_316 (fun H locs hP hD hS => ?_)
                      have hq := hq.put 5 (x := x84) (by decide) (rg_w r87 (by decide))
                      rw [setFM_5] at hP hD
                      refine lv_goto (tgt := 259) hx hb dX12_goOn_319 (by decide) ?_
                      exact ih259 ((upd F80 5 x84)) (L80) (A80) (B80) H locs ls (by have h0 : (1 : Int32).toInt = 1 := rfl; have h1 := ti_addk e85 r50 (by decide); have h2 := ((rg_w r87 (by decide)) : rg x84 0 1701); have h3 : (upd F80 5 x84) 5 = x84 := rfl; have h4 := hn259; have h5 := (e49).symm; rw [h3]; rw [h5] at h4; unfold rg at h2; omega) hq (f81) (gD.of (t := x7) (e := x84) (z := (F80 1)) (f81) (rfl) rfl (by first | rfl | exact v6.2.2 | exact v17.2.2 | exact v47.2.2.2 | exact v83.2.2.2) (by have := hG; have f9 : rg (F80 1) 0 1700 := hq.1.1 1; have := f9.1; have := f9.2; have := ((r87 : rg x84 1 1700)).1; have := ((r87 : rg x84 1 1700)).2; have := tiA e85 (r50 : rg x48 0 1701) ((rg_k (by decide)) : rg (1 : Int32) 1 1) (by decide); have := ((r50 : rg x48 0 1701)).1; have := ((r50 : rg x48 0 1701)).2; have := congrArg Int32.toInt e49; have := ((r79 : rg x77 (-1699) 1701)).1; have := ((r79 : rg x77 (-1699) 1701)).2; have := tiS e78 (r50 : rg x48 0 1701) (r25 : rg x7 0 1699) (by decide); have := ((r25 : rg x7 0 1699)).1; have := ((r25 : rg x7 0 1699)).2; have := congrArg Int32.toInt e8; have := ((r23 : rg x21 1 1701)).1; have := ((r23 : rg x21 1 1701)).2; have := tiA e22 (r25 : rg x7 0 1699) ((rg_k (by decide)) : rg (1 : Int32) 1 1) (by decide); have := congrArg Int32.toInt f5; have := congrArg Int32.toInt f14; have := congrArg Int32.toInt f15; have := congrArg Int32.toInt f16; have := congrArg Int32.toInt f46; have := congrArg Int32.toInt f81; have := congrArg Int32.toInt f82; have := (iL c24); have := c30; have := c36; have := c57; have := f86; have : (1 : Int32).toInt = 1 := rfl; have := congrArg Int32.toInt v6.2.2; have := v6; unfold gI at this; have := congrArg Int32.toInt v17.2.2; have := v17; unfold gI at this; have := congrArg Int32.toInt v47.2.2.2; have := v47; unfold gD at this; have := congrArg Int32.toInt v83.2.2.2; have := v83; unfold gD at this; omega)) hP hD hS (lv_sub hl [0] rfl)
                    refine lv_icmp_ge (tgt := 309) hx hb dX12_goOn_283 (by decide) (fun c88 => ?_) (fun c88 => ?_)
                    · skip
                      have r89 : rg x77 4 1701 := rg_le2 (iE c88) ((rg_k (by decide)) : rg 4 4 4) (r79 : rg x77 (-1699) 1701)
                      exact J309 (F45) (L45) (A45) (B45) H locs ls hq (f46) (e49.symm) (gD.of (t := x7) (e := x48) (z := (F45 1)) (f46) (e49.symm) rfl (by first | rfl | exact v6.2.2 | exact v17.2.2 | exact v47.2.2.2) (by have := hG; have f9 : rg (F45 1) 0 1700 := hq.1.1 1; have := f9.1; have := f9.2; have := ((r89 : rg x77 4 1701)).1; have := ((r89 : rg x77 4 1701)).2; have := tiS e78 (r50 : rg x48 0 1701) (r25 : rg x7 0 1699) (by decide); have := ((r25 : rg x7 0 1699)).1; have := ((r25 : rg x7 0 1699)).2; have := congrArg Int32.toInt e8; have := ((r50 : rg x48 0 1701)).1; have := ((r50 : rg x48 0 1701)).2; have := congrArg Int32.toInt e49; have := ((r23 : rg x21 1 1701)).1; have := ((r23 : rg x21 1 1701)).2; have := tiA e22 (r25 : rg x7 0 1699) ((rg_k (by decide)) : rg (1 : Int32) 1 1) (by decide); have := congrArg Int32.toInt f5; have := congrArg Int32.toInt f14; have := congrArg Int32.toInt f15; have := congrArg Int32.toInt f16; have := congrArg Int32.toInt f46; have := (iL c24); have := c30; have := c36; have := c57; have := (iE c88); have : (1 : Int32).toInt = 1 := rfl; have := congrArg Int32.toInt v6.2.2; have := v6; unfold gI at this; have := congrArg Int32.toInt v17.2.2; have := v17; unfold gI at this; have := congrArg Int32.toInt v47.2.2.2; have := v47; unfold gD at this; omega)) hP hD hS (lv_sub hl [0] rfl)
                    · skip
                      have r90 : rg x77 (-1699) 3 := rg_lt1 (iNE c88) (r79 : rg x77 (-1699) 1701) ((rg_k (by decide)) : rg 4 4 4)
                      refine lv_aload_n hx hb dX12_goOn_286 rfl (lv_at hl 0 rfl) ?_
                      refine lv_bipush (v := 10) hx hb dX12_goOn_287 (by decide) ?_
                      refine lv_aload_n hx hb dX12_goOn_289 rfl (lv_at hl 0 rfl) ?_
                      refine va_get (ci := 12) (v := .int (F45 7)) (C := RX12) (T := TX12) (N := 57) hx hb hg inX12 hown hK hP 0 atM_0 rfl 9 (by decide) (hg _ mw_1117) (fun _ h9 => h9) rfl dX12_goOn_290 ?_
                      refine lv_topi (fun x91 e92 => ?_)
                      refine lv_imul hx hb dX12_goOn_293 ?_
                      refine lv_topi (fun x93 e94 => ?_)
                      refine lv_aload_n hx hb dX12_goOn_294 rfl (lv_at hl 0 rfl) ?_
                      refine lv_aload_n hx hb dX12_goOn_295 rfl (lv_at hl 0 rfl) ?_
                      refine va_get (ci := 12) (v := .int x48) (C := RX12) (T := TX12) (N := 57) hx hb hg inX12 hown hK hP 0 atM_0 rfl 7 (by decide) (hg _ mw_1115) (fun _ h9 => h9) (congrArg (fun z => some (Value.int z)) (e49.symm)) dX12_goOn_296 ?_
                      refine callv_i (As := [.int x48]) (rest := [.int x93, .ref (ad 0)]) hC (c_X12_sign_0 l D cA H.size ad F45 L45 A45 B45 (x48) hq.1 r50) (cwV 1 hg (g_V mw_1292 mw_1289 mw_1291 ms_49 mw_20) rfl rfl rfl (by decide +kernel) ⟨(Nat.le_of_ble_eq_true rfl), (Nat.le_of_ble_eq_true rfl)⟩) hP hD hS hA atM_0 rfl rfl hl.1 rfl (Nat.le_of_ble_eq_true rfl) dX12_goOn_299 ⟨Nat.zero_le _, Nat.zero_le _⟩ (fun x95 u H locs hw hP hD hS => ?_)
                      obtain ⟨r96, g97⟩ := hw
                      have hP : va_P D classes (wM cA ad F45 L45 A45 B45) H := hP
                      have hD : va_D Af (wM cA ad F45 L45 A45 B45) := hD
                      refine lv_iadd hx hb dX12_goOn_302 ?_
                      refine lv_topi (fun x98 e99 => ?_)
                      refine lv_bipush (v := 48) hx hb dX12_goOn_303 (by decide) ?_
                      refine lv_isub hx hb dX12_goOn_305 ?_
                      refine lv_topi (fun x100 e101 => ?_)
                      refine va_put (ci := 12) (v := .int x100) (ty := .int) (C := RX12) (T := TX12) (N := 57) hx hb hg inX12 tyX12 tyX12_ok nmX12 hown hK hP hD hS 0 atM_0 rfl 9 (by decide) (hg _ mw_1117) (fun _ h9 => h9) rfl (by decide +kernel) rfl rfl (Nat.le_of_ble_eq_true rfl) dX12_goOn_306 (fun H locs hP hD hS => ?_)
                      have hq := hq.put 7 (x := x100) (by decide) (rg_top _)
                      rw [setFM_7] at hP hD
                      exact J309 ((upd F45 7 x100)) (L45) (A45) (B45) H locs ls hq (f46) (e49.symm) (gD.of (t := x7) (e := x48) (z := (F45 1)) (f46) (e49.symm) rfl (by first | rfl | exact v6.2.2 | exact v17.2.2 | exact v47.2.2.2) (by have := hG; have f9 : rg (F45 1) 0 1700 := hq.1.1 1; have := f9.1; have := f9.2; have := ((r96 : rg x95 0 255)).1; have := ((r96 : rg x95 0 255)).2; have := ((r90 : rg x77 (-1699) 3)).1; have := ((r90 : rg x77 (-1699) 3)).2; have := tiS e78 (r50 : rg x48 0 1701) (r25 : rg x7 0 1699) (by decide); have := ((r25 : rg x7 0 1699)).1; have := ((r25 : rg x7 0 1699)).2; have := congrArg Int32.toInt e8; have := ((r50 : rg x48 0 1701)).1; have := ((r50 : rg x48 0 1701)).2; have := congrArg Int32.toInt e49; have := ((r23 : rg x21 1 1701)).1; have := ((r23 : rg x21 1 1701)).2; have := tiA e22 (r25 : rg x7 0 1699) ((rg_k (by decide)) : rg (1 : Int32) 1 1) (by decide); have := congrArg Int32.toInt f5; have := congrArg Int32.toInt f14; have := congrArg Int32.toInt f15; have := congrArg Int32.toInt f16; have := congrArg Int32.toInt f46; have := (iL c24); have := c30; have := c36; have := c57; have := (iNE c88); have : (1 : Int32).toInt = 1 := rfl; have : (48 : Int32).toInt = 48 := rfl; have := congrArg Int32.toInt v6.2.2; have := v6; unfold gI at this; have := congrArg Int32.toInt v17.2.2; have := v17; unfold gI at this; have := congrArg Int32.toInt v47.2.2.2; have := v47; unfold gD at this; omega)) hP hD hS (lv_sub hl [0] rfl)
              exact J259 _ ((upd (upd (upd F13 5 x21) 7 (0 : Int32)) 5 x7)) (L13) (A13) (B13) H locs ls (Nat.lt_succ_self _) hq (f15) (gD.of (t := x7) (e := x7) (z := x10) (f15) (rfl) (f14) (by first | rfl | exact v6.2.2 | exact v17.2.2 | exact e11 | exact (e11).trans (v6.2.2) | exact (e11).trans (v17.2.2)) (by have := hG; have f9 : rg (F13 1) 0 1700 := hq.1.1 1; have := f9.1; have := f9.2; have := ((r23 : rg x21 1 1701)).1; have := ((r23 : rg x21 1 1701)).2; have := tiA e22 (r25 : rg x7 0 1699) ((rg_k (by decide)) : rg (1 : Int32) 1 1) (by decide); have := ((r25 : rg x7 0 1699)).1; have := ((r25 : rg x7 0 1699)).2; have := congrArg Int32.toInt e8; have := ((r26 : rg x10 1 1700)).1; have := ((r26 : rg x10 1 1700)).2; have := congrArg Int32.toInt e11; have := ((g38 : rg x18 48 57)).1; have := ((g38 : rg x18 48 57)).2; have := congrArg Int32.toInt f5; have := congrArg Int32.toInt f14; have := congrArg Int32.toInt f15; have := congrArg Int32.toInt f16; have := (iL c24); have := c30; have := c36; have : (0 : Int32).toInt = 0 := rfl; have : (1 : Int32).toInt = 1 := rfl; have := congrArg Int32.toInt v6.2.2; have := v6; unfold gI at this; have := congrArg Int32.toInt v17.2.2; have := v17; unfold gI at this; omega)) hP hD hS (lv_sub hl [1] rfl)
          · skip
            have g32 := g29.resolve_left c30
            have J119 : ∀ (n119 : Nat) (F102 : Nat → Int32) (L102 : Nat → Int64) (A102 : Nat → Nat → Int32) (B102 : Nat → Nat → Int64) (H : Heap) (locs : List Loc) (ls : Array Slot), (1701 - (F102 5).toInt).toNat < n119 → qM [4, 5, 6, 7] [] F A F102 A102 → F102 4 = x7 → (gL F F102) → va_P D classes (wM cA ad F102 L102 A102 B102) H → va_D Af (wM cA ad F102 L102 A102 B102) → va_S Af s.heap H locs → lv_has ls 3 [(0, .ref (ad 0))] → W p l e rm_X12_goOn_0 s m args below meth c H locs 0 0 Q (F0 m 119 ls []) := by
              intro n119
              induction n119 with
              | zero =>
                intro _ _ _ _ _ _ _ hn
                exact absurd hn (Nat.not_lt_zero _)
              | succ n119 ih119 =>
                intro F102 L102 A102 B102 H locs ls hn119 hq f103 v104 hP hD hS hl
                refine lv_aload_n hx hb dX12_goOn_119 rfl (lv_at hl 0 rfl) ?_
                refine lv_aload_n hx hb dX12_goOn_120 rfl (lv_at hl 0 rfl) ?_
                refine va_get (ci := 12) (v := .int (F102 5)) (C := RX12) (T := TX12) (N := 57) hx hb hg inX12 hown hK hP 0 atM_0 rfl 7 (by decide) (hg _ mw_1115) (fun _ h9 => h9) rfl dX12_goOn_121 ?_
                refine lv_topi (fun x105 e106 => ?_)
                have r107 : rg x105 0 1701 := rg_e e106 (hq.1.1 5)
                refine callv_i (As := [.int x105]) (rest := []) hC (c_X12_sign_0 l D cA H.size ad F102 L102 A102 B102 (x105) hq.1 r107) (cwV 1 hg (g_V mw_1292 mw_1289 mw_1291 ms_49 mw_20) rfl rfl rfl (by decide +kernel) ⟨(Nat.le_of_ble_eq_true rfl), (Nat.le_of_ble_eq_true rfl)⟩) hP hD hS hA atM_0 rfl rfl hl.1 rfl (Nat.le_of_ble_eq_true rfl) dX12_goOn_124 ⟨Nat.zero_le _, Nat.zero_le _⟩ (fun x108 u H locs hw hP hD hS => ?_)
                obtain ⟨r109, g110⟩ := hw
                have hP : va_P D classes (wM cA ad F102 L102 A102 B102) H := hP
                have hD : va_D Af (wM cA ad F102 L102 A102 B102) := hD
                refine calls_i (As := [.int x108]) (rest := []) hC (c_X12_isLetter l D (tysM cA) (wM cA ad F102 L102 A102 B102) H.size (x108) r109) (cwS 1 hg (g_S mw_1295 mw_1293 mw_1294 mw_20) rfl rfl rfl (by decide +kernel) ⟨(Nat.le_of_ble_eq_true rfl), (Nat.le_of_ble_eq_true rfl)⟩) hP hD hS hA rfl hl.1 rfl (Nat.le_of_ble_eq_true rfl) dX12_goOn_127 ⟨Nat.zero_le _, Nat.zero_le _⟩ (fun x111 u H locs hw hP hD hS => ?_)
                obtain ⟨r112, g113⟩ := hw
                have hP : va_P D classes (wM cA ad F102 L102 A102 B102) H := hP
                have hD : va_D Af (wM cA ad F102 L102 A102 B102) := hD
                refine lv_if_eq (tgt := 146) hx hb dX12_goOn_130 (by decide) (fun c114 => ?_) (fun c114 => ?_)
                · skip
                  have r115 : rg x111 0 0 := rg_eq1 c114 (r112 : rg x111 0 1) ((rg_k (by decide)) : rg 0 0 0) (by decide)
                  refine lv_aload_n hx hb dX12_goOn_146 rfl (lv_at hl 0 rfl) ?_
                  refine lv_lconst (v := 0) hx hb dX12_goOn_147 rfl ?_
                  refine va_put (ci := 12) (v := .long (0 : Int64)) (ty := .long) (C := RX12) (T := TX12) (N := 57) hx hb hg inX12 tyX12 tyX12_ok nmX12 hown hK hP hD hS 0 atM_0 rfl 10 (by decide) (hg _ mw_1118) (fun _ h9 => h9) rfl (by decide +kernel) rfl rfl (Nat.le_of_ble_eq_true rfl) dX12_goOn_148 (fun H locs hP hD hS => ?_)
                  rw [setLM_0] at hP hD
                  refine lv_aload_n hx hb dX12_goOn_151 rfl (lv_at hl 0 rfl) ?_
                  refine va_get (ci := 12) (v := .int x7) (C := RX12) (T := TX12) (N := 57) hx hb hg inX12 hown hK hP 0 atM_0 rfl 6 (by decide) (hg _ mw_1114) (fun _ h9 => h9) (congrArg (fun z => some (Value.int z)) (f103)) dX12_goOn_152 ?_
                  refine lv_istore_n (lv' := [(2, .int x7), (0, .ref (ad 0))]) hx hb dX12_goOn_155 rfl hl (by decide) rfl (fun ls hl => ?_)
                  have J156 : ∀ (n156 : Nat) (a117 : Int32) (F119 : Nat → Int32) (L119 : Nat → Int64) (A119 : Nat → Nat → Int32) (B119 : Nat → Nat → Int64) (H : Heap) (locs : List Loc) (ls : Array Slot), (1701 - a117.toInt).toNat < n156 → rg a117 0 1701 → qM [4, 5, 6, 7] [] F A F119 A119 → F119 4 = x7 → F119 5 = x105 → (gL F F119) → va_P D classes (wM cA ad F119 L119 A119 B119) H → va_D Af (wM cA ad F119 L119 A119 B119) → va_S Af s.heap H locs → lv_has ls 3 [(0, .ref (ad 0)), (2, .int a117)] → W p l e rm_X12_goOn_0 s m args below meth c H locs 0 0 Q (F0 m 156 ls []) := by
                    intro n156
                    induction n156 with
                    | zero =>
                      intro _ _ _ _ _ _ _ _ hn
                      exact absurd hn (Nat.not_lt_zero _)
                    | succ n156 ih156 =>
                      intro a117 F119 L119 A119 B119 H locs ls hn156 r118 hq f120 f121 v122 hP hD hS hl
                      refine lv_iload_n hx hb dX12_goOn_156 rfl (lv_at hl 1 rfl) ?_
                      refine lv_aload_n hx hb dX12_goOn_157 rfl (lv_at hl 0 rfl) ?_
                      refine va_get (ci := 12) (v := .int x105) (C := RX12) (T := TX12) (N := 57) hx hb hg inX12 hown hK hP 0 atM_0 rfl 7 (by decide) (hg _ mw_1115) (fun _ h9 => h9) (congrArg (fun z => some (Value.int z)) (f121)) dX12_goOn_158 ?_
                      have J199 : ∀ (F123 : Nat → Int32) (L123 : Nat → Int64) (A123 : Nat → Nat → Int32) (B123 : Nat → Nat → Int64) (H : Heap) (locs : List Loc) (ls : Array Slot), qM [4, 5, 6, 7] [] F A F123 A123 → F123 4 = x7 → F123 5 = x105 → (gL F F123) → va_P D classes (wM cA ad F123 L123 A123 B123) H → va_D Af (wM cA ad F123 L123 A123 B123) → va_S Af s.heap H locs → lv_has ls 3 [(0, .ref (ad 0))] → W p l e rm_X12_goOn_0 s m args below meth c H locs 0 0 Q (F0 m 199 ls []) := by
                        intro F123 L123 A123 B123 H locs ls hq f124 f125 v126 hP hD hS hl
                        refine lv_aload_n hx hb dX12_goOn_199 rfl (lv_at hl 0 rfl) ?_
                        refine lv_aload_n hx hb dX12_goOn_200 rfl (lv_at hl 0 rfl) ?_
                        refine va_get (ci := 12) (v := .int x105) (C := RX12) (T := TX12) (N := 57) hx hb hg inX12 hown hK hP 0 atM_0 rfl 7 (by decide) (hg _ mw_1115) (fun _ h9 => h9) (congrArg (fun z => some (Value.int z)) (f125)) dX12_goOn_201 ?_
                        refine lv_aload_n hx hb dX12_goOn_204 rfl (lv_at hl 0 rfl) ?_
                        refine va_get (ci := 12) (v := .int x7) (C := RX12) (T := TX12) (N := 57) hx hb hg inX12 hown hK hP 0 atM_0 rfl 6 (by decide) (hg _ mw_1114) (fun _ h9 => h9) (congrArg (fun z => some (Value.int z)) (f124)) dX12_goOn_205 ?_
                        refine lv_isub hx hb dX12_goOn_208 ?_
                        refine lv_topi (fun x127 e128 => ?_)
                        have r129 : rg x127 (-1699) 1701 := rg_sub e128 r107 r25 (by decide)
                        refine lv_bipush (v := 8) hx hb dX12_goOn_209 (by decide) ?_
                        have J233 : ∀ (a130 : Int32) (F132 : Nat → Int32) (L132 : Nat → Int64) (A132 : Nat → Nat → Int32) (B132 : Nat → Nat → Int64) (H : Heap) (locs : List Loc) (ls : Array Slot), rg a130 1 3 → qM [4, 5, 6, 7] [] F A F132 A132 → (gL F F132) → va_P D classes (wM cA ad F132 L132 A132 B132) H → va_D Af (wM cA ad F132 L132 A132 B132) → va_S Af s.heap H locs → lv_has ls 3 [] → W p l e rm_X12_goOn_0 s m args below meth c H locs 0 0 Q (F0 m 233 ls [.int a130, .ref (ad 0)]) := by
                          intro a130 F132 L132 A132 B132 H locs ls r131 hq v133 hP hD hS hl
                          refine va_put (ci := 12) (v := .int a130) (ty := .int) (C := RX12) (T := TX12) (N := 57) hx hb hg inX12 tyX12 tyX12_ok nmX12 hown hK hP hD hS 0 atM_0 rfl 8 (by decide) (hg _ mw_1116) (fun _ h9 => h9) rfl (by decide +kernel) rfl rfl (Nat.le_of_ble_eq_true rfl) dX12_goOn_233 (fun H locs hP hD hS => ?_)
                          have hq := hq.put 6 (x := a130) (by decide) (rg_w r131 (by decide))
                          rw [setFM_6] at hP hD
                          refine lv_goto (tgt := 376) hx hb dX12_goOn_236 (by decide) ?_
                          exact hret ((upd F132 6 a130), L132, A132, B132) H locs 376 ls dX12_goOn_376 hP hD hS ⟨hq, (gP.of (t := (F132 4)) (e := (F132 5)) (z := (F132 1)) (k := a130) rfl rfl rfl (rfl) (by first | rfl | exact v6.2.2 | exact v17.2.2 | exact v104.2.2.2 | exact v122.2.2.2 | exact v126.2.2.2 | exact v133.2.2.2) (by have := hG; have f9 : rg (F132 1) 0 1700 := hq.1.1 1; have := f9.1; have := f9.2; have := ((r129 : rg x127 (-1699) 1701)).1; have := ((r129 : rg x127 (-1699) 1701)).2; have := tiS e128 (r107 : rg x105 0 1701) (r25 : rg x7 0 1699) (by decide); have := ((r25 : rg x7 0 1699)).1; have := ((r25 : rg x7 0 1699)).2; have := congrArg Int32.toInt e8; have := ((r107 : rg x105 0 1701)).1; have := ((r107 : rg x105 0 1701)).2; have := congrArg Int32.toInt e106; have := ((r23 : rg x21 1 1701)).1; have := ((r23 : rg x21 1 1701)).2; have := tiA e22 (r25 : rg x7 0 1699) ((rg_k (by decide)) : rg (1 : Int32) 1 1) (by decide); have := ((r131 : rg a130 1 3)).1; have := ((r131 : rg a130 1 3)).2; have := congrArg Int32.toInt f5; have := congrArg Int32.toInt f14; have := congrArg Int32.toInt f15; have := congrArg Int32.toInt f16; have := congrArg Int32.toInt f103; have := congrArg Int32.toInt f120; have := congrArg Int32.toInt f121; have := congrArg Int32.toInt f124; have := congrArg Int32.toInt f125; have := (iL c24); have := c30; have := c114; have : (1 : Int32).toInt = 1 := rfl; have := congrArg Int32.toInt v6.2.2; have := v6; unfold gI at this; have := congrArg Int32.toInt v17.2.2; have := v17; unfold gI at this; have := congrArg Int32.toInt v104.2.2.2; have := v104; unfold gL at this; have := congrArg Int32.toInt v122.2.2.2; have := v122; unfold gL at this; have := congrArg Int32.toInt v126.2.2.2; have := v126; unfold gL at this; have := congrArg Int32.toInt v133.2.2.2; have := v133; unfold gL at this; omega) (fun _ => by have := hG; have f9 : rg (F132 1) 0 1700 := hq.1.1 1; have := f9.1; have := f9.2; have := ((r129 : rg x127 (-1699) 1701)).1; have := ((r129 : rg x127 (-1699) 1701)).2; have := tiS e128 (r107 : rg x105 0 1701) (r25 : rg x7 0 1699) (by decide); have := ((r25 : rg x7 0 1699)).1; have := ((r25 : rg x7 0 1699)).2; have := congrArg Int32.toInt e8; have := ((r107 : rg x105 0 1701)).1; have := ((r107 : rg x105 0 1701)).2; have := congrArg Int32.toInt e106; have := ((r23 : rg x21 1 1701)).1; have := ((r23 : rg x21 1 1701)).2; have := tiA e22 (r25 : rg x7 0 1699) ((rg_k (by decide)) : rg (1 : Int32) 1 1) (by decide); have := ((r131 : rg a130 1 3)).1; have := ((r131 : rg a130 1 3)).2; have := congrArg Int32.toInt f5; have := congrArg Int32.toInt f14; have := congrArg Int32.toInt f15; have := congrArg Int32.toInt f16; have := congrArg Int32.toInt f103; have := congrArg Int32.toInt f120; have := congrArg Int32.toInt f121; have := congrArg Int32.toInt f124; have := congrArg Int32.toInt f125; have := (iL c24); have := c30; have := c114; have : (1 : Int32).toInt = 1 := rfl; have := congrArg Int32.toInt v6.2.2; have := v6; unfold gI at this; have := congrArg Int32.toInt v17.2.2; have := v17; unfold gI at this; have := congrArg Int32.toInt v104.2.2.2; have := v104; unfold gL at this; have := congrArg Int32.toInt v122.2.2.2; have := v122; unfold gL at this; have := congrArg Int32.toInt v126.2.2.2; have := v126; unfold gL at this; have := congrArg Int32.toInt v133.2.2.2; have := v133; unfold gL at this; omega))⟩
                        refine lv_icmp_le (tgt := 218) hx hb dX12_goOn_211 (by decide) (fun c134 => ?_) (fun c134 => ?_)
                        · skip
                          have r135 : rg x127 (-1699) 8 := rg_le1 (iE c134) (r129 : rg x127 (-1699) 1701) ((rg_k (by decide)) : rg 8 8 8)
                          refine lv_aload_n hx hb dX12_goOn_218 rfl (lv_at hl 0 rfl) ?_
                          refine va_get (ci := 12) (v := .long (L123 0)) (C := RX12) (T := TX12) (N := 57) hx hb hg inX12 hown hK hP 0 atM_0 rfl 10 (by decide) (hg _ mw_1118) (fun _ h9 => h9) rfl dX12_goOn_219 ?_
                          refine lv_topl (fun z137 e138 => ?_)
                          refine calls_i (As := [.long z137]) (rest := [.ref (ad 0)]) hC (c_X12_isKept l D (tysM cA) (wM cA ad F123 L123 A123 B123) H.size (z137)) (cwS 1 hg (g_S mw_1298 mw_1296 mw_1297 mw_20) rfl rfl rfl (by decide +kernel) ⟨(Nat.le_of_ble_eq_true rfl), (Nat.le_of_ble_eq_true rfl)⟩) hP hD hS hA rfl hl.1 rfl (Nat.le_of_ble_eq_true rfl) dX12_goOn_222 ⟨Nat.zero_le _, Nat.zero_le _⟩ (fun x139 u H locs hw hP hD hS => ?_)
                          have r140 := hw
                          have hP : va_P D classes (wM cA ad F123 L123 A123 B123) H := hP
                          have hD : va_D Af (wM cA ad F123 L123 A123 B123) := hD
                          refine lv_if_eq (tgt := 232) hx hb dX12_goOn_225 (by decide) (fun c141 => ?_) (fun c141 => ?_)
                          · skip
                            have r142 : rg x139 0 0 := rg_eq1 c141 (r140 : rg x139 0 1) ((rg_k (by decide)) : rg 0 0 0) (by decide)
                            refine lv_iconst (v := 2) hx hb dX12_goOn_232 (by decide) ?_
                            exact J233 (2) (F123) (L123) (A123) (B123) H locs ls (rg_k (by decide)) hq (gL.of (t := x7) (e := x105) (z := (F123 1)) (f124) (f125) rfl (by first | rfl | exact v6.2.2 | exact v17.2.2 | exact v104.2.2.2 | exact v122.2.2.2 | exact v126.2.2.2) (by have := hG; have f9 : rg (F123 1) 0 1700 := hq.1.1 1; have := f9.1; have := f9.2; have := ((r135 : rg x127 (-1699) 8)).1; have := ((r135 : rg x127 (-1699) 8)).2; have := tiS e128 (r107 : rg x105 0 1701) (r25 : rg x7 0 1699) (by decide); have := ((r25 : rg x7 0 1699)).1; have := ((r25 : rg x7 0 1699)).2; have := congrArg Int32.toInt e8; have := ((r107 : rg x105 0 1701)).1; have := ((r107 : rg x105 0 1701)).2; have := congrArg Int32.toInt e106; have := ((r23 : rg x21 1 1701)).1; have := ((r23 : rg x21 1 1701)).2; have := tiA e22 (r25 : rg x7 0 1699) ((rg_k (by decide)) : rg (1 : Int32) 1 1) (by decide); have := congrArg Int32.toInt f5; have := congrArg Int32.toInt f14; have := congrArg Int32.toInt f15; have := congrArg Int32.toInt f16; have := congrArg Int32.toInt f103; have := congrArg Int32.toInt f120; have := congrArg Int32.toInt f121; have := congrArg Int32.toInt f124; have := congrArg Int32.toInt f125; have := (iL c24); have := c30; have := c114; have := (iE c134); have := c141; have : (1 : Int32).toInt = 1 := rfl; have : (2 : Int32).toInt = 2 := rfl; have := congrArg Int32.toInt v6.2.2; have := v6; unfold gI at this; have := congrArg Int32.toInt v17.2.2; have := v17; unfold gI at this; have := congrArg Int32.toInt v104.2.2.2; have := v104; unfold gL at this; have := congrArg Int32.toInt v122.2.2.2; have := v122; unfold gL at this; have := congrArg Int32.toInt v126.2.2.2; have := v126; unfold gL at this; omega)) hP hD hS (lv_sub hl [] rfl)
                          · skip
                            have r143 : rg x139 1 1 := (rg_ne1 c141 (r140 : rg x139 0 1) ((rg_k (by decide)) : rg 0 0 0)).1 rfl
                            refine lv_iconst (v := 3) hx hb dX12_goOn_228 (by decide) ?_
                            refine lv_goto (tgt := 233) hx hb dX12_goOn_229 (by decide) ?_
                            exact J233 (3) (F123) (L123) (A123) (B123) H locs ls (rg_k (by decide)) hq (gL.of (t := x7) (e := x105) (z := (F123 1)) (f124) (f125) rfl (by first | rfl | exact v6.2.2 | exact v17.2.2 | exact v104.2.2.2 | exact v122.2.2.2 | exact v126.2.2.2) (by have := hG; have f9 : rg (F123 1) 0 1700 := hq.1.1 1; have := f9.1; have := f9.2; have := ((r135 : rg x127 (-1699) 8)).1; have := ((r135 : rg x127 (-1699) 8)).2; have := tiS e128 (r107 : rg x105 0 1701) (r25 : rg x7 0 1699) (by decide); have := ((r25 : rg x7 0 1699)).1; have := ((r25 : rg x7 0 1699)).2; have := congrArg Int32.toInt e8; have := ((r107 : rg x105 0 1701)).1; have := ((r107 : rg x105 0 1701)).2; have := congrArg Int32.toInt e106; have := ((r23 : rg x21 1 1701)).1; have := ((r23 : rg x21 1 1701)).2; have := tiA e22 (r25 : rg x7 0 1699) ((rg_k (by decide)) : rg (1 : Int32) 1 1) (by decide); have := congrArg Int32.toInt f5; have := congrArg Int32.toInt f14; have := congrArg Int32.toInt f15; have := congrArg Int32.toInt f16; have := congrArg Int32.toInt f103; have := congrArg Int32.toInt f120; have := congrArg Int32.toInt f121; have := congrArg Int32.toInt f124; have := congrArg Int32.toInt f125; have := (iL c24); have := c30; have := c114; have := (iE c134); have := c141; have : (1 : Int32).toInt = 1 := rfl; have : (3 : Int32).toInt = 3 := rfl; have := congrArg Int32.toInt v6.2.2; have := v6; unfold gI at this; have := congrArg Int32.toInt v17.2.2; have := v17; unfold gI at this; have := congrArg Int32.toInt v104.2.2.2; have := v104; unfold gL at this; have := congrArg Int32.toInt v122.2.2.2; have := v122; unfold gL at this; have := congrArg Int32.toInt v126.2.2.2; have := v126; unfold gL at this; omega)) hP hD hS (lv_sub hl [] rfl)
                        · skip
                          have r136 : rg x127 9 1701 := rg_lt2 (iNE c134) ((rg_k (by decide)) : rg 8 8 8) (r129 : rg x127 (-1699) 1701)
                          refine lv_iconst (v := 1) hx hb dX12_goOn_214 (by decide) ?_
                          refine lv_goto (tgt := 233) hx hb dX12_goOn_215 (by decide) ?_
                          exact J233 (1) (F123) (L123) (A123) (B123) H locs ls (rg_k (by decide)) hq (gL.of (t := x7) (e := x105) (z := (F123 1)) (f124) (f125) rfl (by first | rfl | exact v6.2.2 | exact v17.2.2 | exact v104.2.2.2 | exact v122.2.2.2 | exact v126.2.2.2) (by have := hG; have f9 : rg (F123 1) 0 1700 := hq.1.1 1; have := f9.1; have := f9.2; have := ((r136 : rg x127 9 1701)).1; have := ((r136 : rg x127 9 1701)).2; have := tiS e128 (r107 : rg x105 0 1701) (r25 : rg x7 0 1699) (by decide); have := ((r25 : rg x7 0 1699)).1; have := ((r25 : rg x7 0 1699)).2; have := congrArg Int32.toInt e8; have := ((r107 : rg x105 0 1701)).1; have := ((r107 : rg x105 0 1701)).2; have := congrArg Int32.toInt e106; have := ((r23 : rg x21 1 1701)).1; have := ((r23 : rg x21 1 1701)).2; have := tiA e22 (r25 : rg x7 0 1699) ((rg_k (by decide)) : rg (1 : Int32) 1 1) (by decide); have := congrArg Int32.toInt f5; have := congrArg Int32.toInt f14; have := congrArg Int32.toInt f15; have := congrArg Int32.toInt f16; have := congrArg Int32.toInt f103; have := congrArg Int32.toInt f120; have := congrArg Int32.toInt f121; have := congrArg Int32.toInt f124; have := congrArg Int32.toInt f125; have := (iL c24); have := c30; have := c114; have := (iNE c134); have : (1 : Int32).toInt = 1 := rfl; have := congrArg Int32.toInt v6.2.2; have := v6; unfold gI at this; have := congrArg Int32.toInt v17.2.2; have := v17; unfold gI at this; have := congrArg Int32.toInt v104.2.2.2; have := v104; unfold gL at this; have := congrArg Int32.toInt v122.2.2.2; have := v122; unfold gL at this; have := congrArg Int32.toInt v126.2.2.2; have := v126; unfold gL at this; omega)) hP hD hS (lv_sub hl [] rfl)
                      refine lv_icmp_ge (tgt := 199) hx hb dX12_goOn_161 (by decide) (fun c144 => ?_) (fun c144 => ?_)
                      · skip
                        exact J199 (F119) (L119) (A119) (B119) H locs ls hq (f120) (f121) (gL.of (t := x7) (e := x105) (z := (F119 1)) (f120) (f121) rfl (by first | rfl | exact v6.2.2 | exact v17.2.2 | exact v104.2.2.2 | exact v122.2.2.2) (by have := hG; have f9 : rg (F119 1) 0 1700 := hq.1.1 1; have := f9.1; have := f9.2; have := ((r23 : rg x21 1 1701)).1; have := ((r23 : rg x21 1 1701)).2; have := tiA e22 (r25 : rg x7 0 1699) ((rg_k (by decide)) : rg (1 : Int32) 1 1) (by decide); have := ((r25 : rg x7 0 1699)).1; have := ((r25 : rg x7 0 1699)).2; have := congrArg Int32.toInt e8; have := ((r107 : rg x105 0 1701)).1; have := ((r107 : rg x105 0 1701)).2; have := congrArg Int32.toInt e106; have := ((r118 : rg a117 0 1701)).1; have := ((r118 : rg a117 0 1701)).2; have := congrArg Int32.toInt f5; have := congrArg Int32.toInt f14; have := congrArg Int32.toInt f15; have := congrArg Int32.toInt f16; have := congrArg Int32.toInt f103; have := congrArg Int32.toInt f120; have := congrArg Int32.toInt f121; have := (iL c24); have := c30; have := c114; have := (iE c144); have : (1 : Int32).toInt = 1 := rfl; have := congrArg Int32.toInt v6.2.2; have := v6; unfold gI at this; have := congrArg Int32.toInt v17.2.2; have := v17; unfold gI at this; have := congrArg Int32.toInt v104.2.2.2; have := v104; unfold gL at this; have := congrArg Int32.toInt v122.2.2.2; have := v122; unfold gL at this; omega)) hP hD hS (lv_sub hl [0] rfl)
                      · skip
                        have r145 : rg a117 0 1700 := rg_lt1 (iNE c144) (r118 : rg a117 0 1701) (r107 : rg x105 0 1701)
                        have r146 : rg x105 1 1701 := rg_lt2 (iNE c144) (r118 : rg a117 0 1701) (r107 : rg x105 0 1701)
                        refine lv_iload_n hx hb dX12_goOn_164 rfl (lv_at hl 1 rfl) ?_
                        refine lv_aload_n hx hb dX12_goOn_165 rfl (lv_at hl 0 rfl) ?_
                        refine va_get (ci := 12) (v := .int x7) (C := RX12) (T := TX12) (N := 57) hx hb hg inX12 hown hK hP 0 atM_0 rfl 6 (by decide) (hg _ mw_1114) (fun _ h9 => h9) (congrArg (fun z => some (Value.int z)) (f120)) dX12_goOn_166 ?_
                        refine lv_bipush (v := 8) hx hb dX12_goOn_169 (by decide) ?_
                        refine lv_iadd hx hb dX12_goOn_171 ?_
                        refine lv_topi (fun x147 e148 => ?_)
                        have r149 : rg x147 8 1707 := rg_add e148 r25 ((rg_k (by decide)) : rg 8 8 8) (by decide)
                        refine lv_icmp_ge (tgt := 199) hx hb dX12_goOn_172 (by decide) (fun c150 => ?_) (fun c150 => ?_)
                        · skip
                          have r151 : rg x147 8 1700 := rg_le1 (iE c150) (r149 : rg x147 8 1707) (r145 : rg a117 0 1700)
                          have r152 : rg a117 8 1700 := rg_le2 (iE c150) (r149 : rg x147 8 1707) (r145 : rg a117 0 1700)
                          exact J199 (F119) (L119) (A119) (B119) H locs ls hq (f120) (f121) (gL.of (t := x7) (e := x105) (z := (F119 1)) (f120) (f121) rfl (by first | rfl | exact v6.2.2 | exact v17.2.2 | exact v104.2.2.2 | exact v122.2.2.2) (by have := hG; have f9 : rg (F119 1) 0 1700 := hq.1.1 1; have := f9.1; have := f9.2; have := ((r151 : rg x147 8 1700)).1; have := ((r151 : rg x147 8 1700)).2; have := tiA e148 (r25 : rg x7 0 1699) ((rg_k (by decide)) : rg (8 : Int32) 8 8) (by decide); have := ((r25 : rg x7 0 1699)).1; have := ((r25 : rg x7 0 1699)).2; have := congrArg Int32.toInt e8; have := ((r23 : rg x21 1 1701)).1; have := ((r23 : rg x21 1 1701)).2; have := tiA e22 (r25 : rg x7 0 1699) ((rg_k (by decide)) : rg (1 : Int32) 1 1) (by decide); have := ((r146 : rg x105 1 1701)).1; have := ((r146 : rg x105 1 1701)).2; have := congrArg Int32.toInt e106; have := ((r152 : rg a117 8 1700)).1; have := ((r152 : rg a117 8 1700)).2; have := congrArg Int32.toInt f5; have := congrArg Int32.toInt f14; have := congrArg Int32.toInt f15; have := congrArg Int32.toInt f16; have := congrArg Int32.toInt f103; have := congrArg Int32.toInt f120; have := congrArg Int32.toInt f121; have := (iL c24); have := c30; have := c114; have := (iNE c144); have := (iE c150); have : (1 : Int32).toInt = 1 := rfl; have : (8 : Int32).toInt = 8 := rfl; have := congrArg Int32.toInt v6.2.2; have := v6; unfold gI at this; have := congrArg Int32.toInt v17.2.2; have := v17; unfold gI at this; have := congrArg Int32.toInt v104.2.2.2; have := v104; unfold gL at this; have := congrArg Int32.toInt v122.2.2.2; have := v122; unfold gL at this; omega)) hP hD hS (lv_sub hl [0] rfl)
                        · skip
                          refine lv_aload_n hx hb dX12_goOn_175 rfl (lv_at hl 0 rfl) ?_
                          refine lv_aload_n hx hb dX12_goOn_176 rfl (lv_at hl 0 rfl) ?_
                          refine va_get (ci := 12) (v := .long (L119 0)) (C := RX12) (T := TX12) (N := 57) hx hb hg inX12 hown hK hP 0 atM_0 rfl 10 (by decide) (hg _ mw_1118) (fun _ h9 => h9) rfl dX12_goOn_177 ?_
                          refine lv_topl (fun z153 e154 => ?_)
                          refine lv_bipush (v := 8) hx hb dX12_goOn_180 (by decide) ?_
                          refine lv_lshl hx hb dX12_goOn_182 rfl ?_
                          refine lv_topl (fun z155 _ => ?_)
                          refine lv_aload_n hx hb dX12_goOn_183 rfl (lv_at hl 0 rfl) ?_
                          refine lv_iload_n hx hb dX12_goOn_184 rfl (lv_at hl 1 rfl) ?_
                          refine callv_i (As := [.int a117]) (rest := [.long z155, .ref (ad 0)]) hC (c_X12_sign_0 l D cA H.size ad F119 L119 A119 B119 (a117) hq.1 (rg_w r145 (by decide))) (cwV 1 hg (g_V mw_1292 mw_1289 mw_1291 ms_49 mw_20) rfl rfl rfl (by decide +kernel) ⟨(Nat.le_of_ble_eq_true rfl), (Nat.le_of_ble_eq_true rfl)⟩) hP hD hS hA atM_0 rfl rfl hl.1 rfl (Nat.le_of_ble_eq_true rfl) dX12_goOn_185 ⟨Nat.zero_le _, Nat.zero_le _⟩ (fun x156 u H locs hw hP hD hS => ?_)
                          obtain ⟨r157, g158⟩ := hw
                          have hP : va_P D classes (wM cA ad F119 L119 A119 B119) H := hP
                          have hD : va_D Af (wM cA ad F119 L119 A119 B119) := hD
                          refine lv_i2l hx hb dX12_goOn_188 rfl ?_
                          refine lv_topl (fun z159 _ => ?_)
                          refine lv_lor hx hb dX12_goOn_189 ?_
                          refine lv_topl (fun z160 _ => ?_)
                          refine va_put (ci := 12) (v := .long z160) (ty := .long) (C := RX12) (T := TX12) (N := 57) hx hb hg inX12 tyX12 tyX12_ok nmX12 hown hK hP hD hS 0 atM_0 rfl 10 (by decide) (hg _ mw_1118) (fun _ h9 => h9) rfl (by decide +kernel) rfl rfl (Nat.le_of_ble_eq_true rfl) dX12_goOn_190 (fun H locs hP hD hS => ?_)
                          rw [setLM_0] at hP hD
                          obtain ⟨x161, e162⟩ : ∃ y : Int32, y = a117 + 1 := ⟨_, rfl⟩
                          have r163 : rg x161 1 1701 := rg_add e162 r145 (rg_k (by decide) : rg 1 1 1) (by decide)
                          refine lv_iinc (v := x161) (lv' := [(2, .int x161), (0, .ref (ad 0))]) hx hb dX12_goOn_193 hl (k := 1) rfl (by rw [e162]; rfl) (by decide) rfl (fun ls hl => ?_)
                          refine lv_goto (tgt := 156) hx hb dX12_goOn_196 (by decide) ?_
                          exact ih156 (x161) (F119) ((vp_updL L119 0 z160)) (A119) (B119) H locs ls (by have h0 : (1 : Int32).toInt = 1 := rfl; have h1 := ti_addk e162 r145 (by decide); have h2 : rg x161 0 1701 := (rg_w r163 (by decide)); unfold rg at h2; omega) (rg_w r163 (by decide)) hq (f120) (f121) (gL.of (t := x7) (e := x105) (z := (F119 1)) (f120) (f121) rfl (by first | rfl | exact v6.2.2 | exact v17.2.2 | exact v104.2.2.2 | exact v122.2.2.2) (by have := hG; have f9 : rg (F119 1) 0 1700 := hq.1.1 1; have := f9.1; have := f9.2; have := ((r149 : rg x147 8 1707)).1; have := ((r149 : rg x147 8 1707)).2; have := tiA e148 (r25 : rg x7 0 1699) ((rg_k (by decide)) : rg (8 : Int32) 8 8) (by decide); have := ((r25 : rg x7 0 1699)).1; have := ((r25 : rg x7 0 1699)).2; have := congrArg Int32.toInt e8; have := ((r23 : rg x21 1 1701)).1; have := ((r23 : rg x21 1 1701)).2; have := tiA e22 (r25 : rg x7 0 1699) ((rg_k (by decide)) : rg (1 : Int32) 1 1) (by decide); have := ((r146 : rg x105 1 1701)).1; have := ((r146 : rg x105 1 1701)).2; have := congrArg Int32.toInt e106; have := ((r163 : rg x161 1 1701)).1; have := ((r163 : rg x161 1 1701)).2; have := tiA e162 (r145 : rg a117 0 1700) (rg_k (by decide) : rg 1 1 1) (by decide); have := ((r145 : rg a117 0 1700)).1; have := ((r145 : rg a117 0 1700)).2; have := congrArg Int32.toInt f5; have := congrArg Int32.toInt f14; have := congrArg Int32.toInt f15; have := congrArg Int32.toInt f16; have := congrArg Int32.toInt f103; have := congrArg Int32.toInt f120; have := congrArg Int32.toInt f121; have := (iL c24); have := c30; have := c114; have := (iNE c144); have := (iNE c150); have : (1 : Int32).toInt = 1 := rfl; have : (8 : Int32).toInt = 8 := rfl; have := congrArg Int32.toInt v6.2.2; have := v6; unfold gI at this; have := congrArg Int32.toInt v17.2.2; have := v17; unfold gI at this; have := congrArg Int32.toInt v104.2.2.2; have := v104; unfold gL at this; have := congrArg Int32.toInt v122.2.2.2; have := v122; unfold gL at this; omega)) hP hD hS (lv_sub hl [1, 0] rfl)
                  exact J156 _ (x7) (F102) ((vp_updL L102 0 (0 : Int64))) (A102) (B102) H locs ls (Nat.lt_succ_self _) (rg_w r25 (by decide)) hq (f103) (e106.symm) (gL.of (t := x7) (e := x105) (z := (F102 1)) (f103) (e106.symm) rfl (by first | rfl | exact v6.2.2 | exact v17.2.2 | exact v104.2.2.2) (by have := hG; have f9 : rg (F102 1) 0 1700 := hq.1.1 1; have := f9.1; have := f9.2; have := ((r23 : rg x21 1 1701)).1; have := ((r23 : rg x21 1 1701)).2; have := tiA e22 (r25 : rg x7 0 1699) ((rg_k (by decide)) : rg (1 : Int32) 1 1) (by decide); have := ((r25 : rg x7 0 1699)).1; have := ((r25 : rg x7 0 1699)).2; have := congrArg Int32.toInt e8; have := ((r107 : rg x105 0 1701)).1; have := ((r107 : rg x105 0 1701)).2; have := congrArg Int32.toInt e106; have := congrArg Int32.toInt f5; have := congrArg Int32.toInt f14; have := congrArg Int32.toInt f15; have := congrArg Int32.toInt f16; have := congrArg Int32.toInt f103; have := (iL c24); have := c30; have := c114; have : (1 : Int32).toInt = 1 := rfl; have := congrArg Int32.toInt v6.2.2; have := v6; unfold gI at this; have := congrArg Int32.toInt v17.2.2; have := v17; unfold gI at this; have := congrArg Int32.toInt v104.2.2.2; have := v104; unfold gL at this; omega)) hP hD hS (lv_sub hl [1, 0] rfl)
                · skip
                  have g116 := g113.resolve_left c114
                  refine lv_aload_n hx hb dX12_goOn_133 rfl (lv_at hl 0 rfl) ?_
                  refine lv_dup hx hb dX12_goOn_134 rfl ?_
                  refine va_get (ci := 12) (v := .int x105) (C := RX12) (T := TX12) (N := 57) hx hb hg inX12 hown hK hP 0 atM_0 rfl 7 (by decide) (hg _ mw_1115) (fun _ h9 => h9) (congrArg (fun z => some (Value.int z)) (e106.symm)) dX12_goOn_135 ?_
                  refine lv_iconst (v := 1) hx hb dX12_goOn_138 (by decide) ?_
                  refine lv_iadd hx hb dX12_goOn_139 ?_
                  refine lv_topi (fun x164 e165 => ?_)
                  have f166 := sgn_lt g110 g116 (by decide)
                  have r167 : rg x164 1 1700 := (by have := f166; have f9 : rg (F102 1) 0 1700 := hq.1.1 1; have := f9.1; have := f9.2; have := tiA e165 (r107 : rg x105 0 1701) (rg_k (by decide) : rg 1 1 1) (by decide); have : (1 : Int32).toInt = 1 := rfl; have := tiA e165 (r107 : rg x105 0 1701) ((rg_k (by decide)) : rg (1 : Int32) 1 1) (by decide); have := ((r107 : rg x105 0 1701)).1; have := ((r107 : rg x105 0 1701)).2; have := congrArg Int32.toInt e106; have := ((r23 : rg x21 1 1701)).1; have := ((r23 : rg x21 1 1701)).2; have := tiA e22 (r25 : rg x7 0 1699) ((rg_k (by decide)) : rg (1 : Int32) 1 1) (by decide); have := ((r25 : rg x7 0 1699)).1; have := ((r25 : rg x7 0 1699)).2; have := congrArg Int32.toInt e8; have := congrArg Int32.toInt f5; have := congrArg Int32.toInt f14; have := congrArg Int32.toInt f15; have := congrArg Int32.toInt f16; have := congrArg Int32.toInt f103; have := (iL c24); have := c30; have := c114; have := f166; have : (1 : Int32).toInt = 1 := rfl; have := congrArg Int32.toInt v6.2.2; have := v6; unfold gI at this; have := congrArg Int32.toInt v17.2.2; have := v17; unfold gI at this; have := congrArg Int32.toInt v104.2.2.2; have := v104; unfold gL at this; unfold rg at *; omega)
                  refine va_put (ci := 12) (v := .int x164) (ty := .int) (C := RX12) (T := TX12) (N := 57) hx hb hg inX12 tyX12 tyX12_ok nmX12 hown hK hP hD hS 0 atM_0 rfl 7 (by decide) (hg _ mw_1115) (fun _ h9 => h9) rfl (by decide +kernel) rfl rfl (Nat.le_of_ble_eq_true rfl) dX12_goOn_140 (fun H locs hP hD hS => ?_)
                  have hq := hq.put 5 (x := x164) (by decide) (rg_w r167 (by decide))
                  rw [setFM_5] at hP hD
                  refine lv_goto (tgt := 119) hx hb dX12_goOn_143 (by decide) ?_
                  exact ih119 ((upd F102 5 x164)) (L102) (A102) (B102) H locs ls (by have h0 : (1 : Int32).toInt = 1 := rfl; have h1 := ti_addk e165 r107 (by decide); have h2 := ((rg_w r167 (by decide)) : rg x164 0 1701); have h3 : (upd F102 5 x164) 5 = x164 := rfl; have h4 := hn119; have h5 := (e106).symm; rw [h3]; rw [h5] at h4; unfold rg at h2; omega) hq (f103) (gL.of (t := x7) (e := x164) (z := (F102 1)) (f103) (rfl) rfl (by first | rfl | exact v6.2.2 | exact v17.2.2 | exact v104.2.2.2) (by have := hG; have f9 : rg (F102 1) 0 1700 := hq.1.1 1; have := f9.1; have := f9.2; have := ((r167 : rg x164 1 1700)).1; have := ((r167 : rg x164 1 1700)).2; have := tiA e165 (r107 : rg x105 0 1701) ((rg_k (by decide)) : rg (1 : Int32) 1 1) (by decide); have := ((r107 : rg x105 0 1701)).1; have := ((r107 : rg x105 0 1701)).2; have := congrArg Int32.toInt e106; have := ((r23 : rg x21 1 1701)).1; have := ((r23 : rg x21 1 1701)).2; have := tiA e22 (r25 : rg x7 0 1699) ((rg_k (by decide)) : rg (1 : Int32) 1 1) (by decide); have := ((r25 : rg x7 0 1699)).1; have := ((r25 : rg x7 0 1699)).2; have := congrArg Int32.toInt e8; have := congrArg Int32.toInt f5; have := congrArg Int32.toInt f14; have := congrArg Int32.toInt f15; have := congrArg Int32.toInt f16; have := congrArg Int32.toInt f103; have := (iL c24); have := c30; have := c114; have := f166; have : (1 : Int32).toInt = 1 := rfl; have := congrArg Int32.toInt v6.2.2; have := v6; unfold gI at this; have := congrArg Int32.toInt v17.2.2; have := v17; unfold gI at this; have := congrArg Int32.toInt v104.2.2.2; have := v104; unfold gL at this; omega)) hP hD hS (lv_sub hl [0] rfl)
            exact J119 _ ((upd F13 5 x21)) (L13) (A13) (B13) H locs ls (Nat.lt_succ_self _) hq (f15) (gL.of (t := x7) (e := x21) (z := x10) (f15) (rfl) (f14) (by first | rfl | exact v6.2.2 | exact v17.2.2 | exact e11 | exact (e11).trans (v6.2.2) | exact (e11).trans (v17.2.2)) (by have := hG; have f9 : rg (F13 1) 0 1700 := hq.1.1 1; have := f9.1; have := f9.2; have := ((r23 : rg x21 1 1701)).1; have := ((r23 : rg x21 1 1701)).2; have := tiA e22 (r25 : rg x7 0 1699) ((rg_k (by decide)) : rg (1 : Int32) 1 1) (by decide); have := ((r25 : rg x7 0 1699)).1; have := ((r25 : rg x7 0 1699)).2; have := congrArg Int32.toInt e8; have := ((r26 : rg x10 1 1700)).1; have := ((r26 : rg x10 1 1700)).2; have := congrArg Int32.toInt e11; have := ((g32 : rg x18 97 122)).1; have := ((g32 : rg x18 97 122)).2; have := congrArg Int32.toInt f5; have := congrArg Int32.toInt f14; have := congrArg Int32.toInt f15; have := congrArg Int32.toInt f16; have := (iL c24); have := c30; have : (1 : Int32).toInt = 1 := rfl; have := congrArg Int32.toInt v6.2.2; have := v6; unfold gI at this; have := congrArg Int32.toInt v17.2.2; have := v17; unfold gI at this; omega)) hP hD hS (lv_sub hl [1] rfl)
        · skip
          refine lv_aload_n hx hb dX12_goOn_88 rfl (lv_at hl 1 rfl) ?_
          refine lv_iconst (v := 0) hx hb dX12_goOn_89 (by decide) ?_
          refine va_put (ci := 12) (v := .int 0) (ty := .int) (C := RX12) (T := TX12) (N := 57) hx hb hg inX12 tyX12 tyX12_ok nmX12 hown hK hP hD hS 0 atM_0 rfl 8 (by decide) (hg _ mw_1116) (fun _ h9 => h9) rfl (by decide +kernel) rfl rfl (Nat.le_of_ble_eq_true rfl) dX12_goOn_90 (fun H locs hP hD hS => ?_)
          have hq := hq.put 6 (x := 0) (by decide) (rg_k (by decide))
          rw [setFM_6] at hP hD
          refine lv_aload_n hx hb dX12_goOn_93 rfl (lv_at hl 1 rfl) ?_
          refine lv_aload_n hx hb dX12_goOn_94 rfl (lv_at hl 1 rfl) ?_
          refine va_get (ci := 12) (v := .int x10) (C := RX12) (T := TX12) (N := 57) hx hb hg inX12 hown hK hP 0 atM_0 rfl 3 (by decide) (hg _ mw_1111) (fun _ h9 => h9) (congrArg (fun z => some (Value.int z)) (f14)) dX12_goOn_95 ?_
          refine va_put (ci := 12) (v := .int x10) (ty := .int) (C := RX12) (T := TX12) (N := 57) hx hb hg inX12 tyX12 tyX12_ok nmX12 hown hK hP hD hS 0 atM_0 rfl 6 (by decide) (hg _ mw_1114) (fun _ h9 => h9) rfl (by decide +kernel) rfl rfl (Nat.le_of_ble_eq_true rfl) dX12_goOn_98 (fun H locs hP hD hS => ?_)
          have hq := hq.put 4 (x := x10) (by decide) r12
          rw [setFM_4] at hP hD
          refine lv_aload_n hx hb dX12_goOn_101 rfl (lv_at hl 1 rfl) ?_
          refine lv_aload_n hx hb dX12_goOn_102 rfl (lv_at hl 1 rfl) ?_
          refine va_get (ci := 12) (v := .int x10) (C := RX12) (T := TX12) (N := 57) hx hb hg inX12 hown hK hP 0 atM_0 rfl 3 (by decide) (hg _ mw_1111) (fun _ h9 => h9) (congrArg (fun z => some (Value.int z)) (f14)) dX12_goOn_103 ?_
          refine va_put (ci := 12) (v := .int x10) (ty := .int) (C := RX12) (T := TX12) (N := 57) hx hb hg inX12 tyX12 tyX12_ok nmX12 hown hK hP hD hS 0 atM_0 rfl 7 (by decide) (hg _ mw_1115) (fun _ h9 => h9) rfl (by decide +kernel) rfl rfl (Nat.le_of_ble_eq_true rfl) dX12_goOn_106 (fun H locs hP hD hS => ?_)
          have hq := hq.put 5 (x := x10) (by decide) (rg_w r12 (by decide))
          rw [setFM_5] at hP hD
          refine lv_goto (tgt := 376) hx hb dX12_goOn_109 (by decide) ?_
          exact hret ((upd (upd (upd (upd F13 5 x21) 6 (0 : Int32)) 4 x10) 5 x10), L13, A13, B13) H locs 376 ls dX12_goOn_376 hP hD hS ⟨hq, (gP.of (t := x10) (e := x10) (z := x10) (k := (0 : Int32)) (rfl) (rfl) (f14) (rfl) (by first | rfl | exact v6.2.2 | exact v17.2.2 | exact e11 | exact (e11).trans (v6.2.2) | exact (e11).trans (v17.2.2)) (by have := hG; have f9 : rg (F13 1) 0 1700 := hq.1.1 1; have := f9.1; have := f9.2; have := ((r23 : rg x21 1 1701)).1; have := ((r23 : rg x21 1 1701)).2; have := tiA e22 (r9 : rg x7 0 1700) ((rg_k (by decide)) : rg (1 : Int32) 1 1) (by decide); have := ((r9 : rg x7 0 1700)).1; have := ((r9 : rg x7 0 1700)).2; have := congrArg Int32.toInt e8; have := ((r12 : rg x10 0 1700)).1; have := ((r12 : rg x10 0 1700)).2; have := congrArg Int32.toInt e11; have := ((r19 : rg x18 0 255)).1; have := ((r19 : rg x18 0 255)).2; have := congrArg Int32.toInt f5; have := congrArg Int32.toInt f14; have := congrArg Int32.toInt f15; have := congrArg Int32.toInt f16; have := (iNL c24); have : (0 : Int32).toInt = 0 := rfl; have : (1 : Int32).toInt = 1 := rfl; have := congrArg Int32.toInt v6.2.2; have := v6; unfold gI at this; have := congrArg Int32.toInt v17.2.2; have := v17; unfold gI at this; omega) (fun h => absurd h (by decide)))⟩
      refine lv_icmp_ge (tgt := 58) hx hb dX12_goOn_16 (by decide) (fun c168 => ?_) (fun c168 => ?_)
      · skip
        exact J58 (F4) (L4) (A4) (B4) H locs ls hq (e11.symm) (e8.symm) (f5) (gI.of (t := x7) (z := x10) (e8.symm) (e11.symm) (by first | rfl | exact v6.2.2 | exact e11 | exact (e11).trans (v6.2.2)) (by have := hG; have f9 : rg (F4 1) 0 1700 := hq.1.1 1; have := f9.1; have := f9.2; have := ((r12 : rg x10 0 1700)).1; have := ((r12 : rg x10 0 1700)).2; have := congrArg Int32.toInt e11; have := ((r9 : rg x7 0 1700)).1; have := ((r9 : rg x7 0 1700)).2; have := congrArg Int32.toInt e8; have := ((r3 : rg x1 0 1700)).1; have := ((r3 : rg x1 0 1700)).2; have := congrArg Int32.toInt e2; have := congrArg Int32.toInt f5; have := (iE c168); have := congrArg Int32.toInt v6.2.2; have := v6; unfold gI at this; omega)) hP hD hS (lv_sub hl [0] rfl)
      · skip
        have r169 : rg x7 0 1699 := rg_lt1 (iNE c168) (r9 : rg x7 0 1700) (r12 : rg x10 0 1700)
        have r170 : rg x10 1 1700 := rg_lt2 (iNE c168) (r9 : rg x7 0 1700) (r12 : rg x10 0 1700)
        refine lv_aload_n hx hb dX12_goOn_19 rfl (lv_at hl 0 rfl) ?_
        refine lv_aload_n hx hb dX12_goOn_20 rfl (lv_at hl 0 rfl) ?_
        refine va_get (ci := 12) (v := .int x7) (C := RX12) (T := TX12) (N := 57) hx hb hg inX12 hown hK hP 0 atM_0 rfl 6 (by decide) (hg _ mw_1114) (fun _ h9 => h9) (congrArg (fun z => some (Value.int z)) (e8.symm)) dX12_goOn_21 ?_
        refine callv_i (As := [.int x7]) (rest := []) hC (c_X12_sign_0 l D cA H.size ad F4 L4 A4 B4 (x7) hq.1 (rg_w r169 (by decide))) (cwV 1 hg (g_V mw_1292 mw_1289 mw_1291 ms_49 mw_20) rfl rfl rfl (by decide +kernel) ⟨(Nat.le_of_ble_eq_true rfl), (Nat.le_of_ble_eq_true rfl)⟩) hP hD hS hA atM_0 rfl rfl hl.1 rfl (Nat.le_of_ble_eq_true rfl) dX12_goOn_24 ⟨Nat.zero_le _, Nat.zero_le _⟩ (fun x171 u H locs hw hP hD hS => ?_)
        obtain ⟨r172, g173⟩ := hw
        have hP : va_P D classes (wM cA ad F4 L4 A4 B4) H := hP
        have hD : va_D Af (wM cA ad F4 L4 A4 B4) := hD
        refine lv_bipush (v := 32) hx hb dX12_goOn_27 (by decide) ?_
        have J45 : ∀ (F174 : Nat → Int32) (L174 : Nat → Int64) (A174 : Nat → Nat → Int32) (B174 : Nat → Nat → Int64) (H : Heap) (locs : List Loc) (ls : Array Slot), qM [4, 5, 6, 7] [] F A F174 A174 → F174 1 = x10 → F174 4 = x7 → F174 5 = x1 → (gI F F174) → va_P D classes (wM cA ad F174 L174 A174 B174) H → va_D Af (wM cA ad F174 L174 A174 B174) → va_S Af s.heap H locs → lv_has ls 3 [(0, .ref (ad 0))] → W p l e rm_X12_goOn_0 s m args below meth c H locs 0 0 Q (F0 m 45 ls []) := by
          intro F174 L174 A174 B174 H locs ls hq f175 f176 f177 v178 hP hD hS hl
          refine lv_aload_n hx hb dX12_goOn_45 rfl (lv_at hl 0 rfl) ?_
          refine lv_dup hx hb dX12_goOn_46 rfl ?_
          refine va_get (ci := 12) (v := .int x7) (C := RX12) (T := TX12) (N := 57) hx hb hg inX12 hown hK hP 0 atM_0 rfl 6 (by decide) (hg _ mw_1114) (fun _ h9 => h9) (congrArg (fun z => some (Value.int z)) (f176)) dX12_goOn_47 ?_
          refine lv_iconst (v := 1) hx hb dX12_goOn_50 (by decide) ?_
          refine lv_iadd hx hb dX12_goOn_51 ?_
          refine lv_topi (fun x179 e180 => ?_)
          have r181 : rg x179 1 1700 := rg_add e180 r169 ((rg_k (by decide)) : rg 1 1 1) (by decide)
          refine va_put (ci := 12) (v := .int x179) (ty := .int) (C := RX12) (T := TX12) (N := 57) hx hb hg inX12 tyX12 tyX12_ok nmX12 hown hK hP hD hS 0 atM_0 rfl 6 (by decide) (hg _ mw_1114) (fun _ h9 => h9) rfl (by decide +kernel) rfl rfl (Nat.le_of_ble_eq_true rfl) dX12_goOn_52 (fun H locs hP hD hS => ?_)
          have hq := hq.put 4 (x := x179) (by decide) (rg_w r181 (by decide))
          rw [setFM_4] at hP hD
          refine lv_goto (tgt := 8) hx hb dX12_goOn_55 (by decide) ?_
          exact ih8 ((upd F174 4 x179)) (L174) (A174) (B174) H locs ls (by have h0 : (1 : Int32).toInt = 1 := rfl; have h1 := ti_addk e180 r169 (by decide); have h2 := ((rg_w r181 (by decide)) : rg x179 0 1700); have h3 : (upd F174 4 x179) 4 = x179 := rfl; have h4 := hn8; have h5 := (e8).symm; rw [h3]; rw [h5] at h4; unfold rg at h2; omega) hq (f177) (gI.of (t := x179) (z := x10) (rfl) (f175) (by first | rfl | exact v6.2.2 | exact v178.2.2 | exact e11 | exact (e11).trans (v6.2.2) | exact (e11).trans (v178.2.2)) (by have := hG; have f9 : rg (F174 1) 0 1700 := hq.1.1 1; have := f9.1; have := f9.2; have := ((r181 : rg x179 1 1700)).1; have := ((r181 : rg x179 1 1700)).2; have := tiA e180 (r169 : rg x7 0 1699) ((rg_k (by decide)) : rg (1 : Int32) 1 1) (by decide); have := ((r169 : rg x7 0 1699)).1; have := ((r169 : rg x7 0 1699)).2; have := congrArg Int32.toInt e8; have := ((r3 : rg x1 0 1700)).1; have := ((r3 : rg x1 0 1700)).2; have := congrArg Int32.toInt e2; have := ((r170 : rg x10 1 1700)).1; have := ((r170 : rg x10 1 1700)).2; have := congrArg Int32.toInt e11; have := congrArg Int32.toInt f5; have := congrArg Int32.toInt f175; have := congrArg Int32.toInt f176; have := congrArg Int32.toInt f177; have := (iNE c168); have : (1 : Int32).toInt = 1 := rfl; have := congrArg Int32.toInt v6.2.2; have := v6; unfold gI at this; have := congrArg Int32.toInt v178.2.2; have := v178; unfold gI at this; omega)) hP hD hS (lv_sub hl [0] rfl)
        refine lv_icmp_eq (tgt := 45) hx hb dX12_goOn_29 (by decide) (fun c182 => ?_) (fun c182 => ?_)
        · skip
          have r183 : rg x171 32 32 := rg_eq1 c182 (r172 : rg x171 0 255) ((rg_k (by decide)) : rg 32 32 32) (by decide)
          exact J45 (F4) (L4) (A4) (B4) H locs ls hq (e11.symm) (e8.symm) (f5) (gI.of (t := x7) (z := x10) (e8.symm) (e11.symm) (by first | rfl | exact v6.2.2 | exact e11 | exact (e11).trans (v6.2.2)) (by have := hG; have f9 : rg (F4 1) 0 1700 := hq.1.1 1; have := f9.1; have := f9.2; have := ((r170 : rg x10 1 1700)).1; have := ((r170 : rg x10 1 1700)).2; have := congrArg Int32.toInt e11; have := ((r169 : rg x7 0 1699)).1; have := ((r169 : rg x7 0 1699)).2; have := congrArg Int32.toInt e8; have := ((r3 : rg x1 0 1700)).1; have := ((r3 : rg x1 0 1700)).2; have := congrArg Int32.toInt e2; have := congrArg Int32.toInt f5; have := (iNE c168); have := c182; have := congrArg Int32.toInt v6.2.2; have := v6; unfold gI at this; omega)) hP hD hS (lv_sub hl [0] rfl)
        · skip
          refine lv_aload_n hx hb dX12_goOn_32 rfl (lv_at hl 0 rfl) ?_
          refine lv_aload_n hx hb dX12_goOn_33 rfl (lv_at hl 0 rfl) ?_
          refine va_get (ci := 12) (v := .int x7) (C := RX12) (T := TX12) (N := 57) hx hb hg inX12 hown hK hP 0 atM_0 rfl 6 (by decide) (hg _ mw_1114) (fun _ h9 => h9) (congrArg (fun z => some (Value.int z)) (e8.symm)) dX12_goOn_34 ?_
          refine callv_i (As := [.int x7]) (rest := []) hC (c_X12_sign_0 l D cA H.size ad F4 L4 A4 B4 (x7) hq.1 (rg_w r169 (by decide))) (cwV 1 hg (g_V mw_1292 mw_1289 mw_1291 ms_49 mw_20) rfl rfl rfl (by decide +kernel) ⟨(Nat.le_of_ble_eq_true rfl), (Nat.le_of_ble_eq_true rfl)⟩) hP hD hS hA atM_0 rfl rfl hl.1 rfl (Nat.le_of_ble_eq_true rfl) dX12_goOn_37 ⟨Nat.zero_le _, Nat.zero_le _⟩ (fun x184 u H locs hw hP hD hS => ?_)
          obtain ⟨r185, g186⟩ := hw
          have hP : va_P D classes (wM cA ad F4 L4 A4 B4) H := hP
          have hD : va_D Af (wM cA ad F4 L4 A4 B4) := hD
          refine lv_bipush (v := 10) hx hb dX12_goOn_40 (by decide) ?_
          refine lv_icmp_ne (tgt := 58) hx hb dX12_goOn_42 (by decide) (fun c187 => ?_) (fun c187 => ?_)
          · skip
            exact J58 (F4) (L4) (A4) (B4) H locs ls hq (e11.symm) (e8.symm) (f5) (gI.of (t := x7) (z := x10) (e8.symm) (e11.symm) (by first | rfl | exact v6.2.2 | exact e11 | exact (e11).trans (v6.2.2)) (by have := hG; have f9 : rg (F4 1) 0 1700 := hq.1.1 1; have := f9.1; have := f9.2; have := ((r170 : rg x10 1 1700)).1; have := ((r170 : rg x10 1 1700)).2; have := congrArg Int32.toInt e11; have := ((r169 : rg x7 0 1699)).1; have := ((r169 : rg x7 0 1699)).2; have := congrArg Int32.toInt e8; have := ((r3 : rg x1 0 1700)).1; have := ((r3 : rg x1 0 1700)).2; have := congrArg Int32.toInt e2; have := congrArg Int32.toInt f5; have := (iNE c168); have := c182; have := c187; have := congrArg Int32.toInt v6.2.2; have := v6; unfold gI at this; omega)) hP hD hS (lv_sub hl [0] rfl)
          · skip
            have r188 : rg x184 10 10 := rg_eq1 c187 (r185 : rg x184 0 255) ((rg_k (by decide)) : rg 10 10 10) (by decide)
            exact J45 (F4) (L4) (A4) (B4) H locs ls hq (e11.symm) (e8.symm) (f5) (gI.of (t := x7) (z := x10) (e8.symm) (e11.symm) (by first | rfl | exact v6.2.2 | exact e11 | exact (e11).trans (v6.2.2)) (by have := hG; have f9 : rg (F4 1) 0 1700 := hq.1.1 1; have := f9.1; have := f9.2; have := ((r170 : rg x10 1 1700)).1; have := ((r170 : rg x10 1 1700)).2; have := congrArg Int32.toInt e11; have := ((r169 : rg x7 0 1699)).1; have := ((r169 : rg x7 0 1699)).2; have := congrArg Int32.toInt e8; have := ((r3 : rg x1 0 1700)).1; have := ((r3 : rg x1 0 1700)).2; have := congrArg Int32.toInt e2; have := congrArg Int32.toInt f5; have := (iNE c168); have := c182; have := c187; have := congrArg Int32.toInt v6.2.2; have := v6; unfold gI at this; omega)) hP hD hS (lv_sub hl [0] rfl)
  exact J8 _ ((upd F 4 x1)) (L) (A) (B) H locs ls (Nat.lt_succ_self _) hq (e2.symm) (gI.of (t := x1) (z := (F 1)) (rfl) rfl (by first | rfl) (by have := hG; have f9 : rg (F 1) 0 1700 := hq.1.1 1; have := f9.1; have := f9.2; have := ((r3 : rg x1 0 1700)).1; have := ((r3 : rg x1 0 1700)).2; have := congrArg Int32.toInt e2; skip; omega)) hP hD hS (lv_sub hl [0] rfl)
abbrev rm_X12_isGood_0 : Room := { frames := 0, cells := 0, slots := 0, locals := 0 }
set_option maxHeartbeats 4000000 in
set_option maxRecDepth 100000 in
theorem c_X12_isGood_0 (l : Launch) (D : va_G) (cA : Nat → ClassId) (sz : Nat) (ad : Nat → Nat) (F : Nat → Int32) (L : Nat → Int64) (A : Nat → Nat → Int32) (B : Nat → Nat → Int64)  (hT : typM F A) : Met l yX12_isGood (Cond.code yX12_isGood cX12_isGood 1 (some .boolean) :: GW) rm_X12_isGood_0 (mPc D classes (tysM cA) (wM cA ad F L A B) sz [.ref (ad 0)]) (mQi (S := Unit) D classes (tysM cA) (wM cA ad F L A B) sz (fun _ : Unit => wM cA ad F L A B) (fun r u => rg r 0 1 ∧ ((r = 0 ∨ F 2 = 0) ∧ (r ≠ 0 ∨ ¬ F 2 = 0)))) 0 0 (va_A (wM cA ad F L A B) sz) := by
  refine met_i (own := "ShoeingDayModel") (by decide +kernel) rfl (Nat.le_of_ble_eq_true rfl) ?_
  intro p e s m args below meth c Q Af ls hC hP hD hS hA hl hret
  have hx := hC.1
  have hb := hC.2.1
  have hown := hC.2.2.2.1
  have hg := hC.g
  have hK := hC.K
  have hl : lv_has ls 1 [(0, .ref (ad 0))] := hl
  have hq : qM [] [] F A F A := qM.rf hT
  obtain ⟨H, hH⟩ : ∃ H, H = s.heap := ⟨_, rfl⟩
  have hP : va_P D classes (wM cA ad F L A B) H := by rw [hH]; exact hP
  have hS : va_S Af s.heap H [] := by rw [hH]; exact hS
  obtain ⟨locs, hlo⟩ : ∃ q : List Loc, q = [] := ⟨_, rfl⟩
  rw [← hH, ← hlo]
  rw [← hlo] at hS
  refine lv_aload_n hx hb dX12_isGood_0 rfl (lv_at hl 0 rfl) ?_
  refine va_get (ci := 12) (v := .int (F 2)) (C := RX12) (T := TX12) (N := 57) hx hb hg inX12 hown hK hP 0 atM_0 rfl 4 (by decide) (hg _ mw_1112) (fun _ h9 => h9) rfl dX12_isGood_1 ?_
  refine lv_topi (fun x1 e2 => ?_)
  refine lv_if_ne (tgt := 11) hx hb dX12_isGood_4 (by decide) (fun c3 => ?_) (fun c3 => ?_)
  · skip
    refine lv_iconst (v := 0) hx hb dX12_isGood_11 (by decide) ?_
    exact hret (0) () H locs 12 ls rfl dX12_isGood_12 hP hD hS ⟨(rg_k (by decide)), ⟨Or.inl rfl, Or.inr (fun h9 => c3 (e2.trans h9))⟩⟩
  · skip
    have r4 : rg x1 0 0 := rg_eq1 c3 ((rg_top _) : rg x1 (-2147483648) 2147483647) ((rg_k (by decide)) : rg 0 0 0) (by decide)
    refine lv_iconst (v := 1) hx hb dX12_isGood_7 (by decide) ?_
    refine lv_goto (tgt := 12) hx hb dX12_isGood_8 (by decide) ?_
    exact hret (1) () H locs 12 ls rfl dX12_isGood_12 hP hD hS ⟨(rg_k (by decide)), ⟨Or.inr (e2.symm.trans c3), Or.inl (by decide)⟩⟩
abbrev rm_X12_isWord_0 : Room := { frames := 0, cells := 0, slots := 0, locals := 0 }
set_option maxHeartbeats 4000000 in
set_option maxRecDepth 100000 in
theorem c_X12_isWord_0 (l : Launch) (D : va_G) (cA : Nat → ClassId) (sz : Nat) (ad : Nat → Nat) (F : Nat → Int32) (L : Nat → Int64) (A : Nat → Nat → Int32) (B : Nat → Nat → Int64) (p1 : Int64) (hT : typM F A) : Met l yX12_isWord (Cond.code yX12_isWord cX12_isWord 3 (some .boolean) :: GW) rm_X12_isWord_0 (mPc D classes (tysM cA) (wM cA ad F L A B) sz [.ref (ad 0), .long p1]) (mQi (S := Unit) D classes (tysM cA) (wM cA ad F L A B) sz (fun _ : Unit => wM cA ad F L A B) (fun r u => rg r 0 1 ∧ ((r = 0 ∨ (F 6 = 3 ∧ L 0 = p1)) ∧ (r ≠ 0 ∨ ¬ (F 6 = 3 ∧ L 0 = p1))))) 0 0 (va_A (wM cA ad F L A B) sz) := by
  refine met_i (own := "ShoeingDayModel") (by decide +kernel) rfl (Nat.le_of_ble_eq_true rfl) ?_
  intro p e s m args below meth c Q Af ls hC hP hD hS hA hl hret
  have hx := hC.1
  have hb := hC.2.1
  have hown := hC.2.2.2.1
  have hg := hC.g
  have hK := hC.K
  have hl : lv_has ls 3 [(0, .ref (ad 0)), (1, .long p1)] := hl
  have hq : qM [] [] F A F A := qM.rf hT
  obtain ⟨H, hH⟩ : ∃ H, H = s.heap := ⟨_, rfl⟩
  have hP : va_P D classes (wM cA ad F L A B) H := by rw [hH]; exact hP
  have hS : va_S Af s.heap H [] := by rw [hH]; exact hS
  obtain ⟨locs, hlo⟩ : ∃ q : List Loc, q = [] := ⟨_, rfl⟩
  rw [← hH, ← hlo]
  rw [← hlo] at hS
  refine lv_aload_n hx hb dX12_isWord_0 rfl (lv_at hl 0 rfl) ?_
  refine va_get (ci := 12) (v := .int (F 6)) (C := RX12) (T := TX12) (N := 57) hx hb hg inX12 hown hK hP 0 atM_0 rfl 8 (by decide) (hg _ mw_1116) (fun _ h9 => h9) rfl dX12_isWord_1 ?_
  refine lv_topi (fun x1 e2 => ?_)
  have r3 : rg x1 0 5 := rg_e e2 (hq.1.1 6)
  refine lv_iconst (v := 3) hx hb dX12_isWord_4 (by decide) ?_
  have J21 : ∀ (H : Heap) (locs : List Loc) (ls : Array Slot), (¬ (F 6 = 3 ∧ L 0 = p1)) → va_P D classes (wM cA ad F L A B) H → va_D Af (wM cA ad F L A B) → va_S Af s.heap H locs → lv_has ls 3 [] → W p l e rm_X12_isWord_0 s m args below meth c H locs 0 0 Q (F0 m 21 ls []) := by
    intro H locs ls v4 hP hD hS hl
    refine lv_iconst (v := 0) hx hb dX12_isWord_21 (by decide) ?_
    exact hret (0) () H locs 22 ls rfl dX12_isWord_22 hP hD hS ⟨(rg_k (by decide)), ⟨Or.inl rfl, Or.inr v4⟩⟩
  refine lv_icmp_ne (tgt := 21) hx hb dX12_isWord_5 (by decide) (fun c5 => ?_) (fun c5 => ?_)
  · skip
    exact J21  H locs ls (fun h9 => c5 (e2.trans h9.1)) hP hD hS (lv_sub hl [] rfl)
  · skip
    have r6 : rg x1 3 3 := rg_eq1 c5 (r3 : rg x1 0 5) ((rg_k (by decide)) : rg 3 3 3) (by decide)
    refine lv_aload_n hx hb dX12_isWord_8 rfl (lv_at hl 0 rfl) ?_
    refine va_get (ci := 12) (v := .long (L 0)) (C := RX12) (T := TX12) (N := 57) hx hb hg inX12 hown hK hP 0 atM_0 rfl 10 (by decide) (hg _ mw_1118) (fun _ h9 => h9) rfl dX12_isWord_9 ?_
    refine lv_topl (fun z7 e8 => ?_)
    refine lv_lload_n hx hb dX12_isWord_12 rfl (lv_at hl 1 rfl) ?_
    refine W.lcmp hx hb dX12_isWord_13 ?_
    refine lv_topi (fun x9 e10 => ?_)
    refine lv_if_ne (tgt := 21) hx hb dX12_isWord_14 (by decide) (fun c11 => ?_) (fun c11 => ?_)
    · skip
      exact J21  H locs ls (fun h9 => c11 (e10.trans ((lg_cmp_eq _ _).mpr (e8.trans h9.2)))) hP hD hS (lv_sub hl [] rfl)
    · skip
      have r12 : rg x9 0 0 := rg_eq1 c11 ((rg_top _) : rg x9 (-2147483648) 2147483647) ((rg_k (by decide)) : rg 0 0 0) (by decide)
      refine lv_iconst (v := 1) hx hb dX12_isWord_17 (by decide) ?_
      refine lv_goto (tgt := 22) hx hb dX12_isWord_18 (by decide) ?_
      exact hret (1) () H locs 22 ls rfl dX12_isWord_22 hP hD hS ⟨(rg_k (by decide)), ⟨Or.inr ⟨e2.symm.trans c5, e8.symm.trans ((lg_cmp_eq _ _).mp (e10.symm.trans c11))⟩, Or.inl (by decide)⟩⟩
abbrev rm_X12_isFull_0 : Room := { frames := 1, cells := 0, slots := 0, locals := 22 }
set_option maxHeartbeats 4000000 in
set_option maxRecDepth 100000 in
theorem c_X12_isFull_0 (l : Launch) (D : va_G) (cA : Nat → ClassId) (sz : Nat) (ad : Nat → Nat) (F : Nat → Int32) (L : Nat → Int64) (A : Nat → Nat → Int32) (B : Nat → Nat → Int64)  (hT : typM F A) (hK3 : F 6 = 3) : Met l yX12_isFull (Cond.code yX12_isFull cX12_isFull 1 (some .boolean) :: GW) rm_X12_isFull_0 (mPc D classes (tysM cA) (wM cA ad F L A B) sz [.ref (ad 0)]) (mQi (S := Unit) D classes (tysM cA) (wM cA ad F L A B) sz (fun _ : Unit => wM cA ad F L A B) (fun r u => rg r 0 1 ∧ (r ≠ 0 ∨ ((L 0 = 495756866664 → ¬ A 3 (F 9).toNatClampNeg = 8) ∧ (L 0 = 448546370405 → ¬ A 4 (F 9).toNatClampNeg = 10))))) 0 0 (va_A (wM cA ad F L A B) sz) := by
  refine met_i (own := "ShoeingDayModel") (by decide +kernel) rfl (Nat.le_of_ble_eq_true rfl) ?_
  intro p e s m args below meth c Q Af ls hC hP hD hS hA hl hret
  have hx := hC.1
  have hb := hC.2.1
  have hown := hC.2.2.2.1
  have hg := hC.g
  have hK := hC.K
  have hl : lv_has ls 1 [(0, .ref (ad 0))] := hl
  have hq : qM [] [] F A F A := qM.rf hT
  obtain ⟨H, hH⟩ : ∃ H, H = s.heap := ⟨_, rfl⟩
  have hP : va_P D classes (wM cA ad F L A B) H := by rw [hH]; exact hP
  have hS : va_S Af s.heap H [] := by rw [hH]; exact hS
  obtain ⟨locs, hlo⟩ : ∃ q : List Loc, q = [] := ⟨_, rfl⟩
  rw [← hH, ← hlo]
  rw [← hlo] at hS
  refine lv_aload_n hx hb dX12_isFull_0 rfl (lv_at hl 0 rfl) ?_
  refine lv_ldc2 (v := 495756866664) hx hb hown (hg _ mw_1299) dX12_isFull_1 ?_
  refine callv_i (As := [.long (495756866664 : Int64)]) (rest := []) hC (c_X12_isWord_0 l D cA H.size ad F L A B ((495756866664 : Int64)) hq.1) (cwV 1 hg (g_V mw_1324 mw_1321 mw_1323 ms_53 mw_20) rfl rfl rfl (by decide +kernel) ⟨(Nat.le_of_ble_eq_true rfl), (Nat.le_of_ble_eq_true rfl)⟩) hP hD hS hA atM_0 rfl rfl hl.1 rfl (Nat.le_of_ble_eq_true rfl) dX12_isFull_4 ⟨Nat.zero_le _, Nat.zero_le _⟩ (fun x1 u H locs hw hP hD hS => ?_)
  obtain ⟨r2, g3⟩ := hw
  have hP : va_P D classes (wM cA ad F L A B) H := hP
  have hD : va_D Af (wM cA ad F L A B) := hD
  refine lv_if_eq (tgt := 30) hx hb dX12_isFull_7 (by decide) (fun c4 => ?_) (fun c4 => ?_)
  · skip
    have r5 : rg x1 0 0 := rg_eq1 c4 (r2 : rg x1 0 1) ((rg_k (by decide)) : rg 0 0 0) (by decide)
    refine lv_aload_n hx hb dX12_isFull_30 rfl (lv_at hl 0 rfl) ?_
    refine lv_ldc2 (v := 448546370405) hx hb hown (hg _ mw_1302) dX12_isFull_31 ?_
    refine callv_i (As := [.long (448546370405 : Int64)]) (rest := []) hC (c_X12_isWord_0 l D cA H.size ad F L A B ((448546370405 : Int64)) hq.1) (cwV 1 hg (g_V mw_1324 mw_1321 mw_1323 ms_53 mw_20) rfl rfl rfl (by decide +kernel) ⟨(Nat.le_of_ble_eq_true rfl), (Nat.le_of_ble_eq_true rfl)⟩) hP hD hS hA atM_0 rfl rfl hl.1 rfl (Nat.le_of_ble_eq_true rfl) dX12_isFull_34 ⟨Nat.zero_le _, Nat.zero_le _⟩ (fun x7 u H locs hw hP hD hS => ?_)
    obtain ⟨r8, g9⟩ := hw
    have hP : va_P D classes (wM cA ad F L A B) H := hP
    have hD : va_D Af (wM cA ad F L A B) := hD
    refine lv_if_eq (tgt := 60) hx hb dX12_isFull_37 (by decide) (fun c10 => ?_) (fun c10 => ?_)
    · skip
      have r11 : rg x7 0 0 := rg_eq1 c10 (r8 : rg x7 0 1) ((rg_k (by decide)) : rg 0 0 0) (by decide)
      refine lv_aload_n hx hb dX12_isFull_60 rfl (lv_at hl 0 rfl) ?_
      refine lv_ldc2 (v := 448546566771) hx hb hown (hg _ mw_1303) dX12_isFull_61 ?_
      refine callv_i (As := [.long (448546566771 : Int64)]) (rest := []) hC (c_X12_isWord_0 l D cA H.size ad F L A B ((448546566771 : Int64)) hq.1) (cwV 1 hg (g_V mw_1324 mw_1321 mw_1323 ms_53 mw_20) rfl rfl rfl (by decide +kernel) ⟨(Nat.le_of_ble_eq_true rfl), (Nat.le_of_ble_eq_true rfl)⟩) hP hD hS hA atM_0 rfl rfl hl.1 rfl (Nat.le_of_ble_eq_true rfl) dX12_isFull_64 ⟨Nat.zero_le _, Nat.zero_le _⟩ (fun x13 u H locs hw hP hD hS => ?_)
      obtain ⟨r14, g15⟩ := hw
      have hP : va_P D classes (wM cA ad F L A B) H := hP
      have hD : va_D Af (wM cA ad F L A B) := hD
      refine lv_if_eq (tgt := 90) hx hb dX12_isFull_67 (by decide) (fun c16 => ?_) (fun c16 => ?_)
      · skip
        have r17 : rg x13 0 0 := rg_eq1 c16 (r14 : rg x13 0 1) ((rg_k (by decide)) : rg 0 0 0) (by decide)
        refine lv_aload_n hx hb dX12_isFull_90 rfl (lv_at hl 0 rfl) ?_
        refine lv_ldc2 (v := 465558201459) hx hb hown (hg _ mw_1304) dX12_isFull_91 ?_
        refine callv_i (As := [.long (465558201459 : Int64)]) (rest := []) hC (c_X12_isWord_0 l D cA H.size ad F L A B ((465558201459 : Int64)) hq.1) (cwV 1 hg (g_V mw_1324 mw_1321 mw_1323 ms_53 mw_20) rfl rfl rfl (by decide +kernel) ⟨(Nat.le_of_ble_eq_true rfl), (Nat.le_of_ble_eq_true rfl)⟩) hP hD hS hA atM_0 rfl rfl hl.1 rfl (Nat.le_of_ble_eq_true rfl) dX12_isFull_94 ⟨Nat.zero_le _, Nat.zero_le _⟩ (fun x19 u H locs hw hP hD hS => ?_)
        obtain ⟨r20, g21⟩ := hw
        have hP : va_P D classes (wM cA ad F L A B) H := hP
        have hD : va_D Af (wM cA ad F L A B) := hD
        refine lv_if_eq (tgt := 120) hx hb dX12_isFull_97 (by decide) (fun c22 => ?_) (fun c22 => ?_)
        · skip
          have r23 : rg x19 0 0 := rg_eq1 c22 (r20 : rg x19 0 1) ((rg_k (by decide)) : rg 0 0 0) (by decide)
          refine lv_aload_n hx hb dX12_isFull_120 rfl (lv_at hl 0 rfl) ?_
          refine lv_ldc2 (v := 1818326117) hx hb hown (hg _ mw_1305) dX12_isFull_121 ?_
          refine callv_i (As := [.long (1818326117 : Int64)]) (rest := []) hC (c_X12_isWord_0 l D cA H.size ad F L A B ((1818326117 : Int64)) hq.1) (cwV 1 hg (g_V mw_1324 mw_1321 mw_1323 ms_53 mw_20) rfl rfl rfl (by decide +kernel) ⟨(Nat.le_of_ble_eq_true rfl), (Nat.le_of_ble_eq_true rfl)⟩) hP hD hS hA atM_0 rfl rfl hl.1 rfl (Nat.le_of_ble_eq_true rfl) dX12_isFull_124 ⟨Nat.zero_le _, Nat.zero_le _⟩ (fun x25 u H locs hw hP hD hS => ?_)
          obtain ⟨r26, g27⟩ := hw
          have hP : va_P D classes (wM cA ad F L A B) H := hP
          have hD : va_D Af (wM cA ad F L A B) := hD
          have J142 : ∀ (H : Heap) (locs : List Loc) (ls : Array Slot), va_P D classes (wM cA ad F L A B) H → va_D Af (wM cA ad F L A B) → va_S Af s.heap H locs → lv_has ls 1 [] → W p l e rm_X12_isFull_0 s m args below meth c H locs 0 0 Q (F0 m 142 ls []) := by
            intro H locs ls hP hD hS hl
            refine lv_iconst (v := 1) hx hb dX12_isFull_142 (by decide) ?_
            refine lv_goto (tgt := 147) hx hb dX12_isFull_143 (by decide) ?_
            exact hret (1) () H locs 147 ls rfl dX12_isFull_147 hP hD hS ⟨(rg_k (by decide)), (Or.inl (by decide))⟩
          refine lv_if_eq (tgt := 142) hx hb dX12_isFull_127 (by decide) (fun c28 => ?_) (fun c28 => ?_)
          · skip
            have r29 : rg x25 0 0 := rg_eq1 c28 (r26 : rg x25 0 1) ((rg_k (by decide)) : rg 0 0 0) (by decide)
            exact J142  H locs ls  hP hD hS (lv_sub hl [] rfl)
          · skip
            have r30 : rg x25 1 1 := (rg_ne1 c28 (r26 : rg x25 0 1) ((rg_k (by decide)) : rg 0 0 0)).1 rfl
            refine lv_aload_n hx hb dX12_isFull_130 rfl (lv_at hl 0 rfl) ?_
            refine va_get (ci := 12) (v := .ref (ad 13)) (C := RX12) (T := TX12) (N := 57) hx hb hg inX12 hown hK hP 0 atM_0 rfl 21 (by decide) (hg _ mw_1129) (fun _ h9 => h9) rfl dX12_isFull_131 ?_
            refine lv_aload_n hx hb dX12_isFull_134 rfl (lv_at hl 0 rfl) ?_
            refine va_get (ci := 12) (v := .int (F 9)) (C := RX12) (T := TX12) (N := 57) hx hb hg inX12 hown hK hP 0 atM_0 rfl 25 (by decide) (hg _ mw_1133) (fun _ h9 => h9) rfl dX12_isFull_135 ?_
            refine lv_topi (fun x31 e32 => ?_)
            have r33 : rg x31 0 1 := rg_e e32 (hq.1.1 9)
            refine va_zald hx hb hK hP 13 12 atM_13 tyM_13 (in_rg r33 (by decide)) dX12_isFull_138 ?_
            refine lv_topi (fun x34 e35 => ?_)
            have r36 : rg x34 0 1 := rg_e e35 (hq.1.2 13 _)
            refine lv_if_eq (tgt := 146) hx hb dX12_isFull_139 (by decide) (fun c37 => ?_) (fun c37 => ?_)
            · skip
              have r38 : rg x34 0 0 := rg_eq1 c37 (r36 : rg x34 0 1) ((rg_k (by decide)) : rg 0 0 0) (by decide)
              refine lv_iconst (v := 0) hx hb dX12_isFull_146 (by decide) ?_
              exact hret (0) () H locs 147 ls rfl dX12_isFull_147 hP hD hS ⟨(rg_k (by decide)), (Or.inr ⟨fun h => absurd ⟨hK3, h⟩ ((g3).2.resolve_left (fun z => z c4)), fun h => absurd ⟨hK3, h⟩ ((g9).2.resolve_left (fun z => z c10))⟩)⟩
            · skip
              have r39 : rg x34 1 1 := (rg_ne1 c37 (r36 : rg x34 0 1) ((rg_k (by decide)) : rg 0 0 0)).1 rfl
              exact J142  H locs ls  hP hD hS (lv_sub hl [] rfl)
        · skip
          have r24 : rg x19 1 1 := (rg_ne1 c22 (r20 : rg x19 0 1) ((rg_k (by decide)) : rg 0 0 0)).1 rfl
          refine lv_aload_n hx hb dX12_isFull_100 rfl (lv_at hl 0 rfl) ?_
          refine va_get (ci := 12) (v := .ref (ad 6)) (C := RX12) (T := TX12) (N := 57) hx hb hg inX12 hown hK hP 0 atM_0 rfl 14 (by decide) (hg _ mw_1122) (fun _ h9 => h9) rfl dX12_isFull_101 ?_
          refine lv_aload_n hx hb dX12_isFull_104 rfl (lv_at hl 0 rfl) ?_
          refine va_get (ci := 12) (v := .int (F 9)) (C := RX12) (T := TX12) (N := 57) hx hb hg inX12 hown hK hP 0 atM_0 rfl 25 (by decide) (hg _ mw_1133) (fun _ h9 => h9) rfl dX12_isFull_105 ?_
          refine lv_topi (fun x40 e41 => ?_)
          have r42 : rg x40 0 1 := rg_e e41 (hq.1.1 9)
          refine va_iald hx hb hK hP 6 5 atM_6 tyM_6 (in_rg r42 (by decide)) dX12_isFull_108 ?_
          refine lv_topi (fun x43 e44 => ?_)
          refine lv_bipush (v := 20) hx hb dX12_isFull_109 (by decide) ?_
          refine lv_icmp_ne (tgt := 118) hx hb dX12_isFull_111 (by decide) (fun c45 => ?_) (fun c45 => ?_)
          · skip
            refine lv_iconst (v := 0) hx hb dX12_isFull_118 (by decide) ?_
            exact hret (0) () H locs 119 ls rfl dX12_isFull_119 hP hD hS ⟨(rg_k (by decide)), (Or.inr ⟨fun h => absurd ⟨hK3, h⟩ ((g3).2.resolve_left (fun z => z c4)), fun h => absurd ⟨hK3, h⟩ ((g9).2.resolve_left (fun z => z c10))⟩)⟩
          · skip
            have r46 : rg x43 20 20 := rg_eq1 c45 ((rg_top _) : rg x43 (-2147483648) 2147483647) ((rg_k (by decide)) : rg 20 20 20) (by decide)
            refine lv_iconst (v := 1) hx hb dX12_isFull_114 (by decide) ?_
            refine lv_goto (tgt := 119) hx hb dX12_isFull_115 (by decide) ?_
            exact hret (1) () H locs 119 ls rfl dX12_isFull_119 hP hD hS ⟨(rg_k (by decide)), (Or.inl (by decide))⟩
      · skip
        have r18 : rg x13 1 1 := (rg_ne1 c16 (r14 : rg x13 0 1) ((rg_k (by decide)) : rg 0 0 0)).1 rfl
        refine lv_aload_n hx hb dX12_isFull_70 rfl (lv_at hl 0 rfl) ?_
        refine va_get (ci := 12) (v := .ref (ad 5)) (C := RX12) (T := TX12) (N := 57) hx hb hg inX12 hown hK hP 0 atM_0 rfl 13 (by decide) (hg _ mw_1121) (fun _ h9 => h9) rfl dX12_isFull_71 ?_
        refine lv_aload_n hx hb dX12_isFull_74 rfl (lv_at hl 0 rfl) ?_
        refine va_get (ci := 12) (v := .int (F 9)) (C := RX12) (T := TX12) (N := 57) hx hb hg inX12 hown hK hP 0 atM_0 rfl 25 (by decide) (hg _ mw_1133) (fun _ h9 => h9) rfl dX12_isFull_75 ?_
        refine lv_topi (fun x47 e48 => ?_)
        have r49 : rg x47 0 1 := rg_e e48 (hq.1.1 9)
        refine va_iald hx hb hK hP 5 4 atM_5 tyM_5 (in_rg r49 (by decide)) dX12_isFull_78 ?_
        refine lv_topi (fun x50 e51 => ?_)
        refine lv_bipush (v := 60) hx hb dX12_isFull_79 (by decide) ?_
        refine lv_icmp_ne (tgt := 88) hx hb dX12_isFull_81 (by decide) (fun c52 => ?_) (fun c52 => ?_)
        · skip
          refine lv_iconst (v := 0) hx hb dX12_isFull_88 (by decide) ?_
          exact hret (0) () H locs 89 ls rfl dX12_isFull_89 hP hD hS ⟨(rg_k (by decide)), (Or.inr ⟨fun h => absurd ⟨hK3, h⟩ ((g3).2.resolve_left (fun z => z c4)), fun h => absurd ⟨hK3, h⟩ ((g9).2.resolve_left (fun z => z c10))⟩)⟩
        · skip
          have r53 : rg x50 60 60 := rg_eq1 c52 ((rg_top _) : rg x50 (-2147483648) 2147483647) ((rg_k (by decide)) : rg 60 60 60) (by decide)
          refine lv_iconst (v := 1) hx hb dX12_isFull_84 (by decide) ?_
          refine lv_goto (tgt := 89) hx hb dX12_isFull_85 (by decide) ?_
          exact hret (1) () H locs 89 ls rfl dX12_isFull_89 hP hD hS ⟨(rg_k (by decide)), (Or.inl (by decide))⟩
    · skip
      have r12 : rg x7 1 1 := (rg_ne1 c10 (r8 : rg x7 0 1) ((rg_k (by decide)) : rg 0 0 0)).1 rfl
      refine lv_aload_n hx hb dX12_isFull_40 rfl (lv_at hl 0 rfl) ?_
      refine va_get (ci := 12) (v := .ref (ad 4)) (C := RX12) (T := TX12) (N := 57) hx hb hg inX12 hown hK hP 0 atM_0 rfl 12 (by decide) (hg _ mw_1120) (fun _ h9 => h9) rfl dX12_isFull_41 ?_
      refine lv_aload_n hx hb dX12_isFull_44 rfl (lv_at hl 0 rfl) ?_
      refine va_get (ci := 12) (v := .int (F 9)) (C := RX12) (T := TX12) (N := 57) hx hb hg inX12 hown hK hP 0 atM_0 rfl 25 (by decide) (hg _ mw_1133) (fun _ h9 => h9) rfl dX12_isFull_45 ?_
      refine lv_topi (fun x54 e55 => ?_)
      have r56 : rg x54 0 1 := rg_e e55 (hq.1.1 9)
      refine va_iald hx hb hK hP 4 3 atM_4 tyM_4 (in_rg r56 (by decide)) dX12_isFull_48 ?_
      refine lv_topi (fun x57 e58 => ?_)
      have r59 : rg x57 0 10 := rg_e e58 (hq.1.2 4 _)
      refine lv_bipush (v := 10) hx hb dX12_isFull_49 (by decide) ?_
      refine lv_icmp_ne (tgt := 58) hx hb dX12_isFull_51 (by decide) (fun c60 => ?_) (fun c60 => ?_)
      · skip
        have r61 : rg x57 0 9 := (rg_ne1 c60 (r59 : rg x57 0 10) ((rg_k (by decide)) : rg 10 10 10)).2 rfl
        refine lv_iconst (v := 0) hx hb dX12_isFull_58 (by decide) ?_
        exact hret (0) () H locs 59 ls rfl dX12_isFull_59 hP hD hS ⟨(rg_k (by decide)), (Or.inr ⟨fun h => absurd ⟨hK3, h⟩ ((g3).2.resolve_left (fun z => z c4)), fun _ h => c60 (e58.trans (by rw [e55]; exact h))⟩)⟩
      · skip
        have r62 : rg x57 10 10 := rg_eq1 c60 (r59 : rg x57 0 10) ((rg_k (by decide)) : rg 10 10 10) (by decide)
        refine lv_iconst (v := 1) hx hb dX12_isFull_54 (by decide) ?_
        refine lv_goto (tgt := 59) hx hb dX12_isFull_55 (by decide) ?_
        exact hret (1) () H locs 59 ls rfl dX12_isFull_59 hP hD hS ⟨(rg_k (by decide)), (Or.inl (by decide))⟩
  · skip
    have r6 : rg x1 1 1 := (rg_ne1 c4 (r2 : rg x1 0 1) ((rg_k (by decide)) : rg 0 0 0)).1 rfl
    refine lv_aload_n hx hb dX12_isFull_10 rfl (lv_at hl 0 rfl) ?_
    refine va_get (ci := 12) (v := .ref (ad 3)) (C := RX12) (T := TX12) (N := 57) hx hb hg inX12 hown hK hP 0 atM_0 rfl 11 (by decide) (hg _ mw_1119) (fun _ h9 => h9) rfl dX12_isFull_11 ?_
    refine lv_aload_n hx hb dX12_isFull_14 rfl (lv_at hl 0 rfl) ?_
    refine va_get (ci := 12) (v := .int (F 9)) (C := RX12) (T := TX12) (N := 57) hx hb hg inX12 hown hK hP 0 atM_0 rfl 25 (by decide) (hg _ mw_1133) (fun _ h9 => h9) rfl dX12_isFull_15 ?_
    refine lv_topi (fun x63 e64 => ?_)
    have r65 : rg x63 0 1 := rg_e e64 (hq.1.1 9)
    refine va_iald hx hb hK hP 3 2 atM_3 tyM_3 (in_rg r65 (by decide)) dX12_isFull_18 ?_
    refine lv_topi (fun x66 e67 => ?_)
    have r68 : rg x66 0 8 := rg_e e67 (hq.1.2 3 _)
    refine lv_bipush (v := 8) hx hb dX12_isFull_19 (by decide) ?_
    refine lv_icmp_ne (tgt := 28) hx hb dX12_isFull_21 (by decide) (fun c69 => ?_) (fun c69 => ?_)
    · skip
      have r70 : rg x66 0 7 := (rg_ne1 c69 (r68 : rg x66 0 8) ((rg_k (by decide)) : rg 8 8 8)).2 rfl
      refine lv_iconst (v := 0) hx hb dX12_isFull_28 (by decide) ?_
      exact hret (0) () H locs 29 ls rfl dX12_isFull_29 hP hD hS ⟨(rg_k (by decide)), (Or.inr ⟨fun _ h => c69 (e67.trans (by rw [e64]; exact h)), fun h => absurd ((((g3).1.resolve_left c4).2).symm.trans h) (by decide)⟩)⟩
    · skip
      have r71 : rg x66 8 8 := rg_eq1 c69 (r68 : rg x66 0 8) ((rg_k (by decide)) : rg 8 8 8) (by decide)
      refine lv_iconst (v := 1) hx hb dX12_isFull_24 (by decide) ?_
      refine lv_goto (tgt := 29) hx hb dX12_isFull_25 (by decide) ?_
      exact hret (1) () H locs 29 ls rfl dX12_isFull_29 hP hD hS ⟨(rg_k (by decide)), (Or.inl (by decide))⟩
abbrev rm_X12_fails_0 : Room := { frames := 0, cells := 0, slots := 0, locals := 0 }
set_option maxHeartbeats 4000000 in
set_option maxRecDepth 100000 in
theorem c_X12_fails_0 (l : Launch) (D : va_G) (cA : Nat → ClassId) (sz : Nat) (ad : Nat → Nat) (F : Nat → Int32) (L : Nat → Int64) (A : Nat → Nat → Int32) (B : Nat → Nat → Int64) (p1 : Int32) (p2 : Int32) (hT : typM F A) (hp1 : rg p1 1 6) (hp2 : rg p2 0 1700) : Met l yX12_fails (Cond.code yX12_fails cX12_fails 3 none :: GW) rm_X12_fails_0 (mPc D classes (tysM cA) (wM cA ad F L A B) sz [.ref (ad 0), .int p1, .int p2]) (mQv (S := SW) D classes (tysM cA) (wM cA ad F L A B) sz (wfM cA ad) (fun u => qM [2, 3] [] F A u.1 u.2.2.1 ∧ (0 < (u.1 2).toInt))) 0 0 (va_A (wM cA ad F L A B) sz) := by
  refine met_v (own := "ShoeingDayModel") (by decide +kernel) rfl (Nat.le_of_ble_eq_true rfl) ?_
  intro p e s m args below meth c Q Af ls hC hP hD hS hA hl hret
  have hx := hC.1
  have hb := hC.2.1
  have hown := hC.2.2.2.1
  have hg := hC.g
  have hK := hC.K
  have hl : lv_has ls 3 [(0, .ref (ad 0)), (1, .int p1), (2, .int p2)] := hl
  have hq : qM [2, 3] [] F A F A := qM.rf hT
  obtain ⟨H, hH⟩ : ∃ H, H = s.heap := ⟨_, rfl⟩
  have hP : va_P D classes (wM cA ad F L A B) H := by rw [hH]; exact hP
  have hS : va_S Af s.heap H [] := by rw [hH]; exact hS
  obtain ⟨locs, hlo⟩ : ∃ q : List Loc, q = [] := ⟨_, rfl⟩
  rw [← hH, ← hlo]
  rw [← hlo] at hS
  refine lv_aload_n hx hb dX12_fails_0 rfl (lv_at hl 0 rfl) ?_
  refine va_get (ci := 12) (v := .int (F 2)) (C := RX12) (T := TX12) (N := 57) hx hb hg inX12 hown hK hP 0 atM_0 rfl 4 (by decide) (hg _ mw_1112) (fun _ h9 => h9) rfl dX12_fails_1 ?_
  refine lv_topi (fun x1 e2 => ?_)
  refine lv_if_le (tgt := 8) hx hb dX12_fails_4 (by decide) (fun c3 => ?_) (fun c3 => ?_)
  · skip
    have r4 : rg x1 (-2147483648) 0 := rg_le1 (iE c3) ((rg_top _) : rg x1 (-2147483648) 2147483647) ((rg_k (by decide)) : rg 0 0 0)
    refine lv_aload_n hx hb dX12_fails_8 rfl (lv_at hl 0 rfl) ?_
    refine lv_iload_n hx hb dX12_fails_9 rfl (lv_at hl 1 rfl) ?_
    refine va_put (ci := 12) (v := .int p1) (ty := .int) (C := RX12) (T := TX12) (N := 57) hx hb hg inX12 tyX12 tyX12_ok nmX12 hown hK hP hD hS 0 atM_0 rfl 4 (by decide) (hg _ mw_1112) (fun _ h9 => h9) rfl (by decide +kernel) rfl rfl (Nat.le_of_ble_eq_true rfl) dX12_fails_10 (fun H locs hP hD hS => ?_)
    have hq := hq.put 2 (x := p1) (by decide) (rg_top _)
    rw [setFM_2] at hP hD
    refine lv_aload_n hx hb dX12_fails_13 rfl (lv_at hl 0 rfl) ?_
    refine lv_iload_n hx hb dX12_fails_14 rfl (lv_at hl 2 rfl) ?_
    refine va_put (ci := 12) (v := .int p2) (ty := .int) (C := RX12) (T := TX12) (N := 57) hx hb hg inX12 tyX12 tyX12_ok nmX12 hown hK hP hD hS 0 atM_0 rfl 5 (by decide) (hg _ mw_1113) (fun _ h9 => h9) rfl (by decide +kernel) rfl rfl (Nat.le_of_ble_eq_true rfl) dX12_fails_15 (fun H locs hP hD hS => ?_)
    have hq := hq.put 3 (x := p2) (by decide) (rg_top _)
    rw [setFM_3] at hP hD
    exact hret ((upd (upd F 2 p1) 3 p2), L, A, B) H locs 18 ls dX12_fails_18 hP hD hS ⟨hq, (fpos (v := p1) (rfl) (by have := ((hp2 : rg p2 0 1700)).1; have := ((hp2 : rg p2 0 1700)).2; have := ((hp1 : rg p1 1 6)).1; have := ((hp1 : rg p1 1 6)).2; have := (iE c3); omega))⟩
  · skip
    have r5 : rg x1 1 2147483647 := rg_lt2 (iNE c3) ((rg_k (by decide)) : rg 0 0 0) ((rg_top _) : rg x1 (-2147483648) 2147483647)
    exact hret (F, L, A, B) H locs 7 ls dX12_fails_7 hP hD hS ⟨hq, (fpos (v := x1) (e2.symm) (by have := ((r5 : rg x1 1 2147483647)).1; have := ((r5 : rg x1 1 2147483647)).2; have := congrArg Int32.toInt e2; have := ((hp2 : rg p2 0 1700)).1; have := ((hp2 : rg p2 0 1700)).2; have := ((hp1 : rg p1 1 6)).1; have := ((hp1 : rg p1 1 6)).2; have := (iNE c3); omega))⟩
abbrev rm_X12_misplaced_0 : Room := { frames := 1, cells := 0, slots := 0, locals := 22 }
set_option maxHeartbeats 4000000 in
set_option maxRecDepth 100000 in
theorem c_X12_misplaced_0 (l : Launch) (D : va_G) (cA : Nat → ClassId) (sz : Nat) (ad : Nat → Nat) (F : Nat → Int32) (L : Nat → Int64) (A : Nat → Nat → Int32) (B : Nat → Nat → Int64)  (hT : typM F A) : Met l yX12_misplaced (Cond.code yX12_misplaced cX12_misplaced 1 none :: GW) rm_X12_misplaced_0 (mPc D classes (tysM cA) (wM cA ad F L A B) sz [.ref (ad 0)]) (mQv (S := SW) D classes (tysM cA) (wM cA ad F L A B) sz (wfM cA ad) (fun u => qM [2, 3] [] F A u.1 u.2.2.1 ∧ (0 < (u.1 2).toInt))) 0 0 (va_A (wM cA ad F L A B) sz) := by
  refine met_v (own := "ShoeingDayModel") (by decide +kernel) rfl (Nat.le_of_ble_eq_true rfl) ?_
  intro p e s m args below meth c Q Af ls hC hP hD hS hA hl hret
  have hx := hC.1
  have hb := hC.2.1
  have hown := hC.2.2.2.1
  have hg := hC.g
  have hK := hC.K
  have hl : lv_has ls 1 [(0, .ref (ad 0))] := hl
  have hq : qM [2, 3] [] F A F A := qM.rf hT
  obtain ⟨H, hH⟩ : ∃ H, H = s.heap := ⟨_, rfl⟩
  have hP : va_P D classes (wM cA ad F L A B) H := by rw [hH]; exact hP
  have hS : va_S Af s.heap H [] := by rw [hH]; exact hS
  obtain ⟨locs, hlo⟩ : ∃ q : List Loc, q = [] := ⟨_, rfl⟩
  rw [← hH, ← hlo]
  rw [← hlo] at hS
  refine lv_aload_n hx hb dX12_misplaced_0 rfl (lv_at hl 0 rfl) ?_
  refine lv_aload_n hx hb dX12_misplaced_1 rfl (lv_at hl 0 rfl) ?_
  refine va_get (ci := 12) (v := .int (F 6)) (C := RX12) (T := TX12) (N := 57) hx hb hg inX12 hown hK hP 0 atM_0 rfl 8 (by decide) (hg _ mw_1116) (fun _ h9 => h9) rfl dX12_misplaced_2 ?_
  refine lv_topi (fun x1 e2 => ?_)
  have r3 : rg x1 0 5 := rg_e e2 (hq.1.1 6)
  refine lv_iconst (v := 1) hx hb dX12_misplaced_5 (by decide) ?_
  have J14 : ∀ (a4 : Int32) (F6 : Nat → Int32) (L6 : Nat → Int64) (A6 : Nat → Nat → Int32) (B6 : Nat → Nat → Int64) (H : Heap) (locs : List Loc) (ls : Array Slot), rg a4 1 2 → qM [2, 3] [] F A F6 A6 → va_P D classes (wM cA ad F6 L6 A6 B6) H → va_D Af (wM cA ad F6 L6 A6 B6) → va_S Af s.heap H locs → lv_has ls 1 [(0, .ref (ad 0))] → W p l e rm_X12_misplaced_0 s m args below meth c H locs 0 0 Q (F0 m 14 ls [.int a4, .ref (ad 0)]) := by
    intro a4 F6 L6 A6 B6 H locs ls r5 hq hP hD hS hl
    refine lv_aload_n hx hb dX12_misplaced_14 rfl (lv_at hl 0 rfl) ?_
    refine va_get (ci := 12) (v := .int (F6 4)) (C := RX12) (T := TX12) (N := 57) hx hb hg inX12 hown hK hP 0 atM_0 rfl 6 (by decide) (hg _ mw_1114) (fun _ h9 => h9) rfl dX12_misplaced_15 ?_
    refine lv_topi (fun x7 e8 => ?_)
    have r9 : rg x7 0 1700 := rg_e e8 (hq.1.1 4)
    refine callv_v (As := [.int a4, .int x7]) (rest := []) hC (c_X12_fails_0 l D cA H.size ad F6 L6 A6 B6 (a4) (x7) hq.1 (rg_w r5 (by decide)) r9) (cwV 2 hg (g_V mw_1332 mw_1329 mw_1331 ms_55 mw_20) rfl rfl rfl (by decide +kernel) ⟨(Nat.le_of_ble_eq_true rfl), (Nat.le_of_ble_eq_true rfl)⟩) hP hD hS hA atM_0 rfl rfl hl.1 rfl (Nat.le_of_ble_eq_true rfl) dX12_misplaced_18 ⟨Nat.zero_le _, Nat.zero_le _⟩ (fun  u H locs hw hP hD hS => ?_)
    obtain ⟨F10, L10, A10, B10⟩ := u
    try dsimp only at hw
    obtain ⟨hq10, g11⟩ := hw
    have hq := hq.call hq10 (by decide)
    have hP : va_P D classes (wM cA ad F10 L10 A10 B10) H := hP
    have hD : va_D Af (wM cA ad F10 L10 A10 B10) := hD
    exact hret (F10, L10, A10, B10) H locs 21 ls dX12_misplaced_21 hP hD hS ⟨hq, g11⟩
  refine lv_icmp_ne (tgt := 13) hx hb dX12_misplaced_6 (by decide) (fun c12 => ?_) (fun c12 => ?_)
  · skip
    refine lv_iconst (v := 2) hx hb dX12_misplaced_13 (by decide) ?_
    exact J14 (2) (F) (L) (A) (B) H locs ls (rg_k (by decide)) hq hP hD hS (lv_sub hl [0] rfl)
  · skip
    have r13 : rg x1 1 1 := rg_eq1 c12 (r3 : rg x1 0 5) ((rg_k (by decide)) : rg 1 1 1) (by decide)
    refine lv_iconst (v := 1) hx hb dX12_misplaced_9 (by decide) ?_
    refine lv_goto (tgt := 14) hx hb dX12_misplaced_10 (by decide) ?_
    exact J14 (1) (F) (L) (A) (B) H locs ls (rg_k (by decide)) hq hP hD hS (lv_sub hl [0] rfl)
