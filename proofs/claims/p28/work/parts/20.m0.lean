abbrev rm_X12_feed_0 : Room := { frames := 0, cells := 0, slots := 0, locals := 0 }
set_option maxHeartbeats 4000000 in
set_option maxRecDepth 100000 in
theorem c_X12_feed_0 (l : Launch) (D : va_G) (cA : Nat → ClassId) (sz : Nat) (ad : Nat → Nat) (F : Nat → Int32) (L : Nat → Int64) (A : Nat → Nat → Int32) (B : Nat → Nat → Int64) (p1 : Int32) (p2 : Int32) (p3 : Int32) (p4 : Int32) (p5 : Int32) (hT : typM F A) : Met l yX12_feed (Cond.code yX12_feed cX12_feed 8 (some .int) :: GW) rm_X12_feed_0 (mPc D classes (tysM cA) (wM cA ad F L A B) sz [.ref (ad 0), .int p1, .int p2, .int p3, .int p4, .int p5]) (mQi (S := SW) D classes (tysM cA) (wM cA ad F L A B) sz (wfM cA ad) (fun r u => qM [0] [1] F A u.1 u.2.2.1 ∧ rg r (-1) 1700)) 0 0 (va_A (wM cA ad F L A B) sz) := by
  refine met_i (own := "ShoeingDayModel") (by decide +kernel) rfl (Nat.le_of_ble_eq_true rfl) ?_
  intro p e s m args below meth c Q Af ls hC hP hD hS hA hl hret
  have hx := hC.1
  have hb := hC.2.1
  have hown := hC.2.2.2.1
  have hg := hC.g
  have hK := hC.K
  have hl : lv_has ls 8 [(0, .ref (ad 0)), (1, .int p1), (2, .int p2), (3, .int p3), (4, .int p4), (5, .int p5)] := hl
  have hq : qM [0] [1] F A F A := qM.rf hT
  obtain ⟨H, hH⟩ : ∃ H, H = s.heap := ⟨_, rfl⟩
  have hP : va_P D classes (wM cA ad F L A B) H := by rw [hH]; exact hP
  have hS : va_S Af s.heap H [] := by rw [hH]; exact hS
  obtain ⟨locs, hlo⟩ : ∃ q : List Loc, q = [] := ⟨_, rfl⟩
  rw [← hH, ← hlo]
  rw [← hlo] at hS
  refine lv_aload_n hx hb dX12_feed_0 rfl (lv_at hl 0 rfl) ?_
  refine va_get (ci := 12) (v := .int (F 0)) (C := RX12) (T := TX12) (N := 57) hx hb hg inX12 hown hK hP 0 atM_0 rfl 2 (by decide) (hg _ mw_1110) (fun _ h9 => h9) rfl dX12_feed_1 ?_
  refine lv_topi (fun x1 e2 => ?_)
  have r3 : rg x1 0 1700 := rg_e e2 (hq.1.1 0)
  refine lv_bipush (v := 20) hx hb dX12_feed_4 (by decide) ?_
  refine lv_iadd hx hb dX12_feed_6 ?_
  refine lv_topi (fun x4 e5 => ?_)
  have r6 : rg x4 20 1720 := rg_add e5 r3 ((rg_k (by decide)) : rg 20 20 20) (by decide)
  refine lv_sipush (v := 1700) hx hb dX12_feed_7 (by decide) ?_
  refine lv_icmp_le (tgt := 15) hx hb dX12_feed_10 (by decide) (fun c7 => ?_) (fun c7 => ?_)
  · skip
    have r8 : rg x4 20 1700 := rg_le1 (iE c7) (r6 : rg x4 20 1720) ((rg_k (by decide)) : rg 1700 1700 1700)
    refine lv_iconst (v := 0) hx hb dX12_feed_15 (by decide) ?_
    refine lv_istore (lv' := [(6, .int 0), (0, .ref (ad 0)), (1, .int p1), (2, .int p2), (3, .int p3), (4, .int p4), (5, .int p5)]) hx hb dX12_feed_16 hl (by decide) rfl (fun ls hl => ?_)
    have J18 : ∀ (n18 : Nat) (a10 : Int32) (F12 : Nat → Int32) (L12 : Nat → Int64) (A12 : Nat → Nat → Int32) (B12 : Nat → Nat → Int64) (H : Heap) (locs : List Loc) (ls : Array Slot), (20 - a10.toInt).toNat < n18 → rg a10 0 20 → qM [0] [1] F A F12 A12 → F12 0 = x1 → va_P D classes (wM cA ad F12 L12 A12 B12) H → va_D Af (wM cA ad F12 L12 A12 B12) → va_S Af s.heap H locs → lv_has ls 8 [(0, .ref (ad 0)), (1, .int p1), (2, .int p2), (3, .int p3), (4, .int p4), (5, .int p5), (6, .int a10)] → W p l e rm_X12_feed_0 s m args below meth c H locs 0 0 Q (F0 m 18 ls []) := by
      intro n18
      induction n18 with
      | zero =>
        intro _ _ _ _ _ _ _ _ hn
        exact absurd hn (Nat.not_lt_zero _)
      | succ n18 ih18 =>
        intro a10 F12 L12 A12 B12 H locs ls hn18 r11 hq f13 hP hD hS hl
        refine lv_iload hx hb dX12_feed_18 (lv_at hl 6 rfl) ?_
        refine lv_bipush (v := 20) hx hb dX12_feed_20 (by decide) ?_
        refine lv_icmp_ge (tgt := 105) hx hb dX12_feed_22 (by decide) (fun c14 => ?_) (fun c14 => ?_)
        · skip
          have r15 : rg a10 20 20 := rg_le2 (iE c14) ((rg_k (by decide)) : rg 20 20 20) (r11 : rg a10 0 20)
          refine lv_aload_n hx hb dX12_feed_105 rfl (lv_at hl 0 rfl) ?_
          refine lv_dup hx hb dX12_feed_106 rfl ?_
          refine va_get (ci := 12) (v := .int x1) (C := RX12) (T := TX12) (N := 57) hx hb hg inX12 hown hK hP 0 atM_0 rfl 2 (by decide) (hg _ mw_1110) (fun _ h9 => h9) (congrArg (fun z => some (Value.int z)) (f13)) dX12_feed_107 ?_
          refine lv_bipush (v := 20) hx hb dX12_feed_110 (by decide) ?_
          refine lv_iadd hx hb dX12_feed_112 ?_
          refine tope e5 ?_
          refine va_put (ci := 12) (v := .int x4) (ty := .int) (C := RX12) (T := TX12) (N := 57) hx hb hg inX12 tyX12 tyX12_ok nmX12 hown hK hP hD hS 0 atM_0 rfl 2 (by decide) (hg _ mw_1110) (fun _ h9 => h9) rfl (by decide +kernel) rfl rfl (Nat.le_of_ble_eq_true rfl) dX12_feed_113 (fun H locs hP hD hS => ?_)
          have hq := hq.put 0 (x := x4) (by decide) (rg_w r8 (by decide))
          rw [setFM_0] at hP hD
          refine lv_aload_n hx hb dX12_feed_116 rfl (lv_at hl 0 rfl) ?_
          refine va_get (ci := 12) (v := .int x4) (C := RX12) (T := TX12) (N := 57) hx hb hg inX12 hown hK hP 0 atM_0 rfl 2 (by decide) (hg _ mw_1110) (fun _ h9 => h9) (congrArg (fun z => some (Value.int z)) (rfl)) dX12_feed_117 ?_
          exact hret (x4) ((upd F12 0 x4), L12, A12, B12) H locs 120 ls rfl dX12_feed_120 hP hD hS ⟨hq, (rg_w r8 (by decide))⟩
        · skip
          have r16 : rg a10 0 19 := rg_lt1 (iNE c14) (r11 : rg a10 0 20) ((rg_k (by decide)) : rg 20 20 20)
          refine lv_iload hx hb dX12_feed_25 (lv_at hl 6 rfl) ?_
          refine lv_iconst (v := 4) hx hb dX12_feed_27 (by decide) ?_
          have J71 : ∀ (a17 : Int32) (F18 : Nat → Int32) (L18 : Nat → Int64) (A18 : Nat → Nat → Int32) (B18 : Nat → Nat → Int64) (H : Heap) (locs : List Loc) (ls : Array Slot), qM [0] [1] F A F18 A18 → F18 0 = x1 → va_P D classes (wM cA ad F18 L18 A18 B18) H → va_D Af (wM cA ad F18 L18 A18 B18) → va_S Af s.heap H locs → lv_has ls 8 [(0, .ref (ad 0)), (1, .int p1), (2, .int p2), (3, .int p3), (4, .int p4), (5, .int p5), (6, .int a10)] → W p l e rm_X12_feed_0 s m args below meth c H locs 0 0 Q (F0 m 71 ls [.int a17]) := by
            intro a17 F18 L18 A18 B18 H locs ls hq f19 hP hD hS hl
            refine lv_istore (lv' := [(7, .int a17), (0, .ref (ad 0)), (1, .int p1), (2, .int p2), (3, .int p3), (4, .int p4), (5, .int p5), (6, .int a10)]) hx hb dX12_feed_71 hl (by decide) rfl (fun ls hl => ?_)
            refine lv_aload_n hx hb dX12_feed_73 rfl (lv_at hl 1 rfl) ?_
            refine va_get (ci := 12) (v := .ref (ad 1)) (C := RX12) (T := TX12) (N := 57) hx hb hg inX12 hown hK hP 0 atM_0 rfl 0 (by decide) (hg _ mw_1108) (fun _ h9 => h9) rfl dX12_feed_74 ?_
            refine lv_aload_n hx hb dX12_feed_77 rfl (lv_at hl 1 rfl) ?_
            refine va_get (ci := 12) (v := .int x1) (C := RX12) (T := TX12) (N := 57) hx hb hg inX12 hown hK hP 0 atM_0 rfl 2 (by decide) (hg _ mw_1110) (fun _ h9 => h9) (congrArg (fun z => some (Value.int z)) (f19)) dX12_feed_78 ?_
            refine lv_iload hx hb dX12_feed_81 (lv_at hl 7 rfl) ?_
            refine lv_iadd hx hb dX12_feed_83 ?_
            refine lv_topi (fun x20 e21 => ?_)
            have r22 : rg x20 0 1719 := rg_add e21 r3 r16 (by decide)
            refine lv_iload hx hb dX12_feed_84 (lv_at hl 0 rfl) ?_
            refine lv_bipush (v := 24) hx hb dX12_feed_86 (by decide) ?_
            refine lv_bipush (v := 8) hx hb dX12_feed_88 (by decide) ?_
            refine lv_iload hx hb dX12_feed_90 (lv_at hl 7 rfl) ?_
            refine lv_iconst (v := 3) hx hb dX12_feed_92 (by decide) ?_
            refine lv_iand hx hb dX12_feed_93 ?_
            refine lv_topi (fun x23 e24 => ?_)
            have r25 : rg x23 0 3 := rg_andr e24 ((rg_k (by decide)) : rg 3 3 3) (by decide)
            refine lv_imul hx hb dX12_feed_94 ?_
            refine lv_topi (fun x26 e27 => ?_)
            have r28 : rg x26 0 24 := rg_mul e27 ((rg_k (by decide)) : rg 8 8 8) r25 (by decide)
            refine lv_isub hx hb dX12_feed_95 ?_
            refine lv_topi (fun x29 e30 => ?_)
            have r31 : rg x29 0 24 := rg_sub e30 ((rg_k (by decide)) : rg 24 24 24) r28 (by decide)
            refine lv_ishr hx hb dX12_feed_96 ?_
            refine lv_topi (fun x32 e33 => ?_)
            refine lv_i2b hx hb dX12_feed_97 rfl ?_
            refine lv_topi (fun x34 e35 => ?_)
            refine va_bast hx hb hK hP hD hS 1 0 atM_1 tyM_1 (in_rg r22 (by decide)) dX12_feed_98 (fun H locs hP hD hS => ?_)
            have hq := hq.ast 1 (x20).toNatClampNeg (x := (vp_nar .byte x34)) (by decide) (rg_top _)
            rw [setM_1] at hP hD
            obtain ⟨x36, e37⟩ : ∃ y : Int32, y = a10 + 1 := ⟨_, rfl⟩
            have r38 : rg x36 1 20 := rg_add e37 r16 (rg_k (by decide) : rg 1 1 1) (by decide)
            refine lv_iinc (v := x36) (lv' := [(6, .int x36), (7, .int a17), (0, .ref (ad 0)), (1, .int p1), (2, .int p2), (3, .int p3), (4, .int p4), (5, .int p5)]) hx hb dX12_feed_99 hl (k := 7) rfl (by rw [e37]; rfl) (by decide) rfl (fun ls hl => ?_)
            refine lv_goto (tgt := 18) hx hb dX12_feed_102 (by decide) ?_
            exact ih18 (x36) (F18) (L18) ((va_up A18 1 (upd (A18 1) (x20).toNatClampNeg (vp_nar .byte x34)))) (B18) H locs ls (by have h0 : (1 : Int32).toInt = 1 := rfl; have h1 := ti_addk e37 r16 (by decide); have h2 : rg x36 0 20 := (rg_w r38 (by decide)); unfold rg at h2; omega) (rg_w r38 (by decide)) hq (f19) hP hD hS (lv_sub hl [2, 3, 4, 5, 6, 7, 0] rfl)
          refine lv_icmp_ge (tgt := 35) hx hb dX12_feed_28 (by decide) (fun c39 => ?_) (fun c39 => ?_)
          · skip
            have r40 : rg a10 4 19 := rg_le2 (iE c39) ((rg_k (by decide)) : rg 4 4 4) (r16 : rg a10 0 19)
            refine lv_iload hx hb dX12_feed_35 (lv_at hl 6 rfl) ?_
            refine lv_bipush (v := 8) hx hb dX12_feed_37 (by decide) ?_
            refine lv_icmp_ge (tgt := 46) hx hb dX12_feed_39 (by decide) (fun c42 => ?_) (fun c42 => ?_)
            · skip
              have r43 : rg a10 8 19 := rg_le2 (iE c42) ((rg_k (by decide)) : rg 8 8 8) (r40 : rg a10 4 19)
              refine lv_iload hx hb dX12_feed_46 (lv_at hl 6 rfl) ?_
              refine lv_bipush (v := 12) hx hb dX12_feed_48 (by decide) ?_
              refine lv_icmp_ge (tgt := 57) hx hb dX12_feed_50 (by decide) (fun c45 => ?_) (fun c45 => ?_)
              · skip
                have r46 : rg a10 12 19 := rg_le2 (iE c45) ((rg_k (by decide)) : rg 12 12 12) (r43 : rg a10 8 19)
                refine lv_iload hx hb dX12_feed_57 (lv_at hl 6 rfl) ?_
                refine lv_bipush (v := 16) hx hb dX12_feed_59 (by decide) ?_
                refine lv_icmp_ge (tgt := 69) hx hb dX12_feed_61 (by decide) (fun c48 => ?_) (fun c48 => ?_)
                · skip
                  have r49 : rg a10 16 19 := rg_le2 (iE c48) ((rg_k (by decide)) : rg 16 16 16) (r46 : rg a10 12 19)
                  refine lv_iload hx hb dX12_feed_69 (lv_at hl 5 rfl) ?_
                  exact J71 (p5) (F12) (L12) (A12) (B12) H locs ls hq (f13) hP hD hS (lv_sub hl [0, 1, 2, 3, 4, 5, 6] rfl)
                · skip
                  have r50 : rg a10 12 15 := rg_lt1 (iNE c48) (r46 : rg a10 12 19) ((rg_k (by decide)) : rg 16 16 16)
                  refine lv_iload hx hb dX12_feed_64 (lv_at hl 4 rfl) ?_
                  refine lv_goto (tgt := 71) hx hb dX12_feed_66 (by decide) ?_
                  exact J71 (p4) (F12) (L12) (A12) (B12) H locs ls hq (f13) hP hD hS (lv_sub hl [0, 1, 2, 3, 4, 5, 6] rfl)
              · skip
                have r47 : rg a10 8 11 := rg_lt1 (iNE c45) (r43 : rg a10 8 19) ((rg_k (by decide)) : rg 12 12 12)
                refine lv_iload_n hx hb dX12_feed_53 rfl (lv_at hl 3 rfl) ?_
                refine lv_goto (tgt := 71) hx hb dX12_feed_54 (by decide) ?_
                exact J71 (p3) (F12) (L12) (A12) (B12) H locs ls hq (f13) hP hD hS (lv_sub hl [0, 1, 2, 3, 4, 5, 6] rfl)
            · skip
              have r44 : rg a10 4 7 := rg_lt1 (iNE c42) (r40 : rg a10 4 19) ((rg_k (by decide)) : rg 8 8 8)
              refine lv_iload_n hx hb dX12_feed_42 rfl (lv_at hl 2 rfl) ?_
              refine lv_goto (tgt := 71) hx hb dX12_feed_43 (by decide) ?_
              exact J71 (p2) (F12) (L12) (A12) (B12) H locs ls hq (f13) hP hD hS (lv_sub hl [0, 1, 2, 3, 4, 5, 6] rfl)
          · skip
            have r41 : rg a10 0 3 := rg_lt1 (iNE c39) (r16 : rg a10 0 19) ((rg_k (by decide)) : rg 4 4 4)
            refine lv_iload_n hx hb dX12_feed_31 rfl (lv_at hl 1 rfl) ?_
            refine lv_goto (tgt := 71) hx hb dX12_feed_32 (by decide) ?_
            exact J71 (p1) (F12) (L12) (A12) (B12) H locs ls hq (f13) hP hD hS (lv_sub hl [0, 1, 2, 3, 4, 5, 6] rfl)
    exact J18 _ (0) (F) (L) (A) (B) H locs ls (Nat.lt_succ_self _) (rg_k (by decide)) hq (e2.symm) hP hD hS (lv_sub hl [1, 2, 3, 4, 5, 6, 0] rfl)
  · skip
    have r9 : rg x4 1701 1720 := rg_lt2 (iNE c7) ((rg_k (by decide)) : rg 1700 1700 1700) (r6 : rg x4 20 1720)
    refine lv_iconst (v := (-1)) hx hb dX12_feed_13 (by decide) ?_
    exact hret ((-1)) (F, L, A, B) H locs 14 ls rfl dX12_feed_14 hP hD hS ⟨hq, (rg_k (by decide))⟩
abbrev rm_X12_end_0 : Room := { frames := 0, cells := 0, slots := 0, locals := 0 }
set_option maxHeartbeats 4000000 in
set_option maxRecDepth 100000 in
theorem c_X12_end_0 (l : Launch) (D : va_G) (cA : Nat → ClassId) (sz : Nat) (ad : Nat → Nat) (F : Nat → Int32) (L : Nat → Int64) (A : Nat → Nat → Int32) (B : Nat → Nat → Int64) (p1 : Int32) (hT : typM F A) : Met l yX12_end (Cond.code yX12_end cX12_end 2 (some .int) :: GW) rm_X12_end_0 (mPc D classes (tysM cA) (wM cA ad F L A B) sz [.ref (ad 0), .int p1]) (mQi (S := SW) D classes (tysM cA) (wM cA ad F L A B) sz (wfM cA ad) (fun r u => qM [0] [] F A u.1 u.2.2.1 ∧ rg r (-1) 1700)) 0 0 (va_A (wM cA ad F L A B) sz) := by
  refine met_i (own := "ShoeingDayModel") (by decide +kernel) rfl (Nat.le_of_ble_eq_true rfl) ?_
  intro p e s m args below meth c Q Af ls hC hP hD hS hA hl hret
  have hx := hC.1
  have hb := hC.2.1
  have hown := hC.2.2.2.1
  have hg := hC.g
  have hK := hC.K
  have hl : lv_has ls 2 [(0, .ref (ad 0)), (1, .int p1)] := hl
  have hq : qM [0] [] F A F A := qM.rf hT
  obtain ⟨H, hH⟩ : ∃ H, H = s.heap := ⟨_, rfl⟩
  have hP : va_P D classes (wM cA ad F L A B) H := by rw [hH]; exact hP
  have hS : va_S Af s.heap H [] := by rw [hH]; exact hS
  obtain ⟨locs, hlo⟩ : ∃ q : List Loc, q = [] := ⟨_, rfl⟩
  rw [← hH, ← hlo]
  rw [← hlo] at hS
  refine lv_iload_n hx hb dX12_end_0 rfl (lv_at hl 1 rfl) ?_
  have J12 : ∀ (F1 : Nat → Int32) (L1 : Nat → Int64) (A1 : Nat → Nat → Int32) (B1 : Nat → Nat → Int64) (H : Heap) (locs : List Loc) (ls : Array Slot), qM [0] [] F A F1 A1 → va_P D classes (wM cA ad F1 L1 A1 B1) H → va_D Af (wM cA ad F1 L1 A1 B1) → va_S Af s.heap H locs → lv_has ls 2 [] → W p l e rm_X12_end_0 s m args below meth c H locs 0 0 Q (F0 m 12 ls []) := by
    intro F1 L1 A1 B1 H locs ls hq hP hD hS hl
    refine lv_iconst (v := (-1)) hx hb dX12_end_12 (by decide) ?_
    exact hret ((-1)) (F1, L1, A1, B1) H locs 13 ls rfl dX12_end_13 hP hD hS ⟨hq, (rg_k (by decide))⟩
  refine lv_if_lt (tgt := 12) hx hb dX12_end_1 (by decide) (fun c2 => ?_) (fun c2 => ?_)
  · skip
    have r3 : rg p1 (-2147483648) (-1) := rg_lt1 (iL c2) ((rg_top _) : rg p1 (-2147483648) 2147483647) ((rg_k (by decide)) : rg 0 0 0)
    exact J12 (F) (L) (A) (B) H locs ls hq hP hD hS (lv_sub hl [] rfl)
  · skip
    have r4 : rg p1 0 2147483647 := rg_le2 (iNL c2) ((rg_k (by decide)) : rg 0 0 0) ((rg_top _) : rg p1 (-2147483648) 2147483647)
    refine lv_iload_n hx hb dX12_end_4 rfl (lv_at hl 1 rfl) ?_
    refine lv_aload_n hx hb dX12_end_5 rfl (lv_at hl 0 rfl) ?_
    refine va_get (ci := 12) (v := .int (F 0)) (C := RX12) (T := TX12) (N := 57) hx hb hg inX12 hown hK hP 0 atM_0 rfl 2 (by decide) (hg _ mw_1110) (fun _ h9 => h9) rfl dX12_end_6 ?_
    refine lv_topi (fun x5 e6 => ?_)
    have r7 : rg x5 0 1700 := rg_e e6 (hq.1.1 0)
    refine lv_icmp_le (tgt := 14) hx hb dX12_end_9 (by decide) (fun c8 => ?_) (fun c8 => ?_)
    · skip
      have r9 : rg p1 0 1700 := rg_le1 (iE c8) (r4 : rg p1 0 2147483647) (r7 : rg x5 0 1700)
      refine lv_aload_n hx hb dX12_end_14 rfl (lv_at hl 0 rfl) ?_
      refine lv_iload_n hx hb dX12_end_15 rfl (lv_at hl 1 rfl) ?_
      refine va_put (ci := 12) (v := .int p1) (ty := .int) (C := RX12) (T := TX12) (N := 57) hx hb hg inX12 tyX12 tyX12_ok nmX12 hown hK hP hD hS 0 atM_0 rfl 2 (by decide) (hg _ mw_1110) (fun _ h9 => h9) rfl (by decide +kernel) rfl rfl (Nat.le_of_ble_eq_true rfl) dX12_end_16 (fun H locs hP hD hS => ?_)
      have hq := hq.put 0 (x := p1) (by decide) r9
      rw [setFM_0] at hP hD
      refine lv_iload_n hx hb dX12_end_19 rfl (lv_at hl 1 rfl) ?_
      exact hret (p1) ((upd F 0 p1), L, A, B) H locs 20 ls rfl dX12_end_20 hP hD hS ⟨hq, (rg_w r9 (by decide))⟩
    · skip
      have r10 : rg p1 1 2147483647 := rg_lt2 (iNE c8) (r7 : rg x5 0 1700) (r4 : rg p1 0 2147483647)
      exact J12 (F) (L) (A) (B) H locs ls hq hP hD hS (lv_sub hl [] rfl)
abbrev rm_X12_begin_0 : Room := { frames := 0, cells := 0, slots := 0, locals := 0 }
set_option maxHeartbeats 4000000 in
set_option maxRecDepth 100000 in
theorem c_X12_begin_0 (l : Launch) (D : va_G) (cA : Nat → ClassId) (sz : Nat) (ad : Nat → Nat) (F : Nat → Int32) (L : Nat → Int64) (A : Nat → Nat → Int32) (B : Nat → Nat → Int64)  (hT : typM F A) (hI : xM F) : Met l yX12_begin (Cond.code yX12_begin cX12_begin 2 none :: GW) rm_X12_begin_0 (mPc D classes (tysM cA) (wM cA ad F L A B) sz [.ref (ad 0)]) (mQv (S := SW) D classes (tysM cA) (wM cA ad F L A B) sz (wfM cA ad) (fun u => qM [10, 14, 15] [17] F A u.1 u.2.2.1 ∧ xM u.1)) 0 0 (va_A (wM cA ad F L A B) sz) := by
  refine met_v (own := "ShoeingDayModel") (by decide +kernel) rfl (Nat.le_of_ble_eq_true rfl) ?_
  intro p e s m args below meth c Q Af ls hC hP hD hS hA hl hret
  have hx := hC.1
  have hb := hC.2.1
  have hown := hC.2.2.2.1
  have hg := hC.g
  have hK := hC.K
  have hl : lv_has ls 2 [(0, .ref (ad 0))] := hl
  have hq : qM [10, 14, 15] [17] F A F A := qM.rf hT
  obtain ⟨H, hH⟩ : ∃ H, H = s.heap := ⟨_, rfl⟩
  have hP : va_P D classes (wM cA ad F L A B) H := by rw [hH]; exact hP
  have hS : va_S Af s.heap H [] := by rw [hH]; exact hS
  obtain ⟨locs, hlo⟩ : ∃ q : List Loc, q = [] := ⟨_, rfl⟩
  rw [← hH, ← hlo]
  rw [← hlo] at hS
  refine lv_iconst (v := 0) hx hb dX12_begin_0 (by decide) ?_
  refine lv_istore_n (lv' := [(1, .int 0), (0, .ref (ad 0))]) hx hb dX12_begin_1 rfl hl (by decide) rfl (fun ls hl => ?_)
  have J2 : ∀ (n2 : Nat) (a1 : Int32) (F3 : Nat → Int32) (L3 : Nat → Int64) (A3 : Nat → Nat → Int32) (B3 : Nat → Nat → Int64) (H : Heap) (locs : List Loc) (ls : Array Slot), (80 - a1.toInt).toNat < n2 → rg a1 0 80 → qM [10, 14, 15] [17] F A F3 A3 → xM F3 → va_P D classes (wM cA ad F3 L3 A3 B3) H → va_D Af (wM cA ad F3 L3 A3 B3) → va_S Af s.heap H locs → lv_has ls 2 [(0, .ref (ad 0)), (1, .int a1)] → W p l e rm_X12_begin_0 s m args below meth c H locs 0 0 Q (F0 m 2 ls []) := by
    intro n2
    induction n2 with
    | zero =>
      intro _ _ _ _ _ _ _ _ hn
      exact absurd hn (Nat.not_lt_zero _)
    | succ n2 ih2 =>
      intro a1 F3 L3 A3 B3 H locs ls hn2 r2 hq i4 hP hD hS hl
      refine lv_iload_n hx hb dX12_begin_2 rfl (lv_at hl 1 rfl) ?_
      refine lv_bipush (v := 80) hx hb dX12_begin_3 (by decide) ?_
      refine lv_icmp_ge (tgt := 34) hx hb dX12_begin_5 (by decide) (fun c5 => ?_) (fun c5 => ?_)
      · skip
        have r6 : rg a1 80 80 := rg_le2 (iE c5) ((rg_k (by decide)) : rg 80 80 80) (r2 : rg a1 0 80)
        refine lv_aload_n hx hb dX12_begin_34 rfl (lv_at hl 0 rfl) ?_
        refine lv_iconst (v := 0) hx hb dX12_begin_35 (by decide) ?_
        refine va_put (ci := 12) (v := .int 0) (ty := .int) (C := RX12) (T := TX12) (N := 57) hx hb hg inX12 tyX12 tyX12_ok nmX12 hown hK hP hD hS 0 atM_0 rfl 28 (by decide) (hg _ mw_1136) (fun _ h9 => h9) rfl (by decide +kernel) rfl rfl (Nat.le_of_ble_eq_true rfl) dX12_begin_36 (fun H locs hP hD hS => ?_)
        have hq := hq.put 10 (x := 0) (by decide) (rg_k (by decide))
        rw [setFM_10] at hP hD
        refine lv_aload_n hx hb dX12_begin_39 rfl (lv_at hl 0 rfl) ?_
        refine lv_iconst (v := 0) hx hb dX12_begin_40 (by decide) ?_
        refine va_put (ci := 12) (v := .int 0) (ty := .int) (C := RX12) (T := TX12) (N := 57) hx hb hg inX12 tyX12 tyX12_ok nmX12 hown hK hP hD hS 0 atM_0 rfl 42 (by decide) (hg _ mw_1150) (fun _ h9 => h9) rfl (by decide +kernel) rfl rfl (Nat.le_of_ble_eq_true rfl) dX12_begin_41 (fun H locs hP hD hS => ?_)
        have hq := hq.put 14 (x := 0) (by decide) (rg_k (by decide))
        rw [setFM_14] at hP hD
        refine lv_aload_n hx hb dX12_begin_44 rfl (lv_at hl 0 rfl) ?_
        refine lv_iconst (v := 0) hx hb dX12_begin_45 (by decide) ?_
        refine va_put (ci := 12) (v := .int 0) (ty := .int) (C := RX12) (T := TX12) (N := 57) hx hb hg inX12 tyX12 tyX12_ok nmX12 hown hK hP hD hS 0 atM_0 rfl 43 (by decide) (hg _ mw_1151) (fun _ h9 => h9) rfl (by decide +kernel) rfl rfl (Nat.le_of_ble_eq_true rfl) dX12_begin_46 (fun H locs hP hD hS => ?_)
        have hq := hq.put 15 (x := 0) (by decide) (rg_k (by decide))
        rw [setFM_15] at hP hD
        exact hret ((upd (upd (upd F3 10 (0 : Int32)) 14 (0 : Int32)) 15 (0 : Int32)), L3, A3, B3) H locs 49 ls dX12_begin_49 hP hD hS ⟨hq, (xM.of (a := (0 : Int32)) (b := (0 : Int32)) (rfl) (rfl) (by have h1 := ((rg_k (by decide)) : rg (0 : Int32) 0 0); have h2 := ((rg_k (by decide)) : rg (0 : Int32) 0 0); unfold rg at h1 h2; omega))⟩
      · skip
        have r7 : rg a1 0 79 := rg_lt1 (iNE c5) (r2 : rg a1 0 80) ((rg_k (by decide)) : rg 80 80 80)
        refine lv_aload_n hx hb dX12_begin_8 rfl (lv_at hl 0 rfl) ?_
        refine va_get (ci := 12) (v := .ref (ad 17)) (C := RX12) (T := TX12) (N := 57) hx hb hg inX12 hown hK hP 0 atM_0 rfl 27 (by decide) (hg _ mw_1135) (fun _ h9 => h9) rfl dX12_begin_9 ?_
        refine lv_iload_n hx hb dX12_begin_12 rfl (lv_at hl 1 rfl) ?_
        refine lv_aload_n hx hb dX12_begin_13 rfl (lv_at hl 0 rfl) ?_
        refine va_get (ci := 12) (v := .ref (ad 10)) (C := RX12) (T := TX12) (N := 57) hx hb hg inX12 hown hK hP 0 atM_0 rfl 18 (by decide) (hg _ mw_1126) (fun _ h9 => h9) rfl dX12_begin_14 ?_
        refine lv_bipush (v := 80) hx hb dX12_begin_17 (by decide) ?_
        refine lv_aload_n hx hb dX12_begin_19 rfl (lv_at hl 0 rfl) ?_
        refine va_get (ci := 12) (v := .int (F3 8)) (C := RX12) (T := TX12) (N := 57) hx hb hg inX12 hown hK hP 0 atM_0 rfl 24 (by decide) (hg _ mw_1132) (fun _ h9 => h9) rfl dX12_begin_20 ?_
        refine lv_topi (fun x8 e9 => ?_)
        have r10 : rg x8 0 1 := rg_e e9 (hq.1.1 8)
        refine lv_imul hx hb dX12_begin_23 ?_
        refine lv_topi (fun x11 e12 => ?_)
        have r13 : rg x11 0 80 := rg_mul e12 ((rg_k (by decide)) : rg 80 80 80) r10 (by decide)
        refine lv_iload_n hx hb dX12_begin_24 rfl (lv_at hl 1 rfl) ?_
        refine lv_iadd hx hb dX12_begin_25 ?_
        refine lv_topi (fun x14 e15 => ?_)
        have r16 : rg x14 0 159 := rg_add e15 r13 r7 (by decide)
        refine va_iald hx hb hK hP 10 9 atM_10 tyM_10 (in_rg r16 (by decide)) dX12_begin_26 ?_
        refine lv_topi (fun x17 e18 => ?_)
        refine va_iast hx hb hK hP hD hS 17 16 atM_17 tyM_17 (in_rg r7 (by decide)) dX12_begin_27 (fun H locs hP hD hS => ?_)
        have hq := hq.ast 17 (a1).toNatClampNeg (x := x17) (by decide) (rg_top _)
        rw [setM_17] at hP hD
        have k19 : x17 = (va_up A3 17 (upd (A3 17) (a1).toNatClampNeg x17)) 17 (a1).toNatClampNeg := (rdA).symm
        obtain ⟨x20, e21⟩ : ∃ y : Int32, y = a1 + 1 := ⟨_, rfl⟩
        have r22 : rg x20 1 80 := rg_add e21 r7 (rg_k (by decide) : rg 1 1 1) (by decide)
        refine lv_iinc (v := x20) (lv' := [(1, .int x20), (0, .ref (ad 0))]) hx hb dX12_begin_28 hl (k := 1) rfl (by rw [e21]; rfl) (by decide) rfl (fun ls hl => ?_)
        refine lv_goto (tgt := 2) hx hb dX12_begin_31 (by decide) ?_
        exact ih2 (x20) (F3) (L3) ((va_up A3 17 (upd (A3 17) (a1).toNatClampNeg x17))) (B3) H locs ls (by have h0 : (1 : Int32).toInt = 1 := rfl; have h1 := ti_addk e21 r7 (by decide); have h2 : rg x20 0 80 := (rg_w r22 (by decide)); unfold rg at h2; omega) (rg_w r22 (by decide)) hq i4 hP hD hS (lv_sub hl [1, 0] rfl)
  exact J2 _ (0) (F) (L) (A) (B) H locs ls (Nat.lt_succ_self _) (rg_k (by decide)) hq hI hP hD hS (lv_sub hl [1, 0] rfl)
abbrev rm_X12_clearBank_0 : Room := { frames := 0, cells := 0, slots := 0, locals := 0 }
set_option maxHeartbeats 4000000 in
set_option maxRecDepth 100000 in
theorem c_X12_clearBank_0 (l : Launch) (D : va_G) (cA : Nat → ClassId) (sz : Nat) (ad : Nat → Nat) (F : Nat → Int32) (L : Nat → Int64) (A : Nat → Nat → Int32) (B : Nat → Nat → Int64)  (hT : typM F A) : Met l yX12_clearBank (Cond.code yX12_clearBank cX12_clearBank 2 none :: GW) rm_X12_clearBank_0 (mPc D classes (tysM cA) (wM cA ad F L A B) sz [.ref (ad 0)]) (mQv (S := SW) D classes (tysM cA) (wM cA ad F L A B) sz (wfM cA ad) (fun u => qM [] [3, 4, 5, 6, 7, 10, 12, 13] F A u.1 u.2.2.1)) 0 0 (va_A (wM cA ad F L A B) sz) := by
  refine met_v (own := "ShoeingDayModel") (by decide +kernel) rfl (Nat.le_of_ble_eq_true rfl) ?_
  intro p e s m args below meth c Q Af ls hC hP hD hS hA hl hret
  have hx := hC.1
  have hb := hC.2.1
  have hown := hC.2.2.2.1
  have hg := hC.g
  have hK := hC.K
  have hl : lv_has ls 2 [(0, .ref (ad 0))] := hl
  have hq : qM [] [3, 4, 5, 6, 7, 10, 12, 13] F A F A := qM.rf hT
  obtain ⟨H, hH⟩ : ∃ H, H = s.heap := ⟨_, rfl⟩
  have hP : va_P D classes (wM cA ad F L A B) H := by rw [hH]; exact hP
  have hS : va_S Af s.heap H [] := by rw [hH]; exact hS
  obtain ⟨locs, hlo⟩ : ∃ q : List Loc, q = [] := ⟨_, rfl⟩
  rw [← hH, ← hlo]
  rw [← hlo] at hS
  refine lv_aload_n hx hb dX12_clearBank_0 rfl (lv_at hl 0 rfl) ?_
  refine va_get (ci := 12) (v := .ref (ad 3)) (C := RX12) (T := TX12) (N := 57) hx hb hg inX12 hown hK hP 0 atM_0 rfl 11 (by decide) (hg _ mw_1119) (fun _ h9 => h9) rfl dX12_clearBank_1 ?_
  refine lv_aload_n hx hb dX12_clearBank_4 rfl (lv_at hl 0 rfl) ?_
  refine va_get (ci := 12) (v := .int (F 9)) (C := RX12) (T := TX12) (N := 57) hx hb hg inX12 hown hK hP 0 atM_0 rfl 25 (by decide) (hg _ mw_1133) (fun _ h9 => h9) rfl dX12_clearBank_5 ?_
  refine lv_topi (fun x1 e2 => ?_)
  have r3 : rg x1 0 1 := rg_e e2 (hq.1.1 9)
  refine lv_iconst (v := 0) hx hb dX12_clearBank_8 (by decide) ?_
  refine va_iast hx hb hK hP hD hS 3 2 atM_3 tyM_3 (in_rg r3 (by decide)) dX12_clearBank_9 (fun H locs hP hD hS => ?_)
  have hq := hq.ast 3 (x1).toNatClampNeg (x := 0) (by decide) (rg_k (by decide))
  rw [setM_3] at hP hD
  have k4 : (0 : Int32) = (va_up A 3 (upd (A 3) (x1).toNatClampNeg 0)) 3 (x1).toNatClampNeg := (rdA).symm
  refine lv_aload_n hx hb dX12_clearBank_10 rfl (lv_at hl 0 rfl) ?_
  refine va_get (ci := 12) (v := .ref (ad 4)) (C := RX12) (T := TX12) (N := 57) hx hb hg inX12 hown hK hP 0 atM_0 rfl 12 (by decide) (hg _ mw_1120) (fun _ h9 => h9) rfl dX12_clearBank_11 ?_
  refine lv_aload_n hx hb dX12_clearBank_14 rfl (lv_at hl 0 rfl) ?_
  refine va_get (ci := 12) (v := .int x1) (C := RX12) (T := TX12) (N := 57) hx hb hg inX12 hown hK hP 0 atM_0 rfl 25 (by decide) (hg _ mw_1133) (fun _ h9 => h9) (congrArg (fun z => some (Value.int z)) (e2.symm)) dX12_clearBank_15 ?_
  refine lv_iconst (v := 0) hx hb dX12_clearBank_18 (by decide) ?_
  refine va_iast hx hb hK hP hD hS 4 3 atM_4 tyM_4 (in_rg r3 (by decide)) dX12_clearBank_19 (fun H locs hP hD hS => ?_)
  have hq := hq.ast 4 (x1).toNatClampNeg (x := 0) (by decide) (rg_k (by decide))
  rw [setM_4] at hP hD
  have k5 : (0 : Int32) = (va_up (va_up A 3 (upd (A 3) (x1).toNatClampNeg 0)) 4 (upd ((va_up A 3 (upd (A 3) (x1).toNatClampNeg 0)) 4) (x1).toNatClampNeg 0)) 4 (x1).toNatClampNeg := (rdA).symm
  refine lv_aload_n hx hb dX12_clearBank_20 rfl (lv_at hl 0 rfl) ?_
  refine va_get (ci := 12) (v := .ref (ad 5)) (C := RX12) (T := TX12) (N := 57) hx hb hg inX12 hown hK hP 0 atM_0 rfl 13 (by decide) (hg _ mw_1121) (fun _ h9 => h9) rfl dX12_clearBank_21 ?_
  refine lv_aload_n hx hb dX12_clearBank_24 rfl (lv_at hl 0 rfl) ?_
  refine va_get (ci := 12) (v := .int x1) (C := RX12) (T := TX12) (N := 57) hx hb hg inX12 hown hK hP 0 atM_0 rfl 25 (by decide) (hg _ mw_1133) (fun _ h9 => h9) (congrArg (fun z => some (Value.int z)) (e2.symm)) dX12_clearBank_25 ?_
  refine lv_iconst (v := 0) hx hb dX12_clearBank_28 (by decide) ?_
  refine va_iast hx hb hK hP hD hS 5 4 atM_5 tyM_5 (in_rg r3 (by decide)) dX12_clearBank_29 (fun H locs hP hD hS => ?_)
  have hq := hq.ast 5 (x1).toNatClampNeg (x := 0) (by decide) (rg_k (by decide))
  rw [setM_5] at hP hD
  have k6 : (0 : Int32) = (va_up (va_up (va_up A 3 (upd (A 3) (x1).toNatClampNeg 0)) 4 (upd ((va_up A 3 (upd (A 3) (x1).toNatClampNeg 0)) 4) (x1).toNatClampNeg 0)) 5 (upd ((va_up (va_up A 3 (upd (A 3) (x1).toNatClampNeg 0)) 4 (upd ((va_up A 3 (upd (A 3) (x1).toNatClampNeg 0)) 4) (x1).toNatClampNeg 0)) 5) (x1).toNatClampNeg 0)) 5 (x1).toNatClampNeg := (rdA).symm
  refine lv_aload_n hx hb dX12_clearBank_30 rfl (lv_at hl 0 rfl) ?_
  refine va_get (ci := 12) (v := .ref (ad 6)) (C := RX12) (T := TX12) (N := 57) hx hb hg inX12 hown hK hP 0 atM_0 rfl 14 (by decide) (hg _ mw_1122) (fun _ h9 => h9) rfl dX12_clearBank_31 ?_
  refine lv_aload_n hx hb dX12_clearBank_34 rfl (lv_at hl 0 rfl) ?_
  refine va_get (ci := 12) (v := .int x1) (C := RX12) (T := TX12) (N := 57) hx hb hg inX12 hown hK hP 0 atM_0 rfl 25 (by decide) (hg _ mw_1133) (fun _ h9 => h9) (congrArg (fun z => some (Value.int z)) (e2.symm)) dX12_clearBank_35 ?_
  refine lv_iconst (v := 0) hx hb dX12_clearBank_38 (by decide) ?_
  refine va_iast hx hb hK hP hD hS 6 5 atM_6 tyM_6 (in_rg r3 (by decide)) dX12_clearBank_39 (fun H locs hP hD hS => ?_)
  have hq := hq.ast 6 (x1).toNatClampNeg (x := 0) (by decide) (rg_k (by decide))
  rw [setM_6] at hP hD
  have k7 : (0 : Int32) = (va_up (va_up (va_up (va_up A 3 (upd (A 3) (x1).toNatClampNeg 0)) 4 (upd ((va_up A 3 (upd (A 3) (x1).toNatClampNeg 0)) 4) (x1).toNatClampNeg 0)) 5 (upd ((va_up (va_up A 3 (upd (A 3) (x1).toNatClampNeg 0)) 4 (upd ((va_up A 3 (upd (A 3) (x1).toNatClampNeg 0)) 4) (x1).toNatClampNeg 0)) 5) (x1).toNatClampNeg 0)) 6 (upd ((va_up (va_up (va_up A 3 (upd (A 3) (x1).toNatClampNeg 0)) 4 (upd ((va_up A 3 (upd (A 3) (x1).toNatClampNeg 0)) 4) (x1).toNatClampNeg 0)) 5 (upd ((va_up (va_up A 3 (upd (A 3) (x1).toNatClampNeg 0)) 4 (upd ((va_up A 3 (upd (A 3) (x1).toNatClampNeg 0)) 4) (x1).toNatClampNeg 0)) 5) (x1).toNatClampNeg 0)) 6) (x1).toNatClampNeg 0)) 6 (x1).toNatClampNeg := (rdA).symm
  refine lv_aload_n hx hb dX12_clearBank_40 rfl (lv_at hl 0 rfl) ?_
  refine va_get (ci := 12) (v := .ref (ad 7)) (C := RX12) (T := TX12) (N := 57) hx hb hg inX12 hown hK hP 0 atM_0 rfl 15 (by decide) (hg _ mw_1123) (fun _ h9 => h9) rfl dX12_clearBank_41 ?_
  refine lv_aload_n hx hb dX12_clearBank_44 rfl (lv_at hl 0 rfl) ?_
  refine va_get (ci := 12) (v := .int x1) (C := RX12) (T := TX12) (N := 57) hx hb hg inX12 hown hK hP 0 atM_0 rfl 25 (by decide) (hg _ mw_1133) (fun _ h9 => h9) (congrArg (fun z => some (Value.int z)) (e2.symm)) dX12_clearBank_45 ?_
  refine lv_iconst (v := (-1)) hx hb dX12_clearBank_48 (by decide) ?_
  refine va_iast hx hb hK hP hD hS 7 6 atM_7 tyM_7 (in_rg r3 (by decide)) dX12_clearBank_49 (fun H locs hP hD hS => ?_)
  have hq := hq.ast 7 (x1).toNatClampNeg (x := (-1)) (by decide) (rg_k (by decide))
  rw [setM_7] at hP hD
  have k8 : ((-1) : Int32) = (va_up (va_up (va_up (va_up (va_up A 3 (upd (A 3) (x1).toNatClampNeg 0)) 4 (upd ((va_up A 3 (upd (A 3) (x1).toNatClampNeg 0)) 4) (x1).toNatClampNeg 0)) 5 (upd ((va_up (va_up A 3 (upd (A 3) (x1).toNatClampNeg 0)) 4 (upd ((va_up A 3 (upd (A 3) (x1).toNatClampNeg 0)) 4) (x1).toNatClampNeg 0)) 5) (x1).toNatClampNeg 0)) 6 (upd ((va_up (va_up (va_up A 3 (upd (A 3) (x1).toNatClampNeg 0)) 4 (upd ((va_up A 3 (upd (A 3) (x1).toNatClampNeg 0)) 4) (x1).toNatClampNeg 0)) 5 (upd ((va_up (va_up A 3 (upd (A 3) (x1).toNatClampNeg 0)) 4 (upd ((va_up A 3 (upd (A 3) (x1).toNatClampNeg 0)) 4) (x1).toNatClampNeg 0)) 5) (x1).toNatClampNeg 0)) 6) (x1).toNatClampNeg 0)) 7 (upd ((va_up (va_up (va_up (va_up A 3 (upd (A 3) (x1).toNatClampNeg 0)) 4 (upd ((va_up A 3 (upd (A 3) (x1).toNatClampNeg 0)) 4) (x1).toNatClampNeg 0)) 5 (upd ((va_up (va_up A 3 (upd (A 3) (x1).toNatClampNeg 0)) 4 (upd ((va_up A 3 (upd (A 3) (x1).toNatClampNeg 0)) 4) (x1).toNatClampNeg 0)) 5) (x1).toNatClampNeg 0)) 6 (upd ((va_up (va_up (va_up A 3 (upd (A 3) (x1).toNatClampNeg 0)) 4 (upd ((va_up A 3 (upd (A 3) (x1).toNatClampNeg 0)) 4) (x1).toNatClampNeg 0)) 5 (upd ((va_up (va_up A 3 (upd (A 3) (x1).toNatClampNeg 0)) 4 (upd ((va_up A 3 (upd (A 3) (x1).toNatClampNeg 0)) 4) (x1).toNatClampNeg 0)) 5) (x1).toNatClampNeg 0)) 6) (x1).toNatClampNeg 0)) 7) (x1).toNatClampNeg (-1))) 7 (x1).toNatClampNeg := (rdA).symm
  refine lv_aload_n hx hb dX12_clearBank_50 rfl (lv_at hl 0 rfl) ?_
  refine va_get (ci := 12) (v := .ref (ad 13)) (C := RX12) (T := TX12) (N := 57) hx hb hg inX12 hown hK hP 0 atM_0 rfl 21 (by decide) (hg _ mw_1129) (fun _ h9 => h9) rfl dX12_clearBank_51 ?_
  refine lv_aload_n hx hb dX12_clearBank_54 rfl (lv_at hl 0 rfl) ?_
  refine va_get (ci := 12) (v := .int x1) (C := RX12) (T := TX12) (N := 57) hx hb hg inX12 hown hK hP 0 atM_0 rfl 25 (by decide) (hg _ mw_1133) (fun _ h9 => h9) (congrArg (fun z => some (Value.int z)) (e2.symm)) dX12_clearBank_55 ?_
  refine lv_iconst (v := 0) hx hb dX12_clearBank_58 (by decide) ?_
  refine va_zast hx hb hK hP hD hS 13 12 atM_13 tyM_13 (in_rg r3 (by decide)) dX12_clearBank_59 (fun H locs hP hD hS => ?_)
  have hq := hq.ast 13 (x1).toNatClampNeg (x := (vp_nar .boolean 0)) (by decide) (rg_nz _)
  rw [setM_13] at hP hD
  refine lv_bipush (v := 80) hx hb dX12_clearBank_60 (by decide) ?_
  refine lv_aload_n hx hb dX12_clearBank_62 rfl (lv_at hl 0 rfl) ?_
  refine va_get (ci := 12) (v := .int x1) (C := RX12) (T := TX12) (N := 57) hx hb hg inX12 hown hK hP 0 atM_0 rfl 25 (by decide) (hg _ mw_1133) (fun _ h9 => h9) (congrArg (fun z => some (Value.int z)) (e2.symm)) dX12_clearBank_63 ?_
  refine lv_imul hx hb dX12_clearBank_66 ?_
  refine lv_topi (fun x9 e10 => ?_)
  have r11 : rg x9 0 80 := rg_mul e10 ((rg_k (by decide)) : rg 80 80 80) r3 (by decide)
  refine lv_istore_n (lv' := [(1, .int x9), (0, .ref (ad 0))]) hx hb dX12_clearBank_67 rfl hl (by decide) rfl (fun ls hl => ?_)
  have J68 : ∀ (n68 : Nat) (a12 : Int32) (F14 : Nat → Int32) (L14 : Nat → Int64) (A14 : Nat → Nat → Int32) (B14 : Nat → Nat → Int64) (H : Heap) (locs : List Loc) (ls : Array Slot), (160 - a12.toInt).toNat < n68 → rg a12 0 160 → qM [] [3, 4, 5, 6, 7, 10, 12, 13] F A F14 A14 → F14 9 = x1 → va_P D classes (wM cA ad F14 L14 A14 B14) H → va_D Af (wM cA ad F14 L14 A14 B14) → va_S Af s.heap H locs → lv_has ls 2 [(0, .ref (ad 0)), (1, .int a12)] → W p l e rm_X12_clearBank_0 s m args below meth c H locs 0 0 Q (F0 m 68 ls []) := by
    intro n68
    induction n68 with
    | zero =>
      intro _ _ _ _ _ _ _ _ hn
      exact absurd hn (Nat.not_lt_zero _)
    | succ n68 ih68 =>
      intro a12 F14 L14 A14 B14 H locs ls hn68 r13 hq f15 hP hD hS hl
      refine lv_iload_n hx hb dX12_clearBank_68 rfl (lv_at hl 1 rfl) ?_
      refine lv_bipush (v := 80) hx hb dX12_clearBank_69 (by decide) ?_
      refine lv_aload_n hx hb dX12_clearBank_71 rfl (lv_at hl 0 rfl) ?_
      refine va_get (ci := 12) (v := .int x1) (C := RX12) (T := TX12) (N := 57) hx hb hg inX12 hown hK hP 0 atM_0 rfl 25 (by decide) (hg _ mw_1133) (fun _ h9 => h9) (congrArg (fun z => some (Value.int z)) (f15)) dX12_clearBank_72 ?_
      refine lv_imul hx hb dX12_clearBank_75 ?_
      refine tope e10 ?_
      refine lv_bipush (v := 80) hx hb dX12_clearBank_76 (by decide) ?_
      refine lv_iadd hx hb dX12_clearBank_78 ?_
      refine lv_topi (fun x16 e17 => ?_)
      have r18 : rg x16 80 160 := rg_add e17 r11 ((rg_k (by decide)) : rg 80 80 80) (by decide)
      refine lv_icmp_ge (tgt := 102) hx hb dX12_clearBank_79 (by decide) (fun c19 => ?_) (fun c19 => ?_)
      · skip
        have r20 : rg a12 80 160 := rg_le2 (iE c19) (r18 : rg x16 80 160) (r13 : rg a12 0 160)
        exact hret (F14, L14, A14, B14) H locs 102 ls dX12_clearBank_102 hP hD hS hq
      · skip
        have r21 : rg a12 0 159 := rg_lt1 (iNE c19) (r13 : rg a12 0 160) (r18 : rg x16 80 160)
        refine lv_aload_n hx hb dX12_clearBank_82 rfl (lv_at hl 0 rfl) ?_
        refine va_get (ci := 12) (v := .ref (ad 10)) (C := RX12) (T := TX12) (N := 57) hx hb hg inX12 hown hK hP 0 atM_0 rfl 18 (by decide) (hg _ mw_1126) (fun _ h9 => h9) rfl dX12_clearBank_83 ?_
        refine lv_iload_n hx hb dX12_clearBank_86 rfl (lv_at hl 1 rfl) ?_
        refine lv_iconst (v := 0) hx hb dX12_clearBank_87 (by decide) ?_
        refine va_iast hx hb hK hP hD hS 10 9 atM_10 tyM_10 (in_rg r21 (by decide)) dX12_clearBank_88 (fun H locs hP hD hS => ?_)
        have hq := hq.ast 10 (a12).toNatClampNeg (x := 0) (by decide) (rg_k (by decide))
        rw [setM_10] at hP hD
        have k22 : (0 : Int32) = (va_up A14 10 (upd (A14 10) (a12).toNatClampNeg 0)) 10 (a12).toNatClampNeg := (rdA).symm
        refine lv_aload_n hx hb dX12_clearBank_89 rfl (lv_at hl 0 rfl) ?_
        refine va_get (ci := 12) (v := .ref (ad 12)) (C := RX12) (T := TX12) (N := 57) hx hb hg inX12 hown hK hP 0 atM_0 rfl 20 (by decide) (hg _ mw_1128) (fun _ h9 => h9) rfl dX12_clearBank_90 ?_
        refine lv_iload_n hx hb dX12_clearBank_93 rfl (lv_at hl 1 rfl) ?_
        refine lv_iconst (v := 0) hx hb dX12_clearBank_94 (by decide) ?_
        refine va_zast hx hb hK hP hD hS 12 11 atM_12 tyM_12 (in_rg r21 (by decide)) dX12_clearBank_95 (fun H locs hP hD hS => ?_)
        have hq := hq.ast 12 (a12).toNatClampNeg (x := (vp_nar .boolean 0)) (by decide) (rg_nz _)
        rw [setM_12] at hP hD
        obtain ⟨x23, e24⟩ : ∃ y : Int32, y = a12 + 1 := ⟨_, rfl⟩
        have r25 : rg x23 1 160 := rg_add e24 r21 (rg_k (by decide) : rg 1 1 1) (by decide)
        refine lv_iinc (v := x23) (lv' := [(1, .int x23), (0, .ref (ad 0))]) hx hb dX12_clearBank_96 hl (k := 1) rfl (by rw [e24]; rfl) (by decide) rfl (fun ls hl => ?_)
        refine lv_goto (tgt := 68) hx hb dX12_clearBank_99 (by decide) ?_
        exact ih68 (x23) (F14) (L14) ((va_up (va_up A14 10 (upd (A14 10) (a12).toNatClampNeg 0)) 12 (upd ((va_up A14 10 (upd (A14 10) (a12).toNatClampNeg 0)) 12) (a12).toNatClampNeg (vp_nar .boolean 0)))) (B14) H locs ls (by have h0 : (1 : Int32).toInt = 1 := rfl; have h1 := ti_addk e24 r21 (by decide); have h2 : rg x23 0 160 := (rg_w r25 (by decide)); unfold rg at h2; omega) (rg_w r25 (by decide)) hq (f15) hP hD hS (lv_sub hl [1, 0] rfl)
  exact J68 _ (x9) (F) (L) ((va_up (va_up (va_up (va_up (va_up (va_up A 3 (upd (A 3) (x1).toNatClampNeg 0)) 4 (upd ((va_up A 3 (upd (A 3) (x1).toNatClampNeg 0)) 4) (x1).toNatClampNeg 0)) 5 (upd ((va_up (va_up A 3 (upd (A 3) (x1).toNatClampNeg 0)) 4 (upd ((va_up A 3 (upd (A 3) (x1).toNatClampNeg 0)) 4) (x1).toNatClampNeg 0)) 5) (x1).toNatClampNeg 0)) 6 (upd ((va_up (va_up (va_up A 3 (upd (A 3) (x1).toNatClampNeg 0)) 4 (upd ((va_up A 3 (upd (A 3) (x1).toNatClampNeg 0)) 4) (x1).toNatClampNeg 0)) 5 (upd ((va_up (va_up A 3 (upd (A 3) (x1).toNatClampNeg 0)) 4 (upd ((va_up A 3 (upd (A 3) (x1).toNatClampNeg 0)) 4) (x1).toNatClampNeg 0)) 5) (x1).toNatClampNeg 0)) 6) (x1).toNatClampNeg 0)) 7 (upd ((va_up (va_up (va_up (va_up A 3 (upd (A 3) (x1).toNatClampNeg 0)) 4 (upd ((va_up A 3 (upd (A 3) (x1).toNatClampNeg 0)) 4) (x1).toNatClampNeg 0)) 5 (upd ((va_up (va_up A 3 (upd (A 3) (x1).toNatClampNeg 0)) 4 (upd ((va_up A 3 (upd (A 3) (x1).toNatClampNeg 0)) 4) (x1).toNatClampNeg 0)) 5) (x1).toNatClampNeg 0)) 6 (upd ((va_up (va_up (va_up A 3 (upd (A 3) (x1).toNatClampNeg 0)) 4 (upd ((va_up A 3 (upd (A 3) (x1).toNatClampNeg 0)) 4) (x1).toNatClampNeg 0)) 5 (upd ((va_up (va_up A 3 (upd (A 3) (x1).toNatClampNeg 0)) 4 (upd ((va_up A 3 (upd (A 3) (x1).toNatClampNeg 0)) 4) (x1).toNatClampNeg 0)) 5) (x1).toNatClampNeg 0)) 6) (x1).toNatClampNeg 0)) 7) (x1).toNatClampNeg (-1))) 13 (upd ((va_up (va_up (va_up (va_up (va_up A 3 (upd (A 3) (x1).toNatClampNeg 0)) 4 (upd ((va_up A 3 (upd (A 3) (x1).toNatClampNeg 0)) 4) (x1).toNatClampNeg 0)) 5 (upd ((va_up (va_up A 3 (upd (A 3) (x1).toNatClampNeg 0)) 4 (upd ((va_up A 3 (upd (A 3) (x1).toNatClampNeg 0)) 4) (x1).toNatClampNeg 0)) 5) (x1).toNatClampNeg 0)) 6 (upd ((va_up (va_up (va_up A 3 (upd (A 3) (x1).toNatClampNeg 0)) 4 (upd ((va_up A 3 (upd (A 3) (x1).toNatClampNeg 0)) 4) (x1).toNatClampNeg 0)) 5 (upd ((va_up (va_up A 3 (upd (A 3) (x1).toNatClampNeg 0)) 4 (upd ((va_up A 3 (upd (A 3) (x1).toNatClampNeg 0)) 4) (x1).toNatClampNeg 0)) 5) (x1).toNatClampNeg 0)) 6) (x1).toNatClampNeg 0)) 7 (upd ((va_up (va_up (va_up (va_up A 3 (upd (A 3) (x1).toNatClampNeg 0)) 4 (upd ((va_up A 3 (upd (A 3) (x1).toNatClampNeg 0)) 4) (x1).toNatClampNeg 0)) 5 (upd ((va_up (va_up A 3 (upd (A 3) (x1).toNatClampNeg 0)) 4 (upd ((va_up A 3 (upd (A 3) (x1).toNatClampNeg 0)) 4) (x1).toNatClampNeg 0)) 5) (x1).toNatClampNeg 0)) 6 (upd ((va_up (va_up (va_up A 3 (upd (A 3) (x1).toNatClampNeg 0)) 4 (upd ((va_up A 3 (upd (A 3) (x1).toNatClampNeg 0)) 4) (x1).toNatClampNeg 0)) 5 (upd ((va_up (va_up A 3 (upd (A 3) (x1).toNatClampNeg 0)) 4 (upd ((va_up A 3 (upd (A 3) (x1).toNatClampNeg 0)) 4) (x1).toNatClampNeg 0)) 5) (x1).toNatClampNeg 0)) 6) (x1).toNatClampNeg 0)) 7) (x1).toNatClampNeg (-1))) 13) (x1).toNatClampNeg (vp_nar .boolean 0)))) (B) H locs ls (Nat.lt_succ_self _) (rg_w r11 (by decide)) hq (e2.symm) hP hD hS (lv_sub hl [1, 0] rfl)
abbrev rm_X12_isDigit : Room := { frames := 0, cells := 0, slots := 0, locals := 0 }
set_option maxHeartbeats 4000000 in
set_option maxRecDepth 100000 in
theorem c_X12_isDigit (l : Launch) (D : va_G) (tys : List (ClassId × FieldType)) (ws : va_W) (sz : Nat) (p0 : Int32) (hp0 : rg p0 0 255) : Met l yX12_isDigit (Cond.code yX12_isDigit cX12_isDigit 1 (some .boolean) :: GW) rm_X12_isDigit (mPc D classes tys (ws) sz [.int p0]) (mQi (S := Unit) D classes tys (ws) sz (fun _ : Unit => ws) (fun r u => rg r 0 1 ∧ (r = 0 ∨ (rg p0 48 57)))) 0 0 (va_A (ws) sz) := by
  refine met_i (own := "ShoeingDayModel") (by decide +kernel) rfl (Nat.le_of_ble_eq_true rfl) ?_
  intro p e s m args below meth c Q Af ls hC hP hD hS hA hl hret
  have hx := hC.1
  have hb := hC.2.1
  have hown := hC.2.2.2.1
  have hg := hC.g
  have hK := hC.K
  have hl : lv_has ls 1 [(0, .int p0)] := hl
  obtain ⟨H, hH⟩ : ∃ H, H = s.heap := ⟨_, rfl⟩
  have hP : va_P D classes (ws) H := by rw [hH]; exact hP
  have hS : va_S Af s.heap H [] := by rw [hH]; exact hS
  obtain ⟨locs, hlo⟩ : ∃ q : List Loc, q = [] := ⟨_, rfl⟩
  rw [← hH, ← hlo]
  rw [← hlo] at hS
  refine lv_iload_n hx hb dX12_isDigit_0 rfl (lv_at hl 0 rfl) ?_
  refine lv_bipush (v := 48) hx hb dX12_isDigit_1 (by decide) ?_
  have J16 : ∀ (H : Heap) (locs : List Loc) (ls : Array Slot), va_P D classes (ws) H → va_D Af (ws) → va_S Af s.heap H locs → lv_has ls 1 [] → W p l e rm_X12_isDigit s m args below meth c H locs 0 0 Q (F0 m 16 ls []) := by
    intro H locs ls hP hD hS hl
    refine lv_iconst (v := 0) hx hb dX12_isDigit_16 (by decide) ?_
    exact hret (0) () H locs 17 ls rfl dX12_isDigit_17 hP hD hS ⟨(rg_k (by decide)), Or.inl rfl⟩
  refine lv_icmp_lt (tgt := 16) hx hb dX12_isDigit_3 (by decide) (fun c1 => ?_) (fun c1 => ?_)
  · skip
    have r2 : rg p0 0 47 := rg_lt1 (iL c1) (hp0 : rg p0 0 255) ((rg_k (by decide)) : rg 48 48 48)
    exact J16  H locs ls  hP hD hS (lv_sub hl [] rfl)
  · skip
    have r3 : rg p0 48 255 := rg_le2 (iNL c1) ((rg_k (by decide)) : rg 48 48 48) (hp0 : rg p0 0 255)
    refine lv_iload_n hx hb dX12_isDigit_6 rfl (lv_at hl 0 rfl) ?_
    refine lv_bipush (v := 57) hx hb dX12_isDigit_7 (by decide) ?_
    refine lv_icmp_gt (tgt := 16) hx hb dX12_isDigit_9 (by decide) (fun c4 => ?_) (fun c4 => ?_)
    · skip
      have r5 : rg p0 58 255 := rg_lt2 (iL c4) ((rg_k (by decide)) : rg 57 57 57) (r3 : rg p0 48 255)
      exact J16  H locs ls  hP hD hS (lv_sub hl [] rfl)
    · skip
      have r6 : rg p0 48 57 := rg_le1 (iNL c4) (r3 : rg p0 48 255) ((rg_k (by decide)) : rg 57 57 57)
      refine lv_iconst (v := 1) hx hb dX12_isDigit_12 (by decide) ?_
      refine lv_goto (tgt := 17) hx hb dX12_isDigit_13 (by decide) ?_
      exact hret (1) () H locs 17 ls rfl dX12_isDigit_17 hP hD hS ⟨(rg_k (by decide)), Or.inr r6⟩
abbrev rm_X12_isKept : Room := { frames := 0, cells := 0, slots := 0, locals := 0 }
set_option maxHeartbeats 4000000 in
set_option maxRecDepth 100000 in
theorem c_X12_isKept (l : Launch) (D : va_G) (tys : List (ClassId × FieldType)) (ws : va_W) (sz : Nat) (p0 : Int64)  : Met l yX12_isKept (Cond.code yX12_isKept cX12_isKept 2 (some .boolean) :: GW) rm_X12_isKept (mPc D classes tys (ws) sz [.long p0]) (mQi (S := Unit) D classes tys (ws) sz (fun _ : Unit => ws) (fun r u => rg r 0 1)) 0 0 (va_A (ws) sz) := by
  refine met_i (own := "ShoeingDayModel") (by decide +kernel) rfl (Nat.le_of_ble_eq_true rfl) ?_
  intro p e s m args below meth c Q Af ls hC hP hD hS hA hl hret
  have hx := hC.1
  have hb := hC.2.1
  have hown := hC.2.2.2.1
  have hg := hC.g
  have hK := hC.K
  have hl : lv_has ls 2 [(0, .long p0)] := hl
  obtain ⟨H, hH⟩ : ∃ H, H = s.heap := ⟨_, rfl⟩
  have hP : va_P D classes (ws) H := by rw [hH]; exact hP
  have hS : va_S Af s.heap H [] := by rw [hH]; exact hS
  obtain ⟨locs, hlo⟩ : ∃ q : List Loc, q = [] := ⟨_, rfl⟩
  rw [← hH, ← hlo]
  rw [← hlo] at hS
  refine lv_lload_n hx hb dX12_isKept_0 rfl (lv_at hl 0 rfl) ?_
  refine lv_ldc2 (v := 495756866664) hx hb hown (hg _ mw_1299) dX12_isKept_1 ?_
  refine W.lcmp hx hb dX12_isKept_4 ?_
  refine lv_topi (fun x1 e2 => ?_)
  have J56 : ∀ (H : Heap) (locs : List Loc) (ls : Array Slot), va_P D classes (ws) H → va_D Af (ws) → va_S Af s.heap H locs → lv_has ls 2 [] → W p l e rm_X12_isKept s m args below meth c H locs 0 0 Q (F0 m 56 ls []) := by
    intro H locs ls hP hD hS hl
    refine lv_iconst (v := 1) hx hb dX12_isKept_56 (by decide) ?_
    refine lv_goto (tgt := 61) hx hb dX12_isKept_57 (by decide) ?_
    exact hret (1) () H locs 61 ls rfl dX12_isKept_61 hP hD hS (rg_k (by decide))
  refine lv_if_eq (tgt := 56) hx hb dX12_isKept_5 (by decide) (fun c3 => ?_) (fun c3 => ?_)
  · skip
    have r4 : rg x1 0 0 := rg_eq1 c3 ((rg_top _) : rg x1 (-2147483648) 2147483647) ((rg_k (by decide)) : rg 0 0 0) (by decide)
    exact J56  H locs ls  hP hD hS (lv_sub hl [] rfl)
  · skip
    refine lv_lload_n hx hb dX12_isKept_8 rfl (lv_at hl 0 rfl) ?_
    refine lv_ldc2 (v := 120265316263282) hx hb hown (hg _ mw_1300) dX12_isKept_9 ?_
    refine W.lcmp hx hb dX12_isKept_12 ?_
    refine lv_topi (fun x5 e6 => ?_)
    refine lv_if_eq (tgt := 56) hx hb dX12_isKept_13 (by decide) (fun c7 => ?_) (fun c7 => ?_)
    · skip
      have r8 : rg x5 0 0 := rg_eq1 c7 ((rg_top _) : rg x5 (-2147483648) 2147483647) ((rg_k (by decide)) : rg 0 0 0) (by decide)
      exact J56  H locs ls  hP hD hS (lv_sub hl [] rfl)
    · skip
      refine lv_lload_n hx hb dX12_isKept_16 rfl (lv_at hl 0 rfl) ?_
      refine lv_ldc2 (v := 2002872165) hx hb hown (hg _ mw_1301) dX12_isKept_17 ?_
      refine W.lcmp hx hb dX12_isKept_20 ?_
      refine lv_topi (fun x9 e10 => ?_)
      refine lv_if_eq (tgt := 56) hx hb dX12_isKept_21 (by decide) (fun c11 => ?_) (fun c11 => ?_)
      · skip
        have r12 : rg x9 0 0 := rg_eq1 c11 ((rg_top _) : rg x9 (-2147483648) 2147483647) ((rg_k (by decide)) : rg 0 0 0) (by decide)
        exact J56  H locs ls  hP hD hS (lv_sub hl [] rfl)
      · skip
        refine lv_lload_n hx hb dX12_isKept_24 rfl (lv_at hl 0 rfl) ?_
        refine lv_ldc2 (v := 448546370405) hx hb hown (hg _ mw_1302) dX12_isKept_25 ?_
        refine W.lcmp hx hb dX12_isKept_28 ?_
        refine lv_topi (fun x13 e14 => ?_)
        refine lv_if_eq (tgt := 56) hx hb dX12_isKept_29 (by decide) (fun c15 => ?_) (fun c15 => ?_)
        · skip
          have r16 : rg x13 0 0 := rg_eq1 c15 ((rg_top _) : rg x13 (-2147483648) 2147483647) ((rg_k (by decide)) : rg 0 0 0) (by decide)
          exact J56  H locs ls  hP hD hS (lv_sub hl [] rfl)
        · skip
          refine lv_lload_n hx hb dX12_isKept_32 rfl (lv_at hl 0 rfl) ?_
          refine lv_ldc2 (v := 448546566771) hx hb hown (hg _ mw_1303) dX12_isKept_33 ?_
          refine W.lcmp hx hb dX12_isKept_36 ?_
          refine lv_topi (fun x17 e18 => ?_)
          refine lv_if_eq (tgt := 56) hx hb dX12_isKept_37 (by decide) (fun c19 => ?_) (fun c19 => ?_)
          · skip
            have r20 : rg x17 0 0 := rg_eq1 c19 ((rg_top _) : rg x17 (-2147483648) 2147483647) ((rg_k (by decide)) : rg 0 0 0) (by decide)
            exact J56  H locs ls  hP hD hS (lv_sub hl [] rfl)
          · skip
            refine lv_lload_n hx hb dX12_isKept_40 rfl (lv_at hl 0 rfl) ?_
            refine lv_ldc2 (v := 465558201459) hx hb hown (hg _ mw_1304) dX12_isKept_41 ?_
            refine W.lcmp hx hb dX12_isKept_44 ?_
            refine lv_topi (fun x21 e22 => ?_)
            refine lv_if_eq (tgt := 56) hx hb dX12_isKept_45 (by decide) (fun c23 => ?_) (fun c23 => ?_)
            · skip
              have r24 : rg x21 0 0 := rg_eq1 c23 ((rg_top _) : rg x21 (-2147483648) 2147483647) ((rg_k (by decide)) : rg 0 0 0) (by decide)
              exact J56  H locs ls  hP hD hS (lv_sub hl [] rfl)
            · skip
              refine lv_lload_n hx hb dX12_isKept_48 rfl (lv_at hl 0 rfl) ?_
              refine lv_ldc2 (v := 1818326117) hx hb hown (hg _ mw_1305) dX12_isKept_49 ?_
              refine W.lcmp hx hb dX12_isKept_52 ?_
              refine lv_topi (fun x25 e26 => ?_)
              refine lv_if_ne (tgt := 60) hx hb dX12_isKept_53 (by decide) (fun c27 => ?_) (fun c27 => ?_)
              · skip
                refine lv_iconst (v := 0) hx hb dX12_isKept_60 (by decide) ?_
                exact hret (0) () H locs 61 ls rfl dX12_isKept_61 hP hD hS (rg_k (by decide))
              · skip
                have r28 : rg x25 0 0 := rg_eq1 c27 ((rg_top _) : rg x25 (-2147483648) 2147483647) ((rg_k (by decide)) : rg 0 0 0) (by decide)
                exact J56  H locs ls  hP hD hS (lv_sub hl [] rfl)
abbrev rm_X12_isLetter : Room := { frames := 0, cells := 0, slots := 0, locals := 0 }
set_option maxHeartbeats 4000000 in
set_option maxRecDepth 100000 in
theorem c_X12_isLetter (l : Launch) (D : va_G) (tys : List (ClassId × FieldType)) (ws : va_W) (sz : Nat) (p0 : Int32) (hp0 : rg p0 0 255) : Met l yX12_isLetter (Cond.code yX12_isLetter cX12_isLetter 1 (some .boolean) :: GW) rm_X12_isLetter (mPc D classes tys (ws) sz [.int p0]) (mQi (S := Unit) D classes tys (ws) sz (fun _ : Unit => ws) (fun r u => rg r 0 1 ∧ (r = 0 ∨ (rg p0 97 122)))) 0 0 (va_A (ws) sz) := by
  refine met_i (own := "ShoeingDayModel") (by decide +kernel) rfl (Nat.le_of_ble_eq_true rfl) ?_
  intro p e s m args below meth c Q Af ls hC hP hD hS hA hl hret
  have hx := hC.1
  have hb := hC.2.1
  have hown := hC.2.2.2.1
  have hg := hC.g
  have hK := hC.K
  have hl : lv_has ls 1 [(0, .int p0)] := hl
  obtain ⟨H, hH⟩ : ∃ H, H = s.heap := ⟨_, rfl⟩
  have hP : va_P D classes (ws) H := by rw [hH]; exact hP
  have hS : va_S Af s.heap H [] := by rw [hH]; exact hS
  obtain ⟨locs, hlo⟩ : ∃ q : List Loc, q = [] := ⟨_, rfl⟩
  rw [← hH, ← hlo]
  rw [← hlo] at hS
  refine lv_iload_n hx hb dX12_isLetter_0 rfl (lv_at hl 0 rfl) ?_
  refine lv_bipush (v := 97) hx hb dX12_isLetter_1 (by decide) ?_
  have J16 : ∀ (H : Heap) (locs : List Loc) (ls : Array Slot), va_P D classes (ws) H → va_D Af (ws) → va_S Af s.heap H locs → lv_has ls 1 [] → W p l e rm_X12_isLetter s m args below meth c H locs 0 0 Q (F0 m 16 ls []) := by
    intro H locs ls hP hD hS hl
    refine lv_iconst (v := 0) hx hb dX12_isLetter_16 (by decide) ?_
    exact hret (0) () H locs 17 ls rfl dX12_isLetter_17 hP hD hS ⟨(rg_k (by decide)), Or.inl rfl⟩
  refine lv_icmp_lt (tgt := 16) hx hb dX12_isLetter_3 (by decide) (fun c1 => ?_) (fun c1 => ?_)
  · skip
    have r2 : rg p0 0 96 := rg_lt1 (iL c1) (hp0 : rg p0 0 255) ((rg_k (by decide)) : rg 97 97 97)
    exact J16  H locs ls  hP hD hS (lv_sub hl [] rfl)
  · skip
    have r3 : rg p0 97 255 := rg_le2 (iNL c1) ((rg_k (by decide)) : rg 97 97 97) (hp0 : rg p0 0 255)
    refine lv_iload_n hx hb dX12_isLetter_6 rfl (lv_at hl 0 rfl) ?_
    refine lv_bipush (v := 122) hx hb dX12_isLetter_7 (by decide) ?_
    refine lv_icmp_gt (tgt := 16) hx hb dX12_isLetter_9 (by decide) (fun c4 => ?_) (fun c4 => ?_)
    · skip
      have r5 : rg p0 123 255 := rg_lt2 (iL c4) ((rg_k (by decide)) : rg 122 122 122) (r3 : rg p0 97 255)
      exact J16  H locs ls  hP hD hS (lv_sub hl [] rfl)
    · skip
      have r6 : rg p0 97 122 := rg_le1 (iNL c4) (r3 : rg p0 97 255) ((rg_k (by decide)) : rg 122 122 122)
      refine lv_iconst (v := 1) hx hb dX12_isLetter_12 (by decide) ?_
      refine lv_goto (tgt := 17) hx hb dX12_isLetter_13 (by decide) ?_
      exact hret (1) () H locs 17 ls rfl dX12_isLetter_17 hP hD hS ⟨(rg_k (by decide)), Or.inr r6⟩
abbrev rm_X12_sign_0 : Room := { frames := 0, cells := 0, slots := 0, locals := 0 }
set_option maxHeartbeats 4000000 in
set_option maxRecDepth 100000 in
theorem c_X12_sign_0 (l : Launch) (D : va_G) (cA : Nat → ClassId) (sz : Nat) (ad : Nat → Nat) (F : Nat → Int32) (L : Nat → Int64) (A : Nat → Nat → Int32) (B : Nat → Nat → Int64) (p1 : Int32) (hT : typM F A) (hp1 : rg p1 0 1702) : Met l yX12_sign (Cond.code yX12_sign cX12_sign 2 (some .int) :: GW) rm_X12_sign_0 (mPc D classes (tysM cA) (wM cA ad F L A B) sz [.ref (ad 0), .int p1]) (mQi (S := Unit) D classes (tysM cA) (wM cA ad F L A B) sz (fun _ : Unit => wM cA ad F L A B) (fun r u => rg r 0 255)) 0 0 (va_A (wM cA ad F L A B) sz) := by
  refine met_i (own := "ShoeingDayModel") (by decide +kernel) rfl (Nat.le_of_ble_eq_true rfl) ?_
  intro p e s m args below meth c Q Af ls hC hP hD hS hA hl hret
  have hx := hC.1
  have hb := hC.2.1
  have hown := hC.2.2.2.1
  have hg := hC.g
  have hK := hC.K
  have hl : lv_has ls 2 [(0, .ref (ad 0)), (1, .int p1)] := hl
  have hq : qM [] [] F A F A := qM.rf hT
  obtain ⟨H, hH⟩ : ∃ H, H = s.heap := ⟨_, rfl⟩
  have hP : va_P D classes (wM cA ad F L A B) H := by rw [hH]; exact hP
  have hS : va_S Af s.heap H [] := by rw [hH]; exact hS
  obtain ⟨locs, hlo⟩ : ∃ q : List Loc, q = [] := ⟨_, rfl⟩
  rw [← hH, ← hlo]
  rw [← hlo] at hS
  refine lv_iload_n hx hb dX12_sign_0 rfl (lv_at hl 1 rfl) ?_
  refine lv_aload_n hx hb dX12_sign_1 rfl (lv_at hl 0 rfl) ?_
  refine va_get (ci := 12) (v := .int (F 1)) (C := RX12) (T := TX12) (N := 57) hx hb hg inX12 hown hK hP 0 atM_0 rfl 3 (by decide) (hg _ mw_1111) (fun _ h9 => h9) rfl dX12_sign_2 ?_
  refine lv_topi (fun x1 e2 => ?_)
  have r3 : rg x1 0 1700 := rg_e e2 (hq.1.1 1)
  refine lv_icmp_ge (tgt := 21) hx hb dX12_sign_5 (by decide) (fun c4 => ?_) (fun c4 => ?_)
  · skip
    refine lv_iconst (v := 0) hx hb dX12_sign_21 (by decide) ?_
    exact hret (0) () H locs 22 ls rfl dX12_sign_22 hP hD hS (rg_k (by decide))
  · skip
    have r5 : rg p1 0 1699 := rg_lt1 (iNE c4) (hp1 : rg p1 0 1702) (r3 : rg x1 0 1700)
    have r6 : rg x1 1 1700 := rg_lt2 (iNE c4) (hp1 : rg p1 0 1702) (r3 : rg x1 0 1700)
    refine lv_aload_n hx hb dX12_sign_8 rfl (lv_at hl 0 rfl) ?_
    refine va_get (ci := 12) (v := .ref (ad 2)) (C := RX12) (T := TX12) (N := 57) hx hb hg inX12 hown hK hP 0 atM_0 rfl 1 (by decide) (hg _ mw_1109) (fun _ h9 => h9) rfl dX12_sign_9 ?_
    refine lv_iload_n hx hb dX12_sign_12 rfl (lv_at hl 1 rfl) ?_
    refine va_bald hx hb hK hP 2 1 atM_2 tyM_2 (in_rg r5 (by decide)) dX12_sign_13 ?_
    refine lv_topi (fun x7 e8 => ?_)
    refine lv_sipush (v := 255) hx hb dX12_sign_14 (by decide) ?_
    refine lv_iand hx hb dX12_sign_17 ?_
    refine lv_topi (fun x9 e10 => ?_)
    have r11 : rg x9 0 255 := rg_andr e10 ((rg_k (by decide)) : rg 255 255 255) (by decide)
    refine lv_goto (tgt := 22) hx hb dX12_sign_18 (by decide) ?_
    exact hret (x9) () H locs 22 ls rfl dX12_sign_22 hP hD hS r11
abbrev rm_X12_goOn_0 : Room := { frames := 1, cells := 0, slots := 0, locals := 21 }
set_option maxHeartbeats 4000000 in
set_option maxRecDepth 100000 in
theorem c_X12_goOn_0 (l : Launch) (D : va_G) (cA : Nat → ClassId) (sz : Nat) (ad : Nat → Nat) (F : Nat → Int32) (L : Nat → Int64) (A : Nat → Nat → Int32) (B : Nat → Nat → Int64)  (hT : typM F A) : Met l yX12_goOn (Cond.code yX12_goOn cX12_goOn 3 none :: GW) rm_X12_goOn_0 (mPc D classes (tysM cA) (wM cA ad F L A B) sz [.ref (ad 0)]) (mQv (S := SW) D classes (tysM cA) (wM cA ad F L A B) sz (wfM cA ad) (fun u => qM [4, 5, 6, 7] [] F A u.1 u.2.2.1)) 0 0 (va_A (wM cA ad F L A B) sz) := by
  sorry
abbrev rm_X12_isGood_0 : Room := { frames := 0, cells := 0, slots := 0, locals := 0 }
set_option maxHeartbeats 4000000 in
set_option maxRecDepth 100000 in
theorem c_X12_isGood_0 (l : Launch) (D : va_G) (cA : Nat → ClassId) (sz : Nat) (ad : Nat → Nat) (F : Nat → Int32) (L : Nat → Int64) (A : Nat → Nat → Int32) (B : Nat → Nat → Int64)  (hT : typM F A) : Met l yX12_isGood (Cond.code yX12_isGood cX12_isGood 1 (some .boolean) :: GW) rm_X12_isGood_0 (mPc D classes (tysM cA) (wM cA ad F L A B) sz [.ref (ad 0)]) (mQi (S := Unit) D classes (tysM cA) (wM cA ad F L A B) sz (fun _ : Unit => wM cA ad F L A B) (fun r u => rg r 0 1)) 0 0 (va_A (wM cA ad F L A B) sz) := by
  refine met_i (own := "ShoeingDayModel") (by decide +kernel) rfl (Nat.le_of_ble_eq_true rfl) ?_
  intro p e s m args below meth c Q Af ls hC hP hD hS hA hl hret
  have hx := hC.1
  have hb := hC.2.1
  have hown := hC.2.2.2.1
  have hg := hC.g
  have hK := hC.K
  have hl : lv_has ls 1 [(0, .ref (ad 0))] := hl
  have hq : qM [] [] F A F A := qM.rf hT
  obtain ⟨H, hH⟩ : ∃ H, H = s.heap := ⟨_, rfl⟩
  have hP : va_P D classes (wM cA ad F L A B) H := by rw [hH]; exact hP
  have hS : va_S Af s.heap H [] := by rw [hH]; exact hS
  obtain ⟨locs, hlo⟩ : ∃ q : List Loc, q = [] := ⟨_, rfl⟩
  rw [← hH, ← hlo]
  rw [← hlo] at hS
  refine lv_aload_n hx hb dX12_isGood_0 rfl (lv_at hl 0 rfl) ?_
  refine va_get (ci := 12) (v := .int (F 2)) (C := RX12) (T := TX12) (N := 57) hx hb hg inX12 hown hK hP 0 atM_0 rfl 4 (by decide) (hg _ mw_1112) (fun _ h9 => h9) rfl dX12_isGood_1 ?_
  refine lv_topi (fun x1 e2 => ?_)
  refine lv_if_ne (tgt := 11) hx hb dX12_isGood_4 (by decide) (fun c3 => ?_) (fun c3 => ?_)
  · skip
    refine lv_iconst (v := 0) hx hb dX12_isGood_11 (by decide) ?_
    exact hret (0) () H locs 12 ls rfl dX12_isGood_12 hP hD hS (rg_k (by decide))
  · skip
    have r4 : rg x1 0 0 := rg_eq1 c3 ((rg_top _) : rg x1 (-2147483648) 2147483647) ((rg_k (by decide)) : rg 0 0 0) (by decide)
    refine lv_iconst (v := 1) hx hb dX12_isGood_7 (by decide) ?_
    refine lv_goto (tgt := 12) hx hb dX12_isGood_8 (by decide) ?_
    exact hret (1) () H locs 12 ls rfl dX12_isGood_12 hP hD hS (rg_k (by decide))
abbrev rm_X12_isWord_0 : Room := { frames := 0, cells := 0, slots := 0, locals := 0 }
set_option maxHeartbeats 4000000 in
set_option maxRecDepth 100000 in
theorem c_X12_isWord_0 (l : Launch) (D : va_G) (cA : Nat → ClassId) (sz : Nat) (ad : Nat → Nat) (F : Nat → Int32) (L : Nat → Int64) (A : Nat → Nat → Int32) (B : Nat → Nat → Int64) (p1 : Int64) (hT : typM F A) : Met l yX12_isWord (Cond.code yX12_isWord cX12_isWord 3 (some .boolean) :: GW) rm_X12_isWord_0 (mPc D classes (tysM cA) (wM cA ad F L A B) sz [.ref (ad 0), .long p1]) (mQi (S := Unit) D classes (tysM cA) (wM cA ad F L A B) sz (fun _ : Unit => wM cA ad F L A B) (fun r u => rg r 0 1)) 0 0 (va_A (wM cA ad F L A B) sz) := by
  refine met_i (own := "ShoeingDayModel") (by decide +kernel) rfl (Nat.le_of_ble_eq_true rfl) ?_
  intro p e s m args below meth c Q Af ls hC hP hD hS hA hl hret
  have hx := hC.1
  have hb := hC.2.1
  have hown := hC.2.2.2.1
  have hg := hC.g
  have hK := hC.K
  have hl : lv_has ls 3 [(0, .ref (ad 0)), (1, .long p1)] := hl
  have hq : qM [] [] F A F A := qM.rf hT
  obtain ⟨H, hH⟩ : ∃ H, H = s.heap := ⟨_, rfl⟩
  have hP : va_P D classes (wM cA ad F L A B) H := by rw [hH]; exact hP
  have hS : va_S Af s.heap H [] := by rw [hH]; exact hS
  obtain ⟨locs, hlo⟩ : ∃ q : List Loc, q = [] := ⟨_, rfl⟩
  rw [← hH, ← hlo]
  rw [← hlo] at hS
  refine lv_aload_n hx hb dX12_isWord_0 rfl (lv_at hl 0 rfl) ?_
  refine va_get (ci := 12) (v := .int (F 6)) (C := RX12) (T := TX12) (N := 57) hx hb hg inX12 hown hK hP 0 atM_0 rfl 8 (by decide) (hg _ mw_1116) (fun _ h9 => h9) rfl dX12_isWord_1 ?_
  refine lv_topi (fun x1 e2 => ?_)
  have r3 : rg x1 0 5 := rg_e e2 (hq.1.1 6)
  refine lv_iconst (v := 3) hx hb dX12_isWord_4 (by decide) ?_
  have J21 : ∀ (H : Heap) (locs : List Loc) (ls : Array Slot), va_P D classes (wM cA ad F L A B) H → va_D Af (wM cA ad F L A B) → va_S Af s.heap H locs → lv_has ls 3 [] → W p l e rm_X12_isWord_0 s m args below meth c H locs 0 0 Q (F0 m 21 ls []) := by
    intro H locs ls hP hD hS hl
    refine lv_iconst (v := 0) hx hb dX12_isWord_21 (by decide) ?_
    exact hret (0) () H locs 22 ls rfl dX12_isWord_22 hP hD hS (rg_k (by decide))
  refine lv_icmp_ne (tgt := 21) hx hb dX12_isWord_5 (by decide) (fun c4 => ?_) (fun c4 => ?_)
  · skip
    exact J21  H locs ls  hP hD hS (lv_sub hl [] rfl)
  · skip
    have r5 : rg x1 3 3 := rg_eq1 c4 (r3 : rg x1 0 5) ((rg_k (by decide)) : rg 3 3 3) (by decide)
    refine lv_aload_n hx hb dX12_isWord_8 rfl (lv_at hl 0 rfl) ?_
    refine va_get (ci := 12) (v := .long (L 0)) (C := RX12) (T := TX12) (N := 57) hx hb hg inX12 hown hK hP 0 atM_0 rfl 10 (by decide) (hg _ mw_1118) (fun _ h9 => h9) rfl dX12_isWord_9 ?_
    refine lv_topl (fun z6 _ => ?_)
    refine lv_lload_n hx hb dX12_isWord_12 rfl (lv_at hl 1 rfl) ?_
    refine W.lcmp hx hb dX12_isWord_13 ?_
    refine lv_topi (fun x7 e8 => ?_)
    refine lv_if_ne (tgt := 21) hx hb dX12_isWord_14 (by decide) (fun c9 => ?_) (fun c9 => ?_)
    · skip
      exact J21  H locs ls  hP hD hS (lv_sub hl [] rfl)
    · skip
      have r10 : rg x7 0 0 := rg_eq1 c9 ((rg_top _) : rg x7 (-2147483648) 2147483647) ((rg_k (by decide)) : rg 0 0 0) (by decide)
      refine lv_iconst (v := 1) hx hb dX12_isWord_17 (by decide) ?_
      refine lv_goto (tgt := 22) hx hb dX12_isWord_18 (by decide) ?_
      exact hret (1) () H locs 22 ls rfl dX12_isWord_22 hP hD hS (rg_k (by decide))
abbrev rm_X12_isFull_0 : Room := { frames := 1, cells := 0, slots := 0, locals := 22 }
set_option maxHeartbeats 4000000 in
set_option maxRecDepth 100000 in
theorem c_X12_isFull_0 (l : Launch) (D : va_G) (cA : Nat → ClassId) (sz : Nat) (ad : Nat → Nat) (F : Nat → Int32) (L : Nat → Int64) (A : Nat → Nat → Int32) (B : Nat → Nat → Int64)  (hT : typM F A) : Met l yX12_isFull (Cond.code yX12_isFull cX12_isFull 1 (some .boolean) :: GW) rm_X12_isFull_0 (mPc D classes (tysM cA) (wM cA ad F L A B) sz [.ref (ad 0)]) (mQi (S := Unit) D classes (tysM cA) (wM cA ad F L A B) sz (fun _ : Unit => wM cA ad F L A B) (fun r u => rg r 0 1)) 0 0 (va_A (wM cA ad F L A B) sz) := by
  refine met_i (own := "ShoeingDayModel") (by decide +kernel) rfl (Nat.le_of_ble_eq_true rfl) ?_
  intro p e s m args below meth c Q Af ls hC hP hD hS hA hl hret
  have hx := hC.1
  have hb := hC.2.1
  have hown := hC.2.2.2.1
  have hg := hC.g
  have hK := hC.K
  have hl : lv_has ls 1 [(0, .ref (ad 0))] := hl
  have hq : qM [] [] F A F A := qM.rf hT
  obtain ⟨H, hH⟩ : ∃ H, H = s.heap := ⟨_, rfl⟩
  have hP : va_P D classes (wM cA ad F L A B) H := by rw [hH]; exact hP
  have hS : va_S Af s.heap H [] := by rw [hH]; exact hS
  obtain ⟨locs, hlo⟩ : ∃ q : List Loc, q = [] := ⟨_, rfl⟩
  rw [← hH, ← hlo]
  rw [← hlo] at hS
  refine lv_aload_n hx hb dX12_isFull_0 rfl (lv_at hl 0 rfl) ?_
  refine lv_ldc2 (v := 495756866664) hx hb hown (hg _ mw_1299) dX12_isFull_1 ?_
  refine callv_i (As := [.long (495756866664 : Int64)]) (rest := []) hC (c_X12_isWord_0 l D cA H.size ad F L A B ((495756866664 : Int64)) hq.1) (cwV 1 hg (g_V mw_1324 mw_1321 mw_1323 ms_53 mw_20) rfl rfl rfl (by decide +kernel) ⟨(Nat.le_of_ble_eq_true rfl), (Nat.le_of_ble_eq_true rfl)⟩) hP hD hS hA atM_0 rfl rfl hl.1 rfl (Nat.le_of_ble_eq_true rfl) dX12_isFull_4 ⟨Nat.zero_le _, Nat.zero_le _⟩ (fun x1 u H locs hw hP hD hS => ?_)
  have r2 := hw
  have hP : va_P D classes (wM cA ad F L A B) H := hP
  have hD : va_D Af (wM cA ad F L A B) := hD
  refine lv_if_eq (tgt := 30) hx hb dX12_isFull_7 (by decide) (fun c3 => ?_) (fun c3 => ?_)
  · skip
    have r4 : rg x1 0 0 := rg_eq1 c3 (r2 : rg x1 0 1) ((rg_k (by decide)) : rg 0 0 0) (by decide)
    refine lv_aload_n hx hb dX12_isFull_30 rfl (lv_at hl 0 rfl) ?_
    refine lv_ldc2 (v := 448546370405) hx hb hown (hg _ mw_1302) dX12_isFull_31 ?_
    refine callv_i (As := [.long (448546370405 : Int64)]) (rest := []) hC (c_X12_isWord_0 l D cA H.size ad F L A B ((448546370405 : Int64)) hq.1) (cwV 1 hg (g_V mw_1324 mw_1321 mw_1323 ms_53 mw_20) rfl rfl rfl (by decide +kernel) ⟨(Nat.le_of_ble_eq_true rfl), (Nat.le_of_ble_eq_true rfl)⟩) hP hD hS hA atM_0 rfl rfl hl.1 rfl (Nat.le_of_ble_eq_true rfl) dX12_isFull_34 ⟨Nat.zero_le _, Nat.zero_le _⟩ (fun x6 u H locs hw hP hD hS => ?_)
    have r7 := hw
    have hP : va_P D classes (wM cA ad F L A B) H := hP
    have hD : va_D Af (wM cA ad F L A B) := hD
    refine lv_if_eq (tgt := 60) hx hb dX12_isFull_37 (by decide) (fun c8 => ?_) (fun c8 => ?_)
    · skip
      have r9 : rg x6 0 0 := rg_eq1 c8 (r7 : rg x6 0 1) ((rg_k (by decide)) : rg 0 0 0) (by decide)
      refine lv_aload_n hx hb dX12_isFull_60 rfl (lv_at hl 0 rfl) ?_
      refine lv_ldc2 (v := 448546566771) hx hb hown (hg _ mw_1303) dX12_isFull_61 ?_
      refine callv_i (As := [.long (448546566771 : Int64)]) (rest := []) hC (c_X12_isWord_0 l D cA H.size ad F L A B ((448546566771 : Int64)) hq.1) (cwV 1 hg (g_V mw_1324 mw_1321 mw_1323 ms_53 mw_20) rfl rfl rfl (by decide +kernel) ⟨(Nat.le_of_ble_eq_true rfl), (Nat.le_of_ble_eq_true rfl)⟩) hP hD hS hA atM_0 rfl rfl hl.1 rfl (Nat.le_of_ble_eq_true rfl) dX12_isFull_64 ⟨Nat.zero_le _, Nat.zero_le _⟩ (fun x11 u H locs hw hP hD hS => ?_)
      have r12 := hw
      have hP : va_P D classes (wM cA ad F L A B) H := hP
      have hD : va_D Af (wM cA ad F L A B) := hD
      refine lv_if_eq (tgt := 90) hx hb dX12_isFull_67 (by decide) (fun c13 => ?_) (fun c13 => ?_)
      · skip
        have r14 : rg x11 0 0 := rg_eq1 c13 (r12 : rg x11 0 1) ((rg_k (by decide)) : rg 0 0 0) (by decide)
        refine lv_aload_n hx hb dX12_isFull_90 rfl (lv_at hl 0 rfl) ?_
        refine lv_ldc2 (v := 465558201459) hx hb hown (hg _ mw_1304) dX12_isFull_91 ?_
        refine callv_i (As := [.long (465558201459 : Int64)]) (rest := []) hC (c_X12_isWord_0 l D cA H.size ad F L A B ((465558201459 : Int64)) hq.1) (cwV 1 hg (g_V mw_1324 mw_1321 mw_1323 ms_53 mw_20) rfl rfl rfl (by decide +kernel) ⟨(Nat.le_of_ble_eq_true rfl), (Nat.le_of_ble_eq_true rfl)⟩) hP hD hS hA atM_0 rfl rfl hl.1 rfl (Nat.le_of_ble_eq_true rfl) dX12_isFull_94 ⟨Nat.zero_le _, Nat.zero_le _⟩ (fun x16 u H locs hw hP hD hS => ?_)
        have r17 := hw
        have hP : va_P D classes (wM cA ad F L A B) H := hP
        have hD : va_D Af (wM cA ad F L A B) := hD
        refine lv_if_eq (tgt := 120) hx hb dX12_isFull_97 (by decide) (fun c18 => ?_) (fun c18 => ?_)
        · skip
          have r19 : rg x16 0 0 := rg_eq1 c18 (r17 : rg x16 0 1) ((rg_k (by decide)) : rg 0 0 0) (by decide)
          refine lv_aload_n hx hb dX12_isFull_120 rfl (lv_at hl 0 rfl) ?_
          refine lv_ldc2 (v := 1818326117) hx hb hown (hg _ mw_1305) dX12_isFull_121 ?_
          refine callv_i (As := [.long (1818326117 : Int64)]) (rest := []) hC (c_X12_isWord_0 l D cA H.size ad F L A B ((1818326117 : Int64)) hq.1) (cwV 1 hg (g_V mw_1324 mw_1321 mw_1323 ms_53 mw_20) rfl rfl rfl (by decide +kernel) ⟨(Nat.le_of_ble_eq_true rfl), (Nat.le_of_ble_eq_true rfl)⟩) hP hD hS hA atM_0 rfl rfl hl.1 rfl (Nat.le_of_ble_eq_true rfl) dX12_isFull_124 ⟨Nat.zero_le _, Nat.zero_le _⟩ (fun x21 u H locs hw hP hD hS => ?_)
          have r22 := hw
          have hP : va_P D classes (wM cA ad F L A B) H := hP
          have hD : va_D Af (wM cA ad F L A B) := hD
          have J142 : ∀ (H : Heap) (locs : List Loc) (ls : Array Slot), va_P D classes (wM cA ad F L A B) H → va_D Af (wM cA ad F L A B) → va_S Af s.heap H locs → lv_has ls 1 [] → W p l e rm_X12_isFull_0 s m args below meth c H locs 0 0 Q (F0 m 142 ls []) := by
            intro H locs ls hP hD hS hl
            refine lv_iconst (v := 1) hx hb dX12_isFull_142 (by decide) ?_
            refine lv_goto (tgt := 147) hx hb dX12_isFull_143 (by decide) ?_
            exact hret (1) () H locs 147 ls rfl dX12_isFull_147 hP hD hS (rg_k (by decide))
          refine lv_if_eq (tgt := 142) hx hb dX12_isFull_127 (by decide) (fun c23 => ?_) (fun c23 => ?_)
          · skip
            have r24 : rg x21 0 0 := rg_eq1 c23 (r22 : rg x21 0 1) ((rg_k (by decide)) : rg 0 0 0) (by decide)
            exact J142  H locs ls  hP hD hS (lv_sub hl [] rfl)
          · skip
            have r25 : rg x21 1 1 := (rg_ne1 c23 (r22 : rg x21 0 1) ((rg_k (by decide)) : rg 0 0 0)).1 rfl
            refine lv_aload_n hx hb dX12_isFull_130 rfl (lv_at hl 0 rfl) ?_
            refine va_get (ci := 12) (v := .ref (ad 13)) (C := RX12) (T := TX12) (N := 57) hx hb hg inX12 hown hK hP 0 atM_0 rfl 21 (by decide) (hg _ mw_1129) (fun _ h9 => h9) rfl dX12_isFull_131 ?_
            refine lv_aload_n hx hb dX12_isFull_134 rfl (lv_at hl 0 rfl) ?_
            refine va_get (ci := 12) (v := .int (F 9)) (C := RX12) (T := TX12) (N := 57) hx hb hg inX12 hown hK hP 0 atM_0 rfl 25 (by decide) (hg _ mw_1133) (fun _ h9 => h9) rfl dX12_isFull_135 ?_
            refine lv_topi (fun x26 e27 => ?_)
            have r28 : rg x26 0 1 := rg_e e27 (hq.1.1 9)
            refine va_zald hx hb hK hP 13 12 atM_13 tyM_13 (in_rg r28 (by decide)) dX12_isFull_138 ?_
            refine lv_topi (fun x29 e30 => ?_)
            have r31 : rg x29 0 1 := rg_e e30 (hq.1.2 13 _)
            refine lv_if_eq (tgt := 146) hx hb dX12_isFull_139 (by decide) (fun c32 => ?_) (fun c32 => ?_)
            · skip
              have r33 : rg x29 0 0 := rg_eq1 c32 (r31 : rg x29 0 1) ((rg_k (by decide)) : rg 0 0 0) (by decide)
              refine lv_iconst (v := 0) hx hb dX12_isFull_146 (by decide) ?_
              exact hret (0) () H locs 147 ls rfl dX12_isFull_147 hP hD hS (rg_k (by decide))
            · skip
              have r34 : rg x29 1 1 := (rg_ne1 c32 (r31 : rg x29 0 1) ((rg_k (by decide)) : rg 0 0 0)).1 rfl
              exact J142  H locs ls  hP hD hS (lv_sub hl [] rfl)
        · skip
          have r20 : rg x16 1 1 := (rg_ne1 c18 (r17 : rg x16 0 1) ((rg_k (by decide)) : rg 0 0 0)).1 rfl
          refine lv_aload_n hx hb dX12_isFull_100 rfl (lv_at hl 0 rfl) ?_
          refine va_get (ci := 12) (v := .ref (ad 6)) (C := RX12) (T := TX12) (N := 57) hx hb hg inX12 hown hK hP 0 atM_0 rfl 14 (by decide) (hg _ mw_1122) (fun _ h9 => h9) rfl dX12_isFull_101 ?_
          refine lv_aload_n hx hb dX12_isFull_104 rfl (lv_at hl 0 rfl) ?_
          refine va_get (ci := 12) (v := .int (F 9)) (C := RX12) (T := TX12) (N := 57) hx hb hg inX12 hown hK hP 0 atM_0 rfl 25 (by decide) (hg _ mw_1133) (fun _ h9 => h9) rfl dX12_isFull_105 ?_
          refine lv_topi (fun x35 e36 => ?_)
          have r37 : rg x35 0 1 := rg_e e36 (hq.1.1 9)
          refine va_iald hx hb hK hP 6 5 atM_6 tyM_6 (in_rg r37 (by decide)) dX12_isFull_108 ?_
          refine lv_topi (fun x38 e39 => ?_)
          refine lv_bipush (v := 20) hx hb dX12_isFull_109 (by decide) ?_
          refine lv_icmp_ne (tgt := 118) hx hb dX12_isFull_111 (by decide) (fun c40 => ?_) (fun c40 => ?_)
          · skip
            refine lv_iconst (v := 0) hx hb dX12_isFull_118 (by decide) ?_
            exact hret (0) () H locs 119 ls rfl dX12_isFull_119 hP hD hS (rg_k (by decide))
          · skip
            have r41 : rg x38 20 20 := rg_eq1 c40 ((rg_top _) : rg x38 (-2147483648) 2147483647) ((rg_k (by decide)) : rg 20 20 20) (by decide)
            refine lv_iconst (v := 1) hx hb dX12_isFull_114 (by decide) ?_
            refine lv_goto (tgt := 119) hx hb dX12_isFull_115 (by decide) ?_
            exact hret (1) () H locs 119 ls rfl dX12_isFull_119 hP hD hS (rg_k (by decide))
      · skip
        have r15 : rg x11 1 1 := (rg_ne1 c13 (r12 : rg x11 0 1) ((rg_k (by decide)) : rg 0 0 0)).1 rfl
        refine lv_aload_n hx hb dX12_isFull_70 rfl (lv_at hl 0 rfl) ?_
        refine va_get (ci := 12) (v := .ref (ad 5)) (C := RX12) (T := TX12) (N := 57) hx hb hg inX12 hown hK hP 0 atM_0 rfl 13 (by decide) (hg _ mw_1121) (fun _ h9 => h9) rfl dX12_isFull_71 ?_
        refine lv_aload_n hx hb dX12_isFull_74 rfl (lv_at hl 0 rfl) ?_
        refine va_get (ci := 12) (v := .int (F 9)) (C := RX12) (T := TX12) (N := 57) hx hb hg inX12 hown hK hP 0 atM_0 rfl 25 (by decide) (hg _ mw_1133) (fun _ h9 => h9) rfl dX12_isFull_75 ?_
        refine lv_topi (fun x42 e43 => ?_)
        have r44 : rg x42 0 1 := rg_e e43 (hq.1.1 9)
        refine va_iald hx hb hK hP 5 4 atM_5 tyM_5 (in_rg r44 (by decide)) dX12_isFull_78 ?_
        refine lv_topi (fun x45 e46 => ?_)
        refine lv_bipush (v := 60) hx hb dX12_isFull_79 (by decide) ?_
        refine lv_icmp_ne (tgt := 88) hx hb dX12_isFull_81 (by decide) (fun c47 => ?_) (fun c47 => ?_)
        · skip
          refine lv_iconst (v := 0) hx hb dX12_isFull_88 (by decide) ?_
          exact hret (0) () H locs 89 ls rfl dX12_isFull_89 hP hD hS (rg_k (by decide))
        · skip
          have r48 : rg x45 60 60 := rg_eq1 c47 ((rg_top _) : rg x45 (-2147483648) 2147483647) ((rg_k (by decide)) : rg 60 60 60) (by decide)
          refine lv_iconst (v := 1) hx hb dX12_isFull_84 (by decide) ?_
          refine lv_goto (tgt := 89) hx hb dX12_isFull_85 (by decide) ?_
          exact hret (1) () H locs 89 ls rfl dX12_isFull_89 hP hD hS (rg_k (by decide))
    · skip
      have r10 : rg x6 1 1 := (rg_ne1 c8 (r7 : rg x6 0 1) ((rg_k (by decide)) : rg 0 0 0)).1 rfl
      refine lv_aload_n hx hb dX12_isFull_40 rfl (lv_at hl 0 rfl) ?_
      refine va_get (ci := 12) (v := .ref (ad 4)) (C := RX12) (T := TX12) (N := 57) hx hb hg inX12 hown hK hP 0 atM_0 rfl 12 (by decide) (hg _ mw_1120) (fun _ h9 => h9) rfl dX12_isFull_41 ?_
      refine lv_aload_n hx hb dX12_isFull_44 rfl (lv_at hl 0 rfl) ?_
      refine va_get (ci := 12) (v := .int (F 9)) (C := RX12) (T := TX12) (N := 57) hx hb hg inX12 hown hK hP 0 atM_0 rfl 25 (by decide) (hg _ mw_1133) (fun _ h9 => h9) rfl dX12_isFull_45 ?_
      refine lv_topi (fun x49 e50 => ?_)
      have r51 : rg x49 0 1 := rg_e e50 (hq.1.1 9)
      refine va_iald hx hb hK hP 4 3 atM_4 tyM_4 (in_rg r51 (by decide)) dX12_isFull_48 ?_
      refine lv_topi (fun x52 e53 => ?_)
      have r54 : rg x52 0 10 := rg_e e53 (hq.1.2 4 _)
      refine lv_bipush (v := 10) hx hb dX12_isFull_49 (by decide) ?_
      refine lv_icmp_ne (tgt := 58) hx hb dX12_isFull_51 (by decide) (fun c55 => ?_) (fun c55 => ?_)
      · skip
        have r56 : rg x52 0 9 := (rg_ne1 c55 (r54 : rg x52 0 10) ((rg_k (by decide)) : rg 10 10 10)).2 rfl
        refine lv_iconst (v := 0) hx hb dX12_isFull_58 (by decide) ?_
        exact hret (0) () H locs 59 ls rfl dX12_isFull_59 hP hD hS (rg_k (by decide))
      · skip
        have r57 : rg x52 10 10 := rg_eq1 c55 (r54 : rg x52 0 10) ((rg_k (by decide)) : rg 10 10 10) (by decide)
        refine lv_iconst (v := 1) hx hb dX12_isFull_54 (by decide) ?_
        refine lv_goto (tgt := 59) hx hb dX12_isFull_55 (by decide) ?_
        exact hret (1) () H locs 59 ls rfl dX12_isFull_59 hP hD hS (rg_k (by decide))
  · skip
    have r5 : rg x1 1 1 := (rg_ne1 c3 (r2 : rg x1 0 1) ((rg_k (by decide)) : rg 0 0 0)).1 rfl
    refine lv_aload_n hx hb dX12_isFull_10 rfl (lv_at hl 0 rfl) ?_
    refine va_get (ci := 12) (v := .ref (ad 3)) (C := RX12) (T := TX12) (N := 57) hx hb hg inX12 hown hK hP 0 atM_0 rfl 11 (by decide) (hg _ mw_1119) (fun _ h9 => h9) rfl dX12_isFull_11 ?_
    refine lv_aload_n hx hb dX12_isFull_14 rfl (lv_at hl 0 rfl) ?_
    refine va_get (ci := 12) (v := .int (F 9)) (C := RX12) (T := TX12) (N := 57) hx hb hg inX12 hown hK hP 0 atM_0 rfl 25 (by decide) (hg _ mw_1133) (fun _ h9 => h9) rfl dX12_isFull_15 ?_
    refine lv_topi (fun x58 e59 => ?_)
    have r60 : rg x58 0 1 := rg_e e59 (hq.1.1 9)
    refine va_iald hx hb hK hP 3 2 atM_3 tyM_3 (in_rg r60 (by decide)) dX12_isFull_18 ?_
    refine lv_topi (fun x61 e62 => ?_)
    have r63 : rg x61 0 8 := rg_e e62 (hq.1.2 3 _)
    refine lv_bipush (v := 8) hx hb dX12_isFull_19 (by decide) ?_
    refine lv_icmp_ne (tgt := 28) hx hb dX12_isFull_21 (by decide) (fun c64 => ?_) (fun c64 => ?_)
    · skip
      have r65 : rg x61 0 7 := (rg_ne1 c64 (r63 : rg x61 0 8) ((rg_k (by decide)) : rg 8 8 8)).2 rfl
      refine lv_iconst (v := 0) hx hb dX12_isFull_28 (by decide) ?_
      exact hret (0) () H locs 29 ls rfl dX12_isFull_29 hP hD hS (rg_k (by decide))
    · skip
      have r66 : rg x61 8 8 := rg_eq1 c64 (r63 : rg x61 0 8) ((rg_k (by decide)) : rg 8 8 8) (by decide)
      refine lv_iconst (v := 1) hx hb dX12_isFull_24 (by decide) ?_
      refine lv_goto (tgt := 29) hx hb dX12_isFull_25 (by decide) ?_
      exact hret (1) () H locs 29 ls rfl dX12_isFull_29 hP hD hS (rg_k (by decide))
abbrev rm_X12_fails_0 : Room := { frames := 0, cells := 0, slots := 0, locals := 0 }
set_option maxHeartbeats 4000000 in
set_option maxRecDepth 100000 in
theorem c_X12_fails_0 (l : Launch) (D : va_G) (cA : Nat → ClassId) (sz : Nat) (ad : Nat → Nat) (F : Nat → Int32) (L : Nat → Int64) (A : Nat → Nat → Int32) (B : Nat → Nat → Int64) (p1 : Int32) (p2 : Int32) (hT : typM F A) (hp1 : rg p1 1 6) (hp2 : rg p2 0 1700) : Met l yX12_fails (Cond.code yX12_fails cX12_fails 3 none :: GW) rm_X12_fails_0 (mPc D classes (tysM cA) (wM cA ad F L A B) sz [.ref (ad 0), .int p1, .int p2]) (mQv (S := SW) D classes (tysM cA) (wM cA ad F L A B) sz (wfM cA ad) (fun u => qM [2, 3] [] F A u.1 u.2.2.1)) 0 0 (va_A (wM cA ad F L A B) sz) := by
  refine met_v (own := "ShoeingDayModel") (by decide +kernel) rfl (Nat.le_of_ble_eq_true rfl) ?_
  intro p e s m args below meth c Q Af ls hC hP hD hS hA hl hret
  have hx := hC.1
  have hb := hC.2.1
  have hown := hC.2.2.2.1
  have hg := hC.g
  have hK := hC.K
  have hl : lv_has ls 3 [(0, .ref (ad 0)), (1, .int p1), (2, .int p2)] := hl
  have hq : qM [2, 3] [] F A F A := qM.rf hT
  obtain ⟨H, hH⟩ : ∃ H, H = s.heap := ⟨_, rfl⟩
  have hP : va_P D classes (wM cA ad F L A B) H := by rw [hH]; exact hP
  have hS : va_S Af s.heap H [] := by rw [hH]; exact hS
  obtain ⟨locs, hlo⟩ : ∃ q : List Loc, q = [] := ⟨_, rfl⟩
  rw [← hH, ← hlo]
  rw [← hlo] at hS
  refine lv_aload_n hx hb dX12_fails_0 rfl (lv_at hl 0 rfl) ?_
  refine va_get (ci := 12) (v := .int (F 2)) (C := RX12) (T := TX12) (N := 57) hx hb hg inX12 hown hK hP 0 atM_0 rfl 4 (by decide) (hg _ mw_1112) (fun _ h9 => h9) rfl dX12_fails_1 ?_
  refine lv_topi (fun x1 e2 => ?_)
  refine lv_if_le (tgt := 8) hx hb dX12_fails_4 (by decide) (fun c3 => ?_) (fun c3 => ?_)
  · skip
    have r4 : rg x1 (-2147483648) 0 := rg_le1 (iE c3) ((rg_top _) : rg x1 (-2147483648) 2147483647) ((rg_k (by decide)) : rg 0 0 0)
    refine lv_aload_n hx hb dX12_fails_8 rfl (lv_at hl 0 rfl) ?_
    refine lv_iload_n hx hb dX12_fails_9 rfl (lv_at hl 1 rfl) ?_
    refine va_put (ci := 12) (v := .int p1) (ty := .int) (C := RX12) (T := TX12) (N := 57) hx hb hg inX12 tyX12 tyX12_ok nmX12 hown hK hP hD hS 0 atM_0 rfl 4 (by decide) (hg _ mw_1112) (fun _ h9 => h9) rfl (by decide +kernel) rfl rfl (Nat.le_of_ble_eq_true rfl) dX12_fails_10 (fun H locs hP hD hS => ?_)
    have hq := hq.put 2 (x := p1) (by decide) (rg_top _)
    rw [setFM_2] at hP hD
    refine lv_aload_n hx hb dX12_fails_13 rfl (lv_at hl 0 rfl) ?_
    refine lv_iload_n hx hb dX12_fails_14 rfl (lv_at hl 2 rfl) ?_
    refine va_put (ci := 12) (v := .int p2) (ty := .int) (C := RX12) (T := TX12) (N := 57) hx hb hg inX12 tyX12 tyX12_ok nmX12 hown hK hP hD hS 0 atM_0 rfl 5 (by decide) (hg _ mw_1113) (fun _ h9 => h9) rfl (by decide +kernel) rfl rfl (Nat.le_of_ble_eq_true rfl) dX12_fails_15 (fun H locs hP hD hS => ?_)
    have hq := hq.put 3 (x := p2) (by decide) (rg_top _)
    rw [setFM_3] at hP hD
    exact hret ((upd (upd F 2 p1) 3 p2), L, A, B) H locs 18 ls dX12_fails_18 hP hD hS hq
  · skip
    have r5 : rg x1 1 2147483647 := rg_lt2 (iNE c3) ((rg_k (by decide)) : rg 0 0 0) ((rg_top _) : rg x1 (-2147483648) 2147483647)
    exact hret (F, L, A, B) H locs 7 ls dX12_fails_7 hP hD hS hq
abbrev rm_X12_misplaced_0 : Room := { frames := 1, cells := 0, slots := 0, locals := 22 }
set_option maxHeartbeats 4000000 in
set_option maxRecDepth 100000 in
theorem c_X12_misplaced_0 (l : Launch) (D : va_G) (cA : Nat → ClassId) (sz : Nat) (ad : Nat → Nat) (F : Nat → Int32) (L : Nat → Int64) (A : Nat → Nat → Int32) (B : Nat → Nat → Int64)  (hT : typM F A) : Met l yX12_misplaced (Cond.code yX12_misplaced cX12_misplaced 1 none :: GW) rm_X12_misplaced_0 (mPc D classes (tysM cA) (wM cA ad F L A B) sz [.ref (ad 0)]) (mQv (S := SW) D classes (tysM cA) (wM cA ad F L A B) sz (wfM cA ad) (fun u => qM [2, 3] [] F A u.1 u.2.2.1)) 0 0 (va_A (wM cA ad F L A B) sz) := by
  refine met_v (own := "ShoeingDayModel") (by decide +kernel) rfl (Nat.le_of_ble_eq_true rfl) ?_
  intro p e s m args below meth c Q Af ls hC hP hD hS hA hl hret
  have hx := hC.1
  have hb := hC.2.1
  have hown := hC.2.2.2.1
  have hg := hC.g
  have hK := hC.K
  have hl : lv_has ls 1 [(0, .ref (ad 0))] := hl
  have hq : qM [2, 3] [] F A F A := qM.rf hT
  obtain ⟨H, hH⟩ : ∃ H, H = s.heap := ⟨_, rfl⟩
  have hP : va_P D classes (wM cA ad F L A B) H := by rw [hH]; exact hP
  have hS : va_S Af s.heap H [] := by rw [hH]; exact hS
  obtain ⟨locs, hlo⟩ : ∃ q : List Loc, q = [] := ⟨_, rfl⟩
  rw [← hH, ← hlo]
  rw [← hlo] at hS
  refine lv_aload_n hx hb dX12_misplaced_0 rfl (lv_at hl 0 rfl) ?_
  refine lv_aload_n hx hb dX12_misplaced_1 rfl (lv_at hl 0 rfl) ?_
  refine va_get (ci := 12) (v := .int (F 6)) (C := RX12) (T := TX12) (N := 57) hx hb hg inX12 hown hK hP 0 atM_0 rfl 8 (by decide) (hg _ mw_1116) (fun _ h9 => h9) rfl dX12_misplaced_2 ?_
  refine lv_topi (fun x1 e2 => ?_)
  have r3 : rg x1 0 5 := rg_e e2 (hq.1.1 6)
  refine lv_iconst (v := 1) hx hb dX12_misplaced_5 (by decide) ?_
  have J14 : ∀ (a4 : Int32) (F6 : Nat → Int32) (L6 : Nat → Int64) (A6 : Nat → Nat → Int32) (B6 : Nat → Nat → Int64) (H : Heap) (locs : List Loc) (ls : Array Slot), rg a4 1 2 → qM [2, 3] [] F A F6 A6 → va_P D classes (wM cA ad F6 L6 A6 B6) H → va_D Af (wM cA ad F6 L6 A6 B6) → va_S Af s.heap H locs → lv_has ls 1 [(0, .ref (ad 0))] → W p l e rm_X12_misplaced_0 s m args below meth c H locs 0 0 Q (F0 m 14 ls [.int a4, .ref (ad 0)]) := by
    intro a4 F6 L6 A6 B6 H locs ls r5 hq hP hD hS hl
    refine lv_aload_n hx hb dX12_misplaced_14 rfl (lv_at hl 0 rfl) ?_
    refine va_get (ci := 12) (v := .int (F6 4)) (C := RX12) (T := TX12) (N := 57) hx hb hg inX12 hown hK hP 0 atM_0 rfl 6 (by decide) (hg _ mw_1114) (fun _ h9 => h9) rfl dX12_misplaced_15 ?_
    refine lv_topi (fun x7 e8 => ?_)
    have r9 : rg x7 0 1700 := rg_e e8 (hq.1.1 4)
    refine callv_v (As := [.int a4, .int x7]) (rest := []) hC (c_X12_fails_0 l D cA H.size ad F6 L6 A6 B6 (a4) (x7) hq.1 (rg_w r5 (by decide)) r9) (cwV 2 hg (g_V mw_1332 mw_1329 mw_1331 ms_55 mw_20) rfl rfl rfl (by decide +kernel) ⟨(Nat.le_of_ble_eq_true rfl), (Nat.le_of_ble_eq_true rfl)⟩) hP hD hS hA atM_0 rfl rfl hl.1 rfl (Nat.le_of_ble_eq_true rfl) dX12_misplaced_18 ⟨Nat.zero_le _, Nat.zero_le _⟩ (fun  u H locs hw hP hD hS => ?_)
    obtain ⟨F10, L10, A10, B10⟩ := u
    have hq10 := hw
    have hq := hq.call hq10 (by decide)
    have hP : va_P D classes (wM cA ad F10 L10 A10 B10) H := hP
    have hD : va_D Af (wM cA ad F10 L10 A10 B10) := hD
    exact hret (F10, L10, A10, B10) H locs 21 ls dX12_misplaced_21 hP hD hS hq
  refine lv_icmp_ne (tgt := 13) hx hb dX12_misplaced_6 (by decide) (fun c11 => ?_) (fun c11 => ?_)
  · skip
    refine lv_iconst (v := 2) hx hb dX12_misplaced_13 (by decide) ?_
    exact J14 (2) (F) (L) (A) (B) H locs ls (rg_k (by decide)) hq hP hD hS (lv_sub hl [0] rfl)
  · skip
    have r12 : rg x1 1 1 := rg_eq1 c11 (r3 : rg x1 0 5) ((rg_k (by decide)) : rg 1 1 1) (by decide)
    refine lv_iconst (v := 1) hx hb dX12_misplaced_9 (by decide) ?_
    refine lv_goto (tgt := 14) hx hb dX12_misplaced_10 (by decide) ?_
    exact J14 (1) (F) (L) (A) (B) H locs ls (rg_k (by decide)) hq hP hD hS (lv_sub hl [0] rfl)
abbrev rm_X12_must_0 : Room := { frames := 2, cells := 0, slots := 0, locals := 43 }
set_option maxHeartbeats 4000000 in
set_option maxRecDepth 100000 in
theorem c_X12_must_0 (l : Launch) (D : va_G) (cA : Nat → ClassId) (sz : Nat) (ad : Nat → Nat) (F : Nat → Int32) (L : Nat → Int64) (A : Nat → Nat → Int32) (B : Nat → Nat → Int64) (p1 : Int32) (hT : typM F A) (hp1 : rg p1 0 1) : Met l yX12_must (Cond.code yX12_must cX12_must 2 none :: GW) rm_X12_must_0 (mPc D classes (tysM cA) (wM cA ad F L A B) sz [.ref (ad 0), .int p1]) (mQv (S := SW) D classes (tysM cA) (wM cA ad F L A B) sz (wfM cA ad) (fun u => qM [2, 3, 4, 5, 6, 7] [] F A u.1 u.2.2.1)) 0 0 (va_A (wM cA ad F L A B) sz) := by
  refine met_v (own := "ShoeingDayModel") (by decide +kernel) rfl (Nat.le_of_ble_eq_true rfl) ?_
  intro p e s m args below meth c Q Af ls hC hP hD hS hA hl hret
  have hx := hC.1
  have hb := hC.2.1
  have hown := hC.2.2.2.1
  have hg := hC.g
  have hK := hC.K
  have hl : lv_has ls 2 [(0, .ref (ad 0)), (1, .int p1)] := hl
  have hq : qM [2, 3, 4, 5, 6, 7] [] F A F A := qM.rf hT
  obtain ⟨H, hH⟩ : ∃ H, H = s.heap := ⟨_, rfl⟩
  have hP : va_P D classes (wM cA ad F L A B) H := by rw [hH]; exact hP
  have hS : va_S Af s.heap H [] := by rw [hH]; exact hS
  obtain ⟨locs, hlo⟩ : ∃ q : List Loc, q = [] := ⟨_, rfl⟩
  rw [← hH, ← hlo]
  rw [← hlo] at hS
  refine lv_aload_n hx hb dX12_must_0 rfl (lv_at hl 0 rfl) ?_
  refine callv_i (As := []) (rest := []) hC (c_X12_isGood_0 l D cA H.size ad F L A B  hq.1) (cwV 0 hg (g_V mw_1312 mw_1309 mw_1311 ms_50 mw_20) rfl rfl rfl (by decide +kernel) ⟨(Nat.le_of_ble_eq_true rfl), (Nat.le_of_ble_eq_true rfl)⟩) hP hD hS hA atM_0 rfl rfl hl.1 rfl (Nat.le_of_ble_eq_true rfl) dX12_must_1 ⟨Nat.zero_le _, Nat.zero_le _⟩ (fun x1 u H locs hw hP hD hS => ?_)
  have r2 := hw
  have hP : va_P D classes (wM cA ad F L A B) H := hP
  have hD : va_D Af (wM cA ad F L A B) := hD
  refine lv_if_ne (tgt := 8) hx hb dX12_must_4 (by decide) (fun c3 => ?_) (fun c3 => ?_)
  · skip
    have r4 : rg x1 1 1 := (rg_ne1 c3 (r2 : rg x1 0 1) ((rg_k (by decide)) : rg 0 0 0)).1 rfl
    refine lv_iload_n hx hb dX12_must_8 rfl (lv_at hl 1 rfl) ?_
    refine lv_if_eq (tgt := 19) hx hb dX12_must_9 (by decide) (fun c6 => ?_) (fun c6 => ?_)
    · skip
      have r7 : rg p1 0 0 := rg_eq1 c6 (hp1 : rg p1 0 1) ((rg_k (by decide)) : rg 0 0 0) (by decide)
      refine lv_aload_n hx hb dX12_must_19 rfl (lv_at hl 0 rfl) ?_
      refine callv_v (As := []) (rest := []) hC (c_X12_misplaced_0 l D cA H.size ad F L A B  hq.1) (cwV 0 hg (g_V mw_1328 mw_1325 mw_1327 ms_54 mw_20) rfl rfl rfl (by decide +kernel) ⟨(Nat.le_of_ble_eq_true rfl), (Nat.le_of_ble_eq_true rfl)⟩) hP hD hS hA atM_0 rfl rfl hl.1 rfl (Nat.le_of_ble_eq_true rfl) dX12_must_20 ⟨Nat.zero_le _, Nat.zero_le _⟩ (fun  u H locs hw hP hD hS => ?_)
      obtain ⟨F9, L9, A9, B9⟩ := u
      have hq9 := hw
      have hq := hq.call hq9 (by decide)
      have hP : va_P D classes (wM cA ad F9 L9 A9 B9) H := hP
      have hD : va_D Af (wM cA ad F9 L9 A9 B9) := hD
      exact hret (F9, L9, A9, B9) H locs 23 ls dX12_must_23 hP hD hS hq
    · skip
      have r8 : rg p1 1 1 := (rg_ne1 c6 (hp1 : rg p1 0 1) ((rg_k (by decide)) : rg 0 0 0)).1 rfl
      refine lv_aload_n hx hb dX12_must_12 rfl (lv_at hl 0 rfl) ?_
      refine callv_v (As := []) (rest := []) hC (c_X12_goOn_0 l D cA H.size ad F L A B  hq.1) (cwV 0 hg (g_V mw_1288 mw_1285 mw_1287 ms_48 mw_20) rfl rfl rfl (by decide +kernel) ⟨(Nat.le_of_ble_eq_true rfl), (Nat.le_of_ble_eq_true rfl)⟩) hP hD hS hA atM_0 rfl rfl hl.1 rfl (Nat.le_of_ble_eq_true rfl) dX12_must_13 ⟨Nat.zero_le _, Nat.zero_le _⟩ (fun  u H locs hw hP hD hS => ?_)
      obtain ⟨F10, L10, A10, B10⟩ := u
      have hq10 := hw
      have hq := hq.call hq10 (by decide)
      have hP : va_P D classes (wM cA ad F10 L10 A10 B10) H := hP
      have hD : va_D Af (wM cA ad F10 L10 A10 B10) := hD
      refine lv_goto (tgt := 23) hx hb dX12_must_16 (by decide) ?_
      exact hret (F10, L10, A10, B10) H locs 23 ls dX12_must_23 hP hD hS hq
  · skip
    have r5 : rg x1 0 0 := rg_eq1 c3 (r2 : rg x1 0 1) ((rg_k (by decide)) : rg 0 0 0) (by decide)
    exact hret (F, L, A, B) H locs 7 ls dX12_must_7 hP hD hS hq
abbrev rm_X12_numeral_0 : Room := { frames := 2, cells := 0, slots := 0, locals := 43 }
set_option maxHeartbeats 4000000 in
set_option maxRecDepth 100000 in
theorem c_X12_numeral_0 (l : Launch) (D : va_G) (cA : Nat → ClassId) (sz : Nat) (ad : Nat → Nat) (F : Nat → Int32) (L : Nat → Int64) (A : Nat → Nat → Int32) (B : Nat → Nat → Int64) (p1 : Int32) (p2 : Int32) (hT : typM F A) (hp1 : rg p1 0 0) (hp2 : rg p2 99 9999) : Met l yX12_numeral (Cond.code yX12_numeral cX12_numeral 4 (some .int) :: GW) rm_X12_numeral_0 (mPc D classes (tysM cA) (wM cA ad F L A B) sz [.ref (ad 0), .int p1, .int p2]) (mQi (S := SW) D classes (tysM cA) (wM cA ad F L A B) sz (wfM cA ad) (fun r u => qM [2, 3, 4, 5, 6, 7] [] F A u.1 u.2.2.1)) 0 0 (va_A (wM cA ad F L A B) sz) := by
  refine met_i (own := "ShoeingDayModel") (by decide +kernel) rfl (Nat.le_of_ble_eq_true rfl) ?_
  intro p e s m args below meth c Q Af ls hC hP hD hS hA hl hret
  have hx := hC.1
  have hb := hC.2.1
  have hown := hC.2.2.2.1
  have hg := hC.g
  have hK := hC.K
  have hl : lv_has ls 4 [(0, .ref (ad 0)), (1, .int p1), (2, .int p2)] := hl
  have hq : qM [2, 3, 4, 5, 6, 7] [] F A F A := qM.rf hT
  obtain ⟨H, hH⟩ : ∃ H, H = s.heap := ⟨_, rfl⟩
  have hP : va_P D classes (wM cA ad F L A B) H := by rw [hH]; exact hP
  have hS : va_S Af s.heap H [] := by rw [hH]; exact hS
  obtain ⟨locs, hlo⟩ : ∃ q : List Loc, q = [] := ⟨_, rfl⟩
  rw [← hH, ← hlo]
  rw [← hlo] at hS
  refine lv_aload_n hx hb dX12_numeral_0 rfl (lv_at hl 0 rfl) ?_
  refine callv_i (As := []) (rest := []) hC (c_X12_isGood_0 l D cA H.size ad F L A B  hq.1) (cwV 0 hg (g_V mw_1312 mw_1309 mw_1311 ms_50 mw_20) rfl rfl rfl (by decide +kernel) ⟨(Nat.le_of_ble_eq_true rfl), (Nat.le_of_ble_eq_true rfl)⟩) hP hD hS hA atM_0 rfl rfl hl.1 rfl (Nat.le_of_ble_eq_true rfl) dX12_numeral_1 ⟨Nat.zero_le _, Nat.zero_le _⟩ (fun x1 u H locs hw hP hD hS => ?_)
  have r2 := hw
  have hP : va_P D classes (wM cA ad F L A B) H := hP
  have hD : va_D Af (wM cA ad F L A B) := hD
  refine lv_if_ne (tgt := 9) hx hb dX12_numeral_4 (by decide) (fun c3 => ?_) (fun c3 => ?_)
  · skip
    have r4 : rg x1 1 1 := (rg_ne1 c3 (r2 : rg x1 0 1) ((rg_k (by decide)) : rg 0 0 0)).1 rfl
    refine lv_aload_n hx hb dX12_numeral_9 rfl (lv_at hl 0 rfl) ?_
    refine va_get (ci := 12) (v := .int (F 6)) (C := RX12) (T := TX12) (N := 57) hx hb hg inX12 hown hK hP 0 atM_0 rfl 8 (by decide) (hg _ mw_1116) (fun _ h9 => h9) rfl dX12_numeral_10 ?_
    refine lv_topi (fun x6 e7 => ?_)
    have r8 : rg x6 0 5 := rg_e e7 (hq.1.1 6)
    refine lv_iconst (v := 4) hx hb dX12_numeral_13 (by decide) ?_
    have J21 : ∀ (F9 : Nat → Int32) (L9 : Nat → Int64) (A9 : Nat → Nat → Int32) (B9 : Nat → Nat → Int64) (H : Heap) (locs : List Loc) (ls : Array Slot), qM [2, 3, 4, 5, 6, 7] [] F A F9 A9 → va_P D classes (wM cA ad F9 L9 A9 B9) H → va_D Af (wM cA ad F9 L9 A9 B9) → va_S Af s.heap H locs → lv_has ls 4 [(0, .ref (ad 0)), (1, .int p1), (2, .int p2)] → W p l e rm_X12_numeral_0 s m args below meth c H locs 0 0 Q (F0 m 21 ls []) := by
      intro F9 L9 A9 B9 H locs ls hq hP hD hS hl
      refine lv_aload_n hx hb dX12_numeral_21 rfl (lv_at hl 0 rfl) ?_
      refine callv_i (As := []) (rest := []) hC (c_X12_isGood_0 l D cA H.size ad F9 L9 A9 B9  hq.1) (cwV 0 hg (g_V mw_1312 mw_1309 mw_1311 ms_50 mw_20) rfl rfl rfl (by decide +kernel) ⟨(Nat.le_of_ble_eq_true rfl), (Nat.le_of_ble_eq_true rfl)⟩) hP hD hS hA atM_0 rfl rfl hl.1 rfl (Nat.le_of_ble_eq_true rfl) dX12_numeral_22 ⟨Nat.zero_le _, Nat.zero_le _⟩ (fun x10 u H locs hw hP hD hS => ?_)
      have r11 := hw
      have hP : va_P D classes (wM cA ad F9 L9 A9 B9) H := hP
      have hD : va_D Af (wM cA ad F9 L9 A9 B9) := hD
      have J53 : ∀ (F12 : Nat → Int32) (L12 : Nat → Int64) (A12 : Nat → Nat → Int32) (B12 : Nat → Nat → Int64) (H : Heap) (locs : List Loc) (ls : Array Slot), qM [2, 3, 4, 5, 6, 7] [] F A F12 A12 → va_P D classes (wM cA ad F12 L12 A12 B12) H → va_D Af (wM cA ad F12 L12 A12 B12) → va_S Af s.heap H locs → lv_has ls 4 [(0, .ref (ad 0)), (1, .int p1)] → W p l e rm_X12_numeral_0 s m args below meth c H locs 0 0 Q (F0 m 53 ls []) := by
        intro F12 L12 A12 B12 H locs ls hq hP hD hS hl
        refine lv_aload_n hx hb dX12_numeral_53 rfl (lv_at hl 0 rfl) ?_
        refine va_get (ci := 12) (v := .int (F12 7)) (C := RX12) (T := TX12) (N := 57) hx hb hg inX12 hown hK hP 0 atM_0 rfl 9 (by decide) (hg _ mw_1117) (fun _ h9 => h9) rfl dX12_numeral_54 ?_
        refine lv_topi (fun x13 e14 => ?_)
        refine lv_istore_n (lv' := [(3, .int x13), (0, .ref (ad 0)), (1, .int p1)]) hx hb dX12_numeral_57 rfl hl (by decide) rfl (fun ls hl => ?_)
        refine lv_aload_n hx hb dX12_numeral_58 rfl (lv_at hl 1 rfl) ?_
        refine callv_i (As := []) (rest := []) hC (c_X12_isGood_0 l D cA H.size ad F12 L12 A12 B12  hq.1) (cwV 0 hg (g_V mw_1312 mw_1309 mw_1311 ms_50 mw_20) rfl rfl rfl (by decide +kernel) ⟨(Nat.le_of_ble_eq_true rfl), (Nat.le_of_ble_eq_true rfl)⟩) hP hD hS hA atM_0 rfl rfl hl.1 rfl (Nat.le_of_ble_eq_true rfl) dX12_numeral_59 ⟨Nat.zero_le _, Nat.zero_le _⟩ (fun x15 u H locs hw hP hD hS => ?_)
        have r16 := hw
        have hP : va_P D classes (wM cA ad F12 L12 A12 B12) H := hP
        have hD : va_D Af (wM cA ad F12 L12 A12 B12) := hD
        have J69 : ∀ (F17 : Nat → Int32) (L17 : Nat → Int64) (A17 : Nat → Nat → Int32) (B17 : Nat → Nat → Int64) (H : Heap) (locs : List Loc) (ls : Array Slot), qM [2, 3, 4, 5, 6, 7] [] F A F17 A17 → va_P D classes (wM cA ad F17 L17 A17 B17) H → va_D Af (wM cA ad F17 L17 A17 B17) → va_S Af s.heap H locs → lv_has ls 4 [(0, .ref (ad 0)), (1, .int p1), (3, .int x13)] → W p l e rm_X12_numeral_0 s m args below meth c H locs 0 0 Q (F0 m 69 ls []) := by
          intro F17 L17 A17 B17 H locs ls hq hP hD hS hl
          refine lv_aload_n hx hb dX12_numeral_69 rfl (lv_at hl 0 rfl) ?_
          refine callv_i (As := []) (rest := []) hC (c_X12_isGood_0 l D cA H.size ad F17 L17 A17 B17  hq.1) (cwV 0 hg (g_V mw_1312 mw_1309 mw_1311 ms_50 mw_20) rfl rfl rfl (by decide +kernel) ⟨(Nat.le_of_ble_eq_true rfl), (Nat.le_of_ble_eq_true rfl)⟩) hP hD hS hA atM_0 rfl rfl hl.1 rfl (Nat.le_of_ble_eq_true rfl) dX12_numeral_70 ⟨Nat.zero_le _, Nat.zero_le _⟩ (fun x18 u H locs hw hP hD hS => ?_)
          have r19 := hw
          have hP : va_P D classes (wM cA ad F17 L17 A17 B17) H := hP
          have hD : va_D Af (wM cA ad F17 L17 A17 B17) := hD
          refine lv_if_eq (tgt := 80) hx hb dX12_numeral_73 (by decide) (fun c20 => ?_) (fun c20 => ?_)
          · skip
            have r21 : rg x18 0 0 := rg_eq1 c20 (r19 : rg x18 0 1) ((rg_k (by decide)) : rg 0 0 0) (by decide)
            refine lv_iload_n hx hb dX12_numeral_80 rfl (lv_at hl 1 rfl) ?_
            exact hret (p1) (F17, L17, A17, B17) H locs 81 ls rfl dX12_numeral_81 hP hD hS hq
          · skip
            have r22 : rg x18 1 1 := (rg_ne1 c20 (r19 : rg x18 0 1) ((rg_k (by decide)) : rg 0 0 0)).1 rfl
            refine lv_iload_n hx hb dX12_numeral_76 rfl (lv_at hl 2 rfl) ?_
            refine lv_goto (tgt := 81) hx hb dX12_numeral_77 (by decide) ?_
            exact hret (x13) (F17, L17, A17, B17) H locs 81 ls rfl dX12_numeral_81 hP hD hS hq
        refine lv_if_eq (tgt := 69) hx hb dX12_numeral_62 (by decide) (fun c23 => ?_) (fun c23 => ?_)
        · skip
          have r24 : rg x15 0 0 := rg_eq1 c23 (r16 : rg x15 0 1) ((rg_k (by decide)) : rg 0 0 0) (by decide)
          exact J69 (F12) (L12) (A12) (B12) H locs ls hq hP hD hS (lv_sub hl [1, 2, 0] rfl)
        · skip
          have r25 : rg x15 1 1 := (rg_ne1 c23 (r16 : rg x15 0 1) ((rg_k (by decide)) : rg 0 0 0)).1 rfl
          refine lv_aload_n hx hb dX12_numeral_65 rfl (lv_at hl 1 rfl) ?_
          refine callv_v (As := []) (rest := []) hC (c_X12_goOn_0 l D cA H.size ad F12 L12 A12 B12  hq.1) (cwV 0 hg (g_V mw_1288 mw_1285 mw_1287 ms_48 mw_20) rfl rfl rfl (by decide +kernel) ⟨(Nat.le_of_ble_eq_true rfl), (Nat.le_of_ble_eq_true rfl)⟩) hP hD hS hA atM_0 rfl rfl hl.1 rfl (Nat.le_of_ble_eq_true rfl) dX12_numeral_66 ⟨Nat.zero_le _, Nat.zero_le _⟩ (fun  u H locs hw hP hD hS => ?_)
          obtain ⟨F26, L26, A26, B26⟩ := u
          have hq26 := hw
          have hq := hq.call hq26 (by decide)
          have hP : va_P D classes (wM cA ad F26 L26 A26 B26) H := hP
          have hD : va_D Af (wM cA ad F26 L26 A26 B26) := hD
          exact J69 (F26) (L26) (A26) (B26) H locs ls hq hP hD hS (lv_sub hl [1, 2, 0] rfl)
      refine lv_if_eq (tgt := 53) hx hb dX12_numeral_25 (by decide) (fun c27 => ?_) (fun c27 => ?_)
      · skip
        have r28 : rg x10 0 0 := rg_eq1 c27 (r11 : rg x10 0 1) ((rg_k (by decide)) : rg 0 0 0) (by decide)
        exact J53 (F9) (L9) (A9) (B9) H locs ls hq hP hD hS (lv_sub hl [0, 1] rfl)
      · skip
        have r29 : rg x10 1 1 := (rg_ne1 c27 (r11 : rg x10 0 1) ((rg_k (by decide)) : rg 0 0 0)).1 rfl
        refine lv_aload_n hx hb dX12_numeral_28 rfl (lv_at hl 0 rfl) ?_
        refine va_get (ci := 12) (v := .int (F9 7)) (C := RX12) (T := TX12) (N := 57) hx hb hg inX12 hown hK hP 0 atM_0 rfl 9 (by decide) (hg _ mw_1117) (fun _ h9 => h9) rfl dX12_numeral_29 ?_
        refine lv_topi (fun x30 e31 => ?_)
        refine lv_iload_n hx hb dX12_numeral_32 rfl (lv_at hl 1 rfl) ?_
        have J44 : ∀ (F32 : Nat → Int32) (L32 : Nat → Int64) (A32 : Nat → Nat → Int32) (B32 : Nat → Nat → Int64) (H : Heap) (locs : List Loc) (ls : Array Slot), qM [2, 3, 4, 5, 6, 7] [] F A F32 A32 → F32 7 = x30 → va_P D classes (wM cA ad F32 L32 A32 B32) H → va_D Af (wM cA ad F32 L32 A32 B32) → va_S Af s.heap H locs → lv_has ls 4 [(0, .ref (ad 0)), (1, .int p1)] → W p l e rm_X12_numeral_0 s m args below meth c H locs 0 0 Q (F0 m 44 ls []) := by
          intro F32 L32 A32 B32 H locs ls hq f33 hP hD hS hl
          refine lv_aload_n hx hb dX12_numeral_44 rfl (lv_at hl 0 rfl) ?_
          refine lv_iconst (v := 4) hx hb dX12_numeral_45 (by decide) ?_
          refine lv_aload_n hx hb dX12_numeral_46 rfl (lv_at hl 0 rfl) ?_
          refine va_get (ci := 12) (v := .int (F32 4)) (C := RX12) (T := TX12) (N := 57) hx hb hg inX12 hown hK hP 0 atM_0 rfl 6 (by decide) (hg _ mw_1114) (fun _ h9 => h9) rfl dX12_numeral_47 ?_
          refine lv_topi (fun x34 e35 => ?_)
          have r36 : rg x34 0 1700 := rg_e e35 (hq.1.1 4)
          refine callv_v (As := [.int 4, .int x34]) (rest := []) hC (c_X12_fails_0 l D cA H.size ad F32 L32 A32 B32 (4) (x34) hq.1 (rg_k (by decide)) r36) (cwV 2 hg (g_V mw_1332 mw_1329 mw_1331 ms_55 mw_20) rfl rfl rfl (by decide +kernel) ⟨(Nat.le_of_ble_eq_true rfl), (Nat.le_of_ble_eq_true rfl)⟩) hP hD hS hA atM_0 rfl rfl hl.1 rfl (Nat.le_of_ble_eq_true rfl) dX12_numeral_50 ⟨Nat.zero_le _, Nat.zero_le _⟩ (fun  u H locs hw hP hD hS => ?_)
          obtain ⟨F37, L37, A37, B37⟩ := u
          have hq37 := hw
          have hq := hq.call hq37 (by decide)
          have hP : va_P D classes (wM cA ad F37 L37 A37 B37) H := hP
          have hD : va_D Af (wM cA ad F37 L37 A37 B37) := hD
          exact J53 (F37) (L37) (A37) (B37) H locs ls hq hP hD hS (lv_sub hl [0, 1] rfl)
        refine lv_icmp_lt (tgt := 44) hx hb dX12_numeral_33 (by decide) (fun c38 => ?_) (fun c38 => ?_)
        · skip
          have r39 : rg x30 (-2147483648) (-1) := rg_lt1 (iL c38) ((rg_top _) : rg x30 (-2147483648) 2147483647) (hp1 : rg p1 0 0)
          exact J44 (F9) (L9) (A9) (B9) H locs ls hq (e31.symm) hP hD hS (lv_sub hl [0, 1] rfl)
        · skip
          have r40 : rg x30 0 2147483647 := rg_le2 (iNL c38) (hp1 : rg p1 0 0) ((rg_top _) : rg x30 (-2147483648) 2147483647)
          refine lv_aload_n hx hb dX12_numeral_36 rfl (lv_at hl 0 rfl) ?_
          refine va_get (ci := 12) (v := .int x30) (C := RX12) (T := TX12) (N := 57) hx hb hg inX12 hown hK hP 0 atM_0 rfl 9 (by decide) (hg _ mw_1117) (fun _ h9 => h9) (congrArg (fun z => some (Value.int z)) (e31.symm)) dX12_numeral_37 ?_
          refine lv_iload_n hx hb dX12_numeral_40 rfl (lv_at hl 2 rfl) ?_
          refine lv_icmp_le (tgt := 53) hx hb dX12_numeral_41 (by decide) (fun c41 => ?_) (fun c41 => ?_)
          · skip
            have r42 : rg x30 0 9999 := rg_le1 (iE c41) (r40 : rg x30 0 2147483647) (hp2 : rg p2 99 9999)
            exact J53 (F9) (L9) (A9) (B9) H locs ls hq hP hD hS (lv_sub hl [0, 1] rfl)
          · skip
            have r43 : rg x30 100 2147483647 := rg_lt2 (iNE c41) (hp2 : rg p2 99 9999) (r40 : rg x30 0 2147483647)
            exact J44 (F9) (L9) (A9) (B9) H locs ls hq (e31.symm) hP hD hS (lv_sub hl [0, 1] rfl)
    refine lv_icmp_eq (tgt := 21) hx hb dX12_numeral_14 (by decide) (fun c44 => ?_) (fun c44 => ?_)
    · skip
      have r45 : rg x6 4 4 := rg_eq1 c44 (r8 : rg x6 0 5) ((rg_k (by decide)) : rg 4 4 4) (by decide)
      exact J21 (F) (L) (A) (B) H locs ls hq hP hD hS (lv_sub hl [0, 1, 2] rfl)
    · skip
      refine lv_aload_n hx hb dX12_numeral_17 rfl (lv_at hl 0 rfl) ?_
      refine callv_v (As := []) (rest := []) hC (c_X12_misplaced_0 l D cA H.size ad F L A B  hq.1) (cwV 0 hg (g_V mw_1328 mw_1325 mw_1327 ms_54 mw_20) rfl rfl rfl (by decide +kernel) ⟨(Nat.le_of_ble_eq_true rfl), (Nat.le_of_ble_eq_true rfl)⟩) hP hD hS hA atM_0 rfl rfl hl.1 rfl (Nat.le_of_ble_eq_true rfl) dX12_numeral_18 ⟨Nat.zero_le _, Nat.zero_le _⟩ (fun  u H locs hw hP hD hS => ?_)
      obtain ⟨F46, L46, A46, B46⟩ := u
      have hq46 := hw
      have hq := hq.call hq46 (by decide)
      have hP : va_P D classes (wM cA ad F46 L46 A46 B46) H := hP
      have hD : va_D Af (wM cA ad F46 L46 A46 B46) := hD
      exact J21 (F46) (L46) (A46) (B46) H locs ls hq hP hD hS (lv_sub hl [0, 1, 2] rfl)
  · skip
    have r5 : rg x1 0 0 := rg_eq1 c3 (r2 : rg x1 0 1) ((rg_k (by decide)) : rg 0 0 0) (by decide)
    refine lv_iload_n hx hb dX12_numeral_7 rfl (lv_at hl 1 rfl) ?_
    exact hret (p1) (F, L, A, B) H locs 8 ls rfl dX12_numeral_8 hP hD hS hq
abbrev rm_X12_fresh_0 : Room := { frames := 2, cells := 0, slots := 0, locals := 43 }
set_option maxHeartbeats 4000000 in
set_option maxRecDepth 100000 in
theorem c_X12_fresh_0 (l : Launch) (D : va_G) (cA : Nat → ClassId) (sz : Nat) (ad : Nat → Nat) (F : Nat → Int32) (L : Nat → Int64) (A : Nat → Nat → Int32) (B : Nat → Nat → Int64) (p1 : Int32) (hT : typM F A) (hp1 : rg p1 0 1) : Met l yX12_fresh (Cond.code yX12_fresh cX12_fresh 4 (some .long) :: GW) rm_X12_fresh_0 (mPc D classes (tysM cA) (wM cA ad F L A B) sz [.ref (ad 0), .int p1]) (mQl (S := SW) D classes (tysM cA) (wM cA ad F L A B) sz (wfM cA ad) (fun r u => qM [2, 3, 4, 5, 6, 7] [] F A u.1 u.2.2.1)) 0 0 (va_A (wM cA ad F L A B) sz) := by
  refine met_l (own := "ShoeingDayModel") (by decide +kernel) rfl (Nat.le_of_ble_eq_true rfl) ?_
  intro p e s m args below meth c Q Af ls hC hP hD hS hA hl hret
  have hx := hC.1
  have hb := hC.2.1
  have hown := hC.2.2.2.1
  have hg := hC.g
  have hK := hC.K
  have hl : lv_has ls 4 [(0, .ref (ad 0)), (1, .int p1)] := hl
  have hq : qM [2, 3, 4, 5, 6, 7] [] F A F A := qM.rf hT
  obtain ⟨H, hH⟩ : ∃ H, H = s.heap := ⟨_, rfl⟩
  have hP : va_P D classes (wM cA ad F L A B) H := by rw [hH]; exact hP
  have hS : va_S Af s.heap H [] := by rw [hH]; exact hS
  obtain ⟨locs, hlo⟩ : ∃ q : List Loc, q = [] := ⟨_, rfl⟩
  rw [← hH, ← hlo]
  rw [← hlo] at hS
  refine lv_aload_n hx hb dX12_fresh_0 rfl (lv_at hl 0 rfl) ?_
  refine callv_i (As := []) (rest := []) hC (c_X12_isGood_0 l D cA H.size ad F L A B  hq.1) (cwV 0 hg (g_V mw_1312 mw_1309 mw_1311 ms_50 mw_20) rfl rfl rfl (by decide +kernel) ⟨(Nat.le_of_ble_eq_true rfl), (Nat.le_of_ble_eq_true rfl)⟩) hP hD hS hA atM_0 rfl rfl hl.1 rfl (Nat.le_of_ble_eq_true rfl) dX12_fresh_1 ⟨Nat.zero_le _, Nat.zero_le _⟩ (fun x1 u H locs hw hP hD hS => ?_)
  have r2 := hw
  have hP : va_P D classes (wM cA ad F L A B) H := hP
  have hD : va_D Af (wM cA ad F L A B) := hD
  refine lv_if_ne (tgt := 9) hx hb dX12_fresh_4 (by decide) (fun c3 => ?_) (fun c3 => ?_)
  · skip
    have r4 : rg x1 1 1 := (rg_ne1 c3 (r2 : rg x1 0 1) ((rg_k (by decide)) : rg 0 0 0)).1 rfl
    refine lv_aload_n hx hb dX12_fresh_9 rfl (lv_at hl 0 rfl) ?_
    refine va_get (ci := 12) (v := .int (F 6)) (C := RX12) (T := TX12) (N := 57) hx hb hg inX12 hown hK hP 0 atM_0 rfl 8 (by decide) (hg _ mw_1116) (fun _ h9 => h9) rfl dX12_fresh_10 ?_
    refine lv_topi (fun x6 e7 => ?_)
    have r8 : rg x6 0 5 := rg_e e7 (hq.1.1 6)
    refine lv_iconst (v := 2) hx hb dX12_fresh_13 (by decide) ?_
    have J37 : ∀ (F9 : Nat → Int32) (L9 : Nat → Int64) (A9 : Nat → Nat → Int32) (B9 : Nat → Nat → Int64) (H : Heap) (locs : List Loc) (ls : Array Slot), qM [2, 3, 4, 5, 6, 7] [] F A F9 A9 → va_P D classes (wM cA ad F9 L9 A9 B9) H → va_D Af (wM cA ad F9 L9 A9 B9) → va_S Af s.heap H locs → lv_has ls 4 [(0, .ref (ad 0))] → W p l e rm_X12_fresh_0 s m args below meth c H locs 0 0 Q (F0 m 37 ls []) := by
      intro F9 L9 A9 B9 H locs ls hq hP hD hS hl
      refine lv_aload_n hx hb dX12_fresh_37 rfl (lv_at hl 0 rfl) ?_
      refine va_get (ci := 12) (v := .long (L9 0)) (C := RX12) (T := TX12) (N := 57) hx hb hg inX12 hown hK hP 0 atM_0 rfl 10 (by decide) (hg _ mw_1118) (fun _ h9 => h9) rfl dX12_fresh_38 ?_
      refine lv_topl (fun z10 _ => ?_)
      refine lv_lstore_n (lv' := [(2, .long z10), (0, .ref (ad 0))]) hx hb dX12_fresh_41 rfl hl (by decide) rfl (fun ls hl => ?_)
      refine lv_aload_n hx hb dX12_fresh_42 rfl (lv_at hl 1 rfl) ?_
      refine callv_i (As := []) (rest := []) hC (c_X12_isGood_0 l D cA H.size ad F9 L9 A9 B9  hq.1) (cwV 0 hg (g_V mw_1312 mw_1309 mw_1311 ms_50 mw_20) rfl rfl rfl (by decide +kernel) ⟨(Nat.le_of_ble_eq_true rfl), (Nat.le_of_ble_eq_true rfl)⟩) hP hD hS hA atM_0 rfl rfl hl.1 rfl (Nat.le_of_ble_eq_true rfl) dX12_fresh_43 ⟨Nat.zero_le _, Nat.zero_le _⟩ (fun x11 u H locs hw hP hD hS => ?_)
      have r12 := hw
      have hP : va_P D classes (wM cA ad F9 L9 A9 B9) H := hP
      have hD : va_D Af (wM cA ad F9 L9 A9 B9) := hD
      have J53 : ∀ (F13 : Nat → Int32) (L13 : Nat → Int64) (A13 : Nat → Nat → Int32) (B13 : Nat → Nat → Int64) (H : Heap) (locs : List Loc) (ls : Array Slot), qM [2, 3, 4, 5, 6, 7] [] F A F13 A13 → va_P D classes (wM cA ad F13 L13 A13 B13) H → va_D Af (wM cA ad F13 L13 A13 B13) → va_S Af s.heap H locs → lv_has ls 4 [(2, .long z10)] → W p l e rm_X12_fresh_0 s m args below meth c H locs 0 0 Q (F0 m 53 ls []) := by
        intro F13 L13 A13 B13 H locs ls hq hP hD hS hl
        refine lv_lload_n hx hb dX12_fresh_53 rfl (lv_at hl 0 rfl) ?_
        exact hret (z10) (F13, L13, A13, B13) H locs 54 ls dX12_fresh_54 hP hD hS hq
      refine lv_if_eq (tgt := 53) hx hb dX12_fresh_46 (by decide) (fun c14 => ?_) (fun c14 => ?_)
      · skip
        have r15 : rg x11 0 0 := rg_eq1 c14 (r12 : rg x11 0 1) ((rg_k (by decide)) : rg 0 0 0) (by decide)
        exact J53 (F9) (L9) (A9) (B9) H locs ls hq hP hD hS (lv_sub hl [0] rfl)
      · skip
        have r16 : rg x11 1 1 := (rg_ne1 c14 (r12 : rg x11 0 1) ((rg_k (by decide)) : rg 0 0 0)).1 rfl
        refine lv_aload_n hx hb dX12_fresh_49 rfl (lv_at hl 1 rfl) ?_
        refine callv_v (As := []) (rest := []) hC (c_X12_goOn_0 l D cA H.size ad F9 L9 A9 B9  hq.1) (cwV 0 hg (g_V mw_1288 mw_1285 mw_1287 ms_48 mw_20) rfl rfl rfl (by decide +kernel) ⟨(Nat.le_of_ble_eq_true rfl), (Nat.le_of_ble_eq_true rfl)⟩) hP hD hS hA atM_0 rfl rfl hl.1 rfl (Nat.le_of_ble_eq_true rfl) dX12_fresh_50 ⟨Nat.zero_le _, Nat.zero_le _⟩ (fun  u H locs hw hP hD hS => ?_)
        obtain ⟨F17, L17, A17, B17⟩ := u
        have hq17 := hw
        have hq := hq.call hq17 (by decide)
        have hP : va_P D classes (wM cA ad F17 L17 A17 B17) H := hP
        have hD : va_D Af (wM cA ad F17 L17 A17 B17) := hD
        exact J53 (F17) (L17) (A17) (B17) H locs ls hq hP hD hS (lv_sub hl [0] rfl)
    refine lv_icmp_eq (tgt := 24) hx hb dX12_fresh_14 (by decide) (fun c18 => ?_) (fun c18 => ?_)
    · skip
      have r19 : rg x6 2 2 := rg_eq1 c18 (r8 : rg x6 0 5) ((rg_k (by decide)) : rg 2 2 2) (by decide)
      refine lv_iload_n hx hb dX12_fresh_24 rfl (lv_at hl 1 rfl) ?_
      refine lv_if_eq (tgt := 37) hx hb dX12_fresh_25 (by decide) (fun c20 => ?_) (fun c20 => ?_)
      · skip
        have r21 : rg p1 0 0 := rg_eq1 c20 (hp1 : rg p1 0 1) ((rg_k (by decide)) : rg 0 0 0) (by decide)
        exact J37 (F) (L) (A) (B) H locs ls hq hP hD hS (lv_sub hl [0] rfl)
      · skip
        have r22 : rg p1 1 1 := (rg_ne1 c20 (hp1 : rg p1 0 1) ((rg_k (by decide)) : rg 0 0 0)).1 rfl
        refine lv_aload_n hx hb dX12_fresh_28 rfl (lv_at hl 0 rfl) ?_
        refine lv_iconst (v := 3) hx hb dX12_fresh_29 (by decide) ?_
        refine lv_aload_n hx hb dX12_fresh_30 rfl (lv_at hl 0 rfl) ?_
        refine va_get (ci := 12) (v := .int (F 4)) (C := RX12) (T := TX12) (N := 57) hx hb hg inX12 hown hK hP 0 atM_0 rfl 6 (by decide) (hg _ mw_1114) (fun _ h9 => h9) rfl dX12_fresh_31 ?_
        refine lv_topi (fun x23 e24 => ?_)
        have r25 : rg x23 0 1700 := rg_e e24 (hq.1.1 4)
        refine callv_v (As := [.int 3, .int x23]) (rest := []) hC (c_X12_fails_0 l D cA H.size ad F L A B (3) (x23) hq.1 (rg_k (by decide)) r25) (cwV 2 hg (g_V mw_1332 mw_1329 mw_1331 ms_55 mw_20) rfl rfl rfl (by decide +kernel) ⟨(Nat.le_of_ble_eq_true rfl), (Nat.le_of_ble_eq_true rfl)⟩) hP hD hS hA atM_0 rfl rfl hl.1 rfl (Nat.le_of_ble_eq_true rfl) dX12_fresh_34 ⟨Nat.zero_le _, Nat.zero_le _⟩ (fun  u H locs hw hP hD hS => ?_)
        obtain ⟨F26, L26, A26, B26⟩ := u
        have hq26 := hw
        have hq := hq.call hq26 (by decide)
        have hP : va_P D classes (wM cA ad F26 L26 A26 B26) H := hP
        have hD : va_D Af (wM cA ad F26 L26 A26 B26) := hD
        exact J37 (F26) (L26) (A26) (B26) H locs ls hq hP hD hS (lv_sub hl [0] rfl)
    · skip
      refine lv_aload_n hx hb dX12_fresh_17 rfl (lv_at hl 0 rfl) ?_
      refine callv_v (As := []) (rest := []) hC (c_X12_misplaced_0 l D cA H.size ad F L A B  hq.1) (cwV 0 hg (g_V mw_1328 mw_1325 mw_1327 ms_54 mw_20) rfl rfl rfl (by decide +kernel) ⟨(Nat.le_of_ble_eq_true rfl), (Nat.le_of_ble_eq_true rfl)⟩) hP hD hS hA atM_0 rfl rfl hl.1 rfl (Nat.le_of_ble_eq_true rfl) dX12_fresh_18 ⟨Nat.zero_le _, Nat.zero_le _⟩ (fun  u H locs hw hP hD hS => ?_)
      obtain ⟨F27, L27, A27, B27⟩ := u
      have hq27 := hw
      have hq := hq.call hq27 (by decide)
      have hP : va_P D classes (wM cA ad F27 L27 A27 B27) H := hP
      have hD : va_D Af (wM cA ad F27 L27 A27 B27) := hD
      refine lv_goto (tgt := 37) hx hb dX12_fresh_21 (by decide) ?_
      exact J37 (F27) (L27) (A27) (B27) H locs ls hq hP hD hS (lv_sub hl [0] rfl)
  · skip
    have r5 : rg x1 0 0 := rg_eq1 c3 (r2 : rg x1 0 1) ((rg_k (by decide)) : rg 0 0 0) (by decide)
    refine lv_lconst (v := 0) hx hb dX12_fresh_7 rfl ?_
    exact hret ((0 : Int64)) (F, L, A, B) H locs 8 ls dX12_fresh_8 hP hD hS hq
abbrev rm_X12_horseHere_0 : Room := { frames := 0, cells := 0, slots := 0, locals := 0 }
set_option maxHeartbeats 4000000 in
set_option maxRecDepth 100000 in
theorem c_X12_horseHere_0 (l : Launch) (D : va_G) (cA : Nat → ClassId) (sz : Nat) (ad : Nat → Nat) (F : Nat → Int32) (L : Nat → Int64) (A : Nat → Nat → Int32) (B : Nat → Nat → Int64)  (hT : typM F A) : Met l yX12_horseHere (Cond.code yX12_horseHere cX12_horseHere 2 (some .int) :: GW) rm_X12_horseHere_0 (mPc D classes (tysM cA) (wM cA ad F L A B) sz [.ref (ad 0)]) (mQi (S := Unit) D classes (tysM cA) (wM cA ad F L A B) sz (fun _ : Unit => wM cA ad F L A B) (fun r u => rg r (-1) 9)) 0 0 (va_A (wM cA ad F L A B) sz) := by
  refine met_i (own := "ShoeingDayModel") (by decide +kernel) rfl (Nat.le_of_ble_eq_true rfl) ?_
  intro p e s m args below meth c Q Af ls hC hP hD hS hA hl hret
  have hx := hC.1
  have hb := hC.2.1
  have hown := hC.2.2.2.1
  have hg := hC.g
  have hK := hC.K
  have hl : lv_has ls 2 [(0, .ref (ad 0))] := hl
  have hq : qM [] [] F A F A := qM.rf hT
  obtain ⟨H, hH⟩ : ∃ H, H = s.heap := ⟨_, rfl⟩
  have hP : va_P D classes (wM cA ad F L A B) H := by rw [hH]; exact hP
  have hS : va_S Af s.heap H [] := by rw [hH]; exact hS
  obtain ⟨locs, hlo⟩ : ∃ q : List Loc, q = [] := ⟨_, rfl⟩
  rw [← hH, ← hlo]
  rw [← hlo] at hS
  refine lv_iconst (v := 0) hx hb dX12_horseHere_0 (by decide) ?_
  refine lv_istore_n (lv' := [(1, .int 0), (0, .ref (ad 0))]) hx hb dX12_horseHere_1 rfl hl (by decide) rfl (fun ls hl => ?_)
  have J2 : ∀ (n2 : Nat) (a1 : Int32) (H : Heap) (locs : List Loc) (ls : Array Slot), (10 - a1.toInt).toNat < n2 → rg a1 0 10 → va_P D classes (wM cA ad F L A B) H → va_D Af (wM cA ad F L A B) → va_S Af s.heap H locs → lv_has ls 2 [(0, .ref (ad 0)), (1, .int a1)] → W p l e rm_X12_horseHere_0 s m args below meth c H locs 0 0 Q (F0 m 2 ls []) := by
    intro n2
    induction n2 with
    | zero =>
      intro _ _ _ _ hn
      exact absurd hn (Nat.not_lt_zero _)
    | succ n2 ih2 =>
      intro a1 H locs ls hn2 r2 hP hD hS hl
      refine lv_iload_n hx hb dX12_horseHere_2 rfl (lv_at hl 1 rfl) ?_
      refine lv_aload_n hx hb dX12_horseHere_3 rfl (lv_at hl 0 rfl) ?_
      refine va_get (ci := 12) (v := .ref (ad 4)) (C := RX12) (T := TX12) (N := 57) hx hb hg inX12 hown hK hP 0 atM_0 rfl 12 (by decide) (hg _ mw_1120) (fun _ h9 => h9) rfl dX12_horseHere_4 ?_
      refine lv_aload_n hx hb dX12_horseHere_7 rfl (lv_at hl 0 rfl) ?_
      refine va_get (ci := 12) (v := .int (F 9)) (C := RX12) (T := TX12) (N := 57) hx hb hg inX12 hown hK hP 0 atM_0 rfl 25 (by decide) (hg _ mw_1133) (fun _ h9 => h9) rfl dX12_horseHere_8 ?_
      refine lv_topi (fun x3 e4 => ?_)
      have r5 : rg x3 0 1 := rg_e e4 (hq.1.1 9)
      refine va_iald hx hb hK hP 4 3 atM_4 tyM_4 (in_rg r5 (by decide)) dX12_horseHere_11 ?_
      refine lv_topi (fun x6 e7 => ?_)
      have r8 : rg x6 0 10 := rg_e e7 (hq.1.2 4 _)
      refine lv_icmp_ge (tgt := 53) hx hb dX12_horseHere_12 (by decide) (fun c9 => ?_) (fun c9 => ?_)
      · skip
        refine lv_iconst (v := (-1)) hx hb dX12_horseHere_53 (by decide) ?_
        exact hret ((-1)) () H locs 54 ls rfl dX12_horseHere_54 hP hD hS (rg_k (by decide))
      · skip
        have r10 : rg a1 0 9 := rg_lt1 (iNE c9) (r2 : rg a1 0 10) (r8 : rg x6 0 10)
        have r11 : rg x6 1 10 := rg_lt2 (iNE c9) (r2 : rg a1 0 10) (r8 : rg x6 0 10)
        refine lv_aload_n hx hb dX12_horseHere_15 rfl (lv_at hl 0 rfl) ?_
        refine va_get (ci := 12) (v := .int (F 6)) (C := RX12) (T := TX12) (N := 57) hx hb hg inX12 hown hK hP 0 atM_0 rfl 8 (by decide) (hg _ mw_1116) (fun _ h9 => h9) rfl dX12_horseHere_16 ?_
        refine lv_topi (fun x12 e13 => ?_)
        have r14 : rg x12 0 5 := rg_e e13 (hq.1.1 6)
        refine lv_iconst (v := 2) hx hb dX12_horseHere_19 (by decide) ?_
        have J47 : ∀ (H : Heap) (locs : List Loc) (ls : Array Slot), va_P D classes (wM cA ad F L A B) H → va_D Af (wM cA ad F L A B) → va_S Af s.heap H locs → lv_has ls 2 [(0, .ref (ad 0)), (1, .int a1)] → W p l e rm_X12_horseHere_0 s m args below meth c H locs 0 0 Q (F0 m 47 ls []) := by
          intro H locs ls hP hD hS hl
          obtain ⟨x15, e16⟩ : ∃ y : Int32, y = a1 + 1 := ⟨_, rfl⟩
          have r17 : rg x15 1 10 := rg_add e16 r10 (rg_k (by decide) : rg 1 1 1) (by decide)
          refine lv_iinc (v := x15) (lv' := [(1, .int x15), (0, .ref (ad 0))]) hx hb dX12_horseHere_47 hl (k := 1) rfl (by rw [e16]; rfl) (by decide) rfl (fun ls hl => ?_)
          refine lv_goto (tgt := 2) hx hb dX12_horseHere_50 (by decide) ?_
          exact ih2 (x15) H locs ls (by have h0 : (1 : Int32).toInt = 1 := rfl; have h1 := ti_addk e16 r10 (by decide); have h2 : rg x15 0 10 := (rg_w r17 (by decide)); unfold rg at h2; omega) (rg_w r17 (by decide)) hP hD hS (lv_sub hl [1, 0] rfl)
        refine lv_icmp_ne (tgt := 47) hx hb dX12_horseHere_20 (by decide) (fun c18 => ?_) (fun c18 => ?_)
        · skip
          exact J47  H locs ls  hP hD hS (lv_sub hl [0, 1] rfl)
        · skip
          have r19 : rg x12 2 2 := rg_eq1 c18 (r14 : rg x12 0 5) ((rg_k (by decide)) : rg 2 2 2) (by decide)
          refine lv_aload_n hx hb dX12_horseHere_23 rfl (lv_at hl 0 rfl) ?_
          refine va_get (ci := 12) (v := .ref (ad 15)) (C := RX12) (T := TX12) (N := 57) hx hb hg inX12 hown hK hP 0 atM_0 rfl 23 (by decide) (hg _ mw_1131) (fun _ h9 => h9) rfl dX12_horseHere_24 ?_
          refine lv_bipush (v := 10) hx hb dX12_horseHere_27 (by decide) ?_
          refine lv_aload_n hx hb dX12_horseHere_29 rfl (lv_at hl 0 rfl) ?_
          refine va_get (ci := 12) (v := .int x3) (C := RX12) (T := TX12) (N := 57) hx hb hg inX12 hown hK hP 0 atM_0 rfl 25 (by decide) (hg _ mw_1133) (fun _ h9 => h9) (congrArg (fun z => some (Value.int z)) (e4.symm)) dX12_horseHere_30 ?_
          refine lv_imul hx hb dX12_horseHere_33 ?_
          refine lv_topi (fun x20 e21 => ?_)
          have r22 : rg x20 0 10 := rg_mul e21 ((rg_k (by decide)) : rg 10 10 10) r5 (by decide)
          refine lv_iload_n hx hb dX12_horseHere_34 rfl (lv_at hl 1 rfl) ?_
          refine lv_iadd hx hb dX12_horseHere_35 ?_
          refine lv_topi (fun x23 e24 => ?_)
          have r25 : rg x23 0 19 := rg_add e24 r22 r10 (by decide)
          refine va_lald hx hb hK hP 15 14 atM_15 tyM_15 (in_rg r25 (by decide)) dX12_horseHere_36 ?_
          refine lv_topl (fun z26 _ => ?_)
          refine lv_aload_n hx hb dX12_horseHere_37 rfl (lv_at hl 0 rfl) ?_
          refine va_get (ci := 12) (v := .long (L 0)) (C := RX12) (T := TX12) (N := 57) hx hb hg inX12 hown hK hP 0 atM_0 rfl 10 (by decide) (hg _ mw_1118) (fun _ h9 => h9) rfl dX12_horseHere_38 ?_
          refine lv_topl (fun z27 _ => ?_)
          refine W.lcmp hx hb dX12_horseHere_41 ?_
          refine lv_topi (fun x28 e29 => ?_)
          refine lv_if_ne (tgt := 47) hx hb dX12_horseHere_42 (by decide) (fun c30 => ?_) (fun c30 => ?_)
          · skip
            exact J47  H locs ls  hP hD hS (lv_sub hl [0, 1] rfl)
          · skip
            have r31 : rg x28 0 0 := rg_eq1 c30 ((rg_top _) : rg x28 (-2147483648) 2147483647) ((rg_k (by decide)) : rg 0 0 0) (by decide)
            refine lv_iload_n hx hb dX12_horseHere_45 rfl (lv_at hl 1 rfl) ?_
            exact hret (a1) () H locs 46 ls rfl dX12_horseHere_46 hP hD hS (rg_w r10 (by decide))
  exact J2 _ (0) H locs ls (Nat.lt_succ_self _) (rg_k (by decide)) hP hD hS (lv_sub hl [1, 0] rfl)
abbrev rm_X12_readHorse_0 : Room := { frames := 3, cells := 0, slots := 0, locals := 66 }
set_option maxHeartbeats 4000000 in
set_option maxRecDepth 100000 in
theorem c_X12_readHorse_0 (l : Launch) (D : va_G) (cA : Nat → ClassId) (sz : Nat) (ad : Nat → Nat) (F : Nat → Int32) (L : Nat → Int64) (A : Nat → Nat → Int32) (B : Nat → Nat → Int64)  (hT : typM F A) : Met l yX12_readHorse (Cond.code yX12_readHorse cX12_readHorse 1 none :: GW) rm_X12_readHorse_0 (mPc D classes (tysM cA) (wM cA ad F L A B) sz [.ref (ad 0)]) (mQv (S := SW) D classes (tysM cA) (wM cA ad F L A B) sz (wfM cA ad) (fun u => qM [2, 3, 4, 5, 6, 7] [4, 15] F A u.1 u.2.2.1)) 0 0 (va_A (wM cA ad F L A B) sz) := by
  sorry
abbrev rm_X12_known_0 : Room := { frames := 2, cells := 0, slots := 0, locals := 43 }
set_option maxHeartbeats 4000000 in
set_option maxRecDepth 100000 in
theorem c_X12_known_0 (l : Launch) (D : va_G) (cA : Nat → ClassId) (sz : Nat) (ad : Nat → Nat) (F : Nat → Int32) (L : Nat → Int64) (A : Nat → Nat → Int32) (B : Nat → Nat → Int64) (p1 : Int32) (hT : typM F A) (hp1 : rg p1 (-1) 9) : Met l yX12_known (Cond.code yX12_known cX12_known 2 (some .int) :: GW) rm_X12_known_0 (mPc D classes (tysM cA) (wM cA ad F L A B) sz [.ref (ad 0), .int p1]) (mQi (S := SW) D classes (tysM cA) (wM cA ad F L A B) sz (wfM cA ad) (fun r u => qM [2, 3, 4, 5, 6, 7] [] F A u.1 u.2.2.1 ∧ rg r 0 9)) 0 0 (va_A (wM cA ad F L A B) sz) := by
  refine met_i (own := "ShoeingDayModel") (by decide +kernel) rfl (Nat.le_of_ble_eq_true rfl) ?_
  intro p e s m args below meth c Q Af ls hC hP hD hS hA hl hret
  have hx := hC.1
  have hb := hC.2.1
  have hown := hC.2.2.2.1
  have hg := hC.g
  have hK := hC.K
  have hl : lv_has ls 2 [(0, .ref (ad 0)), (1, .int p1)] := hl
  have hq : qM [2, 3, 4, 5, 6, 7] [] F A F A := qM.rf hT
  obtain ⟨H, hH⟩ : ∃ H, H = s.heap := ⟨_, rfl⟩
  have hP : va_P D classes (wM cA ad F L A B) H := by rw [hH]; exact hP
  have hS : va_S Af s.heap H [] := by rw [hH]; exact hS
  obtain ⟨locs, hlo⟩ : ∃ q : List Loc, q = [] := ⟨_, rfl⟩
  rw [← hH, ← hlo]
  rw [← hlo] at hS
  refine lv_aload_n hx hb dX12_known_0 rfl (lv_at hl 0 rfl) ?_
  refine callv_i (As := []) (rest := []) hC (c_X12_isGood_0 l D cA H.size ad F L A B  hq.1) (cwV 0 hg (g_V mw_1312 mw_1309 mw_1311 ms_50 mw_20) rfl rfl rfl (by decide +kernel) ⟨(Nat.le_of_ble_eq_true rfl), (Nat.le_of_ble_eq_true rfl)⟩) hP hD hS hA atM_0 rfl rfl hl.1 rfl (Nat.le_of_ble_eq_true rfl) dX12_known_1 ⟨Nat.zero_le _, Nat.zero_le _⟩ (fun x1 u H locs hw hP hD hS => ?_)
  have r2 := hw
  have hP : va_P D classes (wM cA ad F L A B) H := hP
  have hD : va_D Af (wM cA ad F L A B) := hD
  refine lv_if_ne (tgt := 9) hx hb dX12_known_4 (by decide) (fun c3 => ?_) (fun c3 => ?_)
  · skip
    have r4 : rg x1 1 1 := (rg_ne1 c3 (r2 : rg x1 0 1) ((rg_k (by decide)) : rg 0 0 0)).1 rfl
    refine lv_aload_n hx hb dX12_known_9 rfl (lv_at hl 0 rfl) ?_
    refine va_get (ci := 12) (v := .int (F 6)) (C := RX12) (T := TX12) (N := 57) hx hb hg inX12 hown hK hP 0 atM_0 rfl 8 (by decide) (hg _ mw_1116) (fun _ h9 => h9) rfl dX12_known_10 ?_
    refine lv_topi (fun x6 e7 => ?_)
    have r8 : rg x6 0 5 := rg_e e7 (hq.1.1 6)
    refine lv_iconst (v := 2) hx hb dX12_known_13 (by decide) ?_
    have J37 : ∀ (F9 : Nat → Int32) (L9 : Nat → Int64) (A9 : Nat → Nat → Int32) (B9 : Nat → Nat → Int64) (H : Heap) (locs : List Loc) (ls : Array Slot), qM [2, 3, 4, 5, 6, 7] [] F A F9 A9 → va_P D classes (wM cA ad F9 L9 A9 B9) H → va_D Af (wM cA ad F9 L9 A9 B9) → va_S Af s.heap H locs → lv_has ls 2 [(0, .ref (ad 0)), (1, .int p1)] → W p l e rm_X12_known_0 s m args below meth c H locs 0 0 Q (F0 m 37 ls []) := by
      intro F9 L9 A9 B9 H locs ls hq hP hD hS hl
      refine lv_aload_n hx hb dX12_known_37 rfl (lv_at hl 0 rfl) ?_
      refine callv_i (As := []) (rest := []) hC (c_X12_isGood_0 l D cA H.size ad F9 L9 A9 B9  hq.1) (cwV 0 hg (g_V mw_1312 mw_1309 mw_1311 ms_50 mw_20) rfl rfl rfl (by decide +kernel) ⟨(Nat.le_of_ble_eq_true rfl), (Nat.le_of_ble_eq_true rfl)⟩) hP hD hS hA atM_0 rfl rfl hl.1 rfl (Nat.le_of_ble_eq_true rfl) dX12_known_38 ⟨Nat.zero_le _, Nat.zero_le _⟩ (fun x10 u H locs hw hP hD hS => ?_)
      have r11 := hw
      have hP : va_P D classes (wM cA ad F9 L9 A9 B9) H := hP
      have hD : va_D Af (wM cA ad F9 L9 A9 B9) := hD
      have J48 : ∀ (F12 : Nat → Int32) (L12 : Nat → Int64) (A12 : Nat → Nat → Int32) (B12 : Nat → Nat → Int64) (H : Heap) (locs : List Loc) (ls : Array Slot), qM [2, 3, 4, 5, 6, 7] [] F A F12 A12 → va_P D classes (wM cA ad F12 L12 A12 B12) H → va_D Af (wM cA ad F12 L12 A12 B12) → va_S Af s.heap H locs → lv_has ls 2 [(1, .int p1)] → W p l e rm_X12_known_0 s m args below meth c H locs 0 0 Q (F0 m 48 ls []) := by
        intro F12 L12 A12 B12 H locs ls hq hP hD hS hl
        refine lv_iload_n hx hb dX12_known_48 rfl (lv_at hl 0 rfl) ?_
        refine lv_if_ge (tgt := 56) hx hb dX12_known_49 (by decide) (fun c13 => ?_) (fun c13 => ?_)
        · skip
          have r14 : rg p1 0 9 := rg_le2 (iE c13) ((rg_k (by decide)) : rg 0 0 0) (hp1 : rg p1 (-1) 9)
          refine lv_iload_n hx hb dX12_known_56 rfl (lv_at hl 0 rfl) ?_
          exact hret (p1) (F12, L12, A12, B12) H locs 57 ls rfl dX12_known_57 hP hD hS ⟨hq, r14⟩
        · skip
          have r15 : rg p1 (-1) (-1) := rg_lt1 (iNE c13) (hp1 : rg p1 (-1) 9) ((rg_k (by decide)) : rg 0 0 0)
          refine lv_iconst (v := 0) hx hb dX12_known_52 (by decide) ?_
          refine lv_goto (tgt := 57) hx hb dX12_known_53 (by decide) ?_
          exact hret (0) (F12, L12, A12, B12) H locs 57 ls rfl dX12_known_57 hP hD hS ⟨hq, (rg_k (by decide))⟩
      refine lv_if_eq (tgt := 48) hx hb dX12_known_41 (by decide) (fun c16 => ?_) (fun c16 => ?_)
      · skip
        have r17 : rg x10 0 0 := rg_eq1 c16 (r11 : rg x10 0 1) ((rg_k (by decide)) : rg 0 0 0) (by decide)
        exact J48 (F9) (L9) (A9) (B9) H locs ls hq hP hD hS (lv_sub hl [1] rfl)
      · skip
        have r18 : rg x10 1 1 := (rg_ne1 c16 (r11 : rg x10 0 1) ((rg_k (by decide)) : rg 0 0 0)).1 rfl
        refine lv_aload_n hx hb dX12_known_44 rfl (lv_at hl 0 rfl) ?_
        refine callv_v (As := []) (rest := []) hC (c_X12_goOn_0 l D cA H.size ad F9 L9 A9 B9  hq.1) (cwV 0 hg (g_V mw_1288 mw_1285 mw_1287 ms_48 mw_20) rfl rfl rfl (by decide +kernel) ⟨(Nat.le_of_ble_eq_true rfl), (Nat.le_of_ble_eq_true rfl)⟩) hP hD hS hA atM_0 rfl rfl hl.1 rfl (Nat.le_of_ble_eq_true rfl) dX12_known_45 ⟨Nat.zero_le _, Nat.zero_le _⟩ (fun  u H locs hw hP hD hS => ?_)
        obtain ⟨F19, L19, A19, B19⟩ := u
        have hq19 := hw
        have hq := hq.call hq19 (by decide)
        have hP : va_P D classes (wM cA ad F19 L19 A19 B19) H := hP
        have hD : va_D Af (wM cA ad F19 L19 A19 B19) := hD
        exact J48 (F19) (L19) (A19) (B19) H locs ls hq hP hD hS (lv_sub hl [1] rfl)
    refine lv_icmp_eq (tgt := 24) hx hb dX12_known_14 (by decide) (fun c20 => ?_) (fun c20 => ?_)
    · skip
      have r21 : rg x6 2 2 := rg_eq1 c20 (r8 : rg x6 0 5) ((rg_k (by decide)) : rg 2 2 2) (by decide)
      refine lv_iload_n hx hb dX12_known_24 rfl (lv_at hl 1 rfl) ?_
      refine lv_if_ge (tgt := 37) hx hb dX12_known_25 (by decide) (fun c22 => ?_) (fun c22 => ?_)
      · skip
        have r23 : rg p1 0 9 := rg_le2 (iE c22) ((rg_k (by decide)) : rg 0 0 0) (hp1 : rg p1 (-1) 9)
        exact J37 (F) (L) (A) (B) H locs ls hq hP hD hS (lv_sub hl [0, 1] rfl)
      · skip
        have r24 : rg p1 (-1) (-1) := rg_lt1 (iNE c22) (hp1 : rg p1 (-1) 9) ((rg_k (by decide)) : rg 0 0 0)
        refine lv_aload_n hx hb dX12_known_28 rfl (lv_at hl 0 rfl) ?_
        refine lv_iconst (v := 5) hx hb dX12_known_29 (by decide) ?_
        refine lv_aload_n hx hb dX12_known_30 rfl (lv_at hl 0 rfl) ?_
        refine va_get (ci := 12) (v := .int (F 4)) (C := RX12) (T := TX12) (N := 57) hx hb hg inX12 hown hK hP 0 atM_0 rfl 6 (by decide) (hg _ mw_1114) (fun _ h9 => h9) rfl dX12_known_31 ?_
        refine lv_topi (fun x25 e26 => ?_)
        have r27 : rg x25 0 1700 := rg_e e26 (hq.1.1 4)
        refine callv_v (As := [.int 5, .int x25]) (rest := []) hC (c_X12_fails_0 l D cA H.size ad F L A B (5) (x25) hq.1 (rg_k (by decide)) r27) (cwV 2 hg (g_V mw_1332 mw_1329 mw_1331 ms_55 mw_20) rfl rfl rfl (by decide +kernel) ⟨(Nat.le_of_ble_eq_true rfl), (Nat.le_of_ble_eq_true rfl)⟩) hP hD hS hA atM_0 rfl rfl hl.1 rfl (Nat.le_of_ble_eq_true rfl) dX12_known_34 ⟨Nat.zero_le _, Nat.zero_le _⟩ (fun  u H locs hw hP hD hS => ?_)
        obtain ⟨F28, L28, A28, B28⟩ := u
        have hq28 := hw
        have hq := hq.call hq28 (by decide)
        have hP : va_P D classes (wM cA ad F28 L28 A28 B28) H := hP
        have hD : va_D Af (wM cA ad F28 L28 A28 B28) := hD
        exact J37 (F28) (L28) (A28) (B28) H locs ls hq hP hD hS (lv_sub hl [0, 1] rfl)
    · skip
      refine lv_aload_n hx hb dX12_known_17 rfl (lv_at hl 0 rfl) ?_
      refine callv_v (As := []) (rest := []) hC (c_X12_misplaced_0 l D cA H.size ad F L A B  hq.1) (cwV 0 hg (g_V mw_1328 mw_1325 mw_1327 ms_54 mw_20) rfl rfl rfl (by decide +kernel) ⟨(Nat.le_of_ble_eq_true rfl), (Nat.le_of_ble_eq_true rfl)⟩) hP hD hS hA atM_0 rfl rfl hl.1 rfl (Nat.le_of_ble_eq_true rfl) dX12_known_18 ⟨Nat.zero_le _, Nat.zero_le _⟩ (fun  u H locs hw hP hD hS => ?_)
      obtain ⟨F29, L29, A29, B29⟩ := u
      have hq29 := hw
      have hq := hq.call hq29 (by decide)
      have hP : va_P D classes (wM cA ad F29 L29 A29 B29) H := hP
      have hD : va_D Af (wM cA ad F29 L29 A29 B29) := hD
      refine lv_goto (tgt := 37) hx hb dX12_known_21 (by decide) ?_
      exact J37 (F29) (L29) (A29) (B29) H locs ls hq hP hD hS (lv_sub hl [0, 1] rfl)
  · skip
    have r5 : rg x1 0 0 := rg_eq1 c3 (r2 : rg x1 0 1) ((rg_k (by decide)) : rg 0 0 0) (by decide)
    refine lv_iconst (v := 0) hx hb dX12_known_7 (by decide) ?_
    exact hret (0) (F, L, A, B) H locs 8 ls rfl dX12_known_8 hP hD hS ⟨hq, (rg_k (by decide))⟩
