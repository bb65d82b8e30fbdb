abbrev rm_X1_settle_40 : Room := { frames := 2, cells := 0, slots := 0, locals := 47 }
set_option maxHeartbeats 4000000 in
set_option maxRecDepth 100000 in
theorem c_X1_settle_40 (l : Launch) (D : va_G) (cA : Nat → ClassId) (sz : Nat) (ad : Nat → Nat) (F : Nat → Int32) (L : Nat → Int64) (A : Nat → Nat → Int32) (B : Nat → Nat → Int64) (p1 : Int32) (p2 : Int32) (hT : typX F A) (hp1 : rg p1 0 9) (hp2 : rg p2 (-2147483648) 255) : Met l yX1_settle (Cond.code yX1_settle cX1_settle 9 (some .boolean) :: GW) rm_X1_settle_40 (mPc D classes (tysX cA) (wX cA ad F L A B) sz [.ref (ad 40), .int p1, .int p2]) (mQi (S := SW) D classes (tysX cA) (wX cA ad F L A B) sz (wfX cA ad) (fun r u => qX [] [42, 43, 44, 45] F A u.1 u.2.2.1 ∧ rg r 0 1)) 0 0 (va_A (wX cA ad F L A B) sz) := by
  refine met_i (own := "ShoeingDay$Cover") (by decide +kernel) rfl (Nat.le_of_ble_eq_true rfl) ?_
  intro p e s m args below meth c Q Af ls hC hP hD hS hA hl hret
  have hx := hC.1
  have hb := hC.2.1
  have hown := hC.2.2.2.1
  have hg := hC.g
  have hK := hC.K
  have hl : lv_has ls 9 [(0, .ref (ad 40)), (1, .int p1), (2, .int p2)] := hl
  have hq : qX [] [42, 43, 44, 45] F A F A := qX.rf hT
  obtain ⟨H, hH⟩ : ∃ H, H = s.heap := ⟨_, rfl⟩
  have hP : va_P D classes (wX cA ad F L A B) H := by rw [hH]; exact hP
  have hS : va_S Af s.heap H [] := by rw [hH]; exact hS
  obtain ⟨locs, hlo⟩ : ∃ q : List Loc, q = [] := ⟨_, rfl⟩
  rw [← hH, ← hlo]
  rw [← hlo] at hS
  refine lv_iconst (v := 0) hx hb dX1_settle_0 (by decide) ?_
  refine lv_istore_n (lv' := [(3, .int 0), (0, .ref (ad 40)), (1, .int p1), (2, .int p2)]) hx hb dX1_settle_1 rfl hl (by decide) rfl (fun ls hl => ?_)
  refine lv_iconst (v := 1) hx hb dX1_settle_2 (by decide) ?_
  refine lv_istore (lv' := [(4, .int 1), (3, .int 0), (0, .ref (ad 40)), (1, .int p1), (2, .int p2)]) hx hb dX1_settle_3 hl (by decide) rfl (fun ls hl => ?_)
  refine lv_aload_n hx hb dX1_settle_5 rfl (lv_at hl 2 rfl) ?_
  refine va_get (ci := 1) (v := .ref (ad 45)) (C := RX1) (T := TX1) (N := 5) hx hb hg inX1 hown hK hP 40 atX_40 rfl 4 (by decide) (hg _ mw_327) (fun _ h9 => h9) rfl dX1_settle_6 ?_
  refine lv_iconst (v := 0) hx hb dX1_settle_9 (by decide) ?_
  refine lv_iload_n hx hb dX1_settle_10 rfl (lv_at hl 3 rfl) ?_
  refine va_iast hx hb hK hP hD hS 45 33 atX_45 tyX_45 (in_rg ((rg_k (by decide)) : rg 0 0 0) (by decide)) dX1_settle_11 (fun H locs hP hD hS => ?_)
  have hq := hq.ast 45 ((0 : Int32)).toNatClampNeg (x := p1) (by decide) hp1
  rw [setX_45] at hP hD
  have k1 : p1 = (va_up A 45 (upd (A 45) ((0 : Int32)).toNatClampNeg p1)) 45 ((0 : Int32)).toNatClampNeg := (rdA).symm
  refine lv_iconst (v := 0) hx hb dX1_settle_12 (by decide) ?_
  refine lv_istore (lv' := [(5, .int 0), (4, .int 1), (3, .int 0), (0, .ref (ad 40)), (1, .int p1), (2, .int p2)]) hx hb dX1_settle_13 hl (by decide) rfl (fun ls hl => ?_)
  have J15 : ∀ (n15 : Nat) (a2 : Int32) (a4 : Int32) (a6 : Int32) (F8 : Nat → Int32) (L8 : Nat → Int64) (A8 : Nat → Nat → Int32) (B8 : Nat → Nat → Int64) (H : Heap) (locs : List Loc) (ls : Array Slot), (11 - a6.toInt).toNat < n15 → rg a2 0 1023 → rg a4 1 11 → rg a6 0 11 → qX [] [42, 43, 44, 45] F A F8 A8 → va_P D classes (wX cA ad F8 L8 A8 B8) H → va_D Af (wX cA ad F8 L8 A8 B8) → va_S Af s.heap H locs → lv_has ls 9 [(0, .ref (ad 40)), (2, .int p2), (3, .int a2), (4, .int a4), (5, .int a6)] → W p l e rm_X1_settle_40 s m args below meth c H locs 0 0 Q (F0 m 15 ls []) := by
    intro n15
    induction n15 with
    | zero =>
      intro _ _ _ _ _ _ _ _ _ _ hn
      exact absurd hn (Nat.not_lt_zero _)
    | succ n15 ih15 =>
      intro a2 a4 a6 F8 L8 A8 B8 H locs ls hn15 r3 r5 r7 hq hP hD hS hl
      refine lv_iload hx hb dX1_settle_15 (lv_at hl 4 rfl) ?_
      refine lv_iload hx hb dX1_settle_17 (lv_at hl 3 rfl) ?_
      refine lv_icmp_ge (tgt := 146) hx hb dX1_settle_19 (by decide) (fun c9 => ?_) (fun c9 => ?_)
      · skip
        have r10 : rg a6 1 11 := rg_le2 (iE c9) (r5 : rg a4 1 11) (r7 : rg a6 0 11)
        have J146 : ∀ (F12 : Nat → Int32) (L12 : Nat → Int64) (A12 : Nat → Nat → Int32) (B12 : Nat → Nat → Int64) (H : Heap) (locs : List Loc) (ls : Array Slot), qX [] [42, 43, 44, 45] F A F12 A12 → va_P D classes (wX cA ad F12 L12 A12 B12) H → va_D Af (wX cA ad F12 L12 A12 B12) → va_S Af s.heap H locs → lv_has ls 9 [] → W p l e rm_X1_settle_40 s m args below meth c H locs 0 0 Q (F0 m 146 ls []) := by
          intro F12 L12 A12 B12 H locs ls hq hP hD hS hl
          refine lv_iconst (v := 0) hx hb dX1_settle_146 (by decide) ?_
          exact hret (0) (F12, L12, A12, B12) H locs 147 ls rfl dX1_settle_147 hP hD hS ⟨hq, (rg_k (by decide))⟩
        exact J146 (F8) (L8) (A8) (B8) H locs ls hq hP hD hS (lv_sub hl [] rfl)
      · skip
        have r11 : rg a6 0 10 := rg_lt1 (iNE c9) (r7 : rg a6 0 11) (r5 : rg a4 1 11)
        refine lv_iload hx hb dX1_settle_22 (lv_at hl 4 rfl) ?_
        refine lv_aload_n hx hb dX1_settle_24 rfl (lv_at hl 0 rfl) ?_
        refine va_get (ci := 1) (v := .ref (ad 45)) (C := RX1) (T := TX1) (N := 5) hx hb hg inX1 hown hK hP 40 atX_40 rfl 4 (by decide) (hg _ mw_327) (fun _ h9 => h9) rfl dX1_settle_25 ?_
        refine va_alen (v := 11) hx hb hK hP 45 33 atX_45 tyX_45 rfl dX1_settle_28 ?_
        refine lv_icmp_ge (tgt := 146) hx hb dX1_settle_29 (by decide) (fun c13 => ?_) (fun c13 => ?_)
        · skip
          exact rg_emp (rg_le1 (iE c13) ((rg_k (by decide)) : rg 11 11 11) (r11 : rg a6 0 10)) (by decide)
        · skip
          refine lv_aload_n hx hb dX1_settle_32 rfl (lv_at hl 0 rfl) ?_
          refine va_get (ci := 1) (v := .ref (ad 45)) (C := RX1) (T := TX1) (N := 5) hx hb hg inX1 hown hK hP 40 atX_40 rfl 4 (by decide) (hg _ mw_327) (fun _ h9 => h9) rfl dX1_settle_33 ?_
          refine lv_iload hx hb dX1_settle_36 (lv_at hl 4 rfl) ?_
          refine va_iald hx hb hK hP 45 33 atX_45 tyX_45 (in_rg r11 (by decide)) dX1_settle_38 ?_
          refine lv_topi (fun x14 e15 => ?_)
          have r16 : rg x14 0 9 := rg_e e15 (hq.1.2 45 _)
          refine lv_istore (lv' := [(6, .int x14), (0, .ref (ad 40)), (2, .int p2), (3, .int a2), (4, .int a4), (5, .int a6)]) hx hb dX1_settle_39 hl (by decide) rfl (fun ls hl => ?_)
          refine lv_aload_n hx hb dX1_settle_41 rfl (lv_at hl 1 rfl) ?_
          refine va_get (ci := 1) (v := .ref (ad 41)) (C := RX1) (T := TX1) (N := 5) hx hb hg inX1 hown hK hP 40 atX_40 rfl 0 (by decide) (hg _ mw_320) (fun _ h9 => h9) rfl dX1_settle_42 ?_
          refine lv_iload hx hb dX1_settle_45 (lv_at hl 0 rfl) ?_
          refine va_iald hx hb hK hP 41 29 atX_41 tyX_41 (in_rg r16 (by decide)) dX1_settle_47 ?_
          refine lv_topi (fun x17 e18 => ?_)
          have r19 : rg x17 0 1023 := rg_e e18 (hq.1.2 41 _)
          refine lv_iload_n hx hb dX1_settle_48 rfl (lv_at hl 2 rfl) ?_
          refine lv_iand hx hb dX1_settle_49 ?_
          refine lv_topi (fun x20 e21 => ?_)
          have r22 : rg x20 0 1023 := rg_andl e21 r19 (by decide)
          refine lv_iload_n hx hb dX1_settle_50 rfl (lv_at hl 3 rfl) ?_
          refine lv_iconst (v := (-1)) hx hb dX1_settle_51 (by decide) ?_
          refine lv_ixor hx hb dX1_settle_52 ?_
          refine lv_topi (fun x23 e24 => ?_)
          refine lv_iand hx hb dX1_settle_53 ?_
          refine lv_topi (fun x25 e26 => ?_)
          have r27 : rg x25 0 1023 := rg_andl e26 r22 (by decide)
          refine lv_istore (lv' := [(7, .int x25), (6, .int x14), (0, .ref (ad 40)), (2, .int p2), (3, .int a2), (4, .int a4), (5, .int a6)]) hx hb dX1_settle_54 hl (by decide) rfl (fun ls hl => ?_)
          refine lv_iload_n hx hb dX1_settle_56 rfl (lv_at hl 4 rfl) ?_
          refine lv_iload hx hb dX1_settle_57 (lv_at hl 0 rfl) ?_
          refine lv_ior hx hb dX1_settle_59 ?_
          refine lv_topi (fun x28 e29 => ?_)
          have r30 : rg x28 0 1023 := rg_or 10 e29 r3 r27 (by decide)
          refine lv_istore_n (lv' := [(3, .int x28), (7, .int x25), (6, .int x14), (0, .ref (ad 40)), (2, .int p2), (4, .int a4), (5, .int a6)]) hx hb dX1_settle_60 rfl hl (by decide) rfl (fun ls hl => ?_)
          have J61 : ∀ (n61 : Nat) (a31 : Int32) (a33 : Int32) (F35 : Nat → Int32) (L35 : Nat → Int64) (A35 : Nat → Nat → Int32) (B35 : Nat → Nat → Int64) (H : Heap) (locs : List Loc) (ls : Array Slot), a33.toInt.toNat < n61 → rg a31 1 11 → rg a33 0 1023 → qX [] [42, 43, 44, 45] F A F35 A35 → va_P D classes (wX cA ad F35 L35 A35 B35) H → va_D Af (wX cA ad F35 L35 A35 B35) → va_S Af s.heap H locs → lv_has ls 9 [(0, .ref (ad 40)), (2, .int p2), (3, .int x28), (4, .int a31), (5, .int a6), (6, .int x14), (7, .int a33)] → W p l e rm_X1_settle_40 s m args below meth c H locs 0 0 Q (F0 m 61 ls []) := by
            intro n61
            induction n61 with
            | zero =>
              intro _ _ _ _ _ _ _ _ _ hn
              exact absurd hn (Nat.not_lt_zero _)
            | succ n61 ih61 =>
              intro a31 a33 F35 L35 A35 B35 H locs ls hn61 r32 r34 hq hP hD hS hl
              refine lv_iload hx hb dX1_settle_61 (lv_at hl 6 rfl) ?_
              refine lv_if_eq (tgt := 140) hx hb dX1_settle_63 (by decide) (fun c36 => ?_) (fun c36 => ?_)
              · skip
                have r37 : rg a33 0 0 := rg_eq1 c36 (r34 : rg a33 0 1023) ((rg_k (by decide)) : rg 0 0 0) (by decide)
                obtain ⟨x39, e40⟩ : ∃ y : Int32, y = a6 + 1 := ⟨_, rfl⟩
                have r41 : rg x39 1 11 := rg_add e40 r11 (rg_k (by decide) : rg 1 1 1) (by decide)
                refine lv_iinc (v := x39) (lv' := [(5, .int x39), (0, .ref (ad 40)), (2, .int p2), (3, .int x28), (4, .int a31), (6, .int x14), (7, .int a33)]) hx hb dX1_settle_140 hl (k := 4) rfl (by rw [e40]; rfl) (by decide) rfl (fun ls hl => ?_)
                refine lv_goto (tgt := 15) hx hb dX1_settle_143 (by decide) ?_
                exact ih15 (x28) (a31) (x39) (F35) (L35) (A35) (B35) H locs ls (by have h0 : (1 : Int32).toInt = 1 := rfl; have h1 := ti_addk e40 r11 (by decide); have h2 : rg x39 0 11 := (rg_w r41 (by decide)); unfold rg at h2; omega) r30 r32 (rg_w r41 (by decide)) hq hP hD hS (lv_sub hl [1, 2, 3, 4, 0] rfl)
              · skip
                have r38 : rg a33 1 1023 := (rg_ne1 c36 (r34 : rg a33 0 1023) ((rg_k (by decide)) : rg 0 0 0)).1 rfl
                refine lv_iload hx hb dX1_settle_66 (lv_at hl 6 rfl) ?_
                refine calln_i (As := [.int a33]) (rest := []) hC (c_X11_lowest l D (tysX cA) (wX cA ad F35 L35 A35 B35) H.size (a33)) ⟨va_cnB 1 hg (g_N mw_799) rfl rfl rfl (mn_13 hC.N) (hg _ mw_1) (by decide +kernel) ⟨(Nat.le_of_ble_eq_true rfl), (Nat.le_of_ble_eq_true rfl)⟩, (hg _ mw_798), trivial⟩ hP hD hS hA rfl hl.1 rfl (Nat.le_of_ble_eq_true rfl) dX1_settle_68 ⟨Nat.zero_le _, Nat.zero_le _⟩ (fun x42 u H locs hw hP hD hS => ?_)
                have e43 := hw
                have hP : va_P D classes (wX cA ad F35 L35 A35 B35) H := hP
                have hD : va_D Af (wX cA ad F35 L35 A35 B35) := hD
                have r44 : rg x42 0 9 := rg_low hw r38 (k := 10) (by decide)
                refine lv_istore (lv' := [(8, .int x42), (0, .ref (ad 40)), (2, .int p2), (3, .int x28), (4, .int a31), (5, .int a6), (6, .int x14), (7, .int a33)]) hx hb dX1_settle_71 hl (by decide) rfl (fun ls hl => ?_)
                refine lv_aload_n hx hb dX1_settle_73 rfl (lv_at hl 1 rfl) ?_
                refine va_get (ci := 1) (v := .ref (ad 44)) (C := RX1) (T := TX1) (N := 5) hx hb hg inX1 hown hK hP 40 atX_40 rfl 3 (by decide) (hg _ mw_326) (fun _ h9 => h9) rfl dX1_settle_74 ?_
                refine lv_iload hx hb dX1_settle_77 (lv_at hl 0 rfl) ?_
                refine lv_iload hx hb dX1_settle_79 (lv_at hl 6 rfl) ?_
                refine va_iast hx hb hK hP hD hS 44 32 atX_44 tyX_44 (in_rg r44 (by decide)) dX1_settle_81 (fun H locs hP hD hS => ?_)
                have hq := hq.ast 44 (x42).toNatClampNeg (x := x14) (by decide) r16
                rw [setX_44] at hP hD
                have k45 : x14 = (va_up A35 44 (upd (A35 44) (x42).toNatClampNeg x14)) 44 (x42).toNatClampNeg := (rdA).symm
                refine lv_aload_n hx hb dX1_settle_82 rfl (lv_at hl 1 rfl) ?_
                refine va_get (ci := 1) (v := .ref (ad 43)) (C := RX1) (T := TX1) (N := 5) hx hb hg inX1 hown hK hP 40 atX_40 rfl 2 (by decide) (hg _ mw_324) (fun _ h9 => h9) rfl dX1_settle_83 ?_
                refine lv_iload hx hb dX1_settle_86 (lv_at hl 0 rfl) ?_
                refine va_iald hx hb hK hP 43 31 atX_43 tyX_43 (in_rg r44 (by decide)) dX1_settle_88 ?_
                refine lv_topi (fun x46 e47 => ?_)
                have r48 : rg x46 (-1) 9 := rg_e e47 (hq.1.2 43 _)
                refine lv_iconst (v := (-1)) hx hb dX1_settle_89 (by decide) ?_
                refine lv_icmp_ne (tgt := 101) hx hb dX1_settle_90 (by decide) (fun c49 => ?_) (fun c49 => ?_)
                · skip
                  have r50 : rg x46 0 9 := (rg_ne1 c49 (r48 : rg x46 (-1) 9) ((rg_k (by decide)) : rg (-1) (-1) (-1))).1 rfl
                  refine lv_iload hx hb dX1_settle_101 (lv_at hl 4 rfl) ?_
                  refine lv_aload_n hx hb dX1_settle_103 rfl (lv_at hl 1 rfl) ?_
                  refine va_get (ci := 1) (v := .ref (ad 45)) (C := RX1) (T := TX1) (N := 5) hx hb hg inX1 hown hK hP 40 atX_40 rfl 4 (by decide) (hg _ mw_327) (fun _ h9 => h9) rfl dX1_settle_104 ?_
                  refine va_alen (v := 11) hx hb hK hP 45 33 atX_45 tyX_45 rfl dX1_settle_107 ?_
                  have J128 : ∀ (a52 : Int32) (F54 : Nat → Int32) (L54 : Nat → Int64) (A54 : Nat → Nat → Int32) (B54 : Nat → Nat → Int64) (H : Heap) (locs : List Loc) (ls : Array Slot), rg a52 2 11 → qX [] [42, 43, 44, 45] F A F54 A54 → va_P D classes (wX cA ad F54 L54 A54 B54) H → va_D Af (wX cA ad F54 L54 A54 B54) → va_S Af s.heap H locs → lv_has ls 9 [(0, .ref (ad 40)), (2, .int p2), (3, .int x28), (4, .int a52), (5, .int a6), (6, .int x14), (7, .int a33)] → W p l e rm_X1_settle_40 s m args below meth c H locs 0 0 Q (F0 m 128 ls []) := by
                    intro a52 F54 L54 A54 B54 H locs ls r53 hq hP hD hS hl
                    refine lv_iload hx hb dX1_settle_128 (lv_at hl 6 rfl) ?_
                    refine lv_iload hx hb dX1_settle_130 (lv_at hl 6 rfl) ?_
                    refine lv_iconst (v := 1) hx hb dX1_settle_132 (by decide) ?_
                    refine lv_isub hx hb dX1_settle_133 ?_
                    refine lv_topi (fun x55 e56 => ?_)
                    have r57 : rg x55 0 1022 := rg_sub e56 r38 ((rg_k (by decide)) : rg 1 1 1) (by decide)
                    refine lv_iand hx hb dX1_settle_134 ?_
                    refine lv_topi (fun x58 e59 => ?_)
                    have r60 : rg x58 0 1022 := rg_andr e59 r57 (by decide)
                    refine lv_istore (lv' := [(7, .int x58), (0, .ref (ad 40)), (2, .int p2), (3, .int x28), (4, .int a52), (5, .int a6), (6, .int x14)]) hx hb dX1_settle_135 hl (by decide) rfl (fun ls hl => ?_)
                    refine lv_goto (tgt := 61) hx hb dX1_settle_137 (by decide) ?_
                    exact ih61 (a52) (x58) (F54) (L54) (A54) (B54) H locs ls (by have h1 := mask_less (show x58 = a33 &&& (a33 - 1) by rw [← e56]; exact e59) r38 (by decide); omega) (rg_w r53 (by decide)) (rg_w r60 (by decide)) hq hP hD hS (lv_sub hl [1, 2, 3, 4, 5, 6, 0] rfl)
                  refine lv_icmp_ge (tgt := 128) hx hb dX1_settle_108 (by decide) (fun c61 => ?_) (fun c61 => ?_)
                  · skip
                    have r62 : rg a31 11 11 := rg_le2 (iE c61) ((rg_k (by decide)) : rg 11 11 11) (r32 : rg a31 1 11)
                    exact J128 (a31) (F35) (L35) ((va_up A35 44 (upd (A35 44) (x42).toNatClampNeg x14))) (B35) H locs ls (rg_w r62 (by decide)) hq hP hD hS (lv_sub hl [1, 2, 3, 4, 5, 6, 7] rfl)
                  · skip
                    have r63 : rg a31 1 10 := rg_lt1 (iNE c61) (r32 : rg a31 1 11) ((rg_k (by decide)) : rg 11 11 11)
                    refine lv_aload_n hx hb dX1_settle_111 rfl (lv_at hl 1 rfl) ?_
                    refine va_get (ci := 1) (v := .ref (ad 45)) (C := RX1) (T := TX1) (N := 5) hx hb hg inX1 hown hK hP 40 atX_40 rfl 4 (by decide) (hg _ mw_327) (fun _ h9 => h9) rfl dX1_settle_112 ?_
                    refine lv_iload hx hb dX1_settle_115 (lv_at hl 4 rfl) ?_
                    refine lv_aload_n hx hb dX1_settle_117 rfl (lv_at hl 1 rfl) ?_
                    refine va_get (ci := 1) (v := .ref (ad 43)) (C := RX1) (T := TX1) (N := 5) hx hb hg inX1 hown hK hP 40 atX_40 rfl 2 (by decide) (hg _ mw_324) (fun _ h9 => h9) rfl dX1_settle_118 ?_
                    refine lv_iload hx hb dX1_settle_121 (lv_at hl 0 rfl) ?_
                    refine va_iald hx hb hK hP 43 31 atX_43 tyX_43 (in_rg r44 (by decide)) dX1_settle_123 ?_
                    refine tope (e47) ?_
                    refine va_iast hx hb hK hP hD hS 45 33 atX_45 tyX_45 (in_rg r63 (by decide)) dX1_settle_124 (fun H locs hP hD hS => ?_)
                    have hq := hq.ast 45 (a31).toNatClampNeg (x := x46) (by decide) r50
                    rw [setX_45] at hP hD
                    have k64 : x46 = (va_up (va_up A35 44 (upd (A35 44) (x42).toNatClampNeg x14)) 45 (upd ((va_up A35 44 (upd (A35 44) (x42).toNatClampNeg x14)) 45) (a31).toNatClampNeg x46)) 45 (a31).toNatClampNeg := (rdA).symm
                    obtain ⟨x65, e66⟩ : ∃ y : Int32, y = a31 + 1 := ⟨_, rfl⟩
                    have r67 : rg x65 2 11 := rg_add e66 r63 (rg_k (by decide) : rg 1 1 1) (by decide)
                    refine lv_iinc (v := x65) (lv' := [(4, .int x65), (8, .int x42), (0, .ref (ad 40)), (2, .int p2), (3, .int x28), (5, .int a6), (6, .int x14), (7, .int a33)]) hx hb dX1_settle_125 hl (k := 4) rfl (by rw [e66]; rfl) (by decide) rfl (fun ls hl => ?_)
                    exact J128 (x65) (F35) (L35) ((va_up (va_up A35 44 (upd (A35 44) (x42).toNatClampNeg x14)) 45 (upd ((va_up A35 44 (upd (A35 44) (x42).toNatClampNeg x14)) 45) (a31).toNatClampNeg x46))) (B35) H locs ls r67 hq hP hD hS (lv_sub hl [2, 3, 4, 0, 5, 6, 7] rfl)
                · skip
                  have r51 : rg x46 (-1) (-1) := rg_eq1 c49 (r48 : rg x46 (-1) 9) ((rg_k (by decide)) : rg (-1) (-1) (-1)) (by decide)
                  refine lv_aload_n hx hb dX1_settle_93 rfl (lv_at hl 1 rfl) ?_
                  refine lv_iload hx hb dX1_settle_94 (lv_at hl 0 rfl) ?_
                  refine callv_v (As := [.int x42]) (rest := []) hC (c_X1_changeSeats_40 l D cA H.size ad F35 L35 (va_up A35 44 (upd (A35 44) (x42).toNatClampNeg x14)) B35 (x42) hq.1 r44) (cwV 1 hg (g_V mw_809 mw_806 mw_808 ms_21 mw_15) rfl rfl rfl (by decide +kernel) ⟨(Nat.le_of_ble_eq_true rfl), (Nat.le_of_ble_eq_true rfl)⟩) hP hD hS hA atX_40 rfl rfl hl.1 rfl (Nat.le_of_ble_eq_true rfl) dX1_settle_96 ⟨Nat.zero_le _, Nat.zero_le _⟩ (fun  u H locs hw hP hD hS => ?_)
                  obtain ⟨F68, L68, A68, B68⟩ := u
                  try dsimp only at hw
                  have hq68 := hw
                  have hq := hq.call hq68 (by decide)
                  have hP : va_P D classes (wX cA ad F68 L68 A68 B68) H := hP
                  have hD : va_D Af (wX cA ad F68 L68 A68 B68) := hD
                  refine lv_iconst (v := 1) hx hb dX1_settle_99 (by decide) ?_
                  exact hret (1) (F68, L68, A68, B68) H locs 100 ls rfl dX1_settle_100 hP hD hS ⟨hq, (rg_k (by decide))⟩
          exact J61 _ (a4) (x25) (F8) (L8) (A8) (B8) H locs ls (Nat.lt_succ_self _) r5 r27 hq hP hD hS (lv_sub hl [3, 4, 0, 5, 6, 2, 1] rfl)
  exact J15 _ (0) (1) (0) (F) (L) ((va_up A 45 (upd (A 45) ((0 : Int32)).toNatClampNeg p1))) (B) H locs ls (Nat.lt_succ_self _) (rg_k (by decide)) (rg_k (by decide)) (rg_k (by decide)) hq hP hD hS (lv_sub hl [3, 5, 2, 1, 0] rfl)
abbrev rm_X1_release_34 : Room := { frames := 0, cells := 0, slots := 0, locals := 0 }
set_option maxHeartbeats 4000000 in
set_option maxRecDepth 100000 in
theorem c_X1_release_34 (l : Launch) (D : va_G) (cA : Nat → ClassId) (sz : Nat) (ad : Nat → Nat) (F : Nat → Int32) (L : Nat → Int64) (A : Nat → Nat → Int32) (B : Nat → Nat → Int64) (p1 : Int32) (hT : typX F A) (hp1 : rg p1 0 9) : Met l yX1_release (Cond.code yX1_release cX1_release 3 none :: GW) rm_X1_release_34 (mPc D classes (tysX cA) (wX cA ad F L A B) sz [.ref (ad 34), .int p1]) (mQv (S := SW) D classes (tysX cA) (wX cA ad F L A B) sz (wfX cA ad) (fun u => qX [] [36, 37] F A u.1 u.2.2.1)) 0 0 (va_A (wX cA ad F L A B) sz) := by
  refine met_v (own := "ShoeingDay$Cover") (by decide +kernel) rfl (Nat.le_of_ble_eq_true rfl) ?_
  intro p e s m args below meth c Q Af ls hC hP hD hS hA hl hret
  have hx := hC.1
  have hb := hC.2.1
  have hown := hC.2.2.2.1
  have hg := hC.g
  have hK := hC.K
  have hl : lv_has ls 3 [(0, .ref (ad 34)), (1, .int p1)] := hl
  have hq : qX [] [36, 37] F A F A := qX.rf hT
  obtain ⟨H, hH⟩ : ∃ H, H = s.heap := ⟨_, rfl⟩
  have hP : va_P D classes (wX cA ad F L A B) H := by rw [hH]; exact hP
  have hS : va_S Af s.heap H [] := by rw [hH]; exact hS
  obtain ⟨locs, hlo⟩ : ∃ q : List Loc, q = [] := ⟨_, rfl⟩
  rw [← hH, ← hlo]
  rw [← hlo] at hS
  refine lv_aload_n hx hb dX1_release_0 rfl (lv_at hl 0 rfl) ?_
  refine va_get (ci := 1) (v := .ref (ad 36)) (C := RX1) (T := TX1) (N := 5) hx hb hg inX1 hown hK hP 34 atX_34 rfl 1 (by decide) (hg _ mw_322) (fun _ h9 => h9) rfl dX1_release_1 ?_
  refine lv_iload_n hx hb dX1_release_4 rfl (lv_at hl 1 rfl) ?_
  refine va_iald hx hb hK hP 36 25 atX_36 tyX_36 (in_rg hp1 (by decide)) dX1_release_5 ?_
  refine lv_topi (fun x1 e2 => ?_)
  have r3 : rg x1 (-1) 9 := rg_e e2 (hq.1.2 36 _)
  refine lv_istore_n (lv' := [(2, .int x1), (0, .ref (ad 34)), (1, .int p1)]) hx hb dX1_release_6 rfl hl (by decide) rfl (fun ls hl => ?_)
  refine lv_iload_n hx hb dX1_release_7 rfl (lv_at hl 0 rfl) ?_
  refine lv_iconst (v := (-1)) hx hb dX1_release_8 (by decide) ?_
  refine lv_icmp_eq (tgt := 26) hx hb dX1_release_9 (by decide) (fun c4 => ?_) (fun c4 => ?_)
  · skip
    have r5 : rg x1 (-1) (-1) := rg_eq1 c4 (r3 : rg x1 (-1) 9) ((rg_k (by decide)) : rg (-1) (-1) (-1)) (by decide)
    exact hret (F, L, A, B) H locs 26 ls dX1_release_26 hP hD hS hq
  · skip
    have r6 : rg x1 0 9 := (rg_ne1 c4 (r3 : rg x1 (-1) 9) ((rg_k (by decide)) : rg (-1) (-1) (-1))).1 rfl
    refine lv_aload_n hx hb dX1_release_12 rfl (lv_at hl 1 rfl) ?_
    refine va_get (ci := 1) (v := .ref (ad 37)) (C := RX1) (T := TX1) (N := 5) hx hb hg inX1 hown hK hP 34 atX_34 rfl 2 (by decide) (hg _ mw_324) (fun _ h9 => h9) rfl dX1_release_13 ?_
    refine lv_iload_n hx hb dX1_release_16 rfl (lv_at hl 0 rfl) ?_
    refine lv_iconst (v := (-1)) hx hb dX1_release_17 (by decide) ?_
    refine va_iast hx hb hK hP hD hS 37 26 atX_37 tyX_37 (in_rg r6 (by decide)) dX1_release_18 (fun H locs hP hD hS => ?_)
    have hq := hq.ast 37 (x1).toNatClampNeg (x := (-1)) (by decide) (rg_k (by decide))
    rw [setX_37] at hP hD
    have k7 : ((-1) : Int32) = (va_up A 37 (upd (A 37) (x1).toNatClampNeg (-1))) 37 (x1).toNatClampNeg := (rdA).symm
    refine lv_aload_n hx hb dX1_release_19 rfl (lv_at hl 1 rfl) ?_
    refine va_get (ci := 1) (v := .ref (ad 36)) (C := RX1) (T := TX1) (N := 5) hx hb hg inX1 hown hK hP 34 atX_34 rfl 1 (by decide) (hg _ mw_322) (fun _ h9 => h9) rfl dX1_release_20 ?_
    refine lv_iload_n hx hb dX1_release_23 rfl (lv_at hl 2 rfl) ?_
    refine lv_iconst (v := (-1)) hx hb dX1_release_24 (by decide) ?_
    refine va_iast hx hb hK hP hD hS 36 25 atX_36 tyX_36 (in_rg hp1 (by decide)) dX1_release_25 (fun H locs hP hD hS => ?_)
    have hq := hq.ast 36 (p1).toNatClampNeg (x := (-1)) (by decide) (rg_k (by decide))
    rw [setX_36] at hP hD
    have k8 : ((-1) : Int32) = (va_up (va_up A 37 (upd (A 37) (x1).toNatClampNeg (-1))) 36 (upd ((va_up A 37 (upd (A 37) (x1).toNatClampNeg (-1))) 36) (p1).toNatClampNeg (-1))) 36 (p1).toNatClampNeg := (rdA).symm
    exact hret (F, L, (va_up (va_up A 37 (upd (A 37) (x1).toNatClampNeg (-1))) 36 (upd ((va_up A 37 (upd (A 37) (x1).toNatClampNeg (-1))) 36) (p1).toNatClampNeg (-1))), B) H locs 26 ls dX1_release_26 hP hD hS hq
abbrev rm_X1_release_40 : Room := { frames := 0, cells := 0, slots := 0, locals := 0 }
set_option maxHeartbeats 4000000 in
set_option maxRecDepth 100000 in
theorem c_X1_release_40 (l : Launch) (D : va_G) (cA : Nat → ClassId) (sz : Nat) (ad : Nat → Nat) (F : Nat → Int32) (L : Nat → Int64) (A : Nat → Nat → Int32) (B : Nat → Nat → Int64) (p1 : Int32) (hT : typX F A) (hp1 : rg p1 0 9) : Met l yX1_release (Cond.code yX1_release cX1_release 3 none :: GW) rm_X1_release_40 (mPc D classes (tysX cA) (wX cA ad F L A B) sz [.ref (ad 40), .int p1]) (mQv (S := SW) D classes (tysX cA) (wX cA ad F L A B) sz (wfX cA ad) (fun u => qX [] [42, 43] F A u.1 u.2.2.1)) 0 0 (va_A (wX cA ad F L A B) sz) := by
  refine met_v (own := "ShoeingDay$Cover") (by decide +kernel) rfl (Nat.le_of_ble_eq_true rfl) ?_
  intro p e s m args below meth c Q Af ls hC hP hD hS hA hl hret
  have hx := hC.1
  have hb := hC.2.1
  have hown := hC.2.2.2.1
  have hg := hC.g
  have hK := hC.K
  have hl : lv_has ls 3 [(0, .ref (ad 40)), (1, .int p1)] := hl
  have hq : qX [] [42, 43] F A F A := qX.rf hT
  obtain ⟨H, hH⟩ : ∃ H, H = s.heap := ⟨_, rfl⟩
  have hP : va_P D classes (wX cA ad F L A B) H := by rw [hH]; exact hP
  have hS : va_S Af s.heap H [] := by rw [hH]; exact hS
  obtain ⟨locs, hlo⟩ : ∃ q : List Loc, q = [] := ⟨_, rfl⟩
  rw [← hH, ← hlo]
  rw [← hlo] at hS
  refine lv_aload_n hx hb dX1_release_0 rfl (lv_at hl 0 rfl) ?_
  refine va_get (ci := 1) (v := .ref (ad 42)) (C := RX1) (T := TX1) (N := 5) hx hb hg inX1 hown hK hP 40 atX_40 rfl 1 (by decide) (hg _ mw_322) (fun _ h9 => h9) rfl dX1_release_1 ?_
  refine lv_iload_n hx hb dX1_release_4 rfl (lv_at hl 1 rfl) ?_
  refine va_iald hx hb hK hP 42 30 atX_42 tyX_42 (in_rg hp1 (by decide)) dX1_release_5 ?_
  refine lv_topi (fun x1 e2 => ?_)
  have r3 : rg x1 (-1) 9 := rg_e e2 (hq.1.2 42 _)
  refine lv_istore_n (lv' := [(2, .int x1), (0, .ref (ad 40)), (1, .int p1)]) hx hb dX1_release_6 rfl hl (by decide) rfl (fun ls hl => ?_)
  refine lv_iload_n hx hb dX1_release_7 rfl (lv_at hl 0 rfl) ?_
  refine lv_iconst (v := (-1)) hx hb dX1_release_8 (by decide) ?_
  refine lv_icmp_eq (tgt := 26) hx hb dX1_release_9 (by decide) (fun c4 => ?_) (fun c4 => ?_)
  · skip
    have r5 : rg x1 (-1) (-1) := rg_eq1 c4 (r3 : rg x1 (-1) 9) ((rg_k (by decide)) : rg (-1) (-1) (-1)) (by decide)
    exact hret (F, L, A, B) H locs 26 ls dX1_release_26 hP hD hS hq
  · skip
    have r6 : rg x1 0 9 := (rg_ne1 c4 (r3 : rg x1 (-1) 9) ((rg_k (by decide)) : rg (-1) (-1) (-1))).1 rfl
    refine lv_aload_n hx hb dX1_release_12 rfl (lv_at hl 1 rfl) ?_
    refine va_get (ci := 1) (v := .ref (ad 43)) (C := RX1) (T := TX1) (N := 5) hx hb hg inX1 hown hK hP 40 atX_40 rfl 2 (by decide) (hg _ mw_324) (fun _ h9 => h9) rfl dX1_release_13 ?_
    refine lv_iload_n hx hb dX1_release_16 rfl (lv_at hl 0 rfl) ?_
    refine lv_iconst (v := (-1)) hx hb dX1_release_17 (by decide) ?_
    refine va_iast hx hb hK hP hD hS 43 31 atX_43 tyX_43 (in_rg r6 (by decide)) dX1_release_18 (fun H locs hP hD hS => ?_)
    have hq := hq.ast 43 (x1).toNatClampNeg (x := (-1)) (by decide) (rg_k (by decide))
    rw [setX_43] at hP hD
    have k7 : ((-1) : Int32) = (va_up A 43 (upd (A 43) (x1).toNatClampNeg (-1))) 43 (x1).toNatClampNeg := (rdA).symm
    refine lv_aload_n hx hb dX1_release_19 rfl (lv_at hl 1 rfl) ?_
    refine va_get (ci := 1) (v := .ref (ad 42)) (C := RX1) (T := TX1) (N := 5) hx hb hg inX1 hown hK hP 40 atX_40 rfl 1 (by decide) (hg _ mw_322) (fun _ h9 => h9) rfl dX1_release_20 ?_
    refine lv_iload_n hx hb dX1_release_23 rfl (lv_at hl 2 rfl) ?_
    refine lv_iconst (v := (-1)) hx hb dX1_release_24 (by decide) ?_
    refine va_iast hx hb hK hP hD hS 42 30 atX_42 tyX_42 (in_rg hp1 (by decide)) dX1_release_25 (fun H locs hP hD hS => ?_)
    have hq := hq.ast 42 (p1).toNatClampNeg (x := (-1)) (by decide) (rg_k (by decide))
    rw [setX_42] at hP hD
    have k8 : ((-1) : Int32) = (va_up (va_up A 43 (upd (A 43) (x1).toNatClampNeg (-1))) 42 (upd ((va_up A 43 (upd (A 43) (x1).toNatClampNeg (-1))) 42) (p1).toNatClampNeg (-1))) 42 (p1).toNatClampNeg := (rdA).symm
    exact hret (F, L, (va_up (va_up A 43 (upd (A 43) (x1).toNatClampNeg (-1))) 42 (upd ((va_up A 43 (upd (A 43) (x1).toNatClampNeg (-1))) 42) (p1).toNatClampNeg (-1))), B) H locs 26 ls dX1_release_26 hP hD hS hq
abbrev rm_X2_canSpare_27 : Room := { frames := 3, cells := 0, slots := 0, locals := 75 }
set_option maxHeartbeats 4000000 in
set_option maxRecDepth 100000 in
theorem c_X2_canSpare_27 (l : Launch) (D : va_G) (cA : Nat → ClassId) (sz : Nat) (ad : Nat → Nat) (F : Nat → Int32) (L : Nat → Int64) (A : Nat → Nat → Int32) (B : Nat → Nat → Int64) (p1 : Int32) (p2 : Int32) (p3 : Int32) (hT : typX F A) (hp1 : rg p1 0 9) (hp2 : rg p2 (-1) 9) (hp3 : rg p3 (-255) 254) : Met l yX2_canSpare (Cond.code yX2_canSpare cX2_canSpare 6 (some .boolean) :: GW) rm_X2_canSpare_27 (mPc D classes (tysX cA) (wX cA ad F L A B) sz [.ref (ad 27), .int p1, .int p2, .int p3]) (mQi (S := SW) D classes (tysX cA) (wX cA ad F L A B) sz (wfX cA ad) (fun r u => qX [] [36, 37, 38, 39, 42, 43, 44, 45] F A u.1 u.2.2.1 ∧ rg r 0 1)) 0 0 (va_A (wX cA ad F L A B) sz) := by
  refine met_i (own := "ShoeingDay$Day") (by decide +kernel) rfl (Nat.le_of_ble_eq_true rfl) ?_
  intro p e s m args below meth c Q Af ls hC hP hD hS hA hl hret
  have hx := hC.1
  have hb := hC.2.1
  have hown := hC.2.2.2.1
  have hg := hC.g
  have hK := hC.K
  have hl : lv_has ls 6 [(0, .ref (ad 27)), (1, .int p1), (2, .int p2), (3, .int p3)] := hl
  have hq : qX [] [36, 37, 38, 39, 42, 43, 44, 45] F A F A := qX.rf hT
  obtain ⟨H, hH⟩ : ∃ H, H = s.heap := ⟨_, rfl⟩
  have hP : va_P D classes (wX cA ad F L A B) H := by rw [hH]; exact hP
  have hS : va_S Af s.heap H [] := by rw [hH]; exact hS
  obtain ⟨locs, hlo⟩ : ∃ q : List Loc, q = [] := ⟨_, rfl⟩
  rw [← hH, ← hlo]
  rw [← hlo] at hS
  refine lv_aload_n hx hb dX2_canSpare_0 rfl (lv_at hl 0 rfl) ?_
  refine va_get (ci := 2) (v := .ref (ad 34)) (C := RX2) (T := TX2) (N := 15) hx hb hg inX2 hown hK hP 27 atX_27 rfl 10 (by decide) (hg _ mw_357) (fun _ h9 => h9) rfl dX2_canSpare_1 ?_
  refine va_get (ci := 1) (v := .ref (ad 37)) (C := RX1) (T := TX1) (N := 5) hx hb hg inX1 hown hK hP 34 atX_34 rfl 2 (by decide) (hg _ mw_325) (fun _ h9 => h9) rfl dX2_canSpare_4 ?_
  refine lv_iload_n hx hb dX2_canSpare_7 rfl (lv_at hl 1 rfl) ?_
  refine va_iald hx hb hK hP 37 26 atX_37 tyX_37 (in_rg hp1 (by decide)) dX2_canSpare_8 ?_
  refine lv_topi (fun x1 e2 => ?_)
  have r3 : rg x1 (-1) 9 := rg_e e2 (hq.1.2 37 _)
  refine lv_istore (lv' := [(4, .int x1), (0, .ref (ad 27)), (1, .int p1), (2, .int p2), (3, .int p3)]) hx hb dX2_canSpare_9 hl (by decide) rfl (fun ls hl => ?_)
  refine lv_iload hx hb dX2_canSpare_11 (lv_at hl 0 rfl) ?_
  refine lv_iconst (v := (-1)) hx hb dX2_canSpare_13 (by decide) ?_
  have J60 : ∀ (F4 : Nat → Int32) (L4 : Nat → Int64) (A4 : Nat → Nat → Int32) (B4 : Nat → Nat → Int64) (H : Heap) (locs : List Loc) (ls : Array Slot), qX [] [36, 37, 38, 39, 42, 43, 44, 45] F A F4 A4 → va_P D classes (wX cA ad F4 L4 A4 B4) H → va_D Af (wX cA ad F4 L4 A4 B4) → va_S Af s.heap H locs → lv_has ls 6 [(0, .ref (ad 27)), (1, .int p1), (2, .int p2), (3, .int p3)] → W p l e rm_X2_canSpare_27 s m args below meth c H locs 0 0 Q (F0 m 60 ls []) := by
    intro F4 L4 A4 B4 H locs ls hq hP hD hS hl
    refine lv_iload_n hx hb dX2_canSpare_60 rfl (lv_at hl 2 rfl) ?_
    refine lv_iconst (v := (-1)) hx hb dX2_canSpare_61 (by decide) ?_
    have J70 : ∀ (F5 : Nat → Int32) (L5 : Nat → Int64) (A5 : Nat → Nat → Int32) (B5 : Nat → Nat → Int64) (H : Heap) (locs : List Loc) (ls : Array Slot), qX [] [36, 37, 38, 39, 42, 43, 44, 45] F A F5 A5 → va_P D classes (wX cA ad F5 L5 A5 B5) H → va_D Af (wX cA ad F5 L5 A5 B5) → va_S Af s.heap H locs → lv_has ls 6 [] → W p l e rm_X2_canSpare_27 s m args below meth c H locs 0 0 Q (F0 m 70 ls []) := by
      intro F5 L5 A5 B5 H locs ls hq hP hD hS hl
      refine lv_iconst (v := 1) hx hb dX2_canSpare_70 (by decide) ?_
      exact hret (1) (F5, L5, A5, B5) H locs 71 ls rfl dX2_canSpare_71 hP hD hS ⟨hq, (rg_k (by decide))⟩
    refine lv_icmp_eq (tgt := 70) hx hb dX2_canSpare_62 (by decide) (fun c6 => ?_) (fun c6 => ?_)
    · skip
      have r7 : rg p2 (-1) (-1) := rg_eq1 c6 (hp2 : rg p2 (-1) 9) ((rg_k (by decide)) : rg (-1) (-1) (-1)) (by decide)
      exact J70 (F4) (L4) (A4) (B4) H locs ls hq hP hD hS (lv_sub hl [] rfl)
    · skip
      have r8 : rg p2 0 9 := (rg_ne1 c6 (hp2 : rg p2 (-1) 9) ((rg_k (by decide)) : rg (-1) (-1) (-1))).1 rfl
      refine lv_iload_n hx hb dX2_canSpare_65 rfl (lv_at hl 2 rfl) ?_
      refine lv_iload_n hx hb dX2_canSpare_66 rfl (lv_at hl 1 rfl) ?_
      refine lv_icmp_ne (tgt := 72) hx hb dX2_canSpare_67 (by decide) (fun c9 => ?_) (fun c9 => ?_)
      · skip
        refine lv_aload_n hx hb dX2_canSpare_72 rfl (lv_at hl 0 rfl) ?_
        refine va_get (ci := 2) (v := .ref (ad 40)) (C := RX2) (T := TX2) (N := 15) hx hb hg inX2 hown hK hP 27 atX_27 rfl 11 (by decide) (hg _ mw_358) (fun _ h9 => h9) rfl dX2_canSpare_73 ?_
        refine va_get (ci := 1) (v := .ref (ad 42)) (C := RX1) (T := TX1) (N := 5) hx hb hg inX1 hown hK hP 40 atX_40 rfl 1 (by decide) (hg _ mw_323) (fun _ h9 => h9) rfl dX2_canSpare_76 ?_
        refine lv_iload_n hx hb dX2_canSpare_79 rfl (lv_at hl 1 rfl) ?_
        refine va_iald hx hb hK hP 42 30 atX_42 tyX_42 (in_rg hp1 (by decide)) dX2_canSpare_80 ?_
        refine lv_topi (fun x10 e11 => ?_)
        have r12 : rg x10 (-1) 9 := rg_e e11 (hq.1.2 42 _)
        refine lv_istore (lv' := [(5, .int x10), (0, .ref (ad 27)), (1, .int p1), (2, .int p2), (3, .int p3)]) hx hb dX2_canSpare_81 hl (by decide) rfl (fun ls hl => ?_)
        refine lv_aload_n hx hb dX2_canSpare_83 rfl (lv_at hl 1 rfl) ?_
        refine va_get (ci := 2) (v := .ref (ad 40)) (C := RX2) (T := TX2) (N := 15) hx hb hg inX2 hown hK hP 27 atX_27 rfl 11 (by decide) (hg _ mw_358) (fun _ h9 => h9) rfl dX2_canSpare_84 ?_
        refine lv_iload_n hx hb dX2_canSpare_87 rfl (lv_at hl 2 rfl) ?_
        refine callv_v (As := [.int p1]) (rest := []) hC (c_X1_release_40 l D cA H.size ad F4 L4 A4 B4 (p1) hq.1 hp1) (cwV 1 hg (g_V mw_821 mw_818 mw_819 mw_820 mw_15) rfl rfl rfl (by decide +kernel) ⟨(Nat.le_of_ble_eq_true rfl), (Nat.le_of_ble_eq_true rfl)⟩) hP hD hS hA atX_40 rfl rfl hl.1 rfl (Nat.le_of_ble_eq_true rfl) dX2_canSpare_88 ⟨Nat.zero_le _, Nat.zero_le _⟩ (fun  u H locs hw hP hD hS => ?_)
        obtain ⟨F13, L13, A13, B13⟩ := u
        try dsimp only at hw
        have hq13 := hw
        have hq := hq.call hq13 (by decide)
        have hP : va_P D classes (wX cA ad F13 L13 A13 B13) H := hP
        have hD : va_D Af (wX cA ad F13 L13 A13 B13) := hD
        refine lv_aload_n hx hb dX2_canSpare_91 rfl (lv_at hl 1 rfl) ?_
        refine va_get (ci := 2) (v := .ref (ad 40)) (C := RX2) (T := TX2) (N := 15) hx hb hg inX2 hown hK hP 27 atX_27 rfl 11 (by decide) (hg _ mw_358) (fun _ h9 => h9) rfl dX2_canSpare_92 ?_
        refine lv_iload_n hx hb dX2_canSpare_95 rfl (lv_at hl 3 rfl) ?_
        refine lv_iload_n hx hb dX2_canSpare_96 rfl (lv_at hl 4 rfl) ?_
        refine callv_i (As := [.int p2, .int p3]) (rest := []) hC (c_X1_settle_40 l D cA H.size ad F13 L13 A13 B13 (p2) (p3) hq.1 r8 (rg_w hp3 (by decide))) (cwV 2 hg (g_V mw_796 mw_793 mw_794 mw_795 mw_15) rfl rfl rfl (by decide +kernel) ⟨(Nat.le_of_ble_eq_true rfl), (Nat.le_of_ble_eq_true rfl)⟩) hP hD hS hA atX_40 rfl rfl hl.1 rfl (Nat.le_of_ble_eq_true rfl) dX2_canSpare_97 ⟨Nat.zero_le _, Nat.zero_le _⟩ (fun x14 u H locs hw hP hD hS => ?_)
        obtain ⟨F15, L15, A15, B15⟩ := u
        try dsimp only at hw
        obtain ⟨hq15, r16⟩ := hw
        have hq := hq.call hq15 (by decide)
        have hP : va_P D classes (wX cA ad F15 L15 A15 B15) H := hP
        have hD : va_D Af (wX cA ad F15 L15 A15 B15) := hD
        refine lv_if_eq (tgt := 105) hx hb dX2_canSpare_100 (by decide) (fun c17 => ?_) (fun c17 => ?_)
        · skip
          have r18 : rg x14 0 0 := rg_eq1 c17 (r16 : rg x14 0 1) ((rg_k (by decide)) : rg 0 0 0) (by decide)
          refine lv_iload hx hb dX2_canSpare_105 (lv_at hl 0 rfl) ?_
          refine lv_iconst (v := (-1)) hx hb dX2_canSpare_107 (by decide) ?_
          have J121 : ∀ (F20 : Nat → Int32) (L20 : Nat → Int64) (A20 : Nat → Nat → Int32) (B20 : Nat → Nat → Int64) (H : Heap) (locs : List Loc) (ls : Array Slot), qX [] [36, 37, 38, 39, 42, 43, 44, 45] F A F20 A20 → va_P D classes (wX cA ad F20 L20 A20 B20) H → va_D Af (wX cA ad F20 L20 A20 B20) → va_S Af s.heap H locs → lv_has ls 6 [] → W p l e rm_X2_canSpare_27 s m args below meth c H locs 0 0 Q (F0 m 121 ls []) := by
            intro F20 L20 A20 B20 H locs ls hq hP hD hS hl
            refine lv_iconst (v := 0) hx hb dX2_canSpare_121 (by decide) ?_
            exact hret (0) (F20, L20, A20, B20) H locs 122 ls rfl dX2_canSpare_122 hP hD hS ⟨hq, (rg_k (by decide))⟩
          refine lv_icmp_eq (tgt := 121) hx hb dX2_canSpare_108 (by decide) (fun c21 => ?_) (fun c21 => ?_)
          · skip
            have r22 : rg x10 (-1) (-1) := rg_eq1 c21 (r12 : rg x10 (-1) 9) ((rg_k (by decide)) : rg (-1) (-1) (-1)) (by decide)
            exact J121 (F15) (L15) (A15) (B15) H locs ls hq hP hD hS (lv_sub hl [] rfl)
          · skip
            have r23 : rg x10 0 9 := (rg_ne1 c21 (r12 : rg x10 (-1) 9) ((rg_k (by decide)) : rg (-1) (-1) (-1))).1 rfl
            refine lv_aload_n hx hb dX2_canSpare_111 rfl (lv_at hl 1 rfl) ?_
            refine va_get (ci := 2) (v := .ref (ad 40)) (C := RX2) (T := TX2) (N := 15) hx hb hg inX2 hown hK hP 27 atX_27 rfl 11 (by decide) (hg _ mw_358) (fun _ h9 => h9) rfl dX2_canSpare_112 ?_
            refine lv_iload_n hx hb dX2_canSpare_115 rfl (lv_at hl 2 rfl) ?_
            refine lv_iload hx hb dX2_canSpare_116 (lv_at hl 0 rfl) ?_
            refine callv_v (As := [.int p1, .int x10]) (rest := []) hC (c_X1_assign_40 l D cA H.size ad F15 L15 A15 B15 (p1) (x10) hq.1 hp1 r23) (cwV 2 hg (g_V mw_813 mw_827 mw_811 mw_812 mw_15) rfl rfl rfl (by decide +kernel) ⟨(Nat.le_of_ble_eq_true rfl), (Nat.le_of_ble_eq_true rfl)⟩) hP hD hS hA atX_40 rfl rfl hl.1 rfl (Nat.le_of_ble_eq_true rfl) dX2_canSpare_118 ⟨Nat.zero_le _, Nat.zero_le _⟩ (fun  u H locs hw hP hD hS => ?_)
            obtain ⟨F24, L24, A24, B24⟩ := u
            try dsimp only at hw
            have hq24 := hw
            have hq := hq.call hq24 (by decide)
            have hP : va_P D classes (wX cA ad F24 L24 A24 B24) H := hP
            have hD : va_D Af (wX cA ad F24 L24 A24 B24) := hD
            exact J121 (F24) (L24) (A24) (B24) H locs ls hq hP hD hS (lv_sub hl [] rfl)
        · skip
          have r19 : rg x14 1 1 := (rg_ne1 c17 (r16 : rg x14 0 1) ((rg_k (by decide)) : rg 0 0 0)).1 rfl
          refine lv_iconst (v := 1) hx hb dX2_canSpare_103 (by decide) ?_
          exact hret (1) (F15, L15, A15, B15) H locs 104 ls rfl dX2_canSpare_104 hP hD hS ⟨hq, (rg_k (by decide))⟩
      · skip
        exact J70 (F4) (L4) (A4) (B4) H locs ls hq hP hD hS (lv_sub hl [] rfl)
  refine lv_icmp_eq (tgt := 60) hx hb dX2_canSpare_14 (by decide) (fun c25 => ?_) (fun c25 => ?_)
  · skip
    have r26 : rg x1 (-1) (-1) := rg_eq1 c25 (r3 : rg x1 (-1) 9) ((rg_k (by decide)) : rg (-1) (-1) (-1)) (by decide)
    exact J60 (F) (L) (A) (B) H locs ls hq hP hD hS (lv_sub hl [1, 2, 3, 4] rfl)
  · skip
    have r27 : rg x1 0 9 := (rg_ne1 c25 (r3 : rg x1 (-1) 9) ((rg_k (by decide)) : rg (-1) (-1) (-1))).1 rfl
    refine lv_aload_n hx hb dX2_canSpare_17 rfl (lv_at hl 1 rfl) ?_
    refine va_get (ci := 2) (v := .ref (ad 34)) (C := RX2) (T := TX2) (N := 15) hx hb hg inX2 hown hK hP 27 atX_27 rfl 10 (by decide) (hg _ mw_357) (fun _ h9 => h9) rfl dX2_canSpare_18 ?_
    refine lv_iload hx hb dX2_canSpare_21 (lv_at hl 0 rfl) ?_
    refine callv_v (As := [.int x1]) (rest := []) hC (c_X1_release_34 l D cA H.size ad F L A B (x1) hq.1 r27) (cwV 1 hg (g_V mw_821 mw_818 mw_819 mw_820 mw_15) rfl rfl rfl (by decide +kernel) ⟨(Nat.le_of_ble_eq_true rfl), (Nat.le_of_ble_eq_true rfl)⟩) hP hD hS hA atX_34 rfl rfl hl.1 rfl (Nat.le_of_ble_eq_true rfl) dX2_canSpare_23 ⟨Nat.zero_le _, Nat.zero_le _⟩ (fun  u H locs hw hP hD hS => ?_)
    obtain ⟨F28, L28, A28, B28⟩ := u
    try dsimp only at hw
    have hq28 := hw
    have hq := hq.call hq28 (by decide)
    have hP : va_P D classes (wX cA ad F28 L28 A28 B28) H := hP
    have hD : va_D Af (wX cA ad F28 L28 A28 B28) := hD
    refine lv_aload_n hx hb dX2_canSpare_26 rfl (lv_at hl 1 rfl) ?_
    refine va_get (ci := 2) (v := .ref (ad 34)) (C := RX2) (T := TX2) (N := 15) hx hb hg inX2 hown hK hP 27 atX_27 rfl 10 (by decide) (hg _ mw_357) (fun _ h9 => h9) rfl dX2_canSpare_27 ?_
    refine lv_iload hx hb dX2_canSpare_30 (lv_at hl 0 rfl) ?_
    refine lv_aload_n hx hb dX2_canSpare_32 rfl (lv_at hl 1 rfl) ?_
    refine va_get (ci := 2) (v := .int (F28 35)) (C := RX2) (T := TX2) (N := 15) hx hb hg inX2 hown hK hP 27 atX_27 rfl 14 (by decide) (hg _ mw_361) (fun _ h9 => h9) rfl dX2_canSpare_33 ?_
    refine lv_topi (fun x29 e30 => ?_)
    have r31 : rg x29 0 1023 := rg_e e30 (hq.1.1 35)
    refine lv_iconst (v := 1) hx hb dX2_canSpare_36 (by decide) ?_
    refine lv_iload_n hx hb dX2_canSpare_37 rfl (lv_at hl 2 rfl) ?_
    refine lv_ishl hx hb dX2_canSpare_38 ?_
    refine lv_topi (fun x32 e33 => ?_)
    have r34 : rg x32 1 512 := rg_shl1 e33 hp1 (by decide)
    refine lv_iconst (v := (-1)) hx hb dX2_canSpare_39 (by decide) ?_
    refine lv_ixor hx hb dX2_canSpare_40 ?_
    refine lv_topi (fun x35 e36 => ?_)
    refine lv_iand hx hb dX2_canSpare_41 ?_
    refine lv_topi (fun x37 e38 => ?_)
    have r39 : rg x37 0 1023 := rg_andl e38 r31 (by decide)
    refine callv_i (As := [.int x1, .int x37]) (rest := []) hC (c_X1_settle_34 l D cA H.size ad F28 L28 A28 B28 (x1) (x37) hq.1 r27 r39) (cwV 2 hg (g_V mw_796 mw_793 mw_794 mw_795 mw_15) rfl rfl rfl (by decide +kernel) ⟨(Nat.le_of_ble_eq_true rfl), (Nat.le_of_ble_eq_true rfl)⟩) hP hD hS hA atX_34 rfl rfl hl.1 rfl (Nat.le_of_ble_eq_true rfl) dX2_canSpare_42 ⟨Nat.zero_le _, Nat.zero_le _⟩ (fun x40 u H locs hw hP hD hS => ?_)
    obtain ⟨F41, L41, A41, B41⟩ := u
    try dsimp only at hw
    obtain ⟨hq41, r42⟩ := hw
    have hq := hq.call hq41 (by decide)
    have hP : va_P D classes (wX cA ad F41 L41 A41 B41) H := hP
    have hD : va_D Af (wX cA ad F41 L41 A41 B41) := hD
    refine lv_if_ne (tgt := 60) hx hb dX2_canSpare_45 (by decide) (fun c43 => ?_) (fun c43 => ?_)
    · skip
      have r44 : rg x40 1 1 := (rg_ne1 c43 (r42 : rg x40 0 1) ((rg_k (by decide)) : rg 0 0 0)).1 rfl
      exact J60 (F41) (L41) (A41) (B41) H locs ls hq hP hD hS (lv_sub hl [1, 2, 3, 4] rfl)
    · skip
      have r45 : rg x40 0 0 := rg_eq1 c43 (r42 : rg x40 0 1) ((rg_k (by decide)) : rg 0 0 0) (by decide)
      refine lv_aload_n hx hb dX2_canSpare_48 rfl (lv_at hl 1 rfl) ?_
      refine va_get (ci := 2) (v := .ref (ad 34)) (C := RX2) (T := TX2) (N := 15) hx hb hg inX2 hown hK hP 27 atX_27 rfl 10 (by decide) (hg _ mw_357) (fun _ h9 => h9) rfl dX2_canSpare_49 ?_
      refine lv_iload hx hb dX2_canSpare_52 (lv_at hl 0 rfl) ?_
      refine lv_iload_n hx hb dX2_canSpare_54 rfl (lv_at hl 2 rfl) ?_
      refine callv_v (As := [.int x1, .int p1]) (rest := []) hC (c_X1_assign_34 l D cA H.size ad F41 L41 A41 B41 (x1) (p1) hq.1 r27 hp1) (cwV 2 hg (g_V mw_813 mw_827 mw_811 mw_812 mw_15) rfl rfl rfl (by decide +kernel) ⟨(Nat.le_of_ble_eq_true rfl), (Nat.le_of_ble_eq_true rfl)⟩) hP hD hS hA atX_34 rfl rfl hl.1 rfl (Nat.le_of_ble_eq_true rfl) dX2_canSpare_55 ⟨Nat.zero_le _, Nat.zero_le _⟩ (fun  u H locs hw hP hD hS => ?_)
      obtain ⟨F46, L46, A46, B46⟩ := u
      try dsimp only at hw
      have hq46 := hw
      have hq := hq.call hq46 (by decide)
      have hP : va_P D classes (wX cA ad F46 L46 A46 B46) H := hP
      have hD : va_D Af (wX cA ad F46 L46 A46 B46) := hD
      refine lv_iconst (v := 0) hx hb dX2_canSpare_58 (by decide) ?_
      exact hret (0) (F46, L46, A46, B46) H locs 59 ls rfl dX2_canSpare_59 hP hD hS ⟨hq, (rg_k (by decide))⟩
abbrev rm_X2_choose_27 : Room := { frames := 4, cells := 0, slots := 0, locals := 100 }
set_option maxHeartbeats 4000000 in
set_option maxRecDepth 100000 in
theorem c_X2_choose_27 (l : Launch) (D : va_G) (cA : Nat → ClassId) (sz : Nat) (ad : Nat → Nat) (F : Nat → Int32) (L : Nat → Int64) (A : Nat → Nat → Int32) (B : Nat → Nat → Int64) (p1 : Int32) (hT : typX F A) (hp1 : rg p1 0 7) : Met l yX2_choose (Cond.code yX2_choose cX2_choose 6 (some .int) :: GW) rm_X2_choose_27 (mPc D classes (tysX cA) (wX cA ad F L A B) sz [.ref (ad 27), .int p1]) (mQi (S := SW) D classes (tysX cA) (wX cA ad F L A B) sz (wfX cA ad) (fun r u => qX [35] [36, 37, 38, 39, 42, 43, 44, 45] F A u.1 u.2.2.1 ∧ rg r (-1) 9)) 0 0 (va_A (wX cA ad F L A B) sz) := by
  refine met_i (own := "ShoeingDay$Day") (by decide +kernel) rfl (Nat.le_of_ble_eq_true rfl) ?_
  intro p e s m args below meth c Q Af ls hC hP hD hS hA hl hret
  have hx := hC.1
  have hb := hC.2.1
  have hown := hC.2.2.2.1
  have hg := hC.g
  have hK := hC.K
  have hl : lv_has ls 6 [(0, .ref (ad 27)), (1, .int p1)] := hl
  have hq : qX [35] [36, 37, 38, 39, 42, 43, 44, 45] F A F A := qX.rf hT
  obtain ⟨H, hH⟩ : ∃ H, H = s.heap := ⟨_, rfl⟩
  have hP : va_P D classes (wX cA ad F L A B) H := by rw [hH]; exact hP
  have hS : va_S Af s.heap H [] := by rw [hH]; exact hS
  obtain ⟨locs, hlo⟩ : ∃ q : List Loc, q = [] := ⟨_, rfl⟩
  rw [← hH, ← hlo]
  rw [← hlo] at hS
  refine lv_aload_n hx hb dX2_choose_0 rfl (lv_at hl 0 rfl) ?_
  refine va_get (ci := 2) (v := .ref (ad 34)) (C := RX2) (T := TX2) (N := 15) hx hb hg inX2 hown hK hP 27 atX_27 rfl 10 (by decide) (hg _ mw_357) (fun _ h9 => h9) rfl dX2_choose_1 ?_
  refine lv_iload_n hx hb dX2_choose_4 rfl (lv_at hl 1 rfl) ?_
  refine callv_v (As := [.int p1]) (rest := []) hC (c_X1_release_34 l D cA H.size ad F L A B (p1) hq.1 (rg_w hp1 (by decide))) (cwV 1 hg (g_V mw_821 mw_818 mw_819 mw_820 mw_15) rfl rfl rfl (by decide +kernel) ⟨(Nat.le_of_ble_eq_true rfl), (Nat.le_of_ble_eq_true rfl)⟩) hP hD hS hA atX_34 rfl rfl hl.1 rfl (Nat.le_of_ble_eq_true rfl) dX2_choose_5 ⟨Nat.zero_le _, Nat.zero_le _⟩ (fun  u H locs hw hP hD hS => ?_)
  obtain ⟨F1, L1, A1, B1⟩ := u
  try dsimp only at hw
  have hq1 := hw
  have hq := hq.call hq1 (by decide)
  have hP : va_P D classes (wX cA ad F1 L1 A1 B1) H := hP
  have hD : va_D Af (wX cA ad F1 L1 A1 B1) := hD
  refine lv_aload_n hx hb dX2_choose_8 rfl (lv_at hl 0 rfl) ?_
  refine va_get (ci := 2) (v := .ref (ad 40)) (C := RX2) (T := TX2) (N := 15) hx hb hg inX2 hown hK hP 27 atX_27 rfl 11 (by decide) (hg _ mw_358) (fun _ h9 => h9) rfl dX2_choose_9 ?_
  refine va_get (ci := 1) (v := .ref (ad 43)) (C := RX1) (T := TX1) (N := 5) hx hb hg inX1 hown hK hP 40 atX_40 rfl 2 (by decide) (hg _ mw_325) (fun _ h9 => h9) rfl dX2_choose_12 ?_
  refine lv_iload_n hx hb dX2_choose_15 rfl (lv_at hl 1 rfl) ?_
  refine va_iald hx hb hK hP 43 31 atX_43 tyX_43 (in_rg hp1 (by decide)) dX2_choose_16 ?_
  refine lv_topi (fun x2 e3 => ?_)
  have r4 : rg x2 (-1) 9 := rg_e e3 (hq.1.2 43 _)
  refine lv_istore_n (lv' := [(2, .int x2), (0, .ref (ad 27)), (1, .int p1)]) hx hb dX2_choose_17 rfl hl (by decide) rfl (fun ls hl => ?_)
  refine lv_iload_n hx hb dX2_choose_18 rfl (lv_at hl 0 rfl) ?_
  refine lv_iconst (v := (-1)) hx hb dX2_choose_19 (by decide) ?_
  have J31 : ∀ (F5 : Nat → Int32) (L5 : Nat → Int64) (A5 : Nat → Nat → Int32) (B5 : Nat → Nat → Int64) (H : Heap) (locs : List Loc) (ls : Array Slot), qX [35] [36, 37, 38, 39, 42, 43, 44, 45] F A F5 A5 → va_P D classes (wX cA ad F5 L5 A5 B5) H → va_D Af (wX cA ad F5 L5 A5 B5) → va_S Af s.heap H locs → lv_has ls 6 [(0, .ref (ad 27)), (1, .int p1), (2, .int x2)] → W p l e rm_X2_choose_27 s m args below meth c H locs 0 0 Q (F0 m 31 ls []) := by
    intro F5 L5 A5 B5 H locs ls hq hP hD hS hl
    refine lv_iconst (v := 1) hx hb dX2_choose_31 (by decide) ?_
    refine lv_aload_n hx hb dX2_choose_32 rfl (lv_at hl 0 rfl) ?_
    refine va_get (ci := 2) (v := .int (F5 33)) (C := RX2) (T := TX2) (N := 15) hx hb hg inX2 hown hK hP 27 atX_27 rfl 12 (by decide) (hg _ mw_359) (fun _ h9 => h9) rfl dX2_choose_33 ?_
    refine lv_topi (fun x6 e7 => ?_)
    have r8 : rg x6 0 8 := rg_e e7 (hq.1.1 33)
    refine lv_ishl hx hb dX2_choose_36 ?_
    refine lv_topi (fun x9 e10 => ?_)
    have r11 : rg x9 1 256 := rg_shl1 e10 r8 (by decide)
    refine lv_iconst (v := 2) hx hb dX2_choose_37 (by decide) ?_
    refine lv_iload_n hx hb dX2_choose_38 rfl (lv_at hl 1 rfl) ?_
    refine lv_ishl hx hb dX2_choose_39 ?_
    refine lv_topi (fun x12 e13 => ?_)
    have r14 : rg x12 2 256 := rg_shl2 e13 hp1 (by decide)
    refine lv_isub hx hb dX2_choose_40 ?_
    refine lv_topi (fun x15 e16 => ?_)
    have r17 : rg x15 (-255) 254 := rg_sub e16 r11 r14 (by decide)
    refine lv_istore_n (lv' := [(3, .int x15), (0, .ref (ad 27)), (1, .int p1), (2, .int x2)]) hx hb dX2_choose_41 rfl hl (by decide) rfl (fun ls hl => ?_)
    refine lv_aload_n hx hb dX2_choose_42 rfl (lv_at hl 1 rfl) ?_
    refine va_get (ci := 2) (v := .ref (ad 34)) (C := RX2) (T := TX2) (N := 15) hx hb hg inX2 hown hK hP 27 atX_27 rfl 10 (by decide) (hg _ mw_357) (fun _ h9 => h9) rfl dX2_choose_43 ?_
    refine va_get (ci := 1) (v := .ref (ad 35)) (C := RX1) (T := TX1) (N := 5) hx hb hg inX1 hown hK hP 34 atX_34 rfl 0 (by decide) (hg _ mw_321) (fun _ h9 => h9) rfl dX2_choose_46 ?_
    refine lv_iload_n hx hb dX2_choose_49 rfl (lv_at hl 2 rfl) ?_
    refine va_iald hx hb hK hP 35 24 atX_35 tyX_35 (in_rg hp1 (by decide)) dX2_choose_50 ?_
    refine lv_topi (fun x18 e19 => ?_)
    have r20 : rg x18 0 1023 := rg_e e19 (hq.1.2 35 _)
    refine lv_aload_n hx hb dX2_choose_51 rfl (lv_at hl 1 rfl) ?_
    refine va_get (ci := 2) (v := .int (F5 35)) (C := RX2) (T := TX2) (N := 15) hx hb hg inX2 hown hK hP 27 atX_27 rfl 14 (by decide) (hg _ mw_361) (fun _ h9 => h9) rfl dX2_choose_52 ?_
    refine lv_topi (fun x21 e22 => ?_)
    have r23 : rg x21 0 1023 := rg_e e22 (hq.1.1 35)
    refine lv_iand hx hb dX2_choose_55 ?_
    refine lv_topi (fun x24 e25 => ?_)
    have r26 : rg x24 0 1023 := rg_andr e25 r23 (by decide)
    refine lv_istore (lv' := [(4, .int x24), (3, .int x15), (0, .ref (ad 27)), (1, .int p1), (2, .int x2)]) hx hb dX2_choose_56 hl (by decide) rfl (fun ls hl => ?_)
    have J58 : ∀ (n58 : Nat) (a27 : Int32) (F29 : Nat → Int32) (L29 : Nat → Int64) (A29 : Nat → Nat → Int32) (B29 : Nat → Nat → Int64) (H : Heap) (locs : List Loc) (ls : Array Slot), a27.toInt.toNat < n58 → rg a27 0 1023 → qX [35] [36, 37, 38, 39, 42, 43, 44, 45] F A F29 A29 → F29 35 = x21 → va_P D classes (wX cA ad F29 L29 A29 B29) H → va_D Af (wX cA ad F29 L29 A29 B29) → va_S Af s.heap H locs → lv_has ls 6 [(0, .ref (ad 27)), (2, .int x2), (3, .int x15), (4, .int a27)] → W p l e rm_X2_choose_27 s m args below meth c H locs 0 0 Q (F0 m 58 ls []) := by
      intro n58
      induction n58 with
      | zero =>
        intro _ _ _ _ _ _ _ _ hn
        exact absurd hn (Nat.not_lt_zero _)
      | succ n58 ih58 =>
        intro a27 F29 L29 A29 B29 H locs ls hn58 r28 hq f30 hP hD hS hl
        refine lv_iload hx hb dX2_choose_58 (lv_at hl 3 rfl) ?_
        refine lv_if_eq (tgt := 120) hx hb dX2_choose_60 (by decide) (fun c31 => ?_) (fun c31 => ?_)
        · skip
          have r32 : rg a27 0 0 := rg_eq1 c31 (r28 : rg a27 0 1023) ((rg_k (by decide)) : rg 0 0 0) (by decide)
          refine lv_iload_n hx hb dX2_choose_120 rfl (lv_at hl 1 rfl) ?_
          refine lv_iconst (v := (-1)) hx hb dX2_choose_121 (by decide) ?_
          have J135 : ∀ (F34 : Nat → Int32) (L34 : Nat → Int64) (A34 : Nat → Nat → Int32) (B34 : Nat → Nat → Int64) (H : Heap) (locs : List Loc) (ls : Array Slot), qX [35] [36, 37, 38, 39, 42, 43, 44, 45] F A F34 A34 → va_P D classes (wX cA ad F34 L34 A34 B34) H → va_D Af (wX cA ad F34 L34 A34 B34) → va_S Af s.heap H locs → lv_has ls 6 [] → W p l e rm_X2_choose_27 s m args below meth c H locs 0 0 Q (F0 m 135 ls []) := by
            intro F34 L34 A34 B34 H locs ls hq hP hD hS hl
            refine lv_iconst (v := (-1)) hx hb dX2_choose_135 (by decide) ?_
            exact hret ((-1)) (F34, L34, A34, B34) H locs 136 ls rfl dX2_choose_136 hP hD hS ⟨hq, (rg_k (by decide))⟩
          refine lv_icmp_eq (tgt := 135) hx hb dX2_choose_122 (by decide) (fun c35 => ?_) (fun c35 => ?_)
          · skip
            have r36 : rg x2 (-1) (-1) := rg_eq1 c35 (r4 : rg x2 (-1) 9) ((rg_k (by decide)) : rg (-1) (-1) (-1)) (by decide)
            exact J135 (F29) (L29) (A29) (B29) H locs ls hq hP hD hS (lv_sub hl [] rfl)
          · skip
            have r37 : rg x2 0 9 := (rg_ne1 c35 (r4 : rg x2 (-1) 9) ((rg_k (by decide)) : rg (-1) (-1) (-1))).1 rfl
            refine lv_aload_n hx hb dX2_choose_125 rfl (lv_at hl 0 rfl) ?_
            refine va_get (ci := 2) (v := .ref (ad 40)) (C := RX2) (T := TX2) (N := 15) hx hb hg inX2 hown hK hP 27 atX_27 rfl 11 (by decide) (hg _ mw_358) (fun _ h9 => h9) rfl dX2_choose_126 ?_
            refine lv_iload_n hx hb dX2_choose_129 rfl (lv_at hl 1 rfl) ?_
            refine lv_iload_n hx hb dX2_choose_130 rfl (lv_at hl 2 rfl) ?_
            refine callv_i (As := [.int x2, .int x15]) (rest := []) hC (c_X1_settle_40 l D cA H.size ad F29 L29 A29 B29 (x2) (x15) hq.1 r37 (rg_w r17 (by decide))) (cwV 2 hg (g_V mw_796 mw_793 mw_794 mw_795 mw_15) rfl rfl rfl (by decide +kernel) ⟨(Nat.le_of_ble_eq_true rfl), (Nat.le_of_ble_eq_true rfl)⟩) hP hD hS hA atX_40 rfl rfl hl.1 rfl (Nat.le_of_ble_eq_true rfl) dX2_choose_131 ⟨Nat.zero_le _, Nat.zero_le _⟩ (fun x38 u H locs hw hP hD hS => ?_)
            obtain ⟨F39, L39, A39, B39⟩ := u
            try dsimp only at hw
            obtain ⟨hq39, r40⟩ := hw
            have hq := hq.call hq39 (by decide)
            have hP : va_P D classes (wX cA ad F39 L39 A39 B39) H := hP
            have hD : va_D Af (wX cA ad F39 L39 A39 B39) := hD
            refine lv_pop hx hb dX2_choose_134 rfl ?_
            exact J135 (F39) (L39) (A39) (B39) H locs ls hq hP hD hS (lv_sub hl [] rfl)
        · skip
          have r33 : rg a27 1 1023 := (rg_ne1 c31 (r28 : rg a27 0 1023) ((rg_k (by decide)) : rg 0 0 0)).1 rfl
          refine lv_iload hx hb dX2_choose_63 (lv_at hl 3 rfl) ?_
          refine calln_i (As := [.int a27]) (rest := []) hC (c_X11_lowest l D (tysX cA) (wX cA ad F29 L29 A29 B29) H.size (a27)) ⟨va_cnB 1 hg (g_N mw_799) rfl rfl rfl (mn_14 hC.N) (hg _ mw_1) (by decide +kernel) ⟨(Nat.le_of_ble_eq_true rfl), (Nat.le_of_ble_eq_true rfl)⟩, (hg _ mw_798), trivial⟩ hP hD hS hA rfl hl.1 rfl (Nat.le_of_ble_eq_true rfl) dX2_choose_65 ⟨Nat.zero_le _, Nat.zero_le _⟩ (fun x41 u H locs hw hP hD hS => ?_)
          have e42 := hw
          have hP : va_P D classes (wX cA ad F29 L29 A29 B29) H := hP
          have hD : va_D Af (wX cA ad F29 L29 A29 B29) := hD
          have r43 : rg x41 0 9 := rg_low hw r33 (k := 10) (by decide)
          refine lv_istore (lv' := [(5, .int x41), (0, .ref (ad 27)), (2, .int x2), (3, .int x15), (4, .int a27)]) hx hb dX2_choose_68 hl (by decide) rfl (fun ls hl => ?_)
          refine lv_aload_n hx hb dX2_choose_70 rfl (lv_at hl 1 rfl) ?_
          refine lv_iload hx hb dX2_choose_71 (lv_at hl 0 rfl) ?_
          refine lv_iload_n hx hb dX2_choose_73 rfl (lv_at hl 2 rfl) ?_
          refine lv_iload_n hx hb dX2_choose_74 rfl (lv_at hl 3 rfl) ?_
          refine callv_i (As := [.int x41, .int x2, .int x15]) (rest := []) hC (c_X2_canSpare_27 l D cA H.size ad F29 L29 A29 B29 (x41) (x2) (x15) hq.1 r43 r4 r17) (cwV 3 hg (g_V mw_826 mw_823 mw_825 ms_23 mw_14) rfl rfl rfl (by decide +kernel) ⟨(Nat.le_of_ble_eq_true rfl), (Nat.le_of_ble_eq_true rfl)⟩) hP hD hS hA atX_27 rfl rfl hl.1 rfl (Nat.le_of_ble_eq_true rfl) dX2_choose_75 ⟨Nat.zero_le _, Nat.zero_le _⟩ (fun x44 u H locs hw hP hD hS => ?_)
          obtain ⟨F45, L45, A45, B45⟩ := u
          try dsimp only at hw
          obtain ⟨hq45, r46⟩ := hw
          have hq := hq.call hq45 (by decide)
          have hP : va_P D classes (wX cA ad F45 L45 A45 B45) H := hP
          have hD : va_D Af (wX cA ad F45 L45 A45 B45) := hD
          refine lv_if_eq (tgt := 108) hx hb dX2_choose_78 (by decide) (fun c47 => ?_) (fun c47 => ?_)
          · skip
            have r48 : rg x44 0 0 := rg_eq1 c47 (r46 : rg x44 0 1) ((rg_k (by decide)) : rg 0 0 0) (by decide)
            refine lv_iload hx hb dX2_choose_108 (lv_at hl 4 rfl) ?_
            refine lv_iload hx hb dX2_choose_110 (lv_at hl 4 rfl) ?_
            refine lv_iconst (v := 1) hx hb dX2_choose_112 (by decide) ?_
            refine lv_isub hx hb dX2_choose_113 ?_
            refine lv_topi (fun x50 e51 => ?_)
            have r52 : rg x50 0 1022 := rg_sub e51 r33 ((rg_k (by decide)) : rg 1 1 1) (by decide)
            refine lv_iand hx hb dX2_choose_114 ?_
            refine lv_topi (fun x53 e54 => ?_)
            have r55 : rg x53 0 1022 := rg_andr e54 r52 (by decide)
            refine lv_istore (lv' := [(4, .int x53), (5, .int x41), (0, .ref (ad 27)), (2, .int x2), (3, .int x15)]) hx hb dX2_choose_115 hl (by decide) rfl (fun ls hl => ?_)
            refine lv_goto (tgt := 58) hx hb dX2_choose_117 (by decide) ?_
            exact ih58 (x53) (F45) (L45) (A45) (B45) H locs ls (by have h1 := mask_less (show x53 = a27 &&& (a27 - 1) by rw [← e51]; exact e54) r33 (by decide); omega) (rg_w r55 (by decide)) hq ((hq45.2.1 35 (by decide)).trans (f30)) hP hD hS (lv_sub hl [2, 3, 4, 0] rfl)
          · skip
            have r49 : rg x44 1 1 := (rg_ne1 c47 (r46 : rg x44 0 1) ((rg_k (by decide)) : rg 0 0 0)).1 rfl
            refine lv_aload_n hx hb dX2_choose_81 rfl (lv_at hl 1 rfl) ?_
            refine lv_dup hx hb dX2_choose_82 rfl ?_
            refine va_get (ci := 2) (v := .int x21) (C := RX2) (T := TX2) (N := 15) hx hb hg inX2 hown hK hP 27 atX_27 rfl 14 (by decide) (hg _ mw_361) (fun _ h9 => h9) (congrArg (fun z => some (Value.int z)) ((hq45.2.1 35 (by decide)).trans (f30))) dX2_choose_83 ?_
            refine lv_iconst (v := 1) hx hb dX2_choose_86 (by decide) ?_
            refine lv_iload hx hb dX2_choose_87 (lv_at hl 0 rfl) ?_
            refine lv_ishl hx hb dX2_choose_89 ?_
            refine lv_topi (fun x56 e57 => ?_)
            have r58 : rg x56 1 512 := rg_shl1 e57 r43 (by decide)
            refine lv_iconst (v := (-1)) hx hb dX2_choose_90 (by decide) ?_
            refine lv_ixor hx hb dX2_choose_91 ?_
            refine lv_topi (fun x59 e60 => ?_)
            refine lv_iand hx hb dX2_choose_92 ?_
            refine lv_topi (fun x61 e62 => ?_)
            have r63 : rg x61 0 1023 := rg_andl e62 r23 (by decide)
            refine va_put (ci := 2) (v := .int x61) (ty := .int) (C := RX2) (T := TX2) (N := 15) hx hb hg inX2 tyX2 tyX2_ok nmX2 hown hK hP hD hS 27 atX_27 rfl 14 (by decide) (hg _ mw_361) (fun _ h9 => h9) rfl (by decide +kernel) rfl rfl (Nat.le_of_ble_eq_true rfl) dX2_choose_93 (fun H locs hP hD hS => ?_)
            have hq := hq.put 35 (x := x61) (by decide) r63
            rw [setFX_35] at hP hD
            refine lv_aload_n hx hb dX2_choose_96 rfl (lv_at hl 1 rfl) ?_
            refine va_get (ci := 2) (v := .ref (ad 40)) (C := RX2) (T := TX2) (N := 15) hx hb hg inX2 hown hK hP 27 atX_27 rfl 11 (by decide) (hg _ mw_358) (fun _ h9 => h9) rfl dX2_choose_97 ?_
            refine lv_iload hx hb dX2_choose_100 (lv_at hl 0 rfl) ?_
            refine callv_v (As := [.int x41]) (rest := []) hC (c_X1_release_40 l D cA H.size ad (upd F45 35 x61) L45 A45 B45 (x41) hq.1 r43) (cwV 1 hg (g_V mw_821 mw_818 mw_819 mw_820 mw_15) rfl rfl rfl (by decide +kernel) ⟨(Nat.le_of_ble_eq_true rfl), (Nat.le_of_ble_eq_true rfl)⟩) hP hD hS hA atX_40 rfl rfl hl.1 rfl (Nat.le_of_ble_eq_true rfl) dX2_choose_102 ⟨Nat.zero_le _, Nat.zero_le _⟩ (fun  u H locs hw hP hD hS => ?_)
            obtain ⟨F64, L64, A64, B64⟩ := u
            try dsimp only at hw
            have hq64 := hw
            have hq := hq.call hq64 (by decide)
            have hP : va_P D classes (wX cA ad F64 L64 A64 B64) H := hP
            have hD : va_D Af (wX cA ad F64 L64 A64 B64) := hD
            refine lv_iload hx hb dX2_choose_105 (lv_at hl 0 rfl) ?_
            exact hret (x41) (F64, L64, A64, B64) H locs 107 ls rfl dX2_choose_107 hP hD hS ⟨hq, (rg_w r43 (by decide))⟩
    exact J58 _ (x24) (F5) (L5) (A5) (B5) H locs ls (Nat.lt_succ_self _) r26 hq (e22.symm) hP hD hS (lv_sub hl [2, 4, 1, 0] rfl)
  refine lv_icmp_eq (tgt := 31) hx hb dX2_choose_20 (by decide) (fun c65 => ?_) (fun c65 => ?_)
  · skip
    have r66 : rg x2 (-1) (-1) := rg_eq1 c65 (r4 : rg x2 (-1) 9) ((rg_k (by decide)) : rg (-1) (-1) (-1)) (by decide)
    exact J31 (F1) (L1) (A1) (B1) H locs ls hq hP hD hS (lv_sub hl [1, 2, 0] rfl)
  · skip
    have r67 : rg x2 0 9 := (rg_ne1 c65 (r4 : rg x2 (-1) 9) ((rg_k (by decide)) : rg (-1) (-1) (-1))).1 rfl
    refine lv_aload_n hx hb dX2_choose_23 rfl (lv_at hl 1 rfl) ?_
    refine va_get (ci := 2) (v := .ref (ad 40)) (C := RX2) (T := TX2) (N := 15) hx hb hg inX2 hown hK hP 27 atX_27 rfl 11 (by decide) (hg _ mw_358) (fun _ h9 => h9) rfl dX2_choose_24 ?_
    refine lv_iload_n hx hb dX2_choose_27 rfl (lv_at hl 0 rfl) ?_
    refine callv_v (As := [.int x2]) (rest := []) hC (c_X1_release_40 l D cA H.size ad F1 L1 A1 B1 (x2) hq.1 r67) (cwV 1 hg (g_V mw_821 mw_818 mw_819 mw_820 mw_15) rfl rfl rfl (by decide +kernel) ⟨(Nat.le_of_ble_eq_true rfl), (Nat.le_of_ble_eq_true rfl)⟩) hP hD hS hA atX_40 rfl rfl hl.1 rfl (Nat.le_of_ble_eq_true rfl) dX2_choose_28 ⟨Nat.zero_le _, Nat.zero_le _⟩ (fun  u H locs hw hP hD hS => ?_)
    obtain ⟨F68, L68, A68, B68⟩ := u
    try dsimp only at hw
    have hq68 := hw
    have hq := hq.call hq68 (by decide)
    have hP : va_P D classes (wX cA ad F68 L68 A68 B68) H := hP
    have hD : va_D Af (wX cA ad F68 L68 A68 B68) := hD
    exact J31 (F68) (L68) (A68) (B68) H locs ls hq hP hD hS (lv_sub hl [1, 2, 0] rfl)
abbrev rm_X2_findRound_27 : Room := { frames := 5, cells := 0, slots := 0, locals := 125 }
set_option maxHeartbeats 4000000 in
set_option maxRecDepth 100000 in
theorem c_X2_findRound_27 (l : Launch) (D : va_G) (cA : Nat → ClassId) (sz : Nat) (ad : Nat → Nat) (F : Nat → Int32) (L : Nat → Int64) (A : Nat → Nat → Int32) (B : Nat → Nat → Int64)  (hT : typX F A) : Met l yX2_findRound (Cond.code yX2_findRound cX2_findRound 5 (some .boolean) :: GW) rm_X2_findRound_27 (mPc D classes (tysX cA) (wX cA ad F L A B) sz [.ref (ad 27)]) (mQi (S := SW) D classes (tysX cA) (wX cA ad F L A B) sz (wfX cA ad) (fun r u => qX [29, 35] [29, 36, 37, 38, 39, 42, 43, 44, 45] F A u.1 u.2.2.1 ∧ rg r 0 1)) 0 0 (va_A (wX cA ad F L A B) sz) := by
  refine met_i (own := "ShoeingDay$Day") (by decide +kernel) rfl (Nat.le_of_ble_eq_true rfl) ?_
  intro p e s m args below meth c Q Af ls hC hP hD hS hA hl hret
  have hx := hC.1
  have hb := hC.2.1
  have hown := hC.2.2.2.1
  have hg := hC.g
  have hK := hC.K
  have hl : lv_has ls 5 [(0, .ref (ad 27))] := hl
  have hq : qX [29, 35] [29, 36, 37, 38, 39, 42, 43, 44, 45] F A F A := qX.rf hT
  obtain ⟨H, hH⟩ : ∃ H, H = s.heap := ⟨_, rfl⟩
  have hP : va_P D classes (wX cA ad F L A B) H := by rw [hH]; exact hP
  have hS : va_S Af s.heap H [] := by rw [hH]; exact hS
  obtain ⟨locs, hlo⟩ : ∃ q : List Loc, q = [] := ⟨_, rfl⟩
  rw [← hH, ← hlo]
  rw [← hlo] at hS
  refine lv_aload_n hx hb dX2_findRound_0 rfl (lv_at hl 0 rfl) ?_
  refine va_get (ci := 2) (v := .int (F 30)) (C := RX2) (T := TX2) (N := 15) hx hb hg inX2 hown hK hP 27 atX_27 rfl 3 (by decide) (hg _ mw_345) (fun _ h9 => h9) rfl dX2_findRound_1 ?_
  refine lv_topi (fun x1 e2 => ?_)
  refine lv_if_gt (tgt := 9) hx hb dX2_findRound_4 (by decide) (fun c3 => ?_) (fun c3 => ?_)
  · skip
    have r4 : rg x1 1 2147483647 := rg_lt2 (iL c3) ((rg_k (by decide)) : rg 0 0 0) ((rg_top _) : rg x1 (-2147483648) 2147483647)
    refine lv_aload_n hx hb dX2_findRound_9 rfl (lv_at hl 0 rfl) ?_
    refine lv_iconst (v := 1) hx hb dX2_findRound_10 (by decide) ?_
    refine lv_aload_n hx hb dX2_findRound_11 rfl (lv_at hl 0 rfl) ?_
    refine va_get (ci := 2) (v := .int (F 34)) (C := RX2) (T := TX2) (N := 15) hx hb hg inX2 hown hK hP 27 atX_27 rfl 13 (by decide) (hg _ mw_360) (fun _ h9 => h9) rfl dX2_findRound_12 ?_
    refine lv_topi (fun x6 e7 => ?_)
    have r8 : rg x6 0 10 := rg_e e7 (hq.1.1 34)
    refine lv_ishl hx hb dX2_findRound_15 ?_
    refine lv_topi (fun x9 e10 => ?_)
    have r11 : rg x9 1 1024 := rg_shl1 e10 r8 (by decide)
    refine lv_iconst (v := 1) hx hb dX2_findRound_16 (by decide) ?_
    refine lv_isub hx hb dX2_findRound_17 ?_
    refine lv_topi (fun x12 e13 => ?_)
    have r14 : rg x12 0 1023 := rg_sub e13 r11 ((rg_k (by decide)) : rg 1 1 1) (by decide)
    refine va_put (ci := 2) (v := .int x12) (ty := .int) (C := RX2) (T := TX2) (N := 15) hx hb hg inX2 tyX2 tyX2_ok nmX2 hown hK hP hD hS 27 atX_27 rfl 14 (by decide) (hg _ mw_361) (fun _ h9 => h9) rfl (by decide +kernel) rfl rfl (Nat.le_of_ble_eq_true rfl) dX2_findRound_18 (fun H locs hP hD hS => ?_)
    have hq := hq.put 35 (x := x12) (by decide) r14
    rw [setFX_35] at hP hD
    refine lv_aload_n hx hb dX2_findRound_21 rfl (lv_at hl 0 rfl) ?_
    refine va_get (ci := 2) (v := .ref (ad 34)) (C := RX2) (T := TX2) (N := 15) hx hb hg inX2 hown hK hP 27 atX_27 rfl 10 (by decide) (hg _ mw_357) (fun _ h9 => h9) rfl dX2_findRound_22 ?_
    refine callv_v (As := []) (rest := []) hC (c_X1_clear_34 l D cA H.size ad (upd F 35 x12) L A B  hq.1) (cwV 0 hg (g_V mw_791 mw_788 mw_789 mw_790 mw_15) rfl rfl rfl (by decide +kernel) ⟨(Nat.le_of_ble_eq_true rfl), (Nat.le_of_ble_eq_true rfl)⟩) hP hD hS hA atX_34 rfl rfl hl.1 rfl (Nat.le_of_ble_eq_true rfl) dX2_findRound_25 ⟨Nat.zero_le _, Nat.zero_le _⟩ (fun  u H locs hw hP hD hS => ?_)
    obtain ⟨F15, L15, A15, B15⟩ := u
    try dsimp only at hw
    have hq15 := hw
    have hq := hq.call hq15 (by decide)
    have hP : va_P D classes (wX cA ad F15 L15 A15 B15) H := hP
    have hD : va_D Af (wX cA ad F15 L15 A15 B15) := hD
    refine lv_aload_n hx hb dX2_findRound_28 rfl (lv_at hl 0 rfl) ?_
    refine va_get (ci := 2) (v := .ref (ad 40)) (C := RX2) (T := TX2) (N := 15) hx hb hg inX2 hown hK hP 27 atX_27 rfl 11 (by decide) (hg _ mw_358) (fun _ h9 => h9) rfl dX2_findRound_29 ?_
    refine callv_v (As := []) (rest := []) hC (c_X1_clear_40 l D cA H.size ad F15 L15 A15 B15  hq.1) (cwV 0 hg (g_V mw_791 mw_788 mw_789 mw_790 mw_15) rfl rfl rfl (by decide +kernel) ⟨(Nat.le_of_ble_eq_true rfl), (Nat.le_of_ble_eq_true rfl)⟩) hP hD hS hA atX_40 rfl rfl hl.1 rfl (Nat.le_of_ble_eq_true rfl) dX2_findRound_32 ⟨Nat.zero_le _, Nat.zero_le _⟩ (fun  u H locs hw hP hD hS => ?_)
    obtain ⟨F16, L16, A16, B16⟩ := u
    try dsimp only at hw
    have hq16 := hw
    have hq := hq.call hq16 (by decide)
    have hP : va_P D classes (wX cA ad F16 L16 A16 B16) H := hP
    have hD : va_D Af (wX cA ad F16 L16 A16 B16) := hD
    refine lv_iconst (v := 0) hx hb dX2_findRound_35 (by decide) ?_
    refine lv_istore_n (lv' := [(1, .int 0), (0, .ref (ad 27))]) hx hb dX2_findRound_36 rfl hl (by decide) rfl (fun ls hl => ?_)
    have J37 : ∀ (n37 : Nat) (a17 : Int32) (F19 : Nat → Int32) (L19 : Nat → Int64) (A19 : Nat → Nat → Int32) (B19 : Nat → Nat → Int64) (H : Heap) (locs : List Loc) (ls : Array Slot), (8 - a17.toInt).toNat < n37 → rg a17 0 8 → qX [29, 35] [29, 36, 37, 38, 39, 42, 43, 44, 45] F A F19 A19 → F19 30 = x1 → F19 34 = x6 → F19 35 = x12 → va_P D classes (wX cA ad F19 L19 A19 B19) H → va_D Af (wX cA ad F19 L19 A19 B19) → va_S Af s.heap H locs → lv_has ls 5 [(0, .ref (ad 27)), (1, .int a17)] → W p l e rm_X2_findRound_27 s m args below meth c H locs 0 0 Q (F0 m 37 ls []) := by
      intro n37
      induction n37 with
      | zero =>
        intro _ _ _ _ _ _ _ _ hn
        exact absurd hn (Nat.not_lt_zero _)
      | succ n37 ih37 =>
        intro a17 F19 L19 A19 B19 H locs ls hn37 r18 hq f20 f21 f22 hP hD hS hl
        refine lv_iload_n hx hb dX2_findRound_37 rfl (lv_at hl 1 rfl) ?_
        refine lv_aload_n hx hb dX2_findRound_38 rfl (lv_at hl 0 rfl) ?_
        refine va_get (ci := 2) (v := .int (F19 33)) (C := RX2) (T := TX2) (N := 15) hx hb hg inX2 hown hK hP 27 atX_27 rfl 12 (by decide) (hg _ mw_359) (fun _ h9 => h9) rfl dX2_findRound_39 ?_
        refine lv_topi (fun x23 e24 => ?_)
        have r25 : rg x23 0 8 := rg_e e24 (hq.1.1 33)
        refine lv_icmp_ge (tgt := 77) hx hb dX2_findRound_42 (by decide) (fun c26 => ?_) (fun c26 => ?_)
        · skip
          refine lv_iconst (v := 1) hx hb dX2_findRound_77 (by decide) ?_
          refine lv_aload_n hx hb dX2_findRound_78 rfl (lv_at hl 0 rfl) ?_
          refine va_get (ci := 2) (v := .int x23) (C := RX2) (T := TX2) (N := 15) hx hb hg inX2 hown hK hP 27 atX_27 rfl 12 (by decide) (hg _ mw_359) (fun _ h9 => h9) (congrArg (fun z => some (Value.int z)) (e24.symm)) dX2_findRound_79 ?_
          refine lv_ishl hx hb dX2_findRound_82 ?_
          refine lv_topi (fun x29 e30 => ?_)
          have r31 : rg x29 1 256 := rg_shl1 e30 r25 (by decide)
          refine lv_iconst (v := 1) hx hb dX2_findRound_83 (by decide) ?_
          refine lv_isub hx hb dX2_findRound_84 ?_
          refine lv_topi (fun x32 e33 => ?_)
          have r34 : rg x32 0 255 := rg_sub e33 r31 ((rg_k (by decide)) : rg 1 1 1) (by decide)
          refine lv_istore_n (lv' := [(1, .int x32), (0, .ref (ad 27))]) hx hb dX2_findRound_85 rfl hl (by decide) rfl (fun ls hl => ?_)
          refine lv_iconst (v := 0) hx hb dX2_findRound_86 (by decide) ?_
          refine lv_istore_n (lv' := [(2, .int 0), (1, .int x32), (0, .ref (ad 27))]) hx hb dX2_findRound_87 rfl hl (by decide) rfl (fun ls hl => ?_)
          have J88 : ∀ (n88 : Nat) (a35 : Int32) (F37 : Nat → Int32) (L37 : Nat → Int64) (A37 : Nat → Nat → Int32) (B37 : Nat → Nat → Int64) (H : Heap) (locs : List Loc) (ls : Array Slot), (10 - a35.toInt).toNat < n88 → rg a35 0 10 → qX [29, 35] [29, 36, 37, 38, 39, 42, 43, 44, 45] F A F37 A37 → F37 30 = x1 → F37 33 = x23 → F37 34 = x6 → F37 35 = x12 → va_P D classes (wX cA ad F37 L37 A37 B37) H → va_D Af (wX cA ad F37 L37 A37 B37) → va_S Af s.heap H locs → lv_has ls 5 [(0, .ref (ad 27)), (1, .int x32), (2, .int a35)] → W p l e rm_X2_findRound_27 s m args below meth c H locs 0 0 Q (F0 m 88 ls []) := by
            intro n88
            induction n88 with
            | zero =>
              intro _ _ _ _ _ _ _ _ hn
              exact absurd hn (Nat.not_lt_zero _)
            | succ n88 ih88 =>
              intro a35 F37 L37 A37 B37 H locs ls hn88 r36 hq f38 f39 f40 f41 hP hD hS hl
              refine lv_iload_n hx hb dX2_findRound_88 rfl (lv_at hl 2 rfl) ?_
              refine lv_aload_n hx hb dX2_findRound_89 rfl (lv_at hl 0 rfl) ?_
              refine va_get (ci := 2) (v := .int x6) (C := RX2) (T := TX2) (N := 15) hx hb hg inX2 hown hK hP 27 atX_27 rfl 13 (by decide) (hg _ mw_360) (fun _ h9 => h9) (congrArg (fun z => some (Value.int z)) (f40)) dX2_findRound_90 ?_
              refine lv_icmp_ge (tgt := 125) hx hb dX2_findRound_93 (by decide) (fun c42 => ?_) (fun c42 => ?_)
              · skip
                refine lv_aload_n hx hb dX2_findRound_125 rfl (lv_at hl 0 rfl) ?_
                refine lv_aload_n hx hb dX2_findRound_126 rfl (lv_at hl 0 rfl) ?_
                refine va_get (ci := 2) (v := .int x1) (C := RX2) (T := TX2) (N := 15) hx hb hg inX2 hown hK hP 27 atX_27 rfl 3 (by decide) (hg _ mw_345) (fun _ h9 => h9) (congrArg (fun z => some (Value.int z)) (f38)) dX2_findRound_127 ?_
                refine va_put (ci := 2) (v := .int x1) (ty := .int) (C := RX2) (T := TX2) (N := 15) hx hb hg inX2 tyX2 tyX2_ok nmX2 hown hK hP hD hS 27 atX_27 rfl 2 (by decide) (hg _ mw_343) (fun _ h9 => h9) rfl (by decide +kernel) rfl rfl (Nat.le_of_ble_eq_true rfl) dX2_findRound_130 (fun H locs hP hD hS => ?_)
                have hq := hq.put 29 (x := x1) (by decide) (rg_top _)
                rw [setFX_29] at hP hD
                refine lv_iconst (v := 0) hx hb dX2_findRound_133 (by decide) ?_
                refine lv_istore_n (lv' := [(2, .int 0), (0, .ref (ad 27)), (1, .int x32)]) hx hb dX2_findRound_134 rfl hl (by decide) rfl (fun ls hl => ?_)
                have J135 : ∀ (n135 : Nat) (a45 : Int32) (F47 : Nat → Int32) (L47 : Nat → Int64) (A47 : Nat → Nat → Int32) (B47 : Nat → Nat → Int64) (H : Heap) (locs : List Loc) (ls : Array Slot), (8 - a45.toInt).toNat < n135 → rg a45 0 8 → qX [29, 35] [29, 36, 37, 38, 39, 42, 43, 44, 45] F A F47 A47 → F47 30 = x1 → F47 33 = x23 → va_P D classes (wX cA ad F47 L47 A47 B47) H → va_D Af (wX cA ad F47 L47 A47 B47) → va_S Af s.heap H locs → lv_has ls 5 [(0, .ref (ad 27)), (2, .int a45)] → W p l e rm_X2_findRound_27 s m args below meth c H locs 0 0 Q (F0 m 135 ls []) := by
                  intro n135
                  induction n135 with
                  | zero =>
                    intro _ _ _ _ _ _ _ _ hn
                    exact absurd hn (Nat.not_lt_zero _)
                  | succ n135 ih135 =>
                    intro a45 F47 L47 A47 B47 H locs ls hn135 r46 hq f48 f49 hP hD hS hl
                    refine lv_iload_n hx hb dX2_findRound_135 rfl (lv_at hl 1 rfl) ?_
                    refine lv_aload_n hx hb dX2_findRound_136 rfl (lv_at hl 0 rfl) ?_
                    refine va_get (ci := 2) (v := .int x23) (C := RX2) (T := TX2) (N := 15) hx hb hg inX2 hown hK hP 27 atX_27 rfl 12 (by decide) (hg _ mw_359) (fun _ h9 => h9) (congrArg (fun z => some (Value.int z)) (f49)) dX2_findRound_137 ?_
                    refine lv_icmp_ge (tgt := 206) hx hb dX2_findRound_140 (by decide) (fun c50 => ?_) (fun c50 => ?_)
                    · skip
                      refine lv_aload_n hx hb dX2_findRound_206 rfl (lv_at hl 0 rfl) ?_
                      refine va_get (ci := 2) (v := .int (F47 35)) (C := RX2) (T := TX2) (N := 15) hx hb hg inX2 hown hK hP 27 atX_27 rfl 14 (by decide) (hg _ mw_361) (fun _ h9 => h9) rfl dX2_findRound_207 ?_
                      refine lv_topi (fun x53 e54 => ?_)
                      have r55 : rg x53 0 1023 := rg_e e54 (hq.1.1 35)
                      refine lv_istore_n (lv' := [(2, .int x53), (0, .ref (ad 27))]) hx hb dX2_findRound_210 rfl hl (by decide) rfl (fun ls hl => ?_)
                      have J211 : ∀ (n211 : Nat) (a56 : Int32) (F58 : Nat → Int32) (L58 : Nat → Int64) (A58 : Nat → Nat → Int32) (B58 : Nat → Nat → Int64) (H : Heap) (locs : List Loc) (ls : Array Slot), a56.toInt.toNat < n211 → rg a56 0 1023 → qX [29, 35] [29, 36, 37, 38, 39, 42, 43, 44, 45] F A F58 A58 → F58 30 = x1 → va_P D classes (wX cA ad F58 L58 A58 B58) H → va_D Af (wX cA ad F58 L58 A58 B58) → va_S Af s.heap H locs → lv_has ls 5 [(0, .ref (ad 27)), (2, .int a56)] → W p l e rm_X2_findRound_27 s m args below meth c H locs 0 0 Q (F0 m 211 ls []) := by
                        intro n211
                        induction n211 with
                        | zero =>
                          intro _ _ _ _ _ _ _ _ hn
                          exact absurd hn (Nat.not_lt_zero _)
                        | succ n211 ih211 =>
                          intro a56 F58 L58 A58 B58 H locs ls hn211 r57 hq f59 hP hD hS hl
                          refine lv_iload_n hx hb dX2_findRound_211 rfl (lv_at hl 1 rfl) ?_
                          refine lv_if_eq (tgt := 249) hx hb dX2_findRound_212 (by decide) (fun c60 => ?_) (fun c60 => ?_)
                          · skip
                            have r61 : rg a56 0 0 := rg_eq1 c60 (r57 : rg a56 0 1023) ((rg_k (by decide)) : rg 0 0 0) (by decide)
                            refine lv_iconst (v := 1) hx hb dX2_findRound_249 (by decide) ?_
                            exact hret (1) (F58, L58, A58, B58) H locs 250 ls rfl dX2_findRound_250 hP hD hS ⟨hq, (rg_k (by decide))⟩
                          · skip
                            have r62 : rg a56 1 1023 := (rg_ne1 c60 (r57 : rg a56 0 1023) ((rg_k (by decide)) : rg 0 0 0)).1 rfl
                            refine lv_aload_n hx hb dX2_findRound_215 rfl (lv_at hl 0 rfl) ?_
                            refine lv_aload_n hx hb dX2_findRound_216 rfl (lv_at hl 0 rfl) ?_
                            refine va_get (ci := 2) (v := .int (F58 29)) (C := RX2) (T := TX2) (N := 15) hx hb hg inX2 hown hK hP 27 atX_27 rfl 2 (by decide) (hg _ mw_343) (fun _ h9 => h9) rfl dX2_findRound_217 ?_
                            refine lv_topi (fun x63 e64 => ?_)
                            refine lv_aload_n hx hb dX2_findRound_220 rfl (lv_at hl 0 rfl) ?_
                            refine va_get (ci := 2) (v := .int x1) (C := RX2) (T := TX2) (N := 15) hx hb hg inX2 hown hK hP 27 atX_27 rfl 3 (by decide) (hg _ mw_345) (fun _ h9 => h9) (congrArg (fun z => some (Value.int z)) (f59)) dX2_findRound_221 ?_
                            refine lv_aload_n hx hb dX2_findRound_224 rfl (lv_at hl 0 rfl) ?_
                            refine va_get (ci := 2) (v := .ref (ad 33)) (C := RX2) (T := TX2) (N := 15) hx hb hg inX2 hown hK hP 27 atX_27 rfl 9 (by decide) (hg _ mw_356) (fun _ h9 => h9) rfl dX2_findRound_225 ?_
                            refine lv_iload_n hx hb dX2_findRound_228 rfl (lv_at hl 1 rfl) ?_
                            refine calln_i (As := [.int a56]) (rest := [.ref (ad 33), .int x1, .int x63, .ref (ad 27)]) hC (c_X11_lowest l D (tysX cA) (wX cA ad F58 L58 A58 B58) H.size (a56)) ⟨va_cnB 1 hg (g_N mw_799) rfl rfl rfl (mn_14 hC.N) (hg _ mw_1) (by decide +kernel) ⟨(Nat.le_of_ble_eq_true rfl), (Nat.le_of_ble_eq_true rfl)⟩, (hg _ mw_798), trivial⟩ hP hD hS hA rfl hl.1 rfl (Nat.le_of_ble_eq_true rfl) dX2_findRound_229 ⟨Nat.zero_le _, Nat.zero_le _⟩ (fun x65 u H locs hw hP hD hS => ?_)
                            have e66 := hw
                            have hP : va_P D classes (wX cA ad F58 L58 A58 B58) H := hP
                            have hD : va_D Af (wX cA ad F58 L58 A58 B58) := hD
                            have r67 : rg x65 0 9 := rg_low hw r62 (k := 10) (by decide)
                            refine va_iald hx hb hK hP 33 23 atX_33 tyX_33 (in_rg r67 (by decide)) dX2_findRound_232 ?_
                            refine lv_topi (fun x68 e69 => ?_)
                            refine lv_isub hx hb dX2_findRound_233 ?_
                            refine lv_topi (fun x70 e71 => ?_)
                            refine va_mmin hx hb (hC.2.2.1.trans hl.1.symm) hown (hg _ mw_828) (hg _ mw_595) (hg _ mw_12) (hg _ mw_596) (Nat.le_of_ble_eq_true rfl) (Nat.le_of_ble_eq_true rfl) (Nat.zero_le _) (Nat.zero_le _) dX2_findRound_234 ?_
                            refine lv_topi (fun x72 e73 => ?_)
                            refine va_put (ci := 2) (v := .int x72) (ty := .int) (C := RX2) (T := TX2) (N := 15) hx hb hg inX2 tyX2 tyX2_ok nmX2 hown hK hP hD hS 27 atX_27 rfl 2 (by decide) (hg _ mw_343) (fun _ h9 => h9) rfl (by decide +kernel) rfl rfl (Nat.le_of_ble_eq_true rfl) dX2_findRound_237 (fun H locs hP hD hS => ?_)
                            have hq := hq.put 29 (x := x72) (by decide) (rg_top _)
                            rw [setFX_29] at hP hD
                            refine lv_iload_n hx hb dX2_findRound_240 rfl (lv_at hl 1 rfl) ?_
                            refine lv_iload_n hx hb dX2_findRound_241 rfl (lv_at hl 1 rfl) ?_
                            refine lv_iconst (v := 1) hx hb dX2_findRound_242 (by decide) ?_
                            refine lv_isub hx hb dX2_findRound_243 ?_
                            refine lv_topi (fun x74 e75 => ?_)
                            have r76 : rg x74 0 1022 := rg_sub e75 r62 ((rg_k (by decide)) : rg 1 1 1) (by decide)
                            refine lv_iand hx hb dX2_findRound_244 ?_
                            refine lv_topi (fun x77 e78 => ?_)
                            have r79 : rg x77 0 1022 := rg_andr e78 r76 (by decide)
                            refine lv_istore_n (lv' := [(2, .int x77), (0, .ref (ad 27))]) hx hb dX2_findRound_245 rfl hl (by decide) rfl (fun ls hl => ?_)
                            refine lv_goto (tgt := 211) hx hb dX2_findRound_246 (by decide) ?_
                            exact ih211 (x77) ((upd F58 29 x72)) (L58) (A58) (B58) H locs ls (by have h1 := mask_less (show x77 = a56 &&& (a56 - 1) by rw [← e75]; exact e78) r62 (by decide); omega) (rg_w r79 (by decide)) hq (f59) hP hD hS (lv_sub hl [1, 0] rfl)
                      exact J211 _ (x53) (F47) (L47) (A47) (B47) H locs ls (Nat.lt_succ_self _) r55 hq (f48) hP hD hS (lv_sub hl [1, 0] rfl)
                    · skip
                      have r51 : rg a45 0 7 := rg_lt1 (iNE c50) (r46 : rg a45 0 8) (r25 : rg x23 0 8)
                      have r52 : rg x23 1 8 := rg_lt2 (iNE c50) (r46 : rg a45 0 8) (r25 : rg x23 0 8)
                      refine lv_aload_n hx hb dX2_findRound_143 rfl (lv_at hl 0 rfl) ?_
                      refine lv_iload_n hx hb dX2_findRound_144 rfl (lv_at hl 1 rfl) ?_
                      refine callv_i (As := [.int a45]) (rest := []) hC (c_X2_choose_27 l D cA H.size ad F47 L47 A47 B47 (a45) hq.1 r51) (cwV 1 hg (g_V mw_817 mw_814 mw_816 ms_22 mw_14) rfl rfl rfl (by decide +kernel) ⟨(Nat.le_of_ble_eq_true rfl), (Nat.le_of_ble_eq_true rfl)⟩) hP hD hS hA atX_27 rfl rfl hl.1 rfl (Nat.le_of_ble_eq_true rfl) dX2_findRound_145 ⟨Nat.zero_le _, Nat.zero_le _⟩ (fun x80 u H locs hw hP hD hS => ?_)
                      obtain ⟨F81, L81, A81, B81⟩ := u
                      try dsimp only at hw
                      obtain ⟨hq81, r82⟩ := hw
                      have hq := hq.call hq81 (by decide)
                      have hP : va_P D classes (wX cA ad F81 L81 A81 B81) H := hP
                      have hD : va_D Af (wX cA ad F81 L81 A81 B81) := hD
                      refine lv_istore_n (lv' := [(3, .int x80), (0, .ref (ad 27)), (2, .int a45)]) hx hb dX2_findRound_148 rfl hl (by decide) rfl (fun ls hl => ?_)
                      refine lv_aload_n hx hb dX2_findRound_149 rfl (lv_at hl 1 rfl) ?_
                      refine va_get (ci := 2) (v := .ref (ad 29)) (C := RX2) (T := TX2) (N := 15) hx hb hg inX2 hown hK hP 27 atX_27 rfl 1 (by decide) (hg _ mw_341) (fun _ h9 => h9) rfl dX2_findRound_150 ?_
                      refine lv_iload_n hx hb dX2_findRound_153 rfl (lv_at hl 2 rfl) ?_
                      refine lv_iload_n hx hb dX2_findRound_154 rfl (lv_at hl 0 rfl) ?_
                      refine va_iast hx hb hK hP hD hS 29 19 atX_29 tyX_29 (in_rg r51 (by decide)) dX2_findRound_155 (fun H locs hP hD hS => ?_)
                      have hq := hq.ast 29 (a45).toNatClampNeg (x := x80) (by decide) r82
                      rw [setX_29] at hP hD
                      have k83 : x80 = (va_up A81 29 (upd (A81 29) (a45).toNatClampNeg x80)) 29 (a45).toNatClampNeg := (rdA).symm
                      refine lv_iload_n hx hb dX2_findRound_156 rfl (lv_at hl 0 rfl) ?_
                      refine lv_iconst (v := (-1)) hx hb dX2_findRound_157 (by decide) ?_
                      have J185 : ∀ (a84 : Int32) (F85 : Nat → Int32) (L85 : Nat → Int64) (A85 : Nat → Nat → Int32) (B85 : Nat → Nat → Int64) (H : Heap) (locs : List Loc) (ls : Array Slot), qX [29, 35] [29, 36, 37, 38, 39, 42, 43, 44, 45] F A F85 A85 → F85 30 = x1 → F85 33 = x23 → va_P D classes (wX cA ad F85 L85 A85 B85) H → va_D Af (wX cA ad F85 L85 A85 B85) → va_S Af s.heap H locs → lv_has ls 5 [(0, .ref (ad 27)), (2, .int a45)] → W p l e rm_X2_findRound_27 s m args below meth c H locs 0 0 Q (F0 m 185 ls [.int a84]) := by
                        intro a84 F85 L85 A85 B85 H locs ls hq f86 f87 hP hD hS hl
                        refine lv_istore (lv' := [(4, .int a84), (0, .ref (ad 27)), (2, .int a45)]) hx hb dX2_findRound_185 hl (by decide) rfl (fun ls hl => ?_)
                        refine lv_aload_n hx hb dX2_findRound_187 rfl (lv_at hl 1 rfl) ?_
                        refine lv_aload_n hx hb dX2_findRound_188 rfl (lv_at hl 1 rfl) ?_
                        refine va_get (ci := 2) (v := .int (F85 29)) (C := RX2) (T := TX2) (N := 15) hx hb hg inX2 hown hK hP 27 atX_27 rfl 2 (by decide) (hg _ mw_343) (fun _ h9 => h9) rfl dX2_findRound_189 ?_
                        refine lv_topi (fun x88 e89 => ?_)
                        refine lv_iload hx hb dX2_findRound_192 (lv_at hl 0 rfl) ?_
                        refine va_mmin hx hb (hC.2.2.1.trans hl.1.symm) hown (hg _ mw_828) (hg _ mw_595) (hg _ mw_12) (hg _ mw_596) (Nat.le_of_ble_eq_true rfl) (Nat.le_of_ble_eq_true rfl) (Nat.zero_le _) (Nat.zero_le _) dX2_findRound_194 ?_
                        refine lv_topi (fun x90 e91 => ?_)
                        refine va_put (ci := 2) (v := .int x90) (ty := .int) (C := RX2) (T := TX2) (N := 15) hx hb hg inX2 tyX2 tyX2_ok nmX2 hown hK hP hD hS 27 atX_27 rfl 2 (by decide) (hg _ mw_343) (fun _ h9 => h9) rfl (by decide +kernel) rfl rfl (Nat.le_of_ble_eq_true rfl) dX2_findRound_197 (fun H locs hP hD hS => ?_)
                        have hq := hq.put 29 (x := x90) (by decide) (rg_top _)
                        rw [setFX_29] at hP hD
                        obtain ⟨x92, e93⟩ : ∃ y : Int32, y = a45 + 1 := ⟨_, rfl⟩
                        have r94 : rg x92 1 8 := rg_add e93 r51 (rg_k (by decide) : rg 1 1 1) (by decide)
                        refine lv_iinc (v := x92) (lv' := [(2, .int x92), (4, .int a84), (0, .ref (ad 27))]) hx hb dX2_findRound_200 hl (k := 2) rfl (by rw [e93]; rfl) (by decide) rfl (fun ls hl => ?_)
                        refine lv_goto (tgt := 135) hx hb dX2_findRound_203 (by decide) ?_
                        exact ih135 (x92) ((upd F85 29 x90)) (L85) (A85) (B85) H locs ls (by have h0 : (1 : Int32).toInt = 1 := rfl; have h1 := ti_addk e93 r51 (by decide); have h2 : rg x92 0 8 := (rg_w r94 (by decide)); unfold rg at h2; omega) (rg_w r94 (by decide)) hq (f86) (f87) hP hD hS (lv_sub hl [2, 0] rfl)
                      refine lv_icmp_ne (tgt := 175) hx hb dX2_findRound_158 (by decide) (fun c95 => ?_) (fun c95 => ?_)
                      · skip
                        have r96 : rg x80 0 9 := (rg_ne1 c95 (r82 : rg x80 (-1) 9) ((rg_k (by decide)) : rg (-1) (-1) (-1))).1 rfl
                        refine lv_aload_n hx hb dX2_findRound_175 rfl (lv_at hl 1 rfl) ?_
                        refine va_get (ci := 2) (v := .ref (ad 28)) (C := RX2) (T := TX2) (N := 15) hx hb hg inX2 hown hK hP 27 atX_27 rfl 0 (by decide) (hg _ mw_339) (fun _ h9 => h9) rfl dX2_findRound_176 ?_
                        refine lv_iload_n hx hb dX2_findRound_179 rfl (lv_at hl 2 rfl) ?_
                        refine lv_iload_n hx hb dX2_findRound_180 rfl (lv_at hl 0 rfl) ?_
                        refine calln_i (As := [.int a45, .int x80]) (rest := [.ref (ad 28)]) hC (c_X11_cellOf l D (tysX cA) (wX cA ad F81 L81 (va_up A81 29 (upd (A81 29) (a45).toNatClampNeg x80)) B81) H.size (a45) (x80)) ⟨va_cnB 2 hg (g_N mw_681) rfl rfl rfl (mn_12 hC.N) (hg _ mw_1) (by decide +kernel) ⟨(Nat.le_of_ble_eq_true rfl), (Nat.le_of_ble_eq_true rfl)⟩, (hg _ mw_680), trivial⟩ hP hD hS hA rfl hl.1 rfl (Nat.le_of_ble_eq_true rfl) dX2_findRound_181 ⟨Nat.zero_le _, Nat.zero_le _⟩ (fun x98 u H locs hw hP hD hS => ?_)
                        have e99 := hw
                        have hP : va_P D classes (wX cA ad F81 L81 (va_up A81 29 (upd (A81 29) (a45).toNatClampNeg x80)) B81) H := hP
                        have hD : va_D Af (wX cA ad F81 L81 (va_up A81 29 (upd (A81 29) (a45).toNatClampNeg x80)) B81) := hD
                        have r100 : rg x98 0 79 := rg_cell hw (r51 : rg a45 0 7) (r96 : rg x80 0 9) (by decide)
                        refine va_iald hx hb hK hP 28 18 atX_28 tyX_28 (in_rg r100 (by decide)) dX2_findRound_184 ?_
                        refine lv_topi (fun x101 e102 => ?_)
                        exact J185 (x101) (F81) (L81) ((va_up A81 29 (upd (A81 29) (a45).toNatClampNeg x80))) (B81) H locs ls hq ((hq81.2.1 30 (by decide)).trans (f48)) ((hq81.2.1 33 (by decide)).trans (f49)) hP hD hS (lv_sub hl [1, 2] rfl)
                      · skip
                        have r97 : rg x80 (-1) (-1) := rg_eq1 c95 (r82 : rg x80 (-1) 9) ((rg_k (by decide)) : rg (-1) (-1) (-1)) (by decide)
                        refine lv_aload_n hx hb dX2_findRound_161 rfl (lv_at hl 1 rfl) ?_
                        refine va_get (ci := 2) (v := .int x1) (C := RX2) (T := TX2) (N := 15) hx hb hg inX2 hown hK hP 27 atX_27 rfl 3 (by decide) (hg _ mw_345) (fun _ h9 => h9) (congrArg (fun z => some (Value.int z)) ((hq81.2.1 30 (by decide)).trans (f48))) dX2_findRound_162 ?_
                        refine lv_aload_n hx hb dX2_findRound_165 rfl (lv_at hl 1 rfl) ?_
                        refine va_get (ci := 2) (v := .ref (ad 32)) (C := RX2) (T := TX2) (N := 15) hx hb hg inX2 hown hK hP 27 atX_27 rfl 8 (by decide) (hg _ mw_355) (fun _ h9 => h9) rfl dX2_findRound_166 ?_
                        refine lv_iload_n hx hb dX2_findRound_169 rfl (lv_at hl 2 rfl) ?_
                        refine va_iald hx hb hK hP 32 22 atX_32 tyX_32 (in_rg r51 (by decide)) dX2_findRound_170 ?_
                        refine lv_topi (fun x103 e104 => ?_)
                        refine lv_isub hx hb dX2_findRound_171 ?_
                        refine lv_topi (fun x105 e106 => ?_)
                        refine lv_goto (tgt := 185) hx hb dX2_findRound_172 (by decide) ?_
                        exact J185 (x105) (F81) (L81) ((va_up A81 29 (upd (A81 29) (a45).toNatClampNeg x80))) (B81) H locs ls hq ((hq81.2.1 30 (by decide)).trans (f48)) ((hq81.2.1 33 (by decide)).trans (f49)) hP hD hS (lv_sub hl [1, 2] rfl)
                exact J135 _ (0) ((upd F37 29 x1)) (L37) (A37) (B37) H locs ls (Nat.lt_succ_self _) (rg_k (by decide)) hq (f38) (f39) hP hD hS (lv_sub hl [1, 0] rfl)
              · skip
                have r43 : rg a35 0 9 := rg_lt1 (iNE c42) (r36 : rg a35 0 10) (r8 : rg x6 0 10)
                have r44 : rg x6 1 10 := rg_lt2 (iNE c42) (r36 : rg a35 0 10) (r8 : rg x6 0 10)
                refine lv_aload_n hx hb dX2_findRound_96 rfl (lv_at hl 0 rfl) ?_
                refine va_get (ci := 2) (v := .ref (ad 33)) (C := RX2) (T := TX2) (N := 15) hx hb hg inX2 hown hK hP 27 atX_27 rfl 9 (by decide) (hg _ mw_356) (fun _ h9 => h9) rfl dX2_findRound_97 ?_
                refine lv_iload_n hx hb dX2_findRound_100 rfl (lv_at hl 2 rfl) ?_
                refine va_iald hx hb hK hP 33 23 atX_33 tyX_33 (in_rg r43 (by decide)) dX2_findRound_101 ?_
                refine lv_topi (fun x107 e108 => ?_)
                refine lv_aload_n hx hb dX2_findRound_102 rfl (lv_at hl 0 rfl) ?_
                refine va_get (ci := 2) (v := .int x1) (C := RX2) (T := TX2) (N := 15) hx hb hg inX2 hown hK hP 27 atX_27 rfl 3 (by decide) (hg _ mw_345) (fun _ h9 => h9) (congrArg (fun z => some (Value.int z)) (f38)) dX2_findRound_103 ?_
                have J119 : ∀ (F109 : Nat → Int32) (L109 : Nat → Int64) (A109 : Nat → Nat → Int32) (B109 : Nat → Nat → Int64) (H : Heap) (locs : List Loc) (ls : Array Slot), qX [29, 35] [29, 36, 37, 38, 39, 42, 43, 44, 45] F A F109 A109 → F109 30 = x1 → F109 33 = x23 → F109 34 = x6 → F109 35 = x12 → va_P D classes (wX cA ad F109 L109 A109 B109) H → va_D Af (wX cA ad F109 L109 A109 B109) → va_S Af s.heap H locs → lv_has ls 5 [(0, .ref (ad 27)), (1, .int x32), (2, .int a35)] → W p l e rm_X2_findRound_27 s m args below meth c H locs 0 0 Q (F0 m 119 ls []) := by
                  intro F109 L109 A109 B109 H locs ls hq f110 f111 f112 f113 hP hD hS hl
                  obtain ⟨x114, e115⟩ : ∃ y : Int32, y = a35 + 1 := ⟨_, rfl⟩
                  have r116 : rg x114 1 10 := rg_add e115 r43 (rg_k (by decide) : rg 1 1 1) (by decide)
                  refine lv_iinc (v := x114) (lv' := [(2, .int x114), (0, .ref (ad 27)), (1, .int x32)]) hx hb dX2_findRound_119 hl (k := 2) rfl (by rw [e115]; rfl) (by decide) rfl (fun ls hl => ?_)
                  refine lv_goto (tgt := 88) hx hb dX2_findRound_122 (by decide) ?_
                  exact ih88 (x114) (F109) (L109) (A109) (B109) H locs ls (by have h0 : (1 : Int32).toInt = 1 := rfl; have h1 := ti_addk e115 r43 (by decide); have h2 : rg x114 0 10 := (rg_w r116 (by decide)); unfold rg at h2; omega) (rg_w r116 (by decide)) hq (f110) (f111) (f112) (f113) hP hD hS (lv_sub hl [1, 2, 0] rfl)
                refine lv_icmp_ne (tgt := 119) hx hb dX2_findRound_106 (by decide) (fun c117 => ?_) (fun c117 => ?_)
                · skip
                  exact J119 (F37) (L37) (A37) (B37) H locs ls hq (f38) (f39) (f40) (f41) hP hD hS (lv_sub hl [0, 1, 2] rfl)
                · skip
                  have r118 : rg x107 1 2147483647 := rg_eq1 c117 ((rg_top _) : rg x107 (-2147483648) 2147483647) (r4 : rg x1 1 2147483647) (by decide)
                  refine lv_aload_n hx hb dX2_findRound_109 rfl (lv_at hl 0 rfl) ?_
                  refine va_get (ci := 2) (v := .ref (ad 40)) (C := RX2) (T := TX2) (N := 15) hx hb hg inX2 hown hK hP 27 atX_27 rfl 11 (by decide) (hg _ mw_358) (fun _ h9 => h9) rfl dX2_findRound_110 ?_
                  refine lv_iload_n hx hb dX2_findRound_113 rfl (lv_at hl 2 rfl) ?_
                  refine lv_iload_n hx hb dX2_findRound_114 rfl (lv_at hl 1 rfl) ?_
                  refine callv_i (As := [.int a35, .int x32]) (rest := []) hC (c_X1_settle_40 l D cA H.size ad F37 L37 A37 B37 (a35) (x32) hq.1 r43 (rg_w r34 (by decide))) (cwV 2 hg (g_V mw_796 mw_793 mw_794 mw_795 mw_15) rfl rfl rfl (by decide +kernel) ⟨(Nat.le_of_ble_eq_true rfl), (Nat.le_of_ble_eq_true rfl)⟩) hP hD hS hA atX_40 rfl rfl hl.1 rfl (Nat.le_of_ble_eq_true rfl) dX2_findRound_115 ⟨Nat.zero_le _, Nat.zero_le _⟩ (fun x119 u H locs hw hP hD hS => ?_)
                  obtain ⟨F120, L120, A120, B120⟩ := u
                  try dsimp only at hw
                  obtain ⟨hq120, r121⟩ := hw
                  have hq := hq.call hq120 (by decide)
                  have hP : va_P D classes (wX cA ad F120 L120 A120 B120) H := hP
                  have hD : va_D Af (wX cA ad F120 L120 A120 B120) := hD
                  refine lv_pop hx hb dX2_findRound_118 rfl ?_
                  exact J119 (F120) (L120) (A120) (B120) H locs ls hq ((hq120.2.1 30 (by decide)).trans (f38)) ((hq120.2.1 33 (by decide)).trans (f39)) ((hq120.2.1 34 (by decide)).trans (f40)) ((hq120.2.1 35 (by decide)).trans (f41)) hP hD hS (lv_sub hl [0, 1, 2] rfl)
          exact J88 _ (0) (F19) (L19) (A19) (B19) H locs ls (Nat.lt_succ_self _) (rg_k (by decide)) hq (f20) (e24.symm) (f21) (f22) hP hD hS (lv_sub hl [2, 1, 0] rfl)
        · skip
          have r27 : rg a17 0 7 := rg_lt1 (iNE c26) (r18 : rg a17 0 8) (r25 : rg x23 0 8)
          have r28 : rg x23 1 8 := rg_lt2 (iNE c26) (r18 : rg a17 0 8) (r25 : rg x23 0 8)
          refine lv_aload_n hx hb dX2_findRound_45 rfl (lv_at hl 0 rfl) ?_
          refine va_get (ci := 2) (v := .ref (ad 32)) (C := RX2) (T := TX2) (N := 15) hx hb hg inX2 hown hK hP 27 atX_27 rfl 8 (by decide) (hg _ mw_355) (fun _ h9 => h9) rfl dX2_findRound_46 ?_
          refine lv_iload_n hx hb dX2_findRound_49 rfl (lv_at hl 1 rfl) ?_
          refine va_iald hx hb hK hP 32 22 atX_32 tyX_32 (in_rg r27 (by decide)) dX2_findRound_50 ?_
          refine lv_topi (fun x122 e123 => ?_)
          refine lv_aload_n hx hb dX2_findRound_51 rfl (lv_at hl 0 rfl) ?_
          refine va_get (ci := 2) (v := .int x1) (C := RX2) (T := TX2) (N := 15) hx hb hg inX2 hown hK hP 27 atX_27 rfl 3 (by decide) (hg _ mw_345) (fun _ h9 => h9) (congrArg (fun z => some (Value.int z)) (f20)) dX2_findRound_52 ?_
          have J71 : ∀ (F124 : Nat → Int32) (L124 : Nat → Int64) (A124 : Nat → Nat → Int32) (B124 : Nat → Nat → Int64) (H : Heap) (locs : List Loc) (ls : Array Slot), qX [29, 35] [29, 36, 37, 38, 39, 42, 43, 44, 45] F A F124 A124 → F124 30 = x1 → F124 33 = x23 → F124 34 = x6 → F124 35 = x12 → va_P D classes (wX cA ad F124 L124 A124 B124) H → va_D Af (wX cA ad F124 L124 A124 B124) → va_S Af s.heap H locs → lv_has ls 5 [(0, .ref (ad 27)), (1, .int a17)] → W p l e rm_X2_findRound_27 s m args below meth c H locs 0 0 Q (F0 m 71 ls []) := by
            intro F124 L124 A124 B124 H locs ls hq f125 f126 f127 f128 hP hD hS hl
            obtain ⟨x129, e130⟩ : ∃ y : Int32, y = a17 + 1 := ⟨_, rfl⟩
            have r131 : rg x129 1 8 := rg_add e130 r27 (rg_k (by decide) : rg 1 1 1) (by decide)
            refine lv_iinc (v := x129) (lv' := [(1, .int x129), (0, .ref (ad 27))]) hx hb dX2_findRound_71 hl (k := 1) rfl (by rw [e130]; rfl) (by decide) rfl (fun ls hl => ?_)
            refine lv_goto (tgt := 37) hx hb dX2_findRound_74 (by decide) ?_
            exact ih37 (x129) (F124) (L124) (A124) (B124) H locs ls (by have h0 : (1 : Int32).toInt = 1 := rfl; have h1 := ti_addk e130 r27 (by decide); have h2 : rg x129 0 8 := (rg_w r131 (by decide)); unfold rg at h2; omega) (rg_w r131 (by decide)) hq (f125) (f127) (f128) hP hD hS (lv_sub hl [1, 0] rfl)
          refine lv_icmp_ne (tgt := 71) hx hb dX2_findRound_55 (by decide) (fun c132 => ?_) (fun c132 => ?_)
          · skip
            exact J71 (F19) (L19) (A19) (B19) H locs ls hq (f20) (e24.symm) (f21) (f22) hP hD hS (lv_sub hl [0, 1] rfl)
          · skip
            have r133 : rg x122 1 2147483647 := rg_eq1 c132 ((rg_top _) : rg x122 (-2147483648) 2147483647) (r4 : rg x1 1 2147483647) (by decide)
            refine lv_aload_n hx hb dX2_findRound_58 rfl (lv_at hl 0 rfl) ?_
            refine va_get (ci := 2) (v := .ref (ad 34)) (C := RX2) (T := TX2) (N := 15) hx hb hg inX2 hown hK hP 27 atX_27 rfl 10 (by decide) (hg _ mw_357) (fun _ h9 => h9) rfl dX2_findRound_59 ?_
            refine lv_iload_n hx hb dX2_findRound_62 rfl (lv_at hl 1 rfl) ?_
            refine lv_aload_n hx hb dX2_findRound_63 rfl (lv_at hl 0 rfl) ?_
            refine va_get (ci := 2) (v := .int x12) (C := RX2) (T := TX2) (N := 15) hx hb hg inX2 hown hK hP 27 atX_27 rfl 14 (by decide) (hg _ mw_361) (fun _ h9 => h9) (congrArg (fun z => some (Value.int z)) (f22)) dX2_findRound_64 ?_
            refine callv_i (As := [.int a17, .int x12]) (rest := []) hC (c_X1_settle_34 l D cA H.size ad F19 L19 A19 B19 (a17) (x12) hq.1 (rg_w r27 (by decide)) r14) (cwV 2 hg (g_V mw_796 mw_793 mw_794 mw_795 mw_15) rfl rfl rfl (by decide +kernel) ⟨(Nat.le_of_ble_eq_true rfl), (Nat.le_of_ble_eq_true rfl)⟩) hP hD hS hA atX_34 rfl rfl hl.1 rfl (Nat.le_of_ble_eq_true rfl) dX2_findRound_67 ⟨Nat.zero_le _, Nat.zero_le _⟩ (fun x134 u H locs hw hP hD hS => ?_)
            obtain ⟨F135, L135, A135, B135⟩ := u
            try dsimp only at hw
            obtain ⟨hq135, r136⟩ := hw
            have hq := hq.call hq135 (by decide)
            have hP : va_P D classes (wX cA ad F135 L135 A135 B135) H := hP
            have hD : va_D Af (wX cA ad F135 L135 A135 B135) := hD
            refine lv_pop hx hb dX2_findRound_70 rfl ?_
            exact J71 (F135) (L135) (A135) (B135) H locs ls hq ((hq135.2.1 30 (by decide)).trans (f20)) ((hq135.2.1 33 (by decide)).trans (e24.symm)) ((hq135.2.1 34 (by decide)).trans (f21)) ((hq135.2.1 35 (by decide)).trans (f22)) hP hD hS (lv_sub hl [0, 1] rfl)
    exact J37 _ (0) (F16) (L16) (A16) (B16) H locs ls (Nat.lt_succ_self _) (rg_k (by decide)) hq ((hq16.2.1 30 (by decide)).trans ((hq15.2.1 30 (by decide)).trans (e2.symm))) ((hq16.2.1 34 (by decide)).trans ((hq15.2.1 34 (by decide)).trans (e7.symm))) ((hq16.2.1 35 (by decide)).trans ((hq15.2.1 35 (by decide)).trans (rfl))) hP hD hS (lv_sub hl [1, 0] rfl)
  · skip
    have r5 : rg x1 (-2147483648) 0 := rg_le1 (iNL c3) ((rg_top _) : rg x1 (-2147483648) 2147483647) ((rg_k (by decide)) : rg 0 0 0)
    refine lv_iconst (v := 0) hx hb dX2_findRound_7 (by decide) ?_
    exact hret (0) (F, L, A, B) H locs 8 ls rfl dX2_findRound_8 hP hD hS ⟨hq, (rg_k (by decide))⟩
abbrev rm_X2_greatestOf_32 : Room := { frames := 1, cells := 0, slots := 0, locals := 21 }
set_option maxHeartbeats 4000000 in
set_option maxRecDepth 100000 in
theorem c_X2_greatestOf_32 (l : Launch) (D : va_G) (cA : Nat → ClassId) (sz : Nat) (ad : Nat → Nat) (F : Nat → Int32) (L : Nat → Int64) (A : Nat → Nat → Int32) (B : Nat → Nat → Int64)  (hT : typX F A) : Met l yX2_greatestOf (Cond.code yX2_greatestOf cX2_greatestOf 6 (some .int) :: GW) rm_X2_greatestOf_32 (mPc D classes (tysX cA) (wX cA ad F L A B) sz [.ref (ad 32)]) (mQi (S := Unit) D classes (tysX cA) (wX cA ad F L A B) sz (fun _ : Unit => wX cA ad F L A B) (fun r u => rg r 0 2147483647)) 0 0 (va_A (wX cA ad F L A B) sz) := by
  refine met_i (own := "ShoeingDay$Day") (by decide +kernel) rfl (Nat.le_of_ble_eq_true rfl) ?_
  intro p e s m args below meth c Q Af ls hC hP hD hS hA hl hret
  have hx := hC.1
  have hb := hC.2.1
  have hown := hC.2.2.2.1
  have hg := hC.g
  have hK := hC.K
  have hl : lv_has ls 6 [(0, .ref (ad 32))] := hl
  have hq : qX [] [] F A F A := qX.rf hT
  obtain ⟨H, hH⟩ : ∃ H, H = s.heap := ⟨_, rfl⟩
  have hP : va_P D classes (wX cA ad F L A B) H := by rw [hH]; exact hP
  have hS : va_S Af s.heap H [] := by rw [hH]; exact hS
  obtain ⟨locs, hlo⟩ : ∃ q : List Loc, q = [] := ⟨_, rfl⟩
  rw [← hH, ← hlo]
  rw [← hlo] at hS
  refine lv_iconst (v := 0) hx hb dX2_greatestOf_0 (by decide) ?_
  refine lv_istore_n (lv' := [(1, .int 0), (0, .ref (ad 32))]) hx hb dX2_greatestOf_1 rfl hl (by decide) rfl (fun ls hl => ?_)
  refine lv_aload_n hx hb dX2_greatestOf_2 rfl (lv_at hl 1 rfl) ?_
  refine lv_astore_n (lv' := [(2, .ref (ad 32)), (1, .int 0), (0, .ref (ad 32))]) hx hb dX2_greatestOf_3 rfl hl (by decide) rfl (fun ls hl => ?_)
  refine lv_aload_n hx hb dX2_greatestOf_4 rfl (lv_at hl 0 rfl) ?_
  refine va_alen (v := 8) hx hb hK hP 32 22 atX_32 tyX_32 rfl dX2_greatestOf_5 ?_
  refine lv_istore_n (lv' := [(3, .int 8), (2, .ref (ad 32)), (1, .int 0), (0, .ref (ad 32))]) hx hb dX2_greatestOf_6 rfl hl (by decide) rfl (fun ls hl => ?_)
  refine lv_iconst (v := 0) hx hb dX2_greatestOf_7 (by decide) ?_
  refine lv_istore (lv' := [(4, .int 0), (3, .int 8), (2, .ref (ad 32)), (1, .int 0), (0, .ref (ad 32))]) hx hb dX2_greatestOf_8 hl (by decide) rfl (fun ls hl => ?_)
  have J10 : ∀ (n10 : Nat) (a1 : Int32) (a3 : Int32) (H : Heap) (locs : List Loc) (ls : Array Slot), (8 - a3.toInt).toNat < n10 → rg a1 0 2147483647 → rg a3 0 8 → va_P D classes (wX cA ad F L A B) H → va_D Af (wX cA ad F L A B) → va_S Af s.heap H locs → lv_has ls 6 [(1, .int a1), (2, .ref (ad 32)), (3, .int 8), (4, .int a3)] → W p l e rm_X2_greatestOf_32 s m args below meth c H locs 0 0 Q (F0 m 10 ls []) := by
    intro n10
    induction n10 with
    | zero =>
      intro _ _ _ _ _ hn
      exact absurd hn (Nat.not_lt_zero _)
    | succ n10 ih10 =>
      intro a1 a3 H locs ls hn10 r2 r4 hP hD hS hl
      refine lv_iload hx hb dX2_greatestOf_10 (lv_at hl 3 rfl) ?_
      refine lv_iload_n hx hb dX2_greatestOf_12 rfl (lv_at hl 2 rfl) ?_
      refine lv_icmp_ge (tgt := 35) hx hb dX2_greatestOf_13 (by decide) (fun c5 => ?_) (fun c5 => ?_)
      · skip
        have r6 : rg a3 8 8 := rg_le2 (iE c5) ((rg_k (by decide)) : rg 8 8 8) (r4 : rg a3 0 8)
        refine lv_iload_n hx hb dX2_greatestOf_35 rfl (lv_at hl 0 rfl) ?_
        exact hret (a1) () H locs 36 ls rfl dX2_greatestOf_36 hP hD hS r2
      · skip
        have r7 : rg a3 0 7 := rg_lt1 (iNE c5) (r4 : rg a3 0 8) ((rg_k (by decide)) : rg 8 8 8)
        refine lv_aload_n hx hb dX2_greatestOf_16 rfl (lv_at hl 1 rfl) ?_
        refine lv_iload hx hb dX2_greatestOf_17 (lv_at hl 3 rfl) ?_
        refine va_iald hx hb hK hP 32 22 atX_32 tyX_32 (in_rg r7 (by decide)) dX2_greatestOf_19 ?_
        refine lv_topi (fun x8 e9 => ?_)
        refine lv_istore (lv' := [(5, .int x8), (1, .int a1), (2, .ref (ad 32)), (3, .int 8), (4, .int a3)]) hx hb dX2_greatestOf_20 hl (by decide) rfl (fun ls hl => ?_)
        refine lv_iload_n hx hb dX2_greatestOf_22 rfl (lv_at hl 1 rfl) ?_
        refine lv_iload hx hb dX2_greatestOf_23 (lv_at hl 0 rfl) ?_
        refine va_mmax hx hb (hC.2.2.1.trans hl.1.symm) hown (hg _ mw_783) (hg _ mw_272) (hg _ mw_12) (hg _ mw_273) (Nat.le_of_ble_eq_true rfl) (Nat.le_of_ble_eq_true rfl) (Nat.zero_le _) (Nat.zero_le _) dX2_greatestOf_25 ?_
        refine lv_topi (fun x10 e11 => ?_)
        have r12 : rg x10 0 2147483647 := rg_max e11 (r2 : rg a1 0 2147483647) ((rg_top _) : rg x8 (-2147483648) 2147483647) (by decide)
        refine lv_istore_n (lv' := [(1, .int x10), (5, .int x8), (2, .ref (ad 32)), (3, .int 8), (4, .int a3)]) hx hb dX2_greatestOf_28 rfl hl (by decide) rfl (fun ls hl => ?_)
        obtain ⟨x13, e14⟩ : ∃ y : Int32, y = a3 + 1 := ⟨_, rfl⟩
        have r15 : rg x13 1 8 := rg_add e14 r7 (rg_k (by decide) : rg 1 1 1) (by decide)
        refine lv_iinc (v := x13) (lv' := [(4, .int x13), (1, .int x10), (5, .int x8), (2, .ref (ad 32)), (3, .int 8)]) hx hb dX2_greatestOf_29 hl (k := 4) rfl (by rw [e14]; rfl) (by decide) rfl (fun ls hl => ?_)
        refine lv_goto (tgt := 10) hx hb dX2_greatestOf_32 (by decide) ?_
        exact ih10 (x10) (x13) H locs ls (by have h0 : (1 : Int32).toInt = 1 := rfl; have h1 := ti_addk e14 r7 (by decide); have h2 : rg x13 0 8 := (rg_w r15 (by decide)); unfold rg at h2; omega) r12 (rg_w r15 (by decide)) hP hD hS (lv_sub hl [1, 3, 4, 0] rfl)
  exact J10 _ (0) (0) H locs ls (Nat.lt_succ_self _) (rg_k (by decide)) (rg_k (by decide)) hP hD hS (lv_sub hl [3, 2, 1, 0] rfl)
abbrev rm_X2_greatestOf_33 : Room := { frames := 1, cells := 0, slots := 0, locals := 21 }
set_option maxHeartbeats 4000000 in
set_option maxRecDepth 100000 in
theorem c_X2_greatestOf_33 (l : Launch) (D : va_G) (cA : Nat → ClassId) (sz : Nat) (ad : Nat → Nat) (F : Nat → Int32) (L : Nat → Int64) (A : Nat → Nat → Int32) (B : Nat → Nat → Int64)  (hT : typX F A) : Met l yX2_greatestOf (Cond.code yX2_greatestOf cX2_greatestOf 6 (some .int) :: GW) rm_X2_greatestOf_33 (mPc D classes (tysX cA) (wX cA ad F L A B) sz [.ref (ad 33)]) (mQi (S := Unit) D classes (tysX cA) (wX cA ad F L A B) sz (fun _ : Unit => wX cA ad F L A B) (fun r u => rg r 0 2147483647)) 0 0 (va_A (wX cA ad F L A B) sz) := by
  refine met_i (own := "ShoeingDay$Day") (by decide +kernel) rfl (Nat.le_of_ble_eq_true rfl) ?_
  intro p e s m args below meth c Q Af ls hC hP hD hS hA hl hret
  have hx := hC.1
  have hb := hC.2.1
  have hown := hC.2.2.2.1
  have hg := hC.g
  have hK := hC.K
  have hl : lv_has ls 6 [(0, .ref (ad 33))] := hl
  have hq : qX [] [] F A F A := qX.rf hT
  obtain ⟨H, hH⟩ : ∃ H, H = s.heap := ⟨_, rfl⟩
  have hP : va_P D classes (wX cA ad F L A B) H := by rw [hH]; exact hP
  have hS : va_S Af s.heap H [] := by rw [hH]; exact hS
  obtain ⟨locs, hlo⟩ : ∃ q : List Loc, q = [] := ⟨_, rfl⟩
  rw [← hH, ← hlo]
  rw [← hlo] at hS
  refine lv_iconst (v := 0) hx hb dX2_greatestOf_0 (by decide) ?_
  refine lv_istore_n (lv' := [(1, .int 0), (0, .ref (ad 33))]) hx hb dX2_greatestOf_1 rfl hl (by decide) rfl (fun ls hl => ?_)
  refine lv_aload_n hx hb dX2_greatestOf_2 rfl (lv_at hl 1 rfl) ?_
  refine lv_astore_n (lv' := [(2, .ref (ad 33)), (1, .int 0), (0, .ref (ad 33))]) hx hb dX2_greatestOf_3 rfl hl (by decide) rfl (fun ls hl => ?_)
  refine lv_aload_n hx hb dX2_greatestOf_4 rfl (lv_at hl 0 rfl) ?_
  refine va_alen (v := 10) hx hb hK hP 33 23 atX_33 tyX_33 rfl dX2_greatestOf_5 ?_
  refine lv_istore_n (lv' := [(3, .int 10), (2, .ref (ad 33)), (1, .int 0), (0, .ref (ad 33))]) hx hb dX2_greatestOf_6 rfl hl (by decide) rfl (fun ls hl => ?_)
  refine lv_iconst (v := 0) hx hb dX2_greatestOf_7 (by decide) ?_
  refine lv_istore (lv' := [(4, .int 0), (3, .int 10), (2, .ref (ad 33)), (1, .int 0), (0, .ref (ad 33))]) hx hb dX2_greatestOf_8 hl (by decide) rfl (fun ls hl => ?_)
  have J10 : ∀ (n10 : Nat) (a1 : Int32) (a3 : Int32) (H : Heap) (locs : List Loc) (ls : Array Slot), (10 - a3.toInt).toNat < n10 → rg a1 0 2147483647 → rg a3 0 10 → va_P D classes (wX cA ad F L A B) H → va_D Af (wX cA ad F L A B) → va_S Af s.heap H locs → lv_has ls 6 [(1, .int a1), (2, .ref (ad 33)), (3, .int 10), (4, .int a3)] → W p l e rm_X2_greatestOf_33 s m args below meth c H locs 0 0 Q (F0 m 10 ls []) := by
    intro n10
    induction n10 with
    | zero =>
      intro _ _ _ _ _ hn
      exact absurd hn (Nat.not_lt_zero _)
    | succ n10 ih10 =>
      intro a1 a3 H locs ls hn10 r2 r4 hP hD hS hl
      refine lv_iload hx hb dX2_greatestOf_10 (lv_at hl 3 rfl) ?_
      refine lv_iload_n hx hb dX2_greatestOf_12 rfl (lv_at hl 2 rfl) ?_
      refine lv_icmp_ge (tgt := 35) hx hb dX2_greatestOf_13 (by decide) (fun c5 => ?_) (fun c5 => ?_)
      · skip
        have r6 : rg a3 10 10 := rg_le2 (iE c5) ((rg_k (by decide)) : rg 10 10 10) (r4 : rg a3 0 10)
        refine lv_iload_n hx hb dX2_greatestOf_35 rfl (lv_at hl 0 rfl) ?_
        exact hret (a1) () H locs 36 ls rfl dX2_greatestOf_36 hP hD hS r2
      · skip
        have r7 : rg a3 0 9 := rg_lt1 (iNE c5) (r4 : rg a3 0 10) ((rg_k (by decide)) : rg 10 10 10)
        refine lv_aload_n hx hb dX2_greatestOf_16 rfl (lv_at hl 1 rfl) ?_
        refine lv_iload hx hb dX2_greatestOf_17 (lv_at hl 3 rfl) ?_
        refine va_iald hx hb hK hP 33 23 atX_33 tyX_33 (in_rg r7 (by decide)) dX2_greatestOf_19 ?_
        refine lv_topi (fun x8 e9 => ?_)
        refine lv_istore (lv' := [(5, .int x8), (1, .int a1), (2, .ref (ad 33)), (3, .int 10), (4, .int a3)]) hx hb dX2_greatestOf_20 hl (by decide) rfl (fun ls hl => ?_)
        refine lv_iload_n hx hb dX2_greatestOf_22 rfl (lv_at hl 1 rfl) ?_
        refine lv_iload hx hb dX2_greatestOf_23 (lv_at hl 0 rfl) ?_
        refine va_mmax hx hb (hC.2.2.1.trans hl.1.symm) hown (hg _ mw_783) (hg _ mw_272) (hg _ mw_12) (hg _ mw_273) (Nat.le_of_ble_eq_true rfl) (Nat.le_of_ble_eq_true rfl) (Nat.zero_le _) (Nat.zero_le _) dX2_greatestOf_25 ?_
        refine lv_topi (fun x10 e11 => ?_)
        have r12 : rg x10 0 2147483647 := rg_max e11 (r2 : rg a1 0 2147483647) ((rg_top _) : rg x8 (-2147483648) 2147483647) (by decide)
        refine lv_istore_n (lv' := [(1, .int x10), (5, .int x8), (2, .ref (ad 33)), (3, .int 10), (4, .int a3)]) hx hb dX2_greatestOf_28 rfl hl (by decide) rfl (fun ls hl => ?_)
        obtain ⟨x13, e14⟩ : ∃ y : Int32, y = a3 + 1 := ⟨_, rfl⟩
        have r15 : rg x13 1 10 := rg_add e14 r7 (rg_k (by decide) : rg 1 1 1) (by decide)
        refine lv_iinc (v := x13) (lv' := [(4, .int x13), (1, .int x10), (5, .int x8), (2, .ref (ad 33)), (3, .int 10)]) hx hb dX2_greatestOf_29 hl (k := 4) rfl (by rw [e14]; rfl) (by decide) rfl (fun ls hl => ?_)
        refine lv_goto (tgt := 10) hx hb dX2_greatestOf_32 (by decide) ?_
        exact ih10 (x10) (x13) H locs ls (by have h0 : (1 : Int32).toInt = 1 := rfl; have h1 := ti_addk e14 r7 (by decide); have h2 : rg x13 0 10 := (rg_w r15 (by decide)); unfold rg at h2; omega) r12 (rg_w r15 (by decide)) hP hD hS (lv_sub hl [1, 3, 4, 0] rfl)
  exact J10 _ (0) (0) H locs ls (Nat.lt_succ_self _) (rg_k (by decide)) (rg_k (by decide)) hP hD hS (lv_sub hl [3, 2, 1, 0] rfl)
abbrev rm_X2_open_27_19 : Room := { frames := 2, cells := 0, slots := 0, locals := 46 }
set_option maxHeartbeats 4000000 in
set_option maxRecDepth 100000 in
theorem c_X2_open_27_19 (l : Launch) (D : va_G) (cA : Nat → ClassId) (sz : Nat) (ad : Nat → Nat) (F : Nat → Int32) (L : Nat → Int64) (A : Nat → Nat → Int32) (B : Nat → Nat → Int64) (p2 : Int32) (p3 : Int32) (hT : typX F A) (hp2 : rg p2 0 8) (hp3 : rg p3 0 10) : Met l yX2_open (Cond.code yX2_open cX2_open 7 none :: GW) rm_X2_open_27_19 (mPc D classes (tysX cA) (wX cA ad F L A B) sz [.ref (ad 27), .ref (ad 19), .int p2, .int p3]) (mQv (S := SW) D classes (tysX cA) (wX cA ad F L A B) sz (wfX cA ad) (fun u => qX [30, 33, 34] [28, 32, 33, 35, 41] F A u.1 u.2.2.1)) 0 0 (va_A (wX cA ad F L A B) sz) := by
  refine met_v (own := "ShoeingDay$Day") (by decide +kernel) rfl (Nat.le_of_ble_eq_true rfl) ?_
  intro p e s m args below meth c Q Af ls hC hP hD hS hA hl hret
  have hx := hC.1
  have hb := hC.2.1
  have hown := hC.2.2.2.1
  have hg := hC.g
  have hK := hC.K
  have hl : lv_has ls 7 [(0, .ref (ad 27)), (1, .ref (ad 19)), (2, .int p2), (3, .int p3)] := hl
  have hq : qX [30, 33, 34] [28, 32, 33, 35, 41] F A F A := qX.rf hT
  obtain ⟨H, hH⟩ : ∃ H, H = s.heap := ⟨_, rfl⟩
  have hP : va_P D classes (wX cA ad F L A B) H := by rw [hH]; exact hP
  have hS : va_S Af s.heap H [] := by rw [hH]; exact hS
  obtain ⟨locs, hlo⟩ : ∃ q : List Loc, q = [] := ⟨_, rfl⟩
  rw [← hH, ← hlo]
  rw [← hlo] at hS
  refine lv_aload_n hx hb dX2_open_0 rfl (lv_at hl 1 rfl) ?_
  refine lv_iconst (v := 0) hx hb dX2_open_1 (by decide) ?_
  refine lv_aload_n hx hb dX2_open_2 rfl (lv_at hl 0 rfl) ?_
  refine va_get (ci := 2) (v := .ref (ad 28)) (C := RX2) (T := TX2) (N := 15) hx hb hg inX2 hown hK hP 27 atX_27 rfl 0 (by decide) (hg _ mw_339) (fun _ h9 => h9) rfl dX2_open_3 ?_
  refine lv_iconst (v := 0) hx hb dX2_open_6 (by decide) ?_
  refine lv_bipush (v := 80) hx hb dX2_open_7 (by decide) ?_
  refine va_copyi hx hb (hC.2.2.1.trans hl.1.symm) hown (hg _ mw_777) (hg _ mw_524) (hg _ mw_523) (hg _ mw_19) hK hP hD hS 19 28 13 18 atX_19 atX_28 tyX_19 tyX_28 rfl (nn_rg ((rg_k (by decide)) : rg 0 0 0) (by decide)) (nn_rg ((rg_k (by decide)) : rg 0 0 0) (by decide)) (nn_rg ((rg_k (by decide)) : rg 80 80 80) (by decide)) (cp_rg ((rg_k (by decide)) : rg 0 0 0) ((rg_k (by decide)) : rg 80 80 80) (by decide)) (cp_rg ((rg_k (by decide)) : rg 0 0 0) ((rg_k (by decide)) : rg 80 80 80) (by decide)) (fun _ _ => rfl) (Nat.le_of_ble_eq_true rfl) (Nat.le_of_ble_eq_true rfl) dX2_open_9 (fun H locs hP hD hS => ?_)
  have hq := hq.cpy 28 19 (a := ((0 : Int32)).toNatClampNeg) (b := ((0 : Int32)).toNatClampNeg) (n := ((80 : Int32)).toNatClampNeg) (by decide) (by decide)
  rw [setX_28] at hP hD
  refine lv_aload_n hx hb dX2_open_12 rfl (lv_at hl 0 rfl) ?_
  refine lv_iload_n hx hb dX2_open_13 rfl (lv_at hl 2 rfl) ?_
  refine va_put (ci := 2) (v := .int p2) (ty := .int) (C := RX2) (T := TX2) (N := 15) hx hb hg inX2 tyX2 tyX2_ok nmX2 hown hK hP hD hS 27 atX_27 rfl 12 (by decide) (hg _ mw_359) (fun _ h9 => h9) rfl (by decide +kernel) rfl rfl (Nat.le_of_ble_eq_true rfl) dX2_open_14 (fun H locs hP hD hS => ?_)
  have hq := hq.put 33 (x := p2) (by decide) hp2
  rw [setFX_33] at hP hD
  refine lv_aload_n hx hb dX2_open_17 rfl (lv_at hl 0 rfl) ?_
  refine lv_iload_n hx hb dX2_open_18 rfl (lv_at hl 3 rfl) ?_
  refine va_put (ci := 2) (v := .int p3) (ty := .int) (C := RX2) (T := TX2) (N := 15) hx hb hg inX2 tyX2 tyX2_ok nmX2 hown hK hP hD hS 27 atX_27 rfl 13 (by decide) (hg _ mw_360) (fun _ h9 => h9) rfl (by decide +kernel) rfl rfl (Nat.le_of_ble_eq_true rfl) dX2_open_19 (fun H locs hP hD hS => ?_)
  have hq := hq.put 34 (x := p3) (by decide) hp3
  rw [setFX_34] at hP hD
  refine lv_aload_n hx hb dX2_open_22 rfl (lv_at hl 0 rfl) ?_
  refine va_get (ci := 2) (v := .ref (ad 32)) (C := RX2) (T := TX2) (N := 15) hx hb hg inX2 hown hK hP 27 atX_27 rfl 8 (by decide) (hg _ mw_355) (fun _ h9 => h9) rfl dX2_open_23 ?_
  refine lv_iconst (v := 0) hx hb dX2_open_26 (by decide) ?_
  refine calls_v (As := [.ref (ad 32), .int 0]) (rest := []) hC (c_fill l D (tysX cA) (wX cA ad (upd (upd F 33 p2) 34 p3) L (va_up A 28 (va_cpy (A 19) (A 28) ((0 : Int32)).toNatClampNeg ((0 : Int32)).toNatClampNeg ((80 : Int32)).toNatClampNeg)) B) 32 22 H.size (ad 32) 8 (0 : Int32) atX_32 tyX_32 (by decide)) (cwF 2 hg mw_778 mw_279 mw_13 mw_280 ⟨rfl, rfl⟩ (by decide +kernel) ⟨(Nat.le_of_ble_eq_true rfl), (Nat.le_of_ble_eq_true rfl)⟩) hP hD hS hA rfl hl.1 rfl (Nat.le_of_ble_eq_true rfl) dX2_open_27 ⟨Nat.zero_le _, Nat.zero_le _⟩ (fun u H locs _ hP hD hS => ?_)
  have hq := hq.fill 32 8 (x := (0 : Int32)) (by decide) (rg_k (by decide))
  rw [setX_32] at hP hD
  have hP : va_P D classes (wX cA ad (upd (upd F 33 p2) 34 p3) L (va_up (va_up A 28 (va_cpy (A 19) (A 28) ((0 : Int32)).toNatClampNeg ((0 : Int32)).toNatClampNeg ((80 : Int32)).toNatClampNeg)) 32 (fun j => if j < 8 then (0 : Int32) else (va_up A 28 (va_cpy (A 19) (A 28) ((0 : Int32)).toNatClampNeg ((0 : Int32)).toNatClampNeg ((80 : Int32)).toNatClampNeg)) 32 j)) B) H := hP
  have hD : va_D Af (wX cA ad (upd (upd F 33 p2) 34 p3) L (va_up (va_up A 28 (va_cpy (A 19) (A 28) ((0 : Int32)).toNatClampNeg ((0 : Int32)).toNatClampNeg ((80 : Int32)).toNatClampNeg)) 32 (fun j => if j < 8 then (0 : Int32) else (va_up A 28 (va_cpy (A 19) (A 28) ((0 : Int32)).toNatClampNeg ((0 : Int32)).toNatClampNeg ((80 : Int32)).toNatClampNeg)) 32 j)) B) := hD
  refine lv_aload_n hx hb dX2_open_30 rfl (lv_at hl 0 rfl) ?_
  refine va_get (ci := 2) (v := .ref (ad 33)) (C := RX2) (T := TX2) (N := 15) hx hb hg inX2 hown hK hP 27 atX_27 rfl 9 (by decide) (hg _ mw_356) (fun _ h9 => h9) rfl dX2_open_31 ?_
  refine lv_iconst (v := 0) hx hb dX2_open_34 (by decide) ?_
  refine calls_v (As := [.ref (ad 33), .int 0]) (rest := []) hC (c_fill l D (tysX cA) (wX cA ad (upd (upd F 33 p2) 34 p3) L (va_up (va_up A 28 (va_cpy (A 19) (A 28) ((0 : Int32)).toNatClampNeg ((0 : Int32)).toNatClampNeg ((80 : Int32)).toNatClampNeg)) 32 (fun j => if j < 8 then (0 : Int32) else (va_up A 28 (va_cpy (A 19) (A 28) ((0 : Int32)).toNatClampNeg ((0 : Int32)).toNatClampNeg ((80 : Int32)).toNatClampNeg)) 32 j)) B) 33 23 H.size (ad 33) 10 (0 : Int32) atX_33 tyX_33 (by decide)) (cwF 2 hg mw_778 mw_279 mw_13 mw_280 ⟨rfl, rfl⟩ (by decide +kernel) ⟨(Nat.le_of_ble_eq_true rfl), (Nat.le_of_ble_eq_true rfl)⟩) hP hD hS hA rfl hl.1 rfl (Nat.le_of_ble_eq_true rfl) dX2_open_35 ⟨Nat.zero_le _, Nat.zero_le _⟩ (fun u H locs _ hP hD hS => ?_)
  have hq := hq.fill 33 10 (x := (0 : Int32)) (by decide) (rg_k (by decide))
  rw [setX_33] at hP hD
  have hP : va_P D classes (wX cA ad (upd (upd F 33 p2) 34 p3) L (va_up (va_up (va_up A 28 (va_cpy (A 19) (A 28) ((0 : Int32)).toNatClampNeg ((0 : Int32)).toNatClampNeg ((80 : Int32)).toNatClampNeg)) 32 (fun j => if j < 8 then (0 : Int32) else (va_up A 28 (va_cpy (A 19) (A 28) ((0 : Int32)).toNatClampNeg ((0 : Int32)).toNatClampNeg ((80 : Int32)).toNatClampNeg)) 32 j)) 33 (fun j => if j < 10 then (0 : Int32) else (va_up (va_up A 28 (va_cpy (A 19) (A 28) ((0 : Int32)).toNatClampNeg ((0 : Int32)).toNatClampNeg ((80 : Int32)).toNatClampNeg)) 32 (fun j => if j < 8 then (0 : Int32) else (va_up A 28 (va_cpy (A 19) (A 28) ((0 : Int32)).toNatClampNeg ((0 : Int32)).toNatClampNeg ((80 : Int32)).toNatClampNeg)) 32 j)) 33 j)) B) H := hP
  have hD : va_D Af (wX cA ad (upd (upd F 33 p2) 34 p3) L (va_up (va_up (va_up A 28 (va_cpy (A 19) (A 28) ((0 : Int32)).toNatClampNeg ((0 : Int32)).toNatClampNeg ((80 : Int32)).toNatClampNeg)) 32 (fun j => if j < 8 then (0 : Int32) else (va_up A 28 (va_cpy (A 19) (A 28) ((0 : Int32)).toNatClampNeg ((0 : Int32)).toNatClampNeg ((80 : Int32)).toNatClampNeg)) 32 j)) 33 (fun j => if j < 10 then (0 : Int32) else (va_up (va_up A 28 (va_cpy (A 19) (A 28) ((0 : Int32)).toNatClampNeg ((0 : Int32)).toNatClampNeg ((80 : Int32)).toNatClampNeg)) 32 (fun j => if j < 8 then (0 : Int32) else (va_up A 28 (va_cpy (A 19) (A 28) ((0 : Int32)).toNatClampNeg ((0 : Int32)).toNatClampNeg ((80 : Int32)).toNatClampNeg)) 32 j)) 33 j)) B) := hD
  refine lv_aload_n hx hb dX2_open_38 rfl (lv_at hl 0 rfl) ?_
  refine va_get (ci := 2) (v := .ref (ad 34)) (C := RX2) (T := TX2) (N := 15) hx hb hg inX2 hown hK hP 27 atX_27 rfl 10 (by decide) (hg _ mw_357) (fun _ h9 => h9) rfl dX2_open_39 ?_
  refine va_get (ci := 1) (v := .ref (ad 35)) (C := RX1) (T := TX1) (N := 5) hx hb hg inX1 hown hK hP 34 atX_34 rfl 0 (by decide) (hg _ mw_321) (fun _ h9 => h9) rfl dX2_open_42 ?_
  refine lv_iconst (v := 0) hx hb dX2_open_45 (by decide) ?_
  refine calls_v (As := [.ref (ad 35), .int 0]) (rest := []) hC (c_fill l D (tysX cA) (wX cA ad (upd (upd F 33 p2) 34 p3) L (va_up (va_up (va_up A 28 (va_cpy (A 19) (A 28) ((0 : Int32)).toNatClampNeg ((0 : Int32)).toNatClampNeg ((80 : Int32)).toNatClampNeg)) 32 (fun j => if j < 8 then (0 : Int32) else (va_up A 28 (va_cpy (A 19) (A 28) ((0 : Int32)).toNatClampNeg ((0 : Int32)).toNatClampNeg ((80 : Int32)).toNatClampNeg)) 32 j)) 33 (fun j => if j < 10 then (0 : Int32) else (va_up (va_up A 28 (va_cpy (A 19) (A 28) ((0 : Int32)).toNatClampNeg ((0 : Int32)).toNatClampNeg ((80 : Int32)).toNatClampNeg)) 32 (fun j => if j < 8 then (0 : Int32) else (va_up A 28 (va_cpy (A 19) (A 28) ((0 : Int32)).toNatClampNeg ((0 : Int32)).toNatClampNeg ((80 : Int32)).toNatClampNeg)) 32 j)) 33 j)) B) 35 24 H.size (ad 35) 10 (0 : Int32) atX_35 tyX_35 (by decide)) (cwF 2 hg mw_778 mw_279 mw_13 mw_280 ⟨rfl, rfl⟩ (by decide +kernel) ⟨(Nat.le_of_ble_eq_true rfl), (Nat.le_of_ble_eq_true rfl)⟩) hP hD hS hA rfl hl.1 rfl (Nat.le_of_ble_eq_true rfl) dX2_open_46 ⟨Nat.zero_le _, Nat.zero_le _⟩ (fun u H locs _ hP hD hS => ?_)
  have hq := hq.fill 35 10 (x := (0 : Int32)) (by decide) (rg_k (by decide))
  rw [setX_35] at hP hD
  have hP : va_P D classes (wX cA ad (upd (upd F 33 p2) 34 p3) L (va_up (va_up (va_up (va_up A 28 (va_cpy (A 19) (A 28) ((0 : Int32)).toNatClampNeg ((0 : Int32)).toNatClampNeg ((80 : Int32)).toNatClampNeg)) 32 (fun j => if j < 8 then (0 : Int32) else (va_up A 28 (va_cpy (A 19) (A 28) ((0 : Int32)).toNatClampNeg ((0 : Int32)).toNatClampNeg ((80 : Int32)).toNatClampNeg)) 32 j)) 33 (fun j => if j < 10 then (0 : Int32) else (va_up (va_up A 28 (va_cpy (A 19) (A 28) ((0 : Int32)).toNatClampNeg ((0 : Int32)).toNatClampNeg ((80 : Int32)).toNatClampNeg)) 32 (fun j => if j < 8 then (0 : Int32) else (va_up A 28 (va_cpy (A 19) (A 28) ((0 : Int32)).toNatClampNeg ((0 : Int32)).toNatClampNeg ((80 : Int32)).toNatClampNeg)) 32 j)) 33 j)) 35 (fun j => if j < 10 then (0 : Int32) else (va_up (va_up (va_up A 28 (va_cpy (A 19) (A 28) ((0 : Int32)).toNatClampNeg ((0 : Int32)).toNatClampNeg ((80 : Int32)).toNatClampNeg)) 32 (fun j => if j < 8 then (0 : Int32) else (va_up A 28 (va_cpy (A 19) (A 28) ((0 : Int32)).toNatClampNeg ((0 : Int32)).toNatClampNeg ((80 : Int32)).toNatClampNeg)) 32 j)) 33 (fun j => if j < 10 then (0 : Int32) else (va_up (va_up A 28 (va_cpy (A 19) (A 28) ((0 : Int32)).toNatClampNeg ((0 : Int32)).toNatClampNeg ((80 : Int32)).toNatClampNeg)) 32 (fun j => if j < 8 then (0 : Int32) else (va_up A 28 (va_cpy (A 19) (A 28) ((0 : Int32)).toNatClampNeg ((0 : Int32)).toNatClampNeg ((80 : Int32)).toNatClampNeg)) 32 j)) 33 j)) 35 j)) B) H := hP
  have hD : va_D Af (wX cA ad (upd (upd F 33 p2) 34 p3) L (va_up (va_up (va_up (va_up A 28 (va_cpy (A 19) (A 28) ((0 : Int32)).toNatClampNeg ((0 : Int32)).toNatClampNeg ((80 : Int32)).toNatClampNeg)) 32 (fun j => if j < 8 then (0 : Int32) else (va_up A 28 (va_cpy (A 19) (A 28) ((0 : Int32)).toNatClampNeg ((0 : Int32)).toNatClampNeg ((80 : Int32)).toNatClampNeg)) 32 j)) 33 (fun j => if j < 10 then (0 : Int32) else (va_up (va_up A 28 (va_cpy (A 19) (A 28) ((0 : Int32)).toNatClampNeg ((0 : Int32)).toNatClampNeg ((80 : Int32)).toNatClampNeg)) 32 (fun j => if j < 8 then (0 : Int32) else (va_up A 28 (va_cpy (A 19) (A 28) ((0 : Int32)).toNatClampNeg ((0 : Int32)).toNatClampNeg ((80 : Int32)).toNatClampNeg)) 32 j)) 33 j)) 35 (fun j => if j < 10 then (0 : Int32) else (va_up (va_up (va_up A 28 (va_cpy (A 19) (A 28) ((0 : Int32)).toNatClampNeg ((0 : Int32)).toNatClampNeg ((80 : Int32)).toNatClampNeg)) 32 (fun j => if j < 8 then (0 : Int32) else (va_up A 28 (va_cpy (A 19) (A 28) ((0 : Int32)).toNatClampNeg ((0 : Int32)).toNatClampNeg ((80 : Int32)).toNatClampNeg)) 32 j)) 33 (fun j => if j < 10 then (0 : Int32) else (va_up (va_up A 28 (va_cpy (A 19) (A 28) ((0 : Int32)).toNatClampNeg ((0 : Int32)).toNatClampNeg ((80 : Int32)).toNatClampNeg)) 32 (fun j => if j < 8 then (0 : Int32) else (va_up A 28 (va_cpy (A 19) (A 28) ((0 : Int32)).toNatClampNeg ((0 : Int32)).toNatClampNeg ((80 : Int32)).toNatClampNeg)) 32 j)) 33 j)) 35 j)) B) := hD
  refine lv_aload_n hx hb dX2_open_49 rfl (lv_at hl 0 rfl) ?_
  refine va_get (ci := 2) (v := .ref (ad 40)) (C := RX2) (T := TX2) (N := 15) hx hb hg inX2 hown hK hP 27 atX_27 rfl 11 (by decide) (hg _ mw_358) (fun _ h9 => h9) rfl dX2_open_50 ?_
  refine va_get (ci := 1) (v := .ref (ad 41)) (C := RX1) (T := TX1) (N := 5) hx hb hg inX1 hown hK hP 40 atX_40 rfl 0 (by decide) (hg _ mw_321) (fun _ h9 => h9) rfl dX2_open_53 ?_
  refine lv_iconst (v := 0) hx hb dX2_open_56 (by decide) ?_
  refine calls_v (As := [.ref (ad 41), .int 0]) (rest := []) hC (c_fill l D (tysX cA) (wX cA ad (upd (upd F 33 p2) 34 p3) L (va_up (va_up (va_up (va_up A 28 (va_cpy (A 19) (A 28) ((0 : Int32)).toNatClampNeg ((0 : Int32)).toNatClampNeg ((80 : Int32)).toNatClampNeg)) 32 (fun j => if j < 8 then (0 : Int32) else (va_up A 28 (va_cpy (A 19) (A 28) ((0 : Int32)).toNatClampNeg ((0 : Int32)).toNatClampNeg ((80 : Int32)).toNatClampNeg)) 32 j)) 33 (fun j => if j < 10 then (0 : Int32) else (va_up (va_up A 28 (va_cpy (A 19) (A 28) ((0 : Int32)).toNatClampNeg ((0 : Int32)).toNatClampNeg ((80 : Int32)).toNatClampNeg)) 32 (fun j => if j < 8 then (0 : Int32) else (va_up A 28 (va_cpy (A 19) (A 28) ((0 : Int32)).toNatClampNeg ((0 : Int32)).toNatClampNeg ((80 : Int32)).toNatClampNeg)) 32 j)) 33 j)) 35 (fun j => if j < 10 then (0 : Int32) else (va_up (va_up (va_up A 28 (va_cpy (A 19) (A 28) ((0 : Int32)).toNatClampNeg ((0 : Int32)).toNatClampNeg ((80 : Int32)).toNatClampNeg)) 32 (fun j => if j < 8 then (0 : Int32) else (va_up A 28 (va_cpy (A 19) (A 28) ((0 : Int32)).toNatClampNeg ((0 : Int32)).toNatClampNeg ((80 : Int32)).toNatClampNeg)) 32 j)) 33 (fun j => if j < 10 then (0 : Int32) else (va_up (va_up A 28 (va_cpy (A 19) (A 28) ((0 : Int32)).toNatClampNeg ((0 : Int32)).toNatClampNeg ((80 : Int32)).toNatClampNeg)) 32 (fun j => if j < 8 then (0 : Int32) else (va_up A 28 (va_cpy (A 19) (A 28) ((0 : Int32)).toNatClampNeg ((0 : Int32)).toNatClampNeg ((80 : Int32)).toNatClampNeg)) 32 j)) 33 j)) 35 j)) B) 41 29 H.size (ad 41) 10 (0 : Int32) atX_41 tyX_41 (by decide)) (cwF 2 hg mw_778 mw_279 mw_13 mw_280 ⟨rfl, rfl⟩ (by decide +kernel) ⟨(Nat.le_of_ble_eq_true rfl), (Nat.le_of_ble_eq_true rfl)⟩) hP hD hS hA rfl hl.1 rfl (Nat.le_of_ble_eq_true rfl) dX2_open_57 ⟨Nat.zero_le _, Nat.zero_le _⟩ (fun u H locs _ hP hD hS => ?_)
  have hq := hq.fill 41 10 (x := (0 : Int32)) (by decide) (rg_k (by decide))
  rw [setX_41] at hP hD
  have hP : va_P D classes (wX cA ad (upd (upd F 33 p2) 34 p3) L (va_up (va_up (va_up (va_up (va_up A 28 (va_cpy (A 19) (A 28) ((0 : Int32)).toNatClampNeg ((0 : Int32)).toNatClampNeg ((80 : Int32)).toNatClampNeg)) 32 (fun j => if j < 8 then (0 : Int32) else (va_up A 28 (va_cpy (A 19) (A 28) ((0 : Int32)).toNatClampNeg ((0 : Int32)).toNatClampNeg ((80 : Int32)).toNatClampNeg)) 32 j)) 33 (fun j => if j < 10 then (0 : Int32) else (va_up (va_up A 28 (va_cpy (A 19) (A 28) ((0 : Int32)).toNatClampNeg ((0 : Int32)).toNatClampNeg ((80 : Int32)).toNatClampNeg)) 32 (fun j => if j < 8 then (0 : Int32) else (va_up A 28 (va_cpy (A 19) (A 28) ((0 : Int32)).toNatClampNeg ((0 : Int32)).toNatClampNeg ((80 : Int32)).toNatClampNeg)) 32 j)) 33 j)) 35 (fun j => if j < 10 then (0 : Int32) else (va_up (va_up (va_up A 28 (va_cpy (A 19) (A 28) ((0 : Int32)).toNatClampNeg ((0 : Int32)).toNatClampNeg ((80 : Int32)).toNatClampNeg)) 32 (fun j => if j < 8 then (0 : Int32) else (va_up A 28 (va_cpy (A 19) (A 28) ((0 : Int32)).toNatClampNeg ((0 : Int32)).toNatClampNeg ((80 : Int32)).toNatClampNeg)) 32 j)) 33 (fun j => if j < 10 then (0 : Int32) else (va_up (va_up A 28 (va_cpy (A 19) (A 28) ((0 : Int32)).toNatClampNeg ((0 : Int32)).toNatClampNeg ((80 : Int32)).toNatClampNeg)) 32 (fun j => if j < 8 then (0 : Int32) else (va_up A 28 (va_cpy (A 19) (A 28) ((0 : Int32)).toNatClampNeg ((0 : Int32)).toNatClampNeg ((80 : Int32)).toNatClampNeg)) 32 j)) 33 j)) 35 j)) 41 (fun j => if j < 10 then (0 : Int32) else (va_up (va_up (va_up (va_up A 28 (va_cpy (A 19) (A 28) ((0 : Int32)).toNatClampNeg ((0 : Int32)).toNatClampNeg ((80 : Int32)).toNatClampNeg)) 32 (fun j => if j < 8 then (0 : Int32) else (va_up A 28 (va_cpy (A 19) (A 28) ((0 : Int32)).toNatClampNeg ((0 : Int32)).toNatClampNeg ((80 : Int32)).toNatClampNeg)) 32 j)) 33 (fun j => if j < 10 then (0 : Int32) else (va_up (va_up A 28 (va_cpy (A 19) (A 28) ((0 : Int32)).toNatClampNeg ((0 : Int32)).toNatClampNeg ((80 : Int32)).toNatClampNeg)) 32 (fun j => if j < 8 then (0 : Int32) else (va_up A 28 (va_cpy (A 19) (A 28) ((0 : Int32)).toNatClampNeg ((0 : Int32)).toNatClampNeg ((80 : Int32)).toNatClampNeg)) 32 j)) 33 j)) 35 (fun j => if j < 10 then (0 : Int32) else (va_up (va_up (va_up A 28 (va_cpy (A 19) (A 28) ((0 : Int32)).toNatClampNeg ((0 : Int32)).toNatClampNeg ((80 : Int32)).toNatClampNeg)) 32 (fun j => if j < 8 then (0 : Int32) else (va_up A 28 (va_cpy (A 19) (A 28) ((0 : Int32)).toNatClampNeg ((0 : Int32)).toNatClampNeg ((80 : Int32)).toNatClampNeg)) 32 j)) 33 (fun j => if j < 10 then (0 : Int32) else (va_up (va_up A 28 (va_cpy (A 19) (A 28) ((0 : Int32)).toNatClampNeg ((0 : Int32)).toNatClampNeg ((80 : Int32)).toNatClampNeg)) 32 (fun j => if j < 8 then (0 : Int32) else (va_up A 28 (va_cpy (A 19) (A 28) ((0 : Int32)).toNatClampNeg ((0 : Int32)).toNatClampNeg ((80 : Int32)).toNatClampNeg)) 32 j)) 33 j)) 35 j)) 41 j)) B) H := hP
  have hD : va_D Af (wX cA ad (upd (upd F 33 p2) 34 p3) L (va_up (va_up (va_up (va_up (va_up A 28 (va_cpy (A 19) (A 28) ((0 : Int32)).toNatClampNeg ((0 : Int32)).toNatClampNeg ((80 : Int32)).toNatClampNeg)) 32 (fun j => if j < 8 then (0 : Int32) else (va_up A 28 (va_cpy (A 19) (A 28) ((0 : Int32)).toNatClampNeg ((0 : Int32)).toNatClampNeg ((80 : Int32)).toNatClampNeg)) 32 j)) 33 (fun j => if j < 10 then (0 : Int32) else (va_up (va_up A 28 (va_cpy (A 19) (A 28) ((0 : Int32)).toNatClampNeg ((0 : Int32)).toNatClampNeg ((80 : Int32)).toNatClampNeg)) 32 (fun j => if j < 8 then (0 : Int32) else (va_up A 28 (va_cpy (A 19) (A 28) ((0 : Int32)).toNatClampNeg ((0 : Int32)).toNatClampNeg ((80 : Int32)).toNatClampNeg)) 32 j)) 33 j)) 35 (fun j => if j < 10 then (0 : Int32) else (va_up (va_up (va_up A 28 (va_cpy (A 19) (A 28) ((0 : Int32)).toNatClampNeg ((0 : Int32)).toNatClampNeg ((80 : Int32)).toNatClampNeg)) 32 (fun j => if j < 8 then (0 : Int32) else (va_up A 28 (va_cpy (A 19) (A 28) ((0 : Int32)).toNatClampNeg ((0 : Int32)).toNatClampNeg ((80 : Int32)).toNatClampNeg)) 32 j)) 33 (fun j => if j < 10 then (0 : Int32) else (va_up (va_up A 28 (va_cpy (A 19) (A 28) ((0 : Int32)).toNatClampNeg ((0 : Int32)).toNatClampNeg ((80 : Int32)).toNatClampNeg)) 32 (fun j => if j < 8 then (0 : Int32) else (va_up A 28 (va_cpy (A 19) (A 28) ((0 : Int32)).toNatClampNeg ((0 : Int32)).toNatClampNeg ((80 : Int32)).toNatClampNeg)) 32 j)) 33 j)) 35 j)) 41 (fun j => if j < 10 then (0 : Int32) else (va_up (va_up (va_up (va_up A 28 (va_cpy (A 19) (A 28) ((0 : Int32)).toNatClampNeg ((0 : Int32)).toNatClampNeg ((80 : Int32)).toNatClampNeg)) 32 (fun j => if j < 8 then (0 : Int32) else (va_up A 28 (va_cpy (A 19) (A 28) ((0 : Int32)).toNatClampNeg ((0 : Int32)).toNatClampNeg ((80 : Int32)).toNatClampNeg)) 32 j)) 33 (fun j => if j < 10 then (0 : Int32) else (va_up (va_up A 28 (va_cpy (A 19) (A 28) ((0 : Int32)).toNatClampNeg ((0 : Int32)).toNatClampNeg ((80 : Int32)).toNatClampNeg)) 32 (fun j => if j < 8 then (0 : Int32) else (va_up A 28 (va_cpy (A 19) (A 28) ((0 : Int32)).toNatClampNeg ((0 : Int32)).toNatClampNeg ((80 : Int32)).toNatClampNeg)) 32 j)) 33 j)) 35 (fun j => if j < 10 then (0 : Int32) else (va_up (va_up (va_up A 28 (va_cpy (A 19) (A 28) ((0 : Int32)).toNatClampNeg ((0 : Int32)).toNatClampNeg ((80 : Int32)).toNatClampNeg)) 32 (fun j => if j < 8 then (0 : Int32) else (va_up A 28 (va_cpy (A 19) (A 28) ((0 : Int32)).toNatClampNeg ((0 : Int32)).toNatClampNeg ((80 : Int32)).toNatClampNeg)) 32 j)) 33 (fun j => if j < 10 then (0 : Int32) else (va_up (va_up A 28 (va_cpy (A 19) (A 28) ((0 : Int32)).toNatClampNeg ((0 : Int32)).toNatClampNeg ((80 : Int32)).toNatClampNeg)) 32 (fun j => if j < 8 then (0 : Int32) else (va_up A 28 (va_cpy (A 19) (A 28) ((0 : Int32)).toNatClampNeg ((0 : Int32)).toNatClampNeg ((80 : Int32)).toNatClampNeg)) 32 j)) 33 j)) 35 j)) 41 j)) B) := hD
  refine lv_iconst (v := 0) hx hb dX2_open_60 (by decide) ?_
  refine lv_istore (lv' := [(4, .int 0), (0, .ref (ad 27)), (1, .ref (ad 19)), (2, .int p2), (3, .int p3)]) hx hb dX2_open_61 hl (by decide) rfl (fun ls hl => ?_)
  have J63 : ∀ (n63 : Nat) (a1 : Int32) (F3 : Nat → Int32) (L3 : Nat → Int64) (A3 : Nat → Nat → Int32) (B3 : Nat → Nat → Int64) (H : Heap) (locs : List Loc) (ls : Array Slot), (8 - a1.toInt).toNat < n63 → rg a1 0 8 → qX [30, 33, 34] [28, 32, 33, 35, 41] F A F3 A3 → F3 33 = p2 → F3 34 = p3 → va_P D classes (wX cA ad F3 L3 A3 B3) H → va_D Af (wX cA ad F3 L3 A3 B3) → va_S Af s.heap H locs → lv_has ls 7 [(0, .ref (ad 27)), (4, .int a1)] → W p l e rm_X2_open_27_19 s m args below meth c H locs 0 0 Q (F0 m 63 ls []) := by
    intro n63
    induction n63 with
    | zero =>
      intro _ _ _ _ _ _ _ _ hn
      exact absurd hn (Nat.not_lt_zero _)
    | succ n63 ih63 =>
      intro a1 F3 L3 A3 B3 H locs ls hn63 r2 hq f4 f5 hP hD hS hl
      refine lv_iload hx hb dX2_open_63 (lv_at hl 1 rfl) ?_
      refine lv_aload_n hx hb dX2_open_65 rfl (lv_at hl 0 rfl) ?_
      refine va_get (ci := 2) (v := .int p2) (C := RX2) (T := TX2) (N := 15) hx hb hg inX2 hown hK hP 27 atX_27 rfl 12 (by decide) (hg _ mw_359) (fun _ h9 => h9) (congrArg (fun z => some (Value.int z)) (f4)) dX2_open_66 ?_
      refine lv_icmp_ge (tgt := 173) hx hb dX2_open_69 (by decide) (fun c6 => ?_) (fun c6 => ?_)
      · skip
        refine lv_aload_n hx hb dX2_open_173 rfl (lv_at hl 0 rfl) ?_
        refine lv_aload_n hx hb dX2_open_174 rfl (lv_at hl 0 rfl) ?_
        refine va_get (ci := 2) (v := .ref (ad 32)) (C := RX2) (T := TX2) (N := 15) hx hb hg inX2 hown hK hP 27 atX_27 rfl 8 (by decide) (hg _ mw_355) (fun _ h9 => h9) rfl dX2_open_175 ?_
        refine calls_i (As := [.ref (ad 32)]) (rest := [.ref (ad 27)]) hC (c_X2_greatestOf_32 l D cA H.size ad F3 L3 A3 B3  hq.1) (cwS 1 hg (g_S mw_782 mw_780 mw_781 mw_14) rfl rfl rfl (by decide +kernel) ⟨(Nat.le_of_ble_eq_true rfl), (Nat.le_of_ble_eq_true rfl)⟩) hP hD hS hA rfl hl.1 rfl (Nat.le_of_ble_eq_true rfl) dX2_open_178 ⟨Nat.zero_le _, Nat.zero_le _⟩ (fun x9 u H locs hw hP hD hS => ?_)
        have r10 := hw
        have hP : va_P D classes (wX cA ad F3 L3 A3 B3) H := hP
        have hD : va_D Af (wX cA ad F3 L3 A3 B3) := hD
        refine lv_aload_n hx hb dX2_open_181 rfl (lv_at hl 0 rfl) ?_
        refine va_get (ci := 2) (v := .ref (ad 33)) (C := RX2) (T := TX2) (N := 15) hx hb hg inX2 hown hK hP 27 atX_27 rfl 9 (by decide) (hg _ mw_356) (fun _ h9 => h9) rfl dX2_open_182 ?_
        refine calls_i (As := [.ref (ad 33)]) (rest := [.int x9, .ref (ad 27)]) hC (c_X2_greatestOf_33 l D cA H.size ad F3 L3 A3 B3  hq.1) (cwS 1 hg (g_S mw_782 mw_780 mw_781 mw_14) rfl rfl rfl (by decide +kernel) ⟨(Nat.le_of_ble_eq_true rfl), (Nat.le_of_ble_eq_true rfl)⟩) hP hD hS hA rfl hl.1 rfl (Nat.le_of_ble_eq_true rfl) dX2_open_185 ⟨Nat.zero_le _, Nat.zero_le _⟩ (fun x11 u H locs hw hP hD hS => ?_)
        have r12 := hw
        have hP : va_P D classes (wX cA ad F3 L3 A3 B3) H := hP
        have hD : va_D Af (wX cA ad F3 L3 A3 B3) := hD
        refine va_mmax hx hb (hC.2.2.1.trans hl.1.symm) hown (hg _ mw_783) (hg _ mw_272) (hg _ mw_12) (hg _ mw_273) (Nat.le_of_ble_eq_true rfl) (Nat.le_of_ble_eq_true rfl) (Nat.zero_le _) (Nat.zero_le _) dX2_open_188 ?_
        refine lv_topi (fun x13 e14 => ?_)
        have r15 : rg x13 0 2147483647 := rg_max e14 (r10 : rg x9 0 2147483647) (r12 : rg x11 0 2147483647) (by decide)
        refine va_put (ci := 2) (v := .int x13) (ty := .int) (C := RX2) (T := TX2) (N := 15) hx hb hg inX2 tyX2 tyX2_ok nmX2 hown hK hP hD hS 27 atX_27 rfl 3 (by decide) (hg _ mw_345) (fun _ h9 => h9) rfl (by decide +kernel) rfl rfl (Nat.le_of_ble_eq_true rfl) dX2_open_191 (fun H locs hP hD hS => ?_)
        have hq := hq.put 30 (x := x13) (by decide) (rg_top _)
        rw [setFX_30] at hP hD
        exact hret ((upd F3 30 x13), L3, A3, B3) H locs 194 ls dX2_open_194 hP hD hS hq
      · skip
        have r7 : rg a1 0 7 := rg_lt1 (iNE c6) (r2 : rg a1 0 8) (hp2 : rg p2 0 8)
        have r8 : rg p2 1 8 := rg_lt2 (iNE c6) (r2 : rg a1 0 8) (hp2 : rg p2 0 8)
        refine lv_iconst (v := 0) hx hb dX2_open_72 (by decide) ?_
        refine lv_istore (lv' := [(5, .int 0), (0, .ref (ad 27)), (4, .int a1)]) hx hb dX2_open_73 hl (by decide) rfl (fun ls hl => ?_)
        have J75 : ∀ (n75 : Nat) (a16 : Int32) (F18 : Nat → Int32) (L18 : Nat → Int64) (A18 : Nat → Nat → Int32) (B18 : Nat → Nat → Int64) (H : Heap) (locs : List Loc) (ls : Array Slot), (10 - a16.toInt).toNat < n75 → rg a16 0 10 → qX [30, 33, 34] [28, 32, 33, 35, 41] F A F18 A18 → F18 33 = p2 → F18 34 = p3 → va_P D classes (wX cA ad F18 L18 A18 B18) H → va_D Af (wX cA ad F18 L18 A18 B18) → va_S Af s.heap H locs → lv_has ls 7 [(0, .ref (ad 27)), (4, .int a1), (5, .int a16)] → W p l e rm_X2_open_27_19 s m args below meth c H locs 0 0 Q (F0 m 75 ls []) := by
          intro n75
          induction n75 with
          | zero =>
            intro _ _ _ _ _ _ _ _ hn
            exact absurd hn (Nat.not_lt_zero _)
          | succ n75 ih75 =>
            intro a16 F18 L18 A18 B18 H locs ls hn75 r17 hq f19 f20 hP hD hS hl
            refine lv_iload hx hb dX2_open_75 (lv_at hl 2 rfl) ?_
            refine lv_aload_n hx hb dX2_open_77 rfl (lv_at hl 0 rfl) ?_
            refine va_get (ci := 2) (v := .int p3) (C := RX2) (T := TX2) (N := 15) hx hb hg inX2 hown hK hP 27 atX_27 rfl 13 (by decide) (hg _ mw_360) (fun _ h9 => h9) (congrArg (fun z => some (Value.int z)) (f20)) dX2_open_78 ?_
            refine lv_icmp_ge (tgt := 167) hx hb dX2_open_81 (by decide) (fun c21 => ?_) (fun c21 => ?_)
            · skip
              obtain ⟨x24, e25⟩ : ∃ y : Int32, y = a1 + 1 := ⟨_, rfl⟩
              have r26 : rg x24 1 8 := rg_add e25 r7 (rg_k (by decide) : rg 1 1 1) (by decide)
              refine lv_iinc (v := x24) (lv' := [(4, .int x24), (0, .ref (ad 27)), (5, .int a16)]) hx hb dX2_open_167 hl (k := 1) rfl (by rw [e25]; rfl) (by decide) rfl (fun ls hl => ?_)
              refine lv_goto (tgt := 63) hx hb dX2_open_170 (by decide) ?_
              exact ih63 (x24) (F18) (L18) (A18) (B18) H locs ls (by have h0 : (1 : Int32).toInt = 1 := rfl; have h1 := ti_addk e25 r7 (by decide); have h2 : rg x24 0 8 := (rg_w r26 (by decide)); unfold rg at h2; omega) (rg_w r26 (by decide)) hq (f19) (f20) hP hD hS (lv_sub hl [1, 0] rfl)
            · skip
              have r22 : rg a16 0 9 := rg_lt1 (iNE c21) (r17 : rg a16 0 10) (hp3 : rg p3 0 10)
              have r23 : rg p3 1 10 := rg_lt2 (iNE c21) (r17 : rg a16 0 10) (hp3 : rg p3 0 10)
              refine lv_aload_n hx hb dX2_open_84 rfl (lv_at hl 0 rfl) ?_
              refine va_get (ci := 2) (v := .ref (ad 28)) (C := RX2) (T := TX2) (N := 15) hx hb hg inX2 hown hK hP 27 atX_27 rfl 0 (by decide) (hg _ mw_339) (fun _ h9 => h9) rfl dX2_open_85 ?_
              refine lv_iload hx hb dX2_open_88 (lv_at hl 1 rfl) ?_
              refine lv_iload hx hb dX2_open_90 (lv_at hl 2 rfl) ?_
              refine calln_i (As := [.int a1, .int a16]) (rest := [.ref (ad 28)]) hC (c_X11_cellOf l D (tysX cA) (wX cA ad F18 L18 A18 B18) H.size (a1) (a16)) ⟨va_cnB 2 hg (g_N mw_681) rfl rfl rfl (mn_12 hC.N) (hg _ mw_1) (by decide +kernel) ⟨(Nat.le_of_ble_eq_true rfl), (Nat.le_of_ble_eq_true rfl)⟩, (hg _ mw_680), trivial⟩ hP hD hS hA rfl hl.1 rfl (Nat.le_of_ble_eq_true rfl) dX2_open_92 ⟨Nat.zero_le _, Nat.zero_le _⟩ (fun x27 u H locs hw hP hD hS => ?_)
              have e28 := hw
              have hP : va_P D classes (wX cA ad F18 L18 A18 B18) H := hP
              have hD : va_D Af (wX cA ad F18 L18 A18 B18) := hD
              have r29 : rg x27 0 79 := rg_cell hw (r7 : rg a1 0 7) (r22 : rg a16 0 9) (by decide)
              refine va_iald hx hb hK hP 28 18 atX_28 tyX_28 (in_rg r29 (by decide)) dX2_open_95 ?_
              refine lv_topi (fun x30 e31 => ?_)
              refine lv_istore (lv' := [(6, .int x30), (0, .ref (ad 27)), (4, .int a1), (5, .int a16)]) hx hb dX2_open_96 hl (by decide) rfl (fun ls hl => ?_)
              refine lv_iload hx hb dX2_open_98 (lv_at hl 0 rfl) ?_
              have J161 : ∀ (F32 : Nat → Int32) (L32 : Nat → Int64) (A32 : Nat → Nat → Int32) (B32 : Nat → Nat → Int64) (H : Heap) (locs : List Loc) (ls : Array Slot), qX [30, 33, 34] [28, 32, 33, 35, 41] F A F32 A32 → F32 33 = p2 → F32 34 = p3 → va_P D classes (wX cA ad F32 L32 A32 B32) H → va_D Af (wX cA ad F32 L32 A32 B32) → va_S Af s.heap H locs → lv_has ls 7 [(0, .ref (ad 27)), (4, .int a1), (5, .int a16)] → W p l e rm_X2_open_27_19 s m args below meth c H locs 0 0 Q (F0 m 161 ls []) := by
                intro F32 L32 A32 B32 H locs ls hq f33 f34 hP hD hS hl
                obtain ⟨x35, e36⟩ : ∃ y : Int32, y = a16 + 1 := ⟨_, rfl⟩
                have r37 : rg x35 1 10 := rg_add e36 r22 (rg_k (by decide) : rg 1 1 1) (by decide)
                refine lv_iinc (v := x35) (lv' := [(5, .int x35), (0, .ref (ad 27)), (4, .int a1)]) hx hb dX2_open_161 hl (k := 2) rfl (by rw [e36]; rfl) (by decide) rfl (fun ls hl => ?_)
                refine lv_goto (tgt := 75) hx hb dX2_open_164 (by decide) ?_
                exact ih75 (x35) (F32) (L32) (A32) (B32) H locs ls (by have h0 : (1 : Int32).toInt = 1 := rfl; have h1 := ti_addk e36 r22 (by decide); have h2 : rg x35 0 10 := (rg_w r37 (by decide)); unfold rg at h2; omega) (rg_w r37 (by decide)) hq (f33) (f34) hP hD hS (lv_sub hl [1, 2, 0] rfl)
              refine lv_if_le (tgt := 161) hx hb dX2_open_100 (by decide) (fun c38 => ?_) (fun c38 => ?_)
              · skip
                have r39 : rg x30 (-2147483648) 0 := rg_le1 (iE c38) ((rg_top _) : rg x30 (-2147483648) 2147483647) ((rg_k (by decide)) : rg 0 0 0)
                exact J161 (F18) (L18) (A18) (B18) H locs ls hq (f19) (f20) hP hD hS (lv_sub hl [1, 2, 3] rfl)
              · skip
                have r40 : rg x30 1 2147483647 := rg_lt2 (iNE c38) ((rg_k (by decide)) : rg 0 0 0) ((rg_top _) : rg x30 (-2147483648) 2147483647)
                refine lv_aload_n hx hb dX2_open_103 rfl (lv_at hl 1 rfl) ?_
                refine va_get (ci := 2) (v := .ref (ad 32)) (C := RX2) (T := TX2) (N := 15) hx hb hg inX2 hown hK hP 27 atX_27 rfl 8 (by decide) (hg _ mw_355) (fun _ h9 => h9) rfl dX2_open_104 ?_
                refine lv_iload hx hb dX2_open_107 (lv_at hl 2 rfl) ?_
                refine lv_dup2_11 hx hb dX2_open_109 rfl rfl ?_
                refine va_iald hx hb hK hP 32 22 atX_32 tyX_32 (in_rg r7 (by decide)) dX2_open_110 ?_
                refine lv_topi (fun x41 e42 => ?_)
                refine lv_iload hx hb dX2_open_111 (lv_at hl 0 rfl) ?_
                refine lv_iadd hx hb dX2_open_113 ?_
                refine lv_topi (fun x43 e44 => ?_)
                refine va_iast hx hb hK hP hD hS 32 22 atX_32 tyX_32 (in_rg r7 (by decide)) dX2_open_114 (fun H locs hP hD hS => ?_)
                have hq := hq.ast 32 (a1).toNatClampNeg (x := x43) (by decide) (rg_top _)
                rw [setX_32] at hP hD
                have k45 : x43 = (va_up A18 32 (upd (A18 32) (a1).toNatClampNeg x43)) 32 (a1).toNatClampNeg := (rdA).symm
                refine lv_aload_n hx hb dX2_open_115 rfl (lv_at hl 1 rfl) ?_
                refine va_get (ci := 2) (v := .ref (ad 33)) (C := RX2) (T := TX2) (N := 15) hx hb hg inX2 hown hK hP 27 atX_27 rfl 9 (by decide) (hg _ mw_356) (fun _ h9 => h9) rfl dX2_open_116 ?_
                refine lv_iload hx hb dX2_open_119 (lv_at hl 3 rfl) ?_
                refine lv_dup2_11 hx hb dX2_open_121 rfl rfl ?_
                refine va_iald hx hb hK hP 33 23 atX_33 tyX_33 (in_rg r22 (by decide)) dX2_open_122 ?_
                refine lv_topi (fun x46 e47 => ?_)
                refine lv_iload hx hb dX2_open_123 (lv_at hl 0 rfl) ?_
                refine lv_iadd hx hb dX2_open_125 ?_
                refine lv_topi (fun x48 e49 => ?_)
                refine va_iast hx hb hK hP hD hS 33 23 atX_33 tyX_33 (in_rg r22 (by decide)) dX2_open_126 (fun H locs hP hD hS => ?_)
                have hq := hq.ast 33 (a16).toNatClampNeg (x := x48) (by decide) (rg_top _)
                rw [setX_33] at hP hD
                have k50 : x48 = (va_up (va_up A18 32 (upd (A18 32) (a1).toNatClampNeg x43)) 33 (upd ((va_up A18 32 (upd (A18 32) (a1).toNatClampNeg x43)) 33) (a16).toNatClampNeg x48)) 33 (a16).toNatClampNeg := (rdA).symm
                refine lv_aload_n hx hb dX2_open_127 rfl (lv_at hl 1 rfl) ?_
                refine va_get (ci := 2) (v := .ref (ad 34)) (C := RX2) (T := TX2) (N := 15) hx hb hg inX2 hown hK hP 27 atX_27 rfl 10 (by decide) (hg _ mw_357) (fun _ h9 => h9) rfl dX2_open_128 ?_
                refine va_get (ci := 1) (v := .ref (ad 35)) (C := RX1) (T := TX1) (N := 5) hx hb hg inX1 hown hK hP 34 atX_34 rfl 0 (by decide) (hg _ mw_321) (fun _ h9 => h9) rfl dX2_open_131 ?_
                refine lv_iload hx hb dX2_open_134 (lv_at hl 2 rfl) ?_
                refine lv_dup2_11 hx hb dX2_open_136 rfl rfl ?_
                refine va_iald hx hb hK hP 35 24 atX_35 tyX_35 (in_rg r7 (by decide)) dX2_open_137 ?_
                refine lv_topi (fun x51 e52 => ?_)
                have r53 : rg x51 0 1023 := rg_e e52 (hq.1.2 35 _)
                refine lv_iconst (v := 1) hx hb dX2_open_138 (by decide) ?_
                refine lv_iload hx hb dX2_open_139 (lv_at hl 3 rfl) ?_
                refine lv_ishl hx hb dX2_open_141 ?_
                refine lv_topi (fun x54 e55 => ?_)
                have r56 : rg x54 1 512 := rg_shl1 e55 r22 (by decide)
                refine lv_ior hx hb dX2_open_142 ?_
                refine lv_topi (fun x57 e58 => ?_)
                have r59 : rg x57 0 1023 := rg_or 10 e58 r53 r56 (by decide)
                refine va_iast hx hb hK hP hD hS 35 24 atX_35 tyX_35 (in_rg r7 (by decide)) dX2_open_143 (fun H locs hP hD hS => ?_)
                have hq := hq.ast 35 (a1).toNatClampNeg (x := x57) (by decide) r59
                rw [setX_35] at hP hD
                have k60 : x57 = (va_up (va_up (va_up A18 32 (upd (A18 32) (a1).toNatClampNeg x43)) 33 (upd ((va_up A18 32 (upd (A18 32) (a1).toNatClampNeg x43)) 33) (a16).toNatClampNeg x48)) 35 (upd ((va_up (va_up A18 32 (upd (A18 32) (a1).toNatClampNeg x43)) 33 (upd ((va_up A18 32 (upd (A18 32) (a1).toNatClampNeg x43)) 33) (a16).toNatClampNeg x48)) 35) (a1).toNatClampNeg x57)) 35 (a1).toNatClampNeg := (rdA).symm
                refine lv_aload_n hx hb dX2_open_144 rfl (lv_at hl 1 rfl) ?_
                refine va_get (ci := 2) (v := .ref (ad 40)) (C := RX2) (T := TX2) (N := 15) hx hb hg inX2 hown hK hP 27 atX_27 rfl 11 (by decide) (hg _ mw_358) (fun _ h9 => h9) rfl dX2_open_145 ?_
                refine va_get (ci := 1) (v := .ref (ad 41)) (C := RX1) (T := TX1) (N := 5) hx hb hg inX1 hown hK hP 40 atX_40 rfl 0 (by decide) (hg _ mw_321) (fun _ h9 => h9) rfl dX2_open_148 ?_
                refine lv_iload hx hb dX2_open_151 (lv_at hl 3 rfl) ?_
                refine lv_dup2_11 hx hb dX2_open_153 rfl rfl ?_
                refine va_iald hx hb hK hP 41 29 atX_41 tyX_41 (in_rg r22 (by decide)) dX2_open_154 ?_
                refine lv_topi (fun x61 e62 => ?_)
                have r63 : rg x61 0 1023 := rg_e e62 (hq.1.2 41 _)
                refine lv_iconst (v := 1) hx hb dX2_open_155 (by decide) ?_
                refine lv_iload hx hb dX2_open_156 (lv_at hl 2 rfl) ?_
                refine lv_ishl hx hb dX2_open_158 ?_
                refine lv_topi (fun x64 e65 => ?_)
                have r66 : rg x64 1 128 := rg_shl1 e65 r7 (by decide)
                refine lv_ior hx hb dX2_open_159 ?_
                refine lv_topi (fun x67 e68 => ?_)
                have r69 : rg x67 0 1023 := rg_or 10 e68 r63 r66 (by decide)
                refine va_iast hx hb hK hP hD hS 41 29 atX_41 tyX_41 (in_rg r22 (by decide)) dX2_open_160 (fun H locs hP hD hS => ?_)
                have hq := hq.ast 41 (a16).toNatClampNeg (x := x67) (by decide) r69
                rw [setX_41] at hP hD
                have k70 : x67 = (va_up (va_up (va_up (va_up A18 32 (upd (A18 32) (a1).toNatClampNeg x43)) 33 (upd ((va_up A18 32 (upd (A18 32) (a1).toNatClampNeg x43)) 33) (a16).toNatClampNeg x48)) 35 (upd ((va_up (va_up A18 32 (upd (A18 32) (a1).toNatClampNeg x43)) 33 (upd ((va_up A18 32 (upd (A18 32) (a1).toNatClampNeg x43)) 33) (a16).toNatClampNeg x48)) 35) (a1).toNatClampNeg x57)) 41 (upd ((va_up (va_up (va_up A18 32 (upd (A18 32) (a1).toNatClampNeg x43)) 33 (upd ((va_up A18 32 (upd (A18 32) (a1).toNatClampNeg x43)) 33) (a16).toNatClampNeg x48)) 35 (upd ((va_up (va_up A18 32 (upd (A18 32) (a1).toNatClampNeg x43)) 33 (upd ((va_up A18 32 (upd (A18 32) (a1).toNatClampNeg x43)) 33) (a16).toNatClampNeg x48)) 35) (a1).toNatClampNeg x57)) 41) (a16).toNatClampNeg x67)) 41 (a16).toNatClampNeg := (rdA).symm
                exact J161 (F18) (L18) ((va_up (va_up (va_up (va_up A18 32 (upd (A18 32) (a1).toNatClampNeg x43)) 33 (upd ((va_up A18 32 (upd (A18 32) (a1).toNatClampNeg x43)) 33) (a16).toNatClampNeg x48)) 35 (upd ((va_up (va_up A18 32 (upd (A18 32) (a1).toNatClampNeg x43)) 33 (upd ((va_up A18 32 (upd (A18 32) (a1).toNatClampNeg x43)) 33) (a16).toNatClampNeg x48)) 35) (a1).toNatClampNeg x57)) 41 (upd ((va_up (va_up (va_up A18 32 (upd (A18 32) (a1).toNatClampNeg x43)) 33 (upd ((va_up A18 32 (upd (A18 32) (a1).toNatClampNeg x43)) 33) (a16).toNatClampNeg x48)) 35 (upd ((va_up (va_up A18 32 (upd (A18 32) (a1).toNatClampNeg x43)) 33 (upd ((va_up A18 32 (upd (A18 32) (a1).toNatClampNeg x43)) 33) (a16).toNatClampNeg x48)) 35) (a1).toNatClampNeg x57)) 41) (a16).toNatClampNeg x67))) (B18) H locs ls hq (f19) (f20) hP hD hS (lv_sub hl [1, 2, 3] rfl)
        exact J75 _ (0) (F3) (L3) (A3) (B3) H locs ls (Nat.lt_succ_self _) (rg_k (by decide)) hq (f4) (f5) hP hD hS (lv_sub hl [1, 2, 0] rfl)
  exact J63 _ (0) ((upd (upd F 33 p2) 34 p3)) (L) ((va_up (va_up (va_up (va_up (va_up A 28 (va_cpy (A 19) (A 28) ((0 : Int32)).toNatClampNeg ((0 : Int32)).toNatClampNeg ((80 : Int32)).toNatClampNeg)) 32 (fun j => if j < 8 then (0 : Int32) else (va_up A 28 (va_cpy (A 19) (A 28) ((0 : Int32)).toNatClampNeg ((0 : Int32)).toNatClampNeg ((80 : Int32)).toNatClampNeg)) 32 j)) 33 (fun j => if j < 10 then (0 : Int32) else (va_up (va_up A 28 (va_cpy (A 19) (A 28) ((0 : Int32)).toNatClampNeg ((0 : Int32)).toNatClampNeg ((80 : Int32)).toNatClampNeg)) 32 (fun j => if j < 8 then (0 : Int32) else (va_up A 28 (va_cpy (A 19) (A 28) ((0 : Int32)).toNatClampNeg ((0 : Int32)).toNatClampNeg ((80 : Int32)).toNatClampNeg)) 32 j)) 33 j)) 35 (fun j => if j < 10 then (0 : Int32) else (va_up (va_up (va_up A 28 (va_cpy (A 19) (A 28) ((0 : Int32)).toNatClampNeg ((0 : Int32)).toNatClampNeg ((80 : Int32)).toNatClampNeg)) 32 (fun j => if j < 8 then (0 : Int32) else (va_up A 28 (va_cpy (A 19) (A 28) ((0 : Int32)).toNatClampNeg ((0 : Int32)).toNatClampNeg ((80 : Int32)).toNatClampNeg)) 32 j)) 33 (fun j => if j < 10 then (0 : Int32) else (va_up (va_up A 28 (va_cpy (A 19) (A 28) ((0 : Int32)).toNatClampNeg ((0 : Int32)).toNatClampNeg ((80 : Int32)).toNatClampNeg)) 32 (fun j => if j < 8 then (0 : Int32) else (va_up A 28 (va_cpy (A 19) (A 28) ((0 : Int32)).toNatClampNeg ((0 : Int32)).toNatClampNeg ((80 : Int32)).toNatClampNeg)) 32 j)) 33 j)) 35 j)) 41 (fun j => if j < 10 then (0 : Int32) else (va_up (va_up (va_up (va_up A 28 (va_cpy (A 19) (A 28) ((0 : Int32)).toNatClampNeg ((0 : Int32)).toNatClampNeg ((80 : Int32)).toNatClampNeg)) 32 (fun j => if j < 8 then (0 : Int32) else (va_up A 28 (va_cpy (A 19) (A 28) ((0 : Int32)).toNatClampNeg ((0 : Int32)).toNatClampNeg ((80 : Int32)).toNatClampNeg)) 32 j)) 33 (fun j => if j < 10 then (0 : Int32) else (va_up (va_up A 28 (va_cpy (A 19) (A 28) ((0 : Int32)).toNatClampNeg ((0 : Int32)).toNatClampNeg ((80 : Int32)).toNatClampNeg)) 32 (fun j => if j < 8 then (0 : Int32) else (va_up A 28 (va_cpy (A 19) (A 28) ((0 : Int32)).toNatClampNeg ((0 : Int32)).toNatClampNeg ((80 : Int32)).toNatClampNeg)) 32 j)) 33 j)) 35 (fun j => if j < 10 then (0 : Int32) else (va_up (va_up (va_up A 28 (va_cpy (A 19) (A 28) ((0 : Int32)).toNatClampNeg ((0 : Int32)).toNatClampNeg ((80 : Int32)).toNatClampNeg)) 32 (fun j => if j < 8 then (0 : Int32) else (va_up A 28 (va_cpy (A 19) (A 28) ((0 : Int32)).toNatClampNeg ((0 : Int32)).toNatClampNeg ((80 : Int32)).toNatClampNeg)) 32 j)) 33 (fun j => if j < 10 then (0 : Int32) else (va_up (va_up A 28 (va_cpy (A 19) (A 28) ((0 : Int32)).toNatClampNeg ((0 : Int32)).toNatClampNeg ((80 : Int32)).toNatClampNeg)) 32 (fun j => if j < 8 then (0 : Int32) else (va_up A 28 (va_cpy (A 19) (A 28) ((0 : Int32)).toNatClampNeg ((0 : Int32)).toNatClampNeg ((80 : Int32)).toNatClampNeg)) 32 j)) 33 j)) 35 j)) 41 j))) (B) H locs ls (Nat.lt_succ_self _) (rg_k (by decide)) hq (rfl) (rfl) hP hD hS (lv_sub hl [1, 0] rfl)
abbrev rm_X2_pass_27 : Room := { frames := 1, cells := 0, slots := 0, locals := 21 }
set_option maxHeartbeats 4000000 in
set_option maxRecDepth 100000 in
theorem c_X2_pass_27 (l : Launch) (D : va_G) (cA : Nat → ClassId) (sz : Nat) (ad : Nat → Nat) (F : Nat → Int32) (L : Nat → Int64) (A : Nat → Nat → Int32) (B : Nat → Nat → Int64) (p1 : Int32) (hT : typX F A) : Met l yX2_pass (Cond.code yX2_pass cX2_pass 5 none :: GW) rm_X2_pass_27 (mPc D classes (tysX cA) (wX cA ad F L A B) sz [.ref (ad 27), .int p1]) (mQv (S := SW) D classes (tysX cA) (wX cA ad F L A B) sz (wfX cA ad) (fun u => qX [30] [28, 32, 33, 35, 41] F A u.1 u.2.2.1)) 0 0 (va_A (wX cA ad F L A B) sz) := by
  refine met_v (own := "ShoeingDay$Day") (by decide +kernel) rfl (Nat.le_of_ble_eq_true rfl) ?_
  intro p e s m args below meth c Q Af ls hC hP hD hS hA hl hret
  have hx := hC.1
  have hb := hC.2.1
  have hown := hC.2.2.2.1
  have hg := hC.g
  have hK := hC.K
  have hl : lv_has ls 5 [(0, .ref (ad 27)), (1, .int p1)] := hl
  have hq : qX [30] [28, 32, 33, 35, 41] F A F A := qX.rf hT
  obtain ⟨H, hH⟩ : ∃ H, H = s.heap := ⟨_, rfl⟩
  have hP : va_P D classes (wX cA ad F L A B) H := by rw [hH]; exact hP
  have hS : va_S Af s.heap H [] := by rw [hH]; exact hS
  obtain ⟨locs, hlo⟩ : ∃ q : List Loc, q = [] := ⟨_, rfl⟩
  rw [← hH, ← hlo]
  rw [← hlo] at hS
  refine lv_iconst (v := 0) hx hb dX2_pass_0 (by decide) ?_
  refine lv_istore_n (lv' := [(2, .int 0), (0, .ref (ad 27)), (1, .int p1)]) hx hb dX2_pass_1 rfl hl (by decide) rfl (fun ls hl => ?_)
  have J2 : ∀ (n2 : Nat) (a1 : Int32) (F3 : Nat → Int32) (L3 : Nat → Int64) (A3 : Nat → Nat → Int32) (B3 : Nat → Nat → Int64) (H : Heap) (locs : List Loc) (ls : Array Slot), (8 - a1.toInt).toNat < n2 → rg a1 0 8 → qX [30] [28, 32, 33, 35, 41] F A F3 A3 → va_P D classes (wX cA ad F3 L3 A3 B3) H → va_D Af (wX cA ad F3 L3 A3 B3) → va_S Af s.heap H locs → lv_has ls 5 [(0, .ref (ad 27)), (1, .int p1), (2, .int a1)] → W p l e rm_X2_pass_27 s m args below meth c H locs 0 0 Q (F0 m 2 ls []) := by
    intro n2
    induction n2 with
    | zero =>
      intro _ _ _ _ _ _ _ _ hn
      exact absurd hn (Nat.not_lt_zero _)
    | succ n2 ih2 =>
      intro a1 F3 L3 A3 B3 H locs ls hn2 r2 hq hP hD hS hl
      refine lv_iload_n hx hb dX2_pass_2 rfl (lv_at hl 2 rfl) ?_
      refine lv_aload_n hx hb dX2_pass_3 rfl (lv_at hl 0 rfl) ?_
      refine va_get (ci := 2) (v := .int (F3 33)) (C := RX2) (T := TX2) (N := 15) hx hb hg inX2 hown hK hP 27 atX_27 rfl 12 (by decide) (hg _ mw_359) (fun _ h9 => h9) rfl dX2_pass_4 ?_
      refine lv_topi (fun x4 e5 => ?_)
      have r6 : rg x4 0 8 := rg_e e5 (hq.1.1 33)
      refine lv_icmp_ge (tgt := 110) hx hb dX2_pass_7 (by decide) (fun c7 => ?_) (fun c7 => ?_)
      · skip
        refine lv_aload_n hx hb dX2_pass_110 rfl (lv_at hl 0 rfl) ?_
        refine lv_dup hx hb dX2_pass_111 rfl ?_
        refine va_get (ci := 2) (v := .int (F3 30)) (C := RX2) (T := TX2) (N := 15) hx hb hg inX2 hown hK hP 27 atX_27 rfl 3 (by decide) (hg _ mw_345) (fun _ h9 => h9) rfl dX2_pass_112 ?_
        refine lv_topi (fun x10 e11 => ?_)
        refine lv_iload_n hx hb dX2_pass_115 rfl (lv_at hl 1 rfl) ?_
        refine lv_isub hx hb dX2_pass_116 ?_
        refine lv_topi (fun x12 e13 => ?_)
        refine va_put (ci := 2) (v := .int x12) (ty := .int) (C := RX2) (T := TX2) (N := 15) hx hb hg inX2 tyX2 tyX2_ok nmX2 hown hK hP hD hS 27 atX_27 rfl 3 (by decide) (hg _ mw_345) (fun _ h9 => h9) rfl (by decide +kernel) rfl rfl (Nat.le_of_ble_eq_true rfl) dX2_pass_117 (fun H locs hP hD hS => ?_)
        have hq := hq.put 30 (x := x12) (by decide) (rg_top _)
        rw [setFX_30] at hP hD
        exact hret ((upd F3 30 x12), L3, A3, B3) H locs 120 ls dX2_pass_120 hP hD hS hq
      · skip
        have r8 : rg a1 0 7 := rg_lt1 (iNE c7) (r2 : rg a1 0 8) (r6 : rg x4 0 8)
        have r9 : rg x4 1 8 := rg_lt2 (iNE c7) (r2 : rg a1 0 8) (r6 : rg x4 0 8)
        refine lv_aload_n hx hb dX2_pass_10 rfl (lv_at hl 0 rfl) ?_
        refine va_get (ci := 2) (v := .ref (ad 29)) (C := RX2) (T := TX2) (N := 15) hx hb hg inX2 hown hK hP 27 atX_27 rfl 1 (by decide) (hg _ mw_341) (fun _ h9 => h9) rfl dX2_pass_11 ?_
        refine lv_iload_n hx hb dX2_pass_14 rfl (lv_at hl 2 rfl) ?_
        refine va_iald hx hb hK hP 29 19 atX_29 tyX_29 (in_rg r8 (by decide)) dX2_pass_15 ?_
        refine lv_topi (fun x14 e15 => ?_)
        have r16 : rg x14 (-1) 9 := rg_e e15 (hq.1.2 29 _)
        refine lv_istore_n (lv' := [(3, .int x14), (0, .ref (ad 27)), (1, .int p1), (2, .int a1)]) hx hb dX2_pass_16 rfl hl (by decide) rfl (fun ls hl => ?_)
        refine lv_iload_n hx hb dX2_pass_17 rfl (lv_at hl 0 rfl) ?_
        refine lv_iconst (v := (-1)) hx hb dX2_pass_18 (by decide) ?_
        have J104 : ∀ (F17 : Nat → Int32) (L17 : Nat → Int64) (A17 : Nat → Nat → Int32) (B17 : Nat → Nat → Int64) (H : Heap) (locs : List Loc) (ls : Array Slot), qX [30] [28, 32, 33, 35, 41] F A F17 A17 → F17 33 = x4 → va_P D classes (wX cA ad F17 L17 A17 B17) H → va_D Af (wX cA ad F17 L17 A17 B17) → va_S Af s.heap H locs → lv_has ls 5 [(0, .ref (ad 27)), (1, .int p1), (2, .int a1)] → W p l e rm_X2_pass_27 s m args below meth c H locs 0 0 Q (F0 m 104 ls []) := by
          intro F17 L17 A17 B17 H locs ls hq f18 hP hD hS hl
          obtain ⟨x19, e20⟩ : ∃ y : Int32, y = a1 + 1 := ⟨_, rfl⟩
          have r21 : rg x19 1 8 := rg_add e20 r8 (rg_k (by decide) : rg 1 1 1) (by decide)
          refine lv_iinc (v := x19) (lv' := [(2, .int x19), (0, .ref (ad 27)), (1, .int p1)]) hx hb dX2_pass_104 hl (k := 2) rfl (by rw [e20]; rfl) (by decide) rfl (fun ls hl => ?_)
          refine lv_goto (tgt := 2) hx hb dX2_pass_107 (by decide) ?_
          exact ih2 (x19) (F17) (L17) (A17) (B17) H locs ls (by have h0 : (1 : Int32).toInt = 1 := rfl; have h1 := ti_addk e20 r8 (by decide); have h2 : rg x19 0 8 := (rg_w r21 (by decide)); unfold rg at h2; omega) (rg_w r21 (by decide)) hq hP hD hS (lv_sub hl [1, 2, 0] rfl)
        refine lv_icmp_eq (tgt := 104) hx hb dX2_pass_19 (by decide) (fun c22 => ?_) (fun c22 => ?_)
        · skip
          have r23 : rg x14 (-1) (-1) := rg_eq1 c22 (r16 : rg x14 (-1) 9) ((rg_k (by decide)) : rg (-1) (-1) (-1)) (by decide)
          exact J104 (F3) (L3) (A3) (B3) H locs ls hq (e5.symm) hP hD hS (lv_sub hl [1, 2, 3] rfl)
        · skip
          have r24 : rg x14 0 9 := (rg_ne1 c22 (r16 : rg x14 (-1) 9) ((rg_k (by decide)) : rg (-1) (-1) (-1))).1 rfl
          refine lv_iload_n hx hb dX2_pass_22 rfl (lv_at hl 3 rfl) ?_
          refine lv_iload_n hx hb dX2_pass_23 rfl (lv_at hl 0 rfl) ?_
          refine calln_i (As := [.int a1, .int x14]) (rest := []) hC (c_X11_cellOf l D (tysX cA) (wX cA ad F3 L3 A3 B3) H.size (a1) (x14)) ⟨va_cnB 2 hg (g_N mw_681) rfl rfl rfl (mn_12 hC.N) (hg _ mw_1) (by decide +kernel) ⟨(Nat.le_of_ble_eq_true rfl), (Nat.le_of_ble_eq_true rfl)⟩, (hg _ mw_680), trivial⟩ hP hD hS hA rfl hl.1 rfl (Nat.le_of_ble_eq_true rfl) dX2_pass_24 ⟨Nat.zero_le _, Nat.zero_le _⟩ (fun x25 u H locs hw hP hD hS => ?_)
          have e26 := hw
          have hP : va_P D classes (wX cA ad F3 L3 A3 B3) H := hP
          have hD : va_D Af (wX cA ad F3 L3 A3 B3) := hD
          have r27 : rg x25 0 79 := rg_cell hw (r8 : rg a1 0 7) (r24 : rg x14 0 9) (by decide)
          refine lv_istore (lv' := [(4, .int x25), (3, .int x14), (0, .ref (ad 27)), (1, .int p1), (2, .int a1)]) hx hb dX2_pass_27 hl (by decide) rfl (fun ls hl => ?_)
          refine lv_aload_n hx hb dX2_pass_29 rfl (lv_at hl 2 rfl) ?_
          refine va_get (ci := 2) (v := .ref (ad 28)) (C := RX2) (T := TX2) (N := 15) hx hb hg inX2 hown hK hP 27 atX_27 rfl 0 (by decide) (hg _ mw_339) (fun _ h9 => h9) rfl dX2_pass_30 ?_
          refine lv_iload hx hb dX2_pass_33 (lv_at hl 0 rfl) ?_
          refine lv_dup2_11 hx hb dX2_pass_35 rfl rfl ?_
          refine va_iald hx hb hK hP 28 18 atX_28 tyX_28 (in_rg r27 (by decide)) dX2_pass_36 ?_
          refine lv_topi (fun x28 e29 => ?_)
          refine lv_iload_n hx hb dX2_pass_37 rfl (lv_at hl 3 rfl) ?_
          refine lv_isub hx hb dX2_pass_38 ?_
          refine lv_topi (fun x30 e31 => ?_)
          refine va_iast hx hb hK hP hD hS 28 18 atX_28 tyX_28 (in_rg r27 (by decide)) dX2_pass_39 (fun H locs hP hD hS => ?_)
          have hq := hq.ast 28 (x25).toNatClampNeg (x := x30) (by decide) (rg_top _)
          rw [setX_28] at hP hD
          have k32 : x30 = (va_up A3 28 (upd (A3 28) (x25).toNatClampNeg x30)) 28 (x25).toNatClampNeg := (rdA).symm
          refine lv_aload_n hx hb dX2_pass_40 rfl (lv_at hl 2 rfl) ?_
          refine va_get (ci := 2) (v := .ref (ad 32)) (C := RX2) (T := TX2) (N := 15) hx hb hg inX2 hown hK hP 27 atX_27 rfl 8 (by decide) (hg _ mw_355) (fun _ h9 => h9) rfl dX2_pass_41 ?_
          refine lv_iload_n hx hb dX2_pass_44 rfl (lv_at hl 4 rfl) ?_
          refine lv_dup2_11 hx hb dX2_pass_45 rfl rfl ?_
          refine va_iald hx hb hK hP 32 22 atX_32 tyX_32 (in_rg r8 (by decide)) dX2_pass_46 ?_
          refine lv_topi (fun x33 e34 => ?_)
          refine lv_iload_n hx hb dX2_pass_47 rfl (lv_at hl 3 rfl) ?_
          refine lv_isub hx hb dX2_pass_48 ?_
          refine lv_topi (fun x35 e36 => ?_)
          refine va_iast hx hb hK hP hD hS 32 22 atX_32 tyX_32 (in_rg r8 (by decide)) dX2_pass_49 (fun H locs hP hD hS => ?_)
          have hq := hq.ast 32 (a1).toNatClampNeg (x := x35) (by decide) (rg_top _)
          rw [setX_32] at hP hD
          have k37 : x35 = (va_up (va_up A3 28 (upd (A3 28) (x25).toNatClampNeg x30)) 32 (upd ((va_up A3 28 (upd (A3 28) (x25).toNatClampNeg x30)) 32) (a1).toNatClampNeg x35)) 32 (a1).toNatClampNeg := (rdA).symm
          refine lv_aload_n hx hb dX2_pass_50 rfl (lv_at hl 2 rfl) ?_
          refine va_get (ci := 2) (v := .ref (ad 33)) (C := RX2) (T := TX2) (N := 15) hx hb hg inX2 hown hK hP 27 atX_27 rfl 9 (by decide) (hg _ mw_356) (fun _ h9 => h9) rfl dX2_pass_51 ?_
          refine lv_iload_n hx hb dX2_pass_54 rfl (lv_at hl 1 rfl) ?_
          refine lv_dup2_11 hx hb dX2_pass_55 rfl rfl ?_
          refine va_iald hx hb hK hP 33 23 atX_33 tyX_33 (in_rg r24 (by decide)) dX2_pass_56 ?_
          refine lv_topi (fun x38 e39 => ?_)
          refine lv_iload_n hx hb dX2_pass_57 rfl (lv_at hl 3 rfl) ?_
          refine lv_isub hx hb dX2_pass_58 ?_
          refine lv_topi (fun x40 e41 => ?_)
          refine va_iast hx hb hK hP hD hS 33 23 atX_33 tyX_33 (in_rg r24 (by decide)) dX2_pass_59 (fun H locs hP hD hS => ?_)
          have hq := hq.ast 33 (x14).toNatClampNeg (x := x40) (by decide) (rg_top _)
          rw [setX_33] at hP hD
          have k42 : x40 = (va_up (va_up (va_up A3 28 (upd (A3 28) (x25).toNatClampNeg x30)) 32 (upd ((va_up A3 28 (upd (A3 28) (x25).toNatClampNeg x30)) 32) (a1).toNatClampNeg x35)) 33 (upd ((va_up (va_up A3 28 (upd (A3 28) (x25).toNatClampNeg x30)) 32 (upd ((va_up A3 28 (upd (A3 28) (x25).toNatClampNeg x30)) 32) (a1).toNatClampNeg x35)) 33) (x14).toNatClampNeg x40)) 33 (x14).toNatClampNeg := (rdA).symm
          refine lv_aload_n hx hb dX2_pass_60 rfl (lv_at hl 2 rfl) ?_
          refine va_get (ci := 2) (v := .ref (ad 28)) (C := RX2) (T := TX2) (N := 15) hx hb hg inX2 hown hK hP 27 atX_27 rfl 0 (by decide) (hg _ mw_339) (fun _ h9 => h9) rfl dX2_pass_61 ?_
          refine lv_iload hx hb dX2_pass_64 (lv_at hl 0 rfl) ?_
          refine va_iald hx hb hK hP 28 18 atX_28 tyX_28 (in_rg r27 (by decide)) dX2_pass_66 ?_
          refine tope (mv (by decide) (mv (by decide) (k32))) ?_
          refine lv_if_ne (tgt := 104) hx hb dX2_pass_67 (by decide) (fun c43 => ?_) (fun c43 => ?_)
          · skip
            exact J104 (F3) (L3) ((va_up (va_up (va_up A3 28 (upd (A3 28) (x25).toNatClampNeg x30)) 32 (upd ((va_up A3 28 (upd (A3 28) (x25).toNatClampNeg x30)) 32) (a1).toNatClampNeg x35)) 33 (upd ((va_up (va_up A3 28 (upd (A3 28) (x25).toNatClampNeg x30)) 32 (upd ((va_up A3 28 (upd (A3 28) (x25).toNatClampNeg x30)) 32) (a1).toNatClampNeg x35)) 33) (x14).toNatClampNeg x40))) (B3) H locs ls hq (e5.symm) hP hD hS (lv_sub hl [2, 3, 4] rfl)
          · skip
            have r44 : rg x30 0 0 := rg_eq1 c43 ((rg_top _) : rg x30 (-2147483648) 2147483647) ((rg_k (by decide)) : rg 0 0 0) (by decide)
            refine lv_aload_n hx hb dX2_pass_70 rfl (lv_at hl 2 rfl) ?_
            refine va_get (ci := 2) (v := .ref (ad 34)) (C := RX2) (T := TX2) (N := 15) hx hb hg inX2 hown hK hP 27 atX_27 rfl 10 (by decide) (hg _ mw_357) (fun _ h9 => h9) rfl dX2_pass_71 ?_
            refine va_get (ci := 1) (v := .ref (ad 35)) (C := RX1) (T := TX1) (N := 5) hx hb hg inX1 hown hK hP 34 atX_34 rfl 0 (by decide) (hg _ mw_321) (fun _ h9 => h9) rfl dX2_pass_74 ?_
            refine lv_iload_n hx hb dX2_pass_77 rfl (lv_at hl 4 rfl) ?_
            refine lv_dup2_11 hx hb dX2_pass_78 rfl rfl ?_
            refine va_iald hx hb hK hP 35 24 atX_35 tyX_35 (in_rg r8 (by decide)) dX2_pass_79 ?_
            refine lv_topi (fun x45 e46 => ?_)
            have r47 : rg x45 0 1023 := rg_e e46 (hq.1.2 35 _)
            refine lv_iconst (v := 1) hx hb dX2_pass_80 (by decide) ?_
            refine lv_iload_n hx hb dX2_pass_81 rfl (lv_at hl 1 rfl) ?_
            refine lv_ishl hx hb dX2_pass_82 ?_
            refine lv_topi (fun x48 e49 => ?_)
            have r50 : rg x48 1 512 := rg_shl1 e49 r24 (by decide)
            refine lv_iconst (v := (-1)) hx hb dX2_pass_83 (by decide) ?_
            refine lv_ixor hx hb dX2_pass_84 ?_
            refine lv_topi (fun x51 e52 => ?_)
            refine lv_iand hx hb dX2_pass_85 ?_
            refine lv_topi (fun x53 e54 => ?_)
            have r55 : rg x53 0 1023 := rg_andl e54 r47 (by decide)
            refine va_iast hx hb hK hP hD hS 35 24 atX_35 tyX_35 (in_rg r8 (by decide)) dX2_pass_86 (fun H locs hP hD hS => ?_)
            have hq := hq.ast 35 (a1).toNatClampNeg (x := x53) (by decide) r55
            rw [setX_35] at hP hD
            have k56 : x53 = (va_up (va_up (va_up (va_up A3 28 (upd (A3 28) (x25).toNatClampNeg x30)) 32 (upd ((va_up A3 28 (upd (A3 28) (x25).toNatClampNeg x30)) 32) (a1).toNatClampNeg x35)) 33 (upd ((va_up (va_up A3 28 (upd (A3 28) (x25).toNatClampNeg x30)) 32 (upd ((va_up A3 28 (upd (A3 28) (x25).toNatClampNeg x30)) 32) (a1).toNatClampNeg x35)) 33) (x14).toNatClampNeg x40)) 35 (upd ((va_up (va_up (va_up A3 28 (upd (A3 28) (x25).toNatClampNeg x30)) 32 (upd ((va_up A3 28 (upd (A3 28) (x25).toNatClampNeg x30)) 32) (a1).toNatClampNeg x35)) 33 (upd ((va_up (va_up A3 28 (upd (A3 28) (x25).toNatClampNeg x30)) 32 (upd ((va_up A3 28 (upd (A3 28) (x25).toNatClampNeg x30)) 32) (a1).toNatClampNeg x35)) 33) (x14).toNatClampNeg x40)) 35) (a1).toNatClampNeg x53)) 35 (a1).toNatClampNeg := (rdA).symm
            refine lv_aload_n hx hb dX2_pass_87 rfl (lv_at hl 2 rfl) ?_
            refine va_get (ci := 2) (v := .ref (ad 40)) (C := RX2) (T := TX2) (N := 15) hx hb hg inX2 hown hK hP 27 atX_27 rfl 11 (by decide) (hg _ mw_358) (fun _ h9 => h9) rfl dX2_pass_88 ?_
            refine va_get (ci := 1) (v := .ref (ad 41)) (C := RX1) (T := TX1) (N := 5) hx hb hg inX1 hown hK hP 40 atX_40 rfl 0 (by decide) (hg _ mw_321) (fun _ h9 => h9) rfl dX2_pass_91 ?_
            refine lv_iload_n hx hb dX2_pass_94 rfl (lv_at hl 1 rfl) ?_
            refine lv_dup2_11 hx hb dX2_pass_95 rfl rfl ?_
            refine va_iald hx hb hK hP 41 29 atX_41 tyX_41 (in_rg r24 (by decide)) dX2_pass_96 ?_
            refine lv_topi (fun x57 e58 => ?_)
            have r59 : rg x57 0 1023 := rg_e e58 (hq.1.2 41 _)
            refine lv_iconst (v := 1) hx hb dX2_pass_97 (by decide) ?_
            refine lv_iload_n hx hb dX2_pass_98 rfl (lv_at hl 4 rfl) ?_
            refine lv_ishl hx hb dX2_pass_99 ?_
            refine lv_topi (fun x60 e61 => ?_)
            have r62 : rg x60 1 128 := rg_shl1 e61 r8 (by decide)
            refine lv_iconst (v := (-1)) hx hb dX2_pass_100 (by decide) ?_
            refine lv_ixor hx hb dX2_pass_101 ?_
            refine lv_topi (fun x63 e64 => ?_)
            refine lv_iand hx hb dX2_pass_102 ?_
            refine lv_topi (fun x65 e66 => ?_)
            have r67 : rg x65 0 1023 := rg_andl e66 r59 (by decide)
            refine va_iast hx hb hK hP hD hS 41 29 atX_41 tyX_41 (in_rg r24 (by decide)) dX2_pass_103 (fun H locs hP hD hS => ?_)
            have hq := hq.ast 41 (x14).toNatClampNeg (x := x65) (by decide) r67
            rw [setX_41] at hP hD
            have k68 : x65 = (va_up (va_up (va_up (va_up (va_up A3 28 (upd (A3 28) (x25).toNatClampNeg x30)) 32 (upd ((va_up A3 28 (upd (A3 28) (x25).toNatClampNeg x30)) 32) (a1).toNatClampNeg x35)) 33 (upd ((va_up (va_up A3 28 (upd (A3 28) (x25).toNatClampNeg x30)) 32 (upd ((va_up A3 28 (upd (A3 28) (x25).toNatClampNeg x30)) 32) (a1).toNatClampNeg x35)) 33) (x14).toNatClampNeg x40)) 35 (upd ((va_up (va_up (va_up A3 28 (upd (A3 28) (x25).toNatClampNeg x30)) 32 (upd ((va_up A3 28 (upd (A3 28) (x25).toNatClampNeg x30)) 32) (a1).toNatClampNeg x35)) 33 (upd ((va_up (va_up A3 28 (upd (A3 28) (x25).toNatClampNeg x30)) 32 (upd ((va_up A3 28 (upd (A3 28) (x25).toNatClampNeg x30)) 32) (a1).toNatClampNeg x35)) 33) (x14).toNatClampNeg x40)) 35) (a1).toNatClampNeg x53)) 41 (upd ((va_up (va_up (va_up (va_up A3 28 (upd (A3 28) (x25).toNatClampNeg x30)) 32 (upd ((va_up A3 28 (upd (A3 28) (x25).toNatClampNeg x30)) 32) (a1).toNatClampNeg x35)) 33 (upd ((va_up (va_up A3 28 (upd (A3 28) (x25).toNatClampNeg x30)) 32 (upd ((va_up A3 28 (upd (A3 28) (x25).toNatClampNeg x30)) 32) (a1).toNatClampNeg x35)) 33) (x14).toNatClampNeg x40)) 35 (upd ((va_up (va_up (va_up A3 28 (upd (A3 28) (x25).toNatClampNeg x30)) 32 (upd ((va_up A3 28 (upd (A3 28) (x25).toNatClampNeg x30)) 32) (a1).toNatClampNeg x35)) 33 (upd ((va_up (va_up A3 28 (upd (A3 28) (x25).toNatClampNeg x30)) 32 (upd ((va_up A3 28 (upd (A3 28) (x25).toNatClampNeg x30)) 32) (a1).toNatClampNeg x35)) 33) (x14).toNatClampNeg x40)) 35) (a1).toNatClampNeg x53)) 41) (x14).toNatClampNeg x65)) 41 (x14).toNatClampNeg := (rdA).symm
            exact J104 (F3) (L3) ((va_up (va_up (va_up (va_up (va_up A3 28 (upd (A3 28) (x25).toNatClampNeg x30)) 32 (upd ((va_up A3 28 (upd (A3 28) (x25).toNatClampNeg x30)) 32) (a1).toNatClampNeg x35)) 33 (upd ((va_up (va_up A3 28 (upd (A3 28) (x25).toNatClampNeg x30)) 32 (upd ((va_up A3 28 (upd (A3 28) (x25).toNatClampNeg x30)) 32) (a1).toNatClampNeg x35)) 33) (x14).toNatClampNeg x40)) 35 (upd ((va_up (va_up (va_up A3 28 (upd (A3 28) (x25).toNatClampNeg x30)) 32 (upd ((va_up A3 28 (upd (A3 28) (x25).toNatClampNeg x30)) 32) (a1).toNatClampNeg x35)) 33 (upd ((va_up (va_up A3 28 (upd (A3 28) (x25).toNatClampNeg x30)) 32 (upd ((va_up A3 28 (upd (A3 28) (x25).toNatClampNeg x30)) 32) (a1).toNatClampNeg x35)) 33) (x14).toNatClampNeg x40)) 35) (a1).toNatClampNeg x53)) 41 (upd ((va_up (va_up (va_up (va_up A3 28 (upd (A3 28) (x25).toNatClampNeg x30)) 32 (upd ((va_up A3 28 (upd (A3 28) (x25).toNatClampNeg x30)) 32) (a1).toNatClampNeg x35)) 33 (upd ((va_up (va_up A3 28 (upd (A3 28) (x25).toNatClampNeg x30)) 32 (upd ((va_up A3 28 (upd (A3 28) (x25).toNatClampNeg x30)) 32) (a1).toNatClampNeg x35)) 33) (x14).toNatClampNeg x40)) 35 (upd ((va_up (va_up (va_up A3 28 (upd (A3 28) (x25).toNatClampNeg x30)) 32 (upd ((va_up A3 28 (upd (A3 28) (x25).toNatClampNeg x30)) 32) (a1).toNatClampNeg x35)) 33 (upd ((va_up (va_up A3 28 (upd (A3 28) (x25).toNatClampNeg x30)) 32 (upd ((va_up A3 28 (upd (A3 28) (x25).toNatClampNeg x30)) 32) (a1).toNatClampNeg x35)) 33) (x14).toNatClampNeg x40)) 35) (a1).toNatClampNeg x53)) 41) (x14).toNatClampNeg x65))) (B3) H locs ls hq (e5.symm) hP hD hS (lv_sub hl [2, 3, 4] rfl)
  exact J2 _ (0) (F) (L) (A) (B) H locs ls (Nat.lt_succ_self _) (rg_k (by decide)) hq hP hD hS (lv_sub hl [1, 2, 0] rfl)
