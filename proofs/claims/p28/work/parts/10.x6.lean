abbrev rm_X11_busiestSet_0 : Room := { frames := 2, cells := 0, slots := 0, locals := 44 }
set_option maxHeartbeats 4000000 in
set_option maxRecDepth 100000 in
theorem c_X11_busiestSet_0 (l : Launch) (D : va_G) (cA : Nat → ClassId) (sz : Nat) (ad : Nat → Nat) (F : Nat → Int32) (L : Nat → Int64) (A : Nat → Nat → Int32) (B : Nat → Nat → Int64)  (hT : typX F A) : Met l yX11_busiestSet (Cond.code yX11_busiestSet cX11_busiestSet 5 (some .int) :: GW) rm_X11_busiestSet_0 (mPc D classes (tysX cA) (wX cA ad F L A B) sz [.ref (ad 0)]) (mQi (S := Unit) D classes (tysX cA) (wX cA ad F L A B) sz (fun _ : Unit => wX cA ad F L A B) (fun r u => rg r 0 255)) 0 0 (va_A (wX cA ad F L A B) sz) := by
  refine met_i (own := "ShoeingDay") (by decide +kernel) rfl (Nat.le_of_ble_eq_true rfl) ?_
  intro p e s m args below meth c Q Af ls hC hP hD hS hA hl hret
  have hx := hC.1
  have hb := hC.2.1
  have hown := hC.2.2.2.1
  have hg := hC.g
  have hK := hC.K
  have hl : lv_has ls 5 [(0, .ref (ad 0))] := hl
  have hq : qX [] [] F A F A := qX.rf hT
  obtain ⟨H, hH⟩ : ∃ H, H = s.heap := ⟨_, rfl⟩
  have hP : va_P D classes (wX cA ad F L A B) H := by rw [hH]; exact hP
  have hS : va_S Af s.heap H [] := by rw [hH]; exact hS
  obtain ⟨locs, hlo⟩ : ∃ q : List Loc, q = [] := ⟨_, rfl⟩
  rw [← hH, ← hlo]
  rw [← hlo] at hS
  refine lv_iconst (v := 0) hx hb dX11_busiestSet_0 (by decide) ?_
  refine lv_istore_n (lv' := [(1, .int 0), (0, .ref (ad 0))]) hx hb dX11_busiestSet_1 rfl hl (by decide) rfl (fun ls hl => ?_)
  refine lv_iconst (v := 0) hx hb dX11_busiestSet_2 (by decide) ?_
  refine lv_istore_n (lv' := [(2, .int 0), (1, .int 0), (0, .ref (ad 0))]) hx hb dX11_busiestSet_3 rfl hl (by decide) rfl (fun ls hl => ?_)
  refine lv_iconst (v := 1) hx hb dX11_busiestSet_4 (by decide) ?_
  refine lv_istore_n (lv' := [(3, .int 1), (2, .int 0), (1, .int 0), (0, .ref (ad 0))]) hx hb dX11_busiestSet_5 rfl hl (by decide) rfl (fun ls hl => ?_)
  have J6 : ∀ (n6 : Nat) (a1 : Int32) (a3 : Int32) (a5 : Int32) (H : Heap) (locs : List Loc) (ls : Array Slot), (256 - a5.toInt).toNat < n6 → rg a1 0 2147483647 → rg a3 0 255 → rg a5 1 256 → va_P D classes (wX cA ad F L A B) H → va_D Af (wX cA ad F L A B) → va_S Af s.heap H locs → lv_has ls 5 [(0, .ref (ad 0)), (1, .int a1), (2, .int a3), (3, .int a5)] → W p l e rm_X11_busiestSet_0 s m args below meth c H locs 0 0 Q (F0 m 6 ls []) := by
    intro n6
    induction n6 with
    | zero =>
      intro _ _ _ _ _ _ hn
      exact absurd hn (Nat.not_lt_zero _)
    | succ n6 ih6 =>
      intro a1 a3 a5 H locs ls hn6 r2 r4 r6 hP hD hS hl
      refine lv_iload_n hx hb dX11_busiestSet_6 rfl (lv_at hl 3 rfl) ?_
      refine lv_iconst (v := 1) hx hb dX11_busiestSet_7 (by decide) ?_
      refine lv_aload_n hx hb dX11_busiestSet_8 rfl (lv_at hl 0 rfl) ?_
      refine va_get (ci := 11) (v := .ref (ad 11)) (C := RX11) (T := TX11) (N := 13) hx hb hg inX11 hown hK hP 0 atX_0 rfl 10 (by decide) (hg _ mw_535) (fun _ h9 => h9) rfl dX11_busiestSet_9 ?_
      refine va_get (ci := 10) (v := .int (F 15)) (C := RX10) (T := TX10) (N := 12) hx hb hg inX10 hown hK hP 11 atX_11 rfl 6 (by decide) (hg _ mw_169) (fun _ h9 => h9) rfl dX11_busiestSet_12 ?_
      refine lv_topi (fun x7 e8 => ?_)
      have r9 : rg x7 0 8 := rg_e e8 (hq.1.1 15)
      refine lv_ishl hx hb dX11_busiestSet_15 ?_
      refine lv_topi (fun x10 e11 => ?_)
      have r12 : rg x10 1 256 := rg_shl1 e11 r9 (by decide)
      refine lv_icmp_ge (tgt := 43) hx hb dX11_busiestSet_16 (by decide) (fun c13 => ?_) (fun c13 => ?_)
      · skip
        refine lv_iload_n hx hb dX11_busiestSet_43 rfl (lv_at hl 2 rfl) ?_
        exact hret (a3) () H locs 44 ls rfl dX11_busiestSet_44 hP hD hS r4
      · skip
        have r14 : rg a5 1 255 := rg_lt1 (iNE c13) (r6 : rg a5 1 256) (r12 : rg x10 1 256)
        have r15 : rg x10 2 256 := rg_lt2 (iNE c13) (r6 : rg a5 1 256) (r12 : rg x10 1 256)
        refine lv_aload_n hx hb dX11_busiestSet_19 rfl (lv_at hl 0 rfl) ?_
        refine lv_iload_n hx hb dX11_busiestSet_20 rfl (lv_at hl 3 rfl) ?_
        refine callv_i (As := [.int a5]) (rest := []) hC (c_X11_mustDo_0 l D cA H.size ad F L A B (a5) hq.1 (rg_w r14 (by decide))) (cwV 1 hg (g_V mw_933 mw_930 mw_932 ms_40 mw_1) rfl rfl rfl (by decide +kernel) ⟨(Nat.le_of_ble_eq_true rfl), (Nat.le_of_ble_eq_true rfl)⟩) hP hD hS hA atX_0 rfl rfl hl.1 rfl (Nat.le_of_ble_eq_true rfl) dX11_busiestSet_21 ⟨Nat.zero_le _, Nat.zero_le _⟩ (fun x16 u H locs hw hP hD hS => ?_)
        have hP : va_P D classes (wX cA ad F L A B) H := hP
        have hD : va_D Af (wX cA ad F L A B) := hD
        refine lv_istore (lv' := [(4, .int x16), (0, .ref (ad 0)), (1, .int a1), (2, .int a3), (3, .int a5)]) hx hb dX11_busiestSet_24 hl (by decide) rfl (fun ls hl => ?_)
        refine lv_iload hx hb dX11_busiestSet_26 (lv_at hl 0 rfl) ?_
        refine lv_iload_n hx hb dX11_busiestSet_28 rfl (lv_at hl 2 rfl) ?_
        have J37 : ∀ (a17 : Int32) (a19 : Int32) (H : Heap) (locs : List Loc) (ls : Array Slot), rg a17 0 2147483647 → rg a19 0 255 → va_P D classes (wX cA ad F L A B) H → va_D Af (wX cA ad F L A B) → va_S Af s.heap H locs → lv_has ls 5 [(0, .ref (ad 0)), (1, .int a17), (2, .int a19), (3, .int a5)] → W p l e rm_X11_busiestSet_0 s m args below meth c H locs 0 0 Q (F0 m 37 ls []) := by
          intro a17 a19 H locs ls r18 r20 hP hD hS hl
          obtain ⟨x21, e22⟩ : ∃ y : Int32, y = a5 + 1 := ⟨_, rfl⟩
          have r23 : rg x21 2 256 := rg_add e22 r14 (rg_k (by decide) : rg 1 1 1) (by decide)
          refine lv_iinc (v := x21) (lv' := [(3, .int x21), (0, .ref (ad 0)), (1, .int a17), (2, .int a19)]) hx hb dX11_busiestSet_37 hl (k := 3) rfl (by rw [e22]; rfl) (by decide) rfl (fun ls hl => ?_)
          refine lv_goto (tgt := 6) hx hb dX11_busiestSet_40 (by decide) ?_
          exact ih6 (a17) (a19) (x21) H locs ls (by have h0 : (1 : Int32).toInt = 1 := rfl; have h1 := ti_addk e22 r14 (by decide); have h2 : rg x21 1 256 := (rg_w r23 (by decide)); unfold rg at h2; omega) r18 r20 (rg_w r23 (by decide)) hP hD hS (lv_sub hl [1, 2, 3, 0] rfl)
        refine lv_icmp_le (tgt := 37) hx hb dX11_busiestSet_29 (by decide) (fun c24 => ?_) (fun c24 => ?_)
        · skip
          exact J37 (a1) (a3) H locs ls r2 r4 hP hD hS (lv_sub hl [1, 2, 3, 4] rfl)
        · skip
          have r25 : rg a1 0 2147483646 := rg_lt1 (iNE c24) (r2 : rg a1 0 2147483647) ((rg_top _) : rg x16 (-2147483648) 2147483647)
          have r26 : rg x16 1 2147483647 := rg_lt2 (iNE c24) (r2 : rg a1 0 2147483647) ((rg_top _) : rg x16 (-2147483648) 2147483647)
          refine lv_iload hx hb dX11_busiestSet_32 (lv_at hl 0 rfl) ?_
          refine lv_istore_n (lv' := [(1, .int x16), (4, .int x16), (0, .ref (ad 0)), (2, .int a3), (3, .int a5)]) hx hb dX11_busiestSet_34 rfl hl (by decide) rfl (fun ls hl => ?_)
          refine lv_iload_n hx hb dX11_busiestSet_35 rfl (lv_at hl 4 rfl) ?_
          refine lv_istore_n (lv' := [(2, .int a5), (1, .int x16), (4, .int x16), (0, .ref (ad 0)), (3, .int a5)]) hx hb dX11_busiestSet_36 rfl hl (by decide) rfl (fun ls hl => ?_)
          exact J37 (x16) (a5) H locs ls (rg_w r26 (by decide)) (rg_w r14 (by decide)) hP hD hS (lv_sub hl [3, 1, 0, 4] rfl)
  exact J6 _ (0) (0) (1) H locs ls (Nat.lt_succ_self _) (rg_k (by decide)) (rg_k (by decide)) (rg_k (by decide)) hP hD hS (lv_sub hl [3, 2, 1, 0] rfl)
abbrev rm_X11_sumSmiths_0 : Room := { frames := 2, cells := 0, slots := 0, locals := 44 }
set_option maxHeartbeats 4000000 in
set_option maxRecDepth 100000 in
theorem c_X11_sumSmiths_0 (l : Launch) (D : va_G) (cA : Nat → ClassId) (sz : Nat) (ad : Nat → Nat) (F : Nat → Int32) (L : Nat → Int64) (A : Nat → Nat → Int32) (B : Nat → Nat → Int64)  (hT : typX F A) : Met l yX11_sumSmiths (Cond.code yX11_sumSmiths cX11_sumSmiths 2 none :: GW) rm_X11_sumSmiths_0 (mPc D classes (tysX cA) (wX cA ad F L A B) sz [.ref (ad 0)]) (mQv (S := SW) D classes (tysX cA) (wX cA ad F L A B) sz (wfX cA ad) (fun u => qX [] [70] F A u.1 u.2.2.1)) 0 0 (va_A (wX cA ad F L A B) sz) := by
  refine met_v (own := "ShoeingDay") (by decide +kernel) rfl (Nat.le_of_ble_eq_true rfl) ?_
  intro p e s m args below meth c Q Af ls hC hP hD hS hA hl hret
  have hx := hC.1
  have hb := hC.2.1
  have hown := hC.2.2.2.1
  have hg := hC.g
  have hK := hC.K
  have hl : lv_has ls 2 [(0, .ref (ad 0))] := hl
  have hq : qX [] [70] F A F A := qX.rf hT
  obtain ⟨H, hH⟩ : ∃ H, H = s.heap := ⟨_, rfl⟩
  have hP : va_P D classes (wX cA ad F L A B) H := by rw [hH]; exact hP
  have hS : va_S Af s.heap H [] := by rw [hH]; exact hS
  obtain ⟨locs, hlo⟩ : ∃ q : List Loc, q = [] := ⟨_, rfl⟩
  rw [← hH, ← hlo]
  rw [← hlo] at hS
  refine lv_iconst (v := 0) hx hb dX11_sumSmiths_0 (by decide) ?_
  refine lv_istore_n (lv' := [(1, .int 0), (0, .ref (ad 0))]) hx hb dX11_sumSmiths_1 rfl hl (by decide) rfl (fun ls hl => ?_)
  have J2 : ∀ (n2 : Nat) (a1 : Int32) (F3 : Nat → Int32) (L3 : Nat → Int64) (A3 : Nat → Nat → Int32) (B3 : Nat → Nat → Int64) (H : Heap) (locs : List Loc) (ls : Array Slot), (8 - a1.toInt).toNat < n2 → rg a1 0 8 → qX [] [70] F A F3 A3 → va_P D classes (wX cA ad F3 L3 A3 B3) H → va_D Af (wX cA ad F3 L3 A3 B3) → va_S Af s.heap H locs → lv_has ls 2 [(0, .ref (ad 0)), (1, .int a1)] → W p l e rm_X11_sumSmiths_0 s m args below meth c H locs 0 0 Q (F0 m 2 ls []) := by
    intro n2
    induction n2 with
    | zero =>
      intro _ _ _ _ _ _ _ _ hn
      exact absurd hn (Nat.not_lt_zero _)
    | succ n2 ih2 =>
      intro a1 F3 L3 A3 B3 H locs ls hn2 r2 hq hP hD hS hl
      refine lv_iload_n hx hb dX11_sumSmiths_2 rfl (lv_at hl 1 rfl) ?_
      refine lv_aload_n hx hb dX11_sumSmiths_3 rfl (lv_at hl 0 rfl) ?_
      refine va_get (ci := 11) (v := .ref (ad 11)) (C := RX11) (T := TX11) (N := 13) hx hb hg inX11 hown hK hP 0 atX_0 rfl 10 (by decide) (hg _ mw_535) (fun _ h9 => h9) rfl dX11_sumSmiths_4 ?_
      refine va_get (ci := 10) (v := .int (F3 15)) (C := RX10) (T := TX10) (N := 12) hx hb hg inX10 hown hK hP 11 atX_11 rfl 6 (by decide) (hg _ mw_169) (fun _ h9 => h9) rfl dX11_sumSmiths_7 ?_
      refine lv_topi (fun x4 e5 => ?_)
      have r6 : rg x4 0 8 := rg_e e5 (hq.1.1 15)
      refine lv_icmp_ge (tgt := 33) hx hb dX11_sumSmiths_10 (by decide) (fun c7 => ?_) (fun c7 => ?_)
      · skip
        exact hret (F3, L3, A3, B3) H locs 33 ls dX11_sumSmiths_33 hP hD hS hq
      · skip
        have r8 : rg a1 0 7 := rg_lt1 (iNE c7) (r2 : rg a1 0 8) (r6 : rg x4 0 8)
        have r9 : rg x4 1 8 := rg_lt2 (iNE c7) (r2 : rg a1 0 8) (r6 : rg x4 0 8)
        refine lv_aload_n hx hb dX11_sumSmiths_13 rfl (lv_at hl 0 rfl) ?_
        refine va_get (ci := 11) (v := .ref (ad 70)) (C := RX11) (T := TX11) (N := 13) hx hb hg inX11 hown hK hP 0 atX_0 rfl 9 (by decide) (hg _ mw_534) (fun _ h9 => h9) rfl dX11_sumSmiths_14 ?_
        refine lv_iload_n hx hb dX11_sumSmiths_17 rfl (lv_at hl 1 rfl) ?_
        refine lv_aload_n hx hb dX11_sumSmiths_18 rfl (lv_at hl 0 rfl) ?_
        refine va_get (ci := 11) (v := .ref (ad 18)) (C := RX11) (T := TX11) (N := 13) hx hb hg inX11 hown hK hP 0 atX_0 rfl 2 (by decide) (hg _ mw_527) (fun _ h9 => h9) rfl dX11_sumSmiths_19 ?_
        refine lv_iload_n hx hb dX11_sumSmiths_22 rfl (lv_at hl 1 rfl) ?_
        refine callv_i (As := [.int a1]) (rest := [.int a1, .ref (ad 70)]) hC (c_X3_ofSmith_18 l D cA H.size ad F3 L3 A3 B3 (a1) hq.1 r8) (cwV 1 hg (g_V mw_749 mw_746 mw_747 mw_748 mw_9) rfl rfl rfl (by decide +kernel) ⟨(Nat.le_of_ble_eq_true rfl), (Nat.le_of_ble_eq_true rfl)⟩) hP hD hS hA atX_18 rfl rfl hl.1 rfl (Nat.le_of_ble_eq_true rfl) dX11_sumSmiths_23 ⟨Nat.zero_le _, Nat.zero_le _⟩ (fun x10 u H locs hw hP hD hS => ?_)
        have hP : va_P D classes (wX cA ad F3 L3 A3 B3) H := hP
        have hD : va_D Af (wX cA ad F3 L3 A3 B3) := hD
        refine va_iast hx hb hK hP hD hS 70 55 atX_70 tyX_70 (in_rg r8 (by decide)) dX11_sumSmiths_26 (fun H locs hP hD hS => ?_)
        have hq := hq.ast 70 (a1).toNatClampNeg (x := x10) (by decide) (rg_top _)
        rw [setX_70] at hP hD
        have k11 : x10 = (va_up A3 70 (upd (A3 70) (a1).toNatClampNeg x10)) 70 (a1).toNatClampNeg := (rdA).symm
        obtain ⟨x12, e13⟩ : ∃ y : Int32, y = a1 + 1 := ⟨_, rfl⟩
        have r14 : rg x12 1 8 := rg_add e13 r8 (rg_k (by decide) : rg 1 1 1) (by decide)
        refine lv_iinc (v := x12) (lv' := [(1, .int x12), (0, .ref (ad 0))]) hx hb dX11_sumSmiths_27 hl (k := 1) rfl (by rw [e13]; rfl) (by decide) rfl (fun ls hl => ?_)
        refine lv_goto (tgt := 2) hx hb dX11_sumSmiths_30 (by decide) ?_
        exact ih2 (x12) (F3) (L3) ((va_up A3 70 (upd (A3 70) (a1).toNatClampNeg x10))) (B3) H locs ls (by have h0 : (1 : Int32).toInt = 1 := rfl; have h1 := ti_addk e13 r8 (by decide); have h2 : rg x12 0 8 := (rg_w r14 (by decide)); unfold rg at h2; omega) (rg_w r14 (by decide)) hq hP hD hS (lv_sub hl [1, 0] rfl)
  exact J2 _ (0) (F) (L) (A) (B) H locs ls (Nat.lt_succ_self _) (rg_k (by decide)) hq hP hD hS (lv_sub hl [1, 0] rfl)
abbrev rm_X11_even_0 : Room := { frames := 3, cells := 0, slots := 0, locals := 68 }
set_option maxHeartbeats 4000000 in
set_option maxRecDepth 100000 in
theorem c_X11_even_0 (l : Launch) (D : va_G) (cA : Nat → ClassId) (sz : Nat) (ad : Nat → Nat) (F : Nat → Int32) (L : Nat → Int64) (A : Nat → Nat → Int32) (B : Nat → Nat → Int64)  (hT : typX F A) : Met l yX11_even (Cond.code yX11_even cX11_even 1 (some .int) :: GW) rm_X11_even_0 (mPc D classes (tysX cA) (wX cA ad F L A B) sz [.ref (ad 0)]) (mQi (S := SW) D classes (tysX cA) (wX cA ad F L A B) sz (wfX cA ad) (fun r u => qX [] [70] F A u.1 u.2.2.1)) 0 0 (va_A (wX cA ad F L A B) sz) := by
  refine met_i (own := "ShoeingDay") (by decide +kernel) rfl (Nat.le_of_ble_eq_true rfl) ?_
  intro p e s m args below meth c Q Af ls hC hP hD hS hA hl hret
  have hx := hC.1
  have hb := hC.2.1
  have hown := hC.2.2.2.1
  have hg := hC.g
  have hK := hC.K
  have hl : lv_has ls 1 [(0, .ref (ad 0))] := hl
  have hq : qX [] [70] F A F A := qX.rf hT
  obtain ⟨H, hH⟩ : ∃ H, H = s.heap := ⟨_, rfl⟩
  have hP : va_P D classes (wX cA ad F L A B) H := by rw [hH]; exact hP
  have hS : va_S Af s.heap H [] := by rw [hH]; exact hS
  obtain ⟨locs, hlo⟩ : ∃ q : List Loc, q = [] := ⟨_, rfl⟩
  rw [← hH, ← hlo]
  rw [← hlo] at hS
  refine lv_aload_n hx hb dX11_even_0 rfl (lv_at hl 0 rfl) ?_
  refine callv_v (As := []) (rest := []) hC (c_X11_sumSmiths_0 l D cA H.size ad F L A B  hq.1) (cwV 0 hg (g_V mw_925 mw_922 mw_924 ms_38 mw_1) rfl rfl rfl (by decide +kernel) ⟨(Nat.le_of_ble_eq_true rfl), (Nat.le_of_ble_eq_true rfl)⟩) hP hD hS hA atX_0 rfl rfl hl.1 rfl (Nat.le_of_ble_eq_true rfl) dX11_even_1 ⟨Nat.zero_le _, Nat.zero_le _⟩ (fun  u H locs hw hP hD hS => ?_)
  obtain ⟨F1, L1, A1, B1⟩ := u
  try dsimp only at hw
  have hq1 := hw
  have hq := hq.call hq1 (by decide)
  have hP : va_P D classes (wX cA ad F1 L1 A1 B1) H := hP
  have hD : va_D Af (wX cA ad F1 L1 A1 B1) := hD
  refine lv_aload_n hx hb dX11_even_4 rfl (lv_at hl 0 rfl) ?_
  refine lv_aload_n hx hb dX11_even_5 rfl (lv_at hl 0 rfl) ?_
  refine callv_i (As := []) (rest := [.ref (ad 0)]) hC (c_X11_busiestSet_0 l D cA H.size ad F1 L1 A1 B1  hq.1) (cwV 0 hg (g_V mw_929 mw_926 mw_928 ms_39 mw_1) rfl rfl rfl (by decide +kernel) ⟨(Nat.le_of_ble_eq_true rfl), (Nat.le_of_ble_eq_true rfl)⟩) hP hD hS hA atX_0 rfl rfl hl.1 rfl (Nat.le_of_ble_eq_true rfl) dX11_even_6 ⟨Nat.zero_le _, Nat.zero_le _⟩ (fun x2 u H locs hw hP hD hS => ?_)
  have r3 := hw
  have hP : va_P D classes (wX cA ad F1 L1 A1 B1) H := hP
  have hD : va_D Af (wX cA ad F1 L1 A1 B1) := hD
  refine callv_i (As := [.int x2]) (rest := []) hC (c_X11_mustDo_0 l D cA H.size ad F1 L1 A1 B1 (x2) hq.1 r3) (cwV 1 hg (g_V mw_933 mw_930 mw_932 ms_40 mw_1) rfl rfl rfl (by decide +kernel) ⟨(Nat.le_of_ble_eq_true rfl), (Nat.le_of_ble_eq_true rfl)⟩) hP hD hS hA atX_0 rfl rfl hl.1 rfl (Nat.le_of_ble_eq_true rfl) dX11_even_9 ⟨Nat.zero_le _, Nat.zero_le _⟩ (fun x4 u H locs hw hP hD hS => ?_)
  have hP : va_P D classes (wX cA ad F1 L1 A1 B1) H := hP
  have hD : va_D Af (wX cA ad F1 L1 A1 B1) := hD
  exact hret (x4) (F1, L1, A1, B1) H locs 12 ls rfl dX11_even_12 hP hD hS hq
abbrev rm_X11_proof_0 : Room := { frames := 3, cells := 0, slots := 0, locals := 68 }
set_option maxHeartbeats 4000000 in
set_option maxRecDepth 100000 in
theorem c_X11_proof_0 (l : Launch) (D : va_G) (cA : Nat → ClassId) (sz : Nat) (ad : Nat → Nat) (F : Nat → Int32) (L : Nat → Int64) (A : Nat → Nat → Int32) (B : Nat → Nat → Int64)  (hT : typX F A) : Met l yX11_proof (Cond.code yX11_proof cX11_proof 1 (some .int) :: GW) rm_X11_proof_0 (mPc D classes (tysX cA) (wX cA ad F L A B) sz [.ref (ad 0)]) (mQi (S := SW) D classes (tysX cA) (wX cA ad F L A B) sz (wfX cA ad) (fun r u => qX [] [70] F A u.1 u.2.2.1 ∧ rg r 0 255)) 0 0 (va_A (wX cA ad F L A B) sz) := by
  refine met_i (own := "ShoeingDay") (by decide +kernel) rfl (Nat.le_of_ble_eq_true rfl) ?_
  intro p e s m args below meth c Q Af ls hC hP hD hS hA hl hret
  have hx := hC.1
  have hb := hC.2.1
  have hown := hC.2.2.2.1
  have hg := hC.g
  have hK := hC.K
  have hl : lv_has ls 1 [(0, .ref (ad 0))] := hl
  have hq : qX [] [70] F A F A := qX.rf hT
  obtain ⟨H, hH⟩ : ∃ H, H = s.heap := ⟨_, rfl⟩
  have hP : va_P D classes (wX cA ad F L A B) H := by rw [hH]; exact hP
  have hS : va_S Af s.heap H [] := by rw [hH]; exact hS
  obtain ⟨locs, hlo⟩ : ∃ q : List Loc, q = [] := ⟨_, rfl⟩
  rw [← hH, ← hlo]
  rw [← hlo] at hS
  refine lv_aload_n hx hb dX11_proof_0 rfl (lv_at hl 0 rfl) ?_
  refine callv_v (As := []) (rest := []) hC (c_X11_sumSmiths_0 l D cA H.size ad F L A B  hq.1) (cwV 0 hg (g_V mw_925 mw_922 mw_924 ms_38 mw_1) rfl rfl rfl (by decide +kernel) ⟨(Nat.le_of_ble_eq_true rfl), (Nat.le_of_ble_eq_true rfl)⟩) hP hD hS hA atX_0 rfl rfl hl.1 rfl (Nat.le_of_ble_eq_true rfl) dX11_proof_1 ⟨Nat.zero_le _, Nat.zero_le _⟩ (fun  u H locs hw hP hD hS => ?_)
  obtain ⟨F1, L1, A1, B1⟩ := u
  try dsimp only at hw
  have hq1 := hw
  have hq := hq.call hq1 (by decide)
  have hP : va_P D classes (wX cA ad F1 L1 A1 B1) H := hP
  have hD : va_D Af (wX cA ad F1 L1 A1 B1) := hD
  refine lv_aload_n hx hb dX11_proof_4 rfl (lv_at hl 0 rfl) ?_
  refine callv_i (As := []) (rest := []) hC (c_X11_busiestSet_0 l D cA H.size ad F1 L1 A1 B1  hq.1) (cwV 0 hg (g_V mw_929 mw_926 mw_928 ms_39 mw_1) rfl rfl rfl (by decide +kernel) ⟨(Nat.le_of_ble_eq_true rfl), (Nat.le_of_ble_eq_true rfl)⟩) hP hD hS hA atX_0 rfl rfl hl.1 rfl (Nat.le_of_ble_eq_true rfl) dX11_proof_5 ⟨Nat.zero_le _, Nat.zero_le _⟩ (fun x2 u H locs hw hP hD hS => ?_)
  have r3 := hw
  have hP : va_P D classes (wX cA ad F1 L1 A1 B1) H := hP
  have hD : va_D Af (wX cA ad F1 L1 A1 B1) := hD
  exact hret (x2) (F1, L1, A1, B1) H locs 8 ls rfl dX11_proof_8 hP hD hS ⟨hq, r3⟩
abbrev rm_X0_add_20_18 : Room := { frames := 2, cells := 0, slots := 0, locals := 66 }
set_option maxHeartbeats 4000000 in
set_option maxRecDepth 100000 in
theorem c_X0_add_20_18 (l : Launch) (D : va_G) (cA : Nat → ClassId) (sz : Nat) (ad : Nat → Nat) (F : Nat → Int32) (L : Nat → Int64) (A : Nat → Nat → Int32) (B : Nat → Nat → Int64)  (hT : typX F A) (hI : xX F) : Met l yX0_add (Cond.code yX0_add cX0_add 2 none :: GW) rm_X0_add_20_18 (mPc D classes (tysX cA) (wX cA ad F L A B) sz [.ref (ad 20), .ref (ad 18)]) (mQv (S := SW) D classes (tysX cA) (wX cA ad F L A B) sz (wfX cA ad) (fun u => qX [24, 25, 26] [22, 23] F A u.1 u.2.2.1 ∧ xX u.1)) 0 0 (va_A (wX cA ad F L A B) sz) := by
  refine met_v (own := "ShoeingDay$Acts") (by decide +kernel) rfl (Nat.le_of_ble_eq_true rfl) ?_
  intro p e s m args below meth c Q Af ls hC hP hD hS hA hl hret
  have hx := hC.1
  have hb := hC.2.1
  have hown := hC.2.2.2.1
  have hg := hC.g
  have hK := hC.K
  have hl : lv_has ls 2 [(0, .ref (ad 20)), (1, .ref (ad 18))] := hl
  have hq : qX [24, 25, 26] [22, 23] F A F A := qX.rf hT
  obtain ⟨H, hH⟩ : ∃ H, H = s.heap := ⟨_, rfl⟩
  have hP : va_P D classes (wX cA ad F L A B) H := by rw [hH]; exact hP
  have hS : va_S Af s.heap H [] := by rw [hH]; exact hS
  obtain ⟨locs, hlo⟩ : ∃ q : List Loc, q = [] := ⟨_, rfl⟩
  rw [← hH, ← hlo]
  rw [← hlo] at hS
  refine lv_aload_n hx hb dX0_add_0 rfl (lv_at hl 0 rfl) ?_
  refine lv_iconst (v := 0) hx hb dX0_add_1 (by decide) ?_
  refine va_put (ci := 0) (v := .int 0) (ty := .int) (C := RX0) (T := TX0) (N := 4) hx hb hg inX0 tyX0 tyX0_ok nmX0 hown hK hP hD hS 20 atX_20 rfl 3 (by decide) (hg _ mw_295) (fun _ h9 => h9) rfl (by decide +kernel) rfl rfl (Nat.le_of_ble_eq_true rfl) dX0_add_2 (fun H locs hP hD hS => ?_)
  have hq := hq.put 26 (x := 0) (by decide) (rg_k (by decide))
  rw [setFX_26] at hP hD
  refine lv_aload_n hx hb dX0_add_5 rfl (lv_at hl 0 rfl) ?_
  refine va_get (ci := 0) (v := .int (F 25)) (C := RX0) (T := TX0) (N := 4) hx hb hg inX0 hown hK hP 20 atX_20 rfl 2 (by decide) (hg _ mw_293) (fun _ h9 => h9) rfl dX0_add_6 ?_
  refine lv_topi (fun x1 e2 => ?_)
  have r3 : rg x1 0 40 := rg_e e2 (hq.1.1 25)
  refine lv_bipush (v := 40) hx hb dX0_add_9 (by decide) ?_
  have J40 : ∀ (F4 : Nat → Int32) (L4 : Nat → Int64) (A4 : Nat → Nat → Int32) (B4 : Nat → Nat → Int64) (a5 : Int32) (H : Heap) (locs : List Loc) (ls : Array Slot), qX [24, 25, 26] [22, 23] F A F4 A4 → F4 25 = a5 → rg a5 1 40 → F4 26 = 0 → va_P D classes (wX cA ad F4 L4 A4 B4) H → va_D Af (wX cA ad F4 L4 A4 B4) → va_S Af s.heap H locs → lv_has ls 2 [(0, .ref (ad 20)), (1, .ref (ad 18))] → W p l e rm_X0_add_20_18 s m args below meth c H locs 0 0 Q (F0 m 40 ls []) := by
    intro F4 L4 A4 B4 a5 H locs ls hq f6 r7 f8 hP hD hS hl
    refine lv_aload_n hx hb dX0_add_40 rfl (lv_at hl 0 rfl) ?_
    refine va_get (ci := 0) (v := .ref (ad 21)) (C := RX0) (T := TX0) (N := 4) hx hb hg inX0 hown hK hP 20 atX_20 rfl 0 (by decide) (hg _ mw_291) (fun _ h9 => h9) rfl dX0_add_41 ?_
    refine lv_aload_n hx hb dX0_add_44 rfl (lv_at hl 0 rfl) ?_
    refine va_get (ci := 0) (v := .int (F4 24)) (C := RX0) (T := TX0) (N := 4) hx hb hg inX0 hown hK hP 20 atX_20 rfl 1 (by decide) (hg _ mw_292) (fun _ h9 => h9) rfl dX0_add_45 ?_
    refine lv_topi (fun x9 e10 => ?_)
    have r11 : rg x9 0 40 := rg_e e10 (hq.1.1 24)
    refine lv_aload_n hx hb dX0_add_48 rfl (lv_at hl 0 rfl) ?_
    refine va_get (ci := 0) (v := .int a5) (C := RX0) (T := TX0) (N := 4) hx hb hg inX0 hown hK hP 20 atX_20 rfl 2 (by decide) (hg _ mw_293) (fun _ h9 => h9) (congrArg (fun z => some (Value.int z)) (f6)) dX0_add_49 ?_
    refine lv_iadd hx hb dX0_add_52 ?_
    refine lv_topi (fun x12 e13 => ?_)
    have r14 : rg x12 1 80 := rg_add e13 r11 r7 (by decide)
    refine lv_bipush (v := 41) hx hb dX0_add_53 (by decide) ?_
    refine lv_irem hx hb dX0_add_55 (by decide) ?_
    refine lv_topi (fun x15 e16 => ?_)
    have r17 : rg x15 0 40 := rg_rem e16 r14 ((rg_k (by decide)) : rg 41 41 41) (by decide)
    refine lv_aload_n hx hb dX0_add_56 rfl (lv_at hl 1 rfl) ?_
    refine callv_v (As := [.int x15, .ref (ad 18)]) (rest := []) hC (c_X7_keep_21_18 l D cA H.size ad F4 L4 A4 B4 (x15) hq.1 r17) (cwV 2 hg (g_V mw_521 mw_518 mw_519 mw_520 mw_11) rfl rfl rfl (by decide +kernel) ⟨(Nat.le_of_ble_eq_true rfl), (Nat.le_of_ble_eq_true rfl)⟩) hP hD hS hA atX_21 rfl rfl hl.1 rfl (Nat.le_of_ble_eq_true rfl) dX0_add_57 ⟨Nat.zero_le _, Nat.zero_le _⟩ (fun  u H locs hw hP hD hS => ?_)
    obtain ⟨F18, L18, A18, B18⟩ := u
    try dsimp only at hw
    have hq18 := hw
    have hq := hq.call hq18 (by decide)
    have hP : va_P D classes (wX cA ad F18 L18 A18 B18) H := hP
    have hD : va_D Af (wX cA ad F18 L18 A18 B18) := hD
    exact hret (F18, L18, A18, B18) H locs 60 ls dX0_add_60 hP hD hS ⟨hq, (xX.of (a := a5) (b := (0 : Int32)) ((hq18.2.1 25 (by decide)).trans (f6)) ((hq18.2.1 26 (by decide)).trans (f8)) (by have h1 := (r7 : rg a5 1 40); have h2 := ((rg_k (by decide)) : rg (0 : Int32) 0 0); unfold rg at h1 h2; omega))⟩
  refine lv_icmp_ge (tgt := 27) hx hb dX0_add_11 (by decide) (fun c19 => ?_) (fun c19 => ?_)
  · skip
    have r20 : rg x1 40 40 := rg_le2 (iE c19) ((rg_k (by decide)) : rg 40 40 40) (r3 : rg x1 0 40)
    refine lv_aload_n hx hb dX0_add_27 rfl (lv_at hl 0 rfl) ?_
    refine lv_aload_n hx hb dX0_add_28 rfl (lv_at hl 0 rfl) ?_
    refine va_get (ci := 0) (v := .int (F 24)) (C := RX0) (T := TX0) (N := 4) hx hb hg inX0 hown hK hP 20 atX_20 rfl 1 (by decide) (hg _ mw_292) (fun _ h9 => h9) rfl dX0_add_29 ?_
    refine lv_topi (fun x22 e23 => ?_)
    have r24 : rg x22 0 40 := rg_e e23 (hq.1.1 24)
    refine lv_iconst (v := 1) hx hb dX0_add_32 (by decide) ?_
    refine lv_iadd hx hb dX0_add_33 ?_
    refine lv_topi (fun x25 e26 => ?_)
    have r27 : rg x25 1 41 := rg_add e26 r24 ((rg_k (by decide)) : rg 1 1 1) (by decide)
    refine lv_bipush (v := 41) hx hb dX0_add_34 (by decide) ?_
    refine lv_irem hx hb dX0_add_36 (by decide) ?_
    refine lv_topi (fun x28 e29 => ?_)
    have r30 : rg x28 0 40 := rg_rem e29 r27 ((rg_k (by decide)) : rg 41 41 41) (by decide)
    refine va_put (ci := 0) (v := .int x28) (ty := .int) (C := RX0) (T := TX0) (N := 4) hx hb hg inX0 tyX0 tyX0_ok nmX0 hown hK hP hD hS 20 atX_20 rfl 1 (by decide) (hg _ mw_292) (fun _ h9 => h9) rfl (by decide +kernel) rfl rfl (Nat.le_of_ble_eq_true rfl) dX0_add_37 (fun H locs hP hD hS => ?_)
    have hq := hq.put 24 (x := x28) (by decide) r30
    rw [setFX_24] at hP hD
    exact J40 ((upd (upd F 26 (0 : Int32)) 24 x28)) (L) (A) (B) (x1) H locs ls hq (e2.symm) (rg_w r20 (by decide)) (rfl) hP hD hS (lv_sub hl [0, 1] rfl)
  · skip
    have r21 : rg x1 0 39 := rg_lt1 (iNE c19) (r3 : rg x1 0 40) ((rg_k (by decide)) : rg 40 40 40)
    refine lv_aload_n hx hb dX0_add_14 rfl (lv_at hl 0 rfl) ?_
    refine lv_dup hx hb dX0_add_15 rfl ?_
    refine va_get (ci := 0) (v := .int x1) (C := RX0) (T := TX0) (N := 4) hx hb hg inX0 hown hK hP 20 atX_20 rfl 2 (by decide) (hg _ mw_293) (fun _ h9 => h9) (congrArg (fun z => some (Value.int z)) (e2.symm)) dX0_add_16 ?_
    refine lv_iconst (v := 1) hx hb dX0_add_19 (by decide) ?_
    refine lv_iadd hx hb dX0_add_20 ?_
    refine lv_topi (fun x31 e32 => ?_)
    have r33 : rg x31 1 40 := rg_add e32 r21 ((rg_k (by decide)) : rg 1 1 1) (by decide)
    refine va_put (ci := 0) (v := .int x31) (ty := .int) (C := RX0) (T := TX0) (N := 4) hx hb hg inX0 tyX0 tyX0_ok nmX0 hown hK hP hD hS 20 atX_20 rfl 2 (by decide) (hg _ mw_293) (fun _ h9 => h9) rfl (by decide +kernel) rfl rfl (Nat.le_of_ble_eq_true rfl) dX0_add_21 (fun H locs hP hD hS => ?_)
    have hq := hq.put 25 (x := x31) (by decide) (rg_w r33 (by decide))
    rw [setFX_25] at hP hD
    refine lv_goto (tgt := 40) hx hb dX0_add_24 (by decide) ?_
    exact J40 ((upd (upd F 26 (0 : Int32)) 25 x31)) (L) (A) (B) (x31) H locs ls hq (rfl) r33 (rfl) hP hD hS (lv_sub hl [0, 1] rfl)
abbrev rm_X11_actIsDone_0 : Room := { frames := 3, cells := 0, slots := 0, locals := 87 }
set_option maxHeartbeats 4000000 in
set_option maxRecDepth 100000 in
theorem c_X11_actIsDone_0 (l : Launch) (D : va_G) (cA : Nat → ClassId) (sz : Nat) (ad : Nat → Nat) (F : Nat → Int32) (L : Nat → Int64) (A : Nat → Nat → Int32) (B : Nat → Nat → Int64)  (hT : typX F A) (hI : xX F) : Met l yX11_actIsDone (Cond.code yX11_actIsDone cX11_actIsDone 1 none :: GW) rm_X11_actIsDone_0 (mPc D classes (tysX cA) (wX cA ad F L A B) sz [.ref (ad 0)]) (mQv (S := SW) D classes (tysX cA) (wX cA ad F L A B) sz (wfX cA ad) (fun u => qX [24, 25, 26, 32, 36] [22, 23] F A u.1 u.2.2.1 ∧ xX u.1)) 0 0 (va_A (wX cA ad F L A B) sz) := by
  refine met_v (own := "ShoeingDay") (by decide +kernel) rfl (Nat.le_of_ble_eq_true rfl) ?_
  intro p e s m args below meth c Q Af ls hC hP hD hS hA hl hret
  have hx := hC.1
  have hb := hC.2.1
  have hown := hC.2.2.2.1
  have hg := hC.g
  have hK := hC.K
  have hl : lv_has ls 1 [(0, .ref (ad 0))] := hl
  have hq : qX [24, 25, 26, 32, 36] [22, 23] F A F A := qX.rf hT
  obtain ⟨H, hH⟩ : ∃ H, H = s.heap := ⟨_, rfl⟩
  have hP : va_P D classes (wX cA ad F L A B) H := by rw [hH]; exact hP
  have hS : va_S Af s.heap H [] := by rw [hH]; exact hS
  obtain ⟨locs, hlo⟩ : ∃ q : List Loc, q = [] := ⟨_, rfl⟩
  rw [← hH, ← hlo]
  rw [← hlo] at hS
  refine lv_aload_n hx hb dX11_actIsDone_0 rfl (lv_at hl 0 rfl) ?_
  refine va_get (ci := 11) (v := .ref (ad 20)) (C := RX11) (T := TX11) (N := 13) hx hb hg inX11 hown hK hP 0 atX_0 rfl 3 (by decide) (hg _ mw_528) (fun _ h9 => h9) rfl dX11_actIsDone_1 ?_
  refine lv_aload_n hx hb dX11_actIsDone_4 rfl (lv_at hl 0 rfl) ?_
  refine va_get (ci := 11) (v := .ref (ad 18)) (C := RX11) (T := TX11) (N := 13) hx hb hg inX11 hown hK hP 0 atX_0 rfl 2 (by decide) (hg _ mw_527) (fun _ h9 => h9) rfl dX11_actIsDone_5 ?_
  refine callv_v (As := [.ref (ad 18)]) (rest := []) hC (c_X0_add_20_18 l D cA H.size ad F L A B  hq.1 hI) (cwV 1 hg (g_V mw_955 mw_952 mw_953 mw_954 mw_10) rfl rfl rfl (by decide +kernel) ⟨(Nat.le_of_ble_eq_true rfl), (Nat.le_of_ble_eq_true rfl)⟩) hP hD hS hA atX_20 rfl rfl hl.1 rfl (Nat.le_of_ble_eq_true rfl) dX11_actIsDone_8 ⟨Nat.zero_le _, Nat.zero_le _⟩ (fun  u H locs hw hP hD hS => ?_)
  obtain ⟨F1, L1, A1, B1⟩ := u
  try dsimp only at hw
  obtain ⟨hq1, i2⟩ := hw
  have hq := hq.call hq1 (by decide)
  have hP : va_P D classes (wX cA ad F1 L1 A1 B1) H := hP
  have hD : va_D Af (wX cA ad F1 L1 A1 B1) := hD
  refine lv_aload_n hx hb dX11_actIsDone_11 rfl (lv_at hl 0 rfl) ?_
  refine callv_v (As := []) (rest := []) hC (c_X11_lackIsNew_0 l D cA H.size ad F1 L1 A1 B1  hq.1) (cwV 0 hg (g_V mw_715 mw_712 mw_714 ms_17 mw_1) rfl rfl rfl (by decide +kernel) ⟨(Nat.le_of_ble_eq_true rfl), (Nat.le_of_ble_eq_true rfl)⟩) hP hD hS hA atX_0 rfl rfl hl.1 rfl (Nat.le_of_ble_eq_true rfl) dX11_actIsDone_12 ⟨Nat.zero_le _, Nat.zero_le _⟩ (fun  u H locs hw hP hD hS => ?_)
  obtain ⟨F3, L3, A3, B3⟩ := u
  try dsimp only at hw
  have hq3 := hw
  have hq := hq.call hq3 (by decide)
  have hP : va_P D classes (wX cA ad F3 L3 A3 B3) H := hP
  have hD : va_D Af (wX cA ad F3 L3 A3 B3) := hD
  exact hret (F3, L3, A3, B3) H locs 15 ls dX11_actIsDone_15 hP hD hS ⟨hq, (xX.fr i2 (hq3.2.1 25 (by decide)) (hq3.2.1 26 (by decide)))⟩
abbrev rm_X2_goOn_27 : Room := { frames := 6, cells := 0, slots := 0, locals := 149 }
set_option maxHeartbeats 4000000 in
set_option maxRecDepth 100000 in
theorem c_X2_goOn_27 (l : Launch) (D : va_G) (cA : Nat → ClassId) (sz : Nat) (ad : Nat → Nat) (F : Nat → Int32) (L : Nat → Int64) (A : Nat → Nat → Int32) (B : Nat → Nat → Int64) (p1 : Int32) (hT : typX F A) (hp1 : rg p1 1 999) : Met l yX2_goOn (Cond.code yX2_goOn cX2_goOn 5 (some .int) :: GW) rm_X2_goOn_27 (mPc D classes (tysX cA) (wX cA ad F L A B) sz [.ref (ad 27), .int p1]) (mQi (S := SW) D classes (tysX cA) (wX cA ad F L A B) sz (wfX cA ad) (fun r u => qX [29, 30, 35] [28, 29, 32, 33, 35, 36, 37, 38, 39, 41, 42, 43, 44, 45] F A u.1 u.2.2.1)) 0 0 (va_A (wX cA ad F L A B) sz) := by
  refine met_i (own := "ShoeingDay$Day") (by decide +kernel) rfl (Nat.le_of_ble_eq_true rfl) ?_
  intro p e s m args below meth c Q Af ls hC hP hD hS hA hl hret
  have hx := hC.1
  have hb := hC.2.1
  have hown := hC.2.2.2.1
  have hg := hC.g
  have hK := hC.K
  have hl : lv_has ls 5 [(0, .ref (ad 27)), (1, .int p1)] := hl
  have hq : qX [29, 30, 35] [28, 29, 32, 33, 35, 36, 37, 38, 39, 41, 42, 43, 44, 45] F A F A := qX.rf hT
  obtain ⟨H, hH⟩ : ∃ H, H = s.heap := ⟨_, rfl⟩
  have hP : va_P D classes (wX cA ad F L A B) H := by rw [hH]; exact hP
  have hS : va_S Af s.heap H [] := by rw [hH]; exact hS
  obtain ⟨locs, hlo⟩ : ∃ q : List Loc, q = [] := ⟨_, rfl⟩
  rw [← hH, ← hlo]
  rw [← hlo] at hS
  refine lv_iconst (v := 0) hx hb dX2_goOn_0 (by decide) ?_
  refine lv_istore_n (lv' := [(2, .int 0), (0, .ref (ad 27)), (1, .int p1)]) hx hb dX2_goOn_1 rfl hl (by decide) rfl (fun ls hl => ?_)
  refine lv_iconst (v := 0) hx hb dX2_goOn_2 (by decide) ?_
  refine lv_istore_n (lv' := [(3, .int 0), (2, .int 0), (0, .ref (ad 27)), (1, .int p1)]) hx hb dX2_goOn_3 rfl hl (by decide) rfl (fun ls hl => ?_)
  have J4 : ∀ (n4 : Nat) (a1 : Int32) (a2 : Int32) (F4 : Nat → Int32) (L4 : Nat → Int64) (A4 : Nat → Nat → Int32) (B4 : Nat → Nat → Int64) (H : Heap) (locs : List Loc) (ls : Array Slot), (100 - a2.toInt).toNat < n4 → rg a2 0 100 → qX [29, 30, 35] [28, 29, 32, 33, 35, 36, 37, 38, 39, 41, 42, 43, 44, 45] F A F4 A4 → va_P D classes (wX cA ad F4 L4 A4 B4) H → va_D Af (wX cA ad F4 L4 A4 B4) → va_S Af s.heap H locs → lv_has ls 5 [(0, .ref (ad 27)), (1, .int p1), (2, .int a1), (3, .int a2)] → W p l e rm_X2_goOn_27 s m args below meth c H locs 0 0 Q (F0 m 4 ls []) := by
    intro n4
    induction n4 with
    | zero =>
      intro _ _ _ _ _ _ _ _ _ hn
      exact absurd hn (Nat.not_lt_zero _)
    | succ n4 ih4 =>
      intro a1 a2 F4 L4 A4 B4 H locs ls hn4 r3 hq hP hD hS hl
      refine lv_iload_n hx hb dX2_goOn_4 rfl (lv_at hl 3 rfl) ?_
      refine lv_bipush (v := 100) hx hb dX2_goOn_5 (by decide) ?_
      have J51 : ∀ (F5 : Nat → Int32) (L5 : Nat → Int64) (A5 : Nat → Nat → Int32) (B5 : Nat → Nat → Int64) (H : Heap) (locs : List Loc) (ls : Array Slot), qX [29, 30, 35] [28, 29, 32, 33, 35, 36, 37, 38, 39, 41, 42, 43, 44, 45] F A F5 A5 → va_P D classes (wX cA ad F5 L5 A5 B5) H → va_D Af (wX cA ad F5 L5 A5 B5) → va_S Af s.heap H locs → lv_has ls 5 [(2, .int a1)] → W p l e rm_X2_goOn_27 s m args below meth c H locs 0 0 Q (F0 m 51 ls []) := by
        intro F5 L5 A5 B5 H locs ls hq hP hD hS hl
        refine lv_iload_n hx hb dX2_goOn_51 rfl (lv_at hl 0 rfl) ?_
        exact hret (a1) (F5, L5, A5, B5) H locs 52 ls rfl dX2_goOn_52 hP hD hS hq
      refine lv_icmp_ge (tgt := 51) hx hb dX2_goOn_7 (by decide) (fun c6 => ?_) (fun c6 => ?_)
      · skip
        have r7 : rg a2 100 100 := rg_le2 (iE c6) ((rg_k (by decide)) : rg 100 100 100) (r3 : rg a2 0 100)
        exact J51 (F4) (L4) (A4) (B4) H locs ls hq hP hD hS (lv_sub hl [2] rfl)
      · skip
        have r8 : rg a2 0 99 := rg_lt1 (iNE c6) (r3 : rg a2 0 100) ((rg_k (by decide)) : rg 100 100 100)
        refine lv_iload_n hx hb dX2_goOn_10 rfl (lv_at hl 2 rfl) ?_
        refine lv_iload_n hx hb dX2_goOn_11 rfl (lv_at hl 1 rfl) ?_
        refine lv_icmp_ge (tgt := 51) hx hb dX2_goOn_12 (by decide) (fun c9 => ?_) (fun c9 => ?_)
        · skip
          have r10 : rg a1 1 2147483647 := rg_le2 (iE c9) (hp1 : rg p1 1 999) ((rg_top _) : rg a1 (-2147483648) 2147483647)
          exact J51 (F4) (L4) (A4) (B4) H locs ls hq hP hD hS (lv_sub hl [2] rfl)
        · skip
          have r11 : rg a1 (-2147483648) 998 := rg_lt1 (iNE c9) ((rg_top _) : rg a1 (-2147483648) 2147483647) (hp1 : rg p1 1 999)
          refine lv_aload_n hx hb dX2_goOn_15 rfl (lv_at hl 0 rfl) ?_
          refine callv_i (As := []) (rest := []) hC (c_X2_findRound_27 l D cA H.size ad F4 L4 A4 B4  hq.1) (cwV 0 hg (g_V mw_787 mw_784 mw_785 mw_786 mw_14) rfl rfl rfl (by decide +kernel) ⟨(Nat.le_of_ble_eq_true rfl), (Nat.le_of_ble_eq_true rfl)⟩) hP hD hS hA atX_27 rfl rfl hl.1 rfl (Nat.le_of_ble_eq_true rfl) dX2_goOn_16 ⟨Nat.zero_le _, Nat.zero_le _⟩ (fun x12 u H locs hw hP hD hS => ?_)
          obtain ⟨F13, L13, A13, B13⟩ := u
          try dsimp only at hw
          obtain ⟨hq13, r14⟩ := hw
          have hq := hq.call hq13 (by decide)
          have hP : va_P D classes (wX cA ad F13 L13 A13 B13) H := hP
          have hD : va_D Af (wX cA ad F13 L13 A13 B13) := hD
          refine lv_if_eq (tgt := 51) hx hb dX2_goOn_19 (by decide) (fun c15 => ?_) (fun c15 => ?_)
          · skip
            have r16 : rg x12 0 0 := rg_eq1 c15 (r14 : rg x12 0 1) ((rg_k (by decide)) : rg 0 0 0) (by decide)
            exact J51 (F13) (L13) (A13) (B13) H locs ls hq hP hD hS (lv_sub hl [2] rfl)
          · skip
            have r17 : rg x12 1 1 := (rg_ne1 c15 (r14 : rg x12 0 1) ((rg_k (by decide)) : rg 0 0 0)).1 rfl
            refine lv_aload_n hx hb dX2_goOn_22 rfl (lv_at hl 0 rfl) ?_
            refine va_get (ci := 2) (v := .int (F13 29)) (C := RX2) (T := TX2) (N := 15) hx hb hg inX2 hown hK hP 27 atX_27 rfl 2 (by decide) (hg _ mw_343) (fun _ h9 => h9) rfl dX2_goOn_23 ?_
            refine lv_topi (fun x18 e19 => ?_)
            refine lv_iload_n hx hb dX2_goOn_26 rfl (lv_at hl 1 rfl) ?_
            refine lv_iload_n hx hb dX2_goOn_27 rfl (lv_at hl 2 rfl) ?_
            refine lv_isub hx hb dX2_goOn_28 ?_
            refine lv_topi (fun x20 e21 => ?_)
            refine va_mmin hx hb (hC.2.2.1.trans hl.1.symm) hown (hg _ mw_828) (hg _ mw_595) (hg _ mw_12) (hg _ mw_596) (Nat.le_of_ble_eq_true rfl) (Nat.le_of_ble_eq_true rfl) (Nat.zero_le _) (Nat.zero_le _) dX2_goOn_29 ?_
            refine lv_topi (fun x22 e23 => ?_)
            refine lv_istore (lv' := [(4, .int x22), (0, .ref (ad 27)), (1, .int p1), (2, .int a1), (3, .int a2)]) hx hb dX2_goOn_32 hl (by decide) rfl (fun ls hl => ?_)
            refine lv_aload_n hx hb dX2_goOn_34 rfl (lv_at hl 1 rfl) ?_
            refine lv_iload hx hb dX2_goOn_35 (lv_at hl 0 rfl) ?_
            refine callv_v (As := [.int x22]) (rest := []) hC (c_X2_pass_27 l D cA H.size ad F13 L13 A13 B13 (x22) hq.1) (cwV 1 hg (g_V mw_832 mw_829 mw_830 mw_831 mw_14) rfl rfl rfl (by decide +kernel) ⟨(Nat.le_of_ble_eq_true rfl), (Nat.le_of_ble_eq_true rfl)⟩) hP hD hS hA atX_27 rfl rfl hl.1 rfl (Nat.le_of_ble_eq_true rfl) dX2_goOn_37 ⟨Nat.zero_le _, Nat.zero_le _⟩ (fun  u H locs hw hP hD hS => ?_)
            obtain ⟨F24, L24, A24, B24⟩ := u
            try dsimp only at hw
            have hq24 := hw
            have hq := hq.call hq24 (by decide)
            have hP : va_P D classes (wX cA ad F24 L24 A24 B24) H := hP
            have hD : va_D Af (wX cA ad F24 L24 A24 B24) := hD
            refine lv_iload_n hx hb dX2_goOn_40 rfl (lv_at hl 3 rfl) ?_
            refine lv_iload hx hb dX2_goOn_41 (lv_at hl 0 rfl) ?_
            refine lv_iadd hx hb dX2_goOn_43 ?_
            refine lv_topi (fun x25 e26 => ?_)
            refine lv_istore_n (lv' := [(2, .int x25), (4, .int x22), (0, .ref (ad 27)), (1, .int p1), (3, .int a2)]) hx hb dX2_goOn_44 rfl hl (by decide) rfl (fun ls hl => ?_)
            obtain ⟨x27, e28⟩ : ∃ y : Int32, y = a2 + 1 := ⟨_, rfl⟩
            have r29 : rg x27 1 100 := rg_add e28 r8 (rg_k (by decide) : rg 1 1 1) (by decide)
            refine lv_iinc (v := x27) (lv' := [(3, .int x27), (2, .int x25), (4, .int x22), (0, .ref (ad 27)), (1, .int p1)]) hx hb dX2_goOn_45 hl (k := 4) rfl (by rw [e28]; rfl) (by decide) rfl (fun ls hl => ?_)
            refine lv_goto (tgt := 4) hx hb dX2_goOn_48 (by decide) ?_
            exact ih4 (x25) (x27) (F24) (L24) (A24) (B24) H locs ls (by have h0 : (1 : Int32).toInt = 1 := rfl; have h1 := ti_addk e28 r8 (by decide); have h2 : rg x27 0 100 := (rg_w r29 (by decide)); unfold rg at h2; omega) (rg_w r29 (by decide)) hq hP hD hS (lv_sub hl [3, 4, 1, 0] rfl)
  exact J4 _ (0) (0) (F) (L) (A) (B) H locs ls (Nat.lt_succ_self _) (rg_k (by decide)) hq hP hD hS (lv_sub hl [2, 3, 1, 0] rfl)
abbrev rm_X11_run_0 : Room := { frames := 7, cells := 0, slots := 0, locals := 173 }
set_option maxHeartbeats 4000000 in
set_option maxRecDepth 100000 in
theorem c_X11_run_0 (l : Launch) (D : va_G) (cA : Nat → ClassId) (sz : Nat) (ad : Nat → Nat) (F : Nat → Int32) (L : Nat → Int64) (A : Nat → Nat → Int32) (B : Nat → Nat → Int64) (p1 : Int32) (hT : typX F A) (hI : xX F) : Met l yX11_run (Cond.code yX11_run cX11_run 3 (some .int) :: GW) rm_X11_run_0 (mPc D classes (tysX cA) (wX cA ad F L A B) sz [.ref (ad 0), .int p1]) (mQi (S := SW) D classes (tysX cA) (wX cA ad F L A B) sz (wfX cA ad) (fun r u => qX [23, 24, 25, 26, 29, 30, 32, 33, 34, 35, 36] [19, 22, 23, 28, 29, 32, 33, 35, 36, 37, 38, 39, 41, 42, 43, 44, 45] F A u.1 u.2.2.1 ∧ xX u.1)) 0 0 (va_A (wX cA ad F L A B) sz) := by
  refine met_i (own := "ShoeingDay") (by decide +kernel) rfl (Nat.le_of_ble_eq_true rfl) ?_
  intro p e s m args below meth c Q Af ls hC hP hD hS hA hl hret
  have hx := hC.1
  have hb := hC.2.1
  have hown := hC.2.2.2.1
  have hg := hC.g
  have hK := hC.K
  have hl : lv_has ls 3 [(0, .ref (ad 0)), (1, .int p1)] := hl
  have hq : qX [23, 24, 25, 26, 29, 30, 32, 33, 34, 35, 36] [19, 22, 23, 28, 29, 32, 33, 35, 36, 37, 38, 39, 41, 42, 43, 44, 45] F A F A := qX.rf hT
  obtain ⟨H, hH⟩ : ∃ H, H = s.heap := ⟨_, rfl⟩
  have hP : va_P D classes (wX cA ad F L A B) H := by rw [hH]; exact hP
  have hS : va_S Af s.heap H [] := by rw [hH]; exact hS
  obtain ⟨locs, hlo⟩ : ∃ q : List Loc, q = [] := ⟨_, rfl⟩
  rw [← hH, ← hlo]
  rw [← hlo] at hS
  refine lv_iload_n hx hb dX11_run_0 rfl (lv_at hl 1 rfl) ?_
  refine lv_iconst (v := 1) hx hb dX11_run_1 (by decide) ?_
  have J12 : ∀ (F1 : Nat → Int32) (L1 : Nat → Int64) (A1 : Nat → Nat → Int32) (B1 : Nat → Nat → Int64) (H : Heap) (locs : List Loc) (ls : Array Slot), qX [23, 24, 25, 26, 29, 30, 32, 33, 34, 35, 36] [19, 22, 23, 28, 29, 32, 33, 35, 36, 37, 38, 39, 41, 42, 43, 44, 45] F A F1 A1 → xX F1 → va_P D classes (wX cA ad F1 L1 A1 B1) H → va_D Af (wX cA ad F1 L1 A1 B1) → va_S Af s.heap H locs → lv_has ls 3 [] → W p l e rm_X11_run_0 s m args below meth c H locs 0 0 Q (F0 m 12 ls []) := by
    intro F1 L1 A1 B1 H locs ls hq i2 hP hD hS hl
    refine lv_iconst (v := (-1)) hx hb dX11_run_12 (by decide) ?_
    exact hret ((-1)) (F1, L1, A1, B1) H locs 13 ls rfl dX11_run_13 hP hD hS ⟨hq, i2⟩
  refine lv_icmp_lt (tgt := 12) hx hb dX11_run_2 (by decide) (fun c3 => ?_) (fun c3 => ?_)
  · skip
    have r4 : rg p1 (-2147483648) 0 := rg_lt1 (iL c3) ((rg_top _) : rg p1 (-2147483648) 2147483647) ((rg_k (by decide)) : rg 1 1 1)
    exact J12 (F) (L) (A) (B) H locs ls hq hI hP hD hS (lv_sub hl [] rfl)
  · skip
    have r5 : rg p1 1 2147483647 := rg_le2 (iNL c3) ((rg_k (by decide)) : rg 1 1 1) ((rg_top _) : rg p1 (-2147483648) 2147483647)
    refine lv_iload_n hx hb dX11_run_5 rfl (lv_at hl 1 rfl) ?_
    refine lv_sipush (v := 999) hx hb dX11_run_6 (by decide) ?_
    refine lv_icmp_le (tgt := 14) hx hb dX11_run_9 (by decide) (fun c6 => ?_) (fun c6 => ?_)
    · skip
      have r7 : rg p1 1 999 := rg_le1 (iE c6) (r5 : rg p1 1 2147483647) ((rg_k (by decide)) : rg 999 999 999)
      refine lv_aload_n hx hb dX11_run_14 rfl (lv_at hl 0 rfl) ?_
      refine va_get (ci := 11) (v := .ref (ad 27)) (C := RX11) (T := TX11) (N := 13) hx hb hg inX11 hown hK hP 0 atX_0 rfl 5 (by decide) (hg _ mw_530) (fun _ h9 => h9) rfl dX11_run_15 ?_
      refine lv_aload_n hx hb dX11_run_18 rfl (lv_at hl 0 rfl) ?_
      refine va_get (ci := 11) (v := .ref (ad 18)) (C := RX11) (T := TX11) (N := 13) hx hb hg inX11 hown hK hP 0 atX_0 rfl 2 (by decide) (hg _ mw_527) (fun _ h9 => h9) rfl dX11_run_19 ?_
      refine va_get (ci := 3) (v := .ref (ad 19)) (C := RX3) (T := TX3) (N := 4) hx hb hg inX3 hown hK hP 18 atX_18 rfl 0 (by decide) (hg _ mw_237) (fun _ h9 => h9) rfl dX11_run_22 ?_
      refine lv_aload_n hx hb dX11_run_25 rfl (lv_at hl 0 rfl) ?_
      refine va_get (ci := 11) (v := .ref (ad 18)) (C := RX11) (T := TX11) (N := 13) hx hb hg inX11 hown hK hP 0 atX_0 rfl 2 (by decide) (hg _ mw_527) (fun _ h9 => h9) rfl dX11_run_26 ?_
      refine va_get (ci := 3) (v := .int (F 21)) (C := RX3) (T := TX3) (N := 4) hx hb hg inX3 hown hK hP 18 atX_18 rfl 1 (by decide) (hg _ mw_242) (fun _ h9 => h9) rfl dX11_run_29 ?_
      refine lv_topi (fun x9 e10 => ?_)
      have r11 : rg x9 0 8 := rg_e e10 (hq.1.1 21)
      refine lv_aload_n hx hb dX11_run_32 rfl (lv_at hl 0 rfl) ?_
      refine va_get (ci := 11) (v := .ref (ad 18)) (C := RX11) (T := TX11) (N := 13) hx hb hg inX11 hown hK hP 0 atX_0 rfl 2 (by decide) (hg _ mw_527) (fun _ h9 => h9) rfl dX11_run_33 ?_
      refine va_get (ci := 3) (v := .int (F 22)) (C := RX3) (T := TX3) (N := 4) hx hb hg inX3 hown hK hP 18 atX_18 rfl 2 (by decide) (hg _ mw_246) (fun _ h9 => h9) rfl dX11_run_36 ?_
      refine lv_topi (fun x12 e13 => ?_)
      have r14 : rg x12 0 10 := rg_e e13 (hq.1.1 22)
      refine callv_v (As := [.ref (ad 19), .int x9, .int x12]) (rest := []) hC (c_X2_open_27_19 l D cA H.size ad F L A B (x9) (x12) hq.1 r11 r14) (cwV 3 hg (g_V mw_776 mw_942 mw_774 mw_775 mw_14) rfl rfl rfl (by decide +kernel) ⟨(Nat.le_of_ble_eq_true rfl), (Nat.le_of_ble_eq_true rfl)⟩) hP hD hS hA atX_27 rfl rfl hl.1 rfl (Nat.le_of_ble_eq_true rfl) dX11_run_39 ⟨Nat.zero_le _, Nat.zero_le _⟩ (fun  u H locs hw hP hD hS => ?_)
      obtain ⟨F15, L15, A15, B15⟩ := u
      try dsimp only at hw
      have hq15 := hw
      have hq := hq.call hq15 (by decide)
      have hP : va_P D classes (wX cA ad F15 L15 A15 B15) H := hP
      have hD : va_D Af (wX cA ad F15 L15 A15 B15) := hD
      refine lv_aload_n hx hb dX11_run_42 rfl (lv_at hl 0 rfl) ?_
      refine va_get (ci := 11) (v := .ref (ad 27)) (C := RX11) (T := TX11) (N := 13) hx hb hg inX11 hown hK hP 0 atX_0 rfl 5 (by decide) (hg _ mw_530) (fun _ h9 => h9) rfl dX11_run_43 ?_
      refine lv_iload_n hx hb dX11_run_46 rfl (lv_at hl 1 rfl) ?_
      refine callv_i (As := [.int p1]) (rest := []) hC (c_X2_goOn_27 l D cA H.size ad F15 L15 A15 B15 (p1) hq.1 r7) (cwV 1 hg (g_V mw_946 mw_943 mw_944 mw_945 mw_14) rfl rfl rfl (by decide +kernel) ⟨(Nat.le_of_ble_eq_true rfl), (Nat.le_of_ble_eq_true rfl)⟩) hP hD hS hA atX_27 rfl rfl hl.1 rfl (Nat.le_of_ble_eq_true rfl) dX11_run_47 ⟨Nat.zero_le _, Nat.zero_le _⟩ (fun x16 u H locs hw hP hD hS => ?_)
      obtain ⟨F17, L17, A17, B17⟩ := u
      try dsimp only at hw
      have hq17 := hw
      have hq := hq.call hq17 (by decide)
      have hP : va_P D classes (wX cA ad F17 L17 A17 B17) H := hP
      have hD : va_D Af (wX cA ad F17 L17 A17 B17) := hD
      refine lv_istore_n (lv' := [(2, .int x16), (0, .ref (ad 0)), (1, .int p1)]) hx hb dX11_run_50 rfl hl (by decide) rfl (fun ls hl => ?_)
      refine lv_aload_n hx hb dX11_run_51 rfl (lv_at hl 1 rfl) ?_
      refine va_get (ci := 11) (v := .ref (ad 27)) (C := RX11) (T := TX11) (N := 13) hx hb hg inX11 hown hK hP 0 atX_0 rfl 5 (by decide) (hg _ mw_530) (fun _ h9 => h9) rfl dX11_run_52 ?_
      refine va_get (ci := 2) (v := .ref (ad 28)) (C := RX2) (T := TX2) (N := 15) hx hb hg inX2 hown hK hP 27 atX_27 rfl 0 (by decide) (hg _ mw_340) (fun _ h9 => h9) rfl dX11_run_55 ?_
      refine lv_iconst (v := 0) hx hb dX11_run_58 (by decide) ?_
      refine lv_aload_n hx hb dX11_run_59 rfl (lv_at hl 1 rfl) ?_
      refine va_get (ci := 11) (v := .ref (ad 18)) (C := RX11) (T := TX11) (N := 13) hx hb hg inX11 hown hK hP 0 atX_0 rfl 2 (by decide) (hg _ mw_527) (fun _ h9 => h9) rfl dX11_run_60 ?_
      refine va_get (ci := 3) (v := .ref (ad 19)) (C := RX3) (T := TX3) (N := 4) hx hb hg inX3 hown hK hP 18 atX_18 rfl 0 (by decide) (hg _ mw_237) (fun _ h9 => h9) rfl dX11_run_63 ?_
      refine lv_iconst (v := 0) hx hb dX11_run_66 (by decide) ?_
      refine lv_bipush (v := 80) hx hb dX11_run_67 (by decide) ?_
      refine va_copyi hx hb (hC.2.2.1.trans hl.1.symm) hown (hg _ mw_947) (hg _ mw_524) (hg _ mw_523) (hg _ mw_19) hK hP hD hS 28 19 18 13 atX_28 atX_19 tyX_28 tyX_19 rfl (nn_rg ((rg_k (by decide)) : rg 0 0 0) (by decide)) (nn_rg ((rg_k (by decide)) : rg 0 0 0) (by decide)) (nn_rg ((rg_k (by decide)) : rg 80 80 80) (by decide)) (cp_rg ((rg_k (by decide)) : rg 0 0 0) ((rg_k (by decide)) : rg 80 80 80) (by decide)) (cp_rg ((rg_k (by decide)) : rg 0 0 0) ((rg_k (by decide)) : rg 80 80 80) (by decide)) (fun _ _ => rfl) (Nat.le_of_ble_eq_true rfl) (Nat.le_of_ble_eq_true rfl) dX11_run_69 (fun H locs hP hD hS => ?_)
      have hq := hq.cpy 19 28 (a := ((0 : Int32)).toNatClampNeg) (b := ((0 : Int32)).toNatClampNeg) (n := ((80 : Int32)).toNatClampNeg) (by decide) (by decide)
      rw [setX_19] at hP hD
      refine lv_aload_n hx hb dX11_run_72 rfl (lv_at hl 1 rfl) ?_
      refine va_get (ci := 11) (v := .ref (ad 18)) (C := RX11) (T := TX11) (N := 13) hx hb hg inX11 hown hK hP 0 atX_0 rfl 2 (by decide) (hg _ mw_527) (fun _ h9 => h9) rfl dX11_run_73 ?_
      refine lv_dup hx hb dX11_run_76 rfl ?_
      refine va_get (ci := 3) (v := .int (F17 23)) (C := RX3) (T := TX3) (N := 4) hx hb hg inX3 hown hK hP 18 atX_18 rfl 3 (by decide) (hg _ mw_249) (fun _ h9 => h9) rfl dX11_run_77 ?_
      refine lv_topi (fun x18 e19 => ?_)
      refine lv_iload_n hx hb dX11_run_80 rfl (lv_at hl 0 rfl) ?_
      refine lv_iadd hx hb dX11_run_81 ?_
      refine lv_topi (fun x20 e21 => ?_)
      refine va_put (ci := 3) (v := .int x20) (ty := .int) (C := RX3) (T := TX3) (N := 4) hx hb hg inX3 tyX3 tyX3_ok nmX3 hown hK hP hD hS 18 atX_18 rfl 3 (by decide) (hg _ mw_249) (fun _ h9 => h9) rfl (by decide +kernel) rfl rfl (Nat.le_of_ble_eq_true rfl) dX11_run_82 (fun H locs hP hD hS => ?_)
      have hq := hq.put 23 (x := x20) (by decide) (rg_top _)
      rw [setFX_23] at hP hD
      refine lv_aload_n hx hb dX11_run_85 rfl (lv_at hl 1 rfl) ?_
      refine callv_v (As := []) (rest := []) hC (c_X11_actIsDone_0 l D cA H.size ad (upd F17 23 x20) L17 (va_up A17 19 (va_cpy (A17 28) (A17 19) ((0 : Int32)).toNatClampNeg ((0 : Int32)).toNatClampNeg ((80 : Int32)).toNatClampNeg)) B17  hq.1 (xX.fr (xX.fr (xX.fr hI (hq15.2.1 25 (by decide)) (hq15.2.1 26 (by decide))) (hq17.2.1 25 (by decide)) (hq17.2.1 26 (by decide))) rfl rfl)) (cwV 0 hg (g_V mw_951 mw_948 mw_950 ms_41 mw_1) rfl rfl rfl (by decide +kernel) ⟨(Nat.le_of_ble_eq_true rfl), (Nat.le_of_ble_eq_true rfl)⟩) hP hD hS hA atX_0 rfl rfl hl.1 rfl (Nat.le_of_ble_eq_true rfl) dX11_run_86 ⟨Nat.zero_le _, Nat.zero_le _⟩ (fun  u H locs hw hP hD hS => ?_)
      obtain ⟨F22, L22, A22, B22⟩ := u
      try dsimp only at hw
      obtain ⟨hq22, i23⟩ := hw
      have hq := hq.call hq22 (by decide)
      have hP : va_P D classes (wX cA ad F22 L22 A22 B22) H := hP
      have hD : va_D Af (wX cA ad F22 L22 A22 B22) := hD
      refine lv_iload_n hx hb dX11_run_89 rfl (lv_at hl 0 rfl) ?_
      exact hret (x16) (F22, L22, A22, B22) H locs 90 ls rfl dX11_run_90 hP hD hS ⟨hq, i23⟩
    · skip
      have r8 : rg p1 1000 2147483647 := rg_lt2 (iNE c6) ((rg_k (by decide)) : rg 999 999 999) (r5 : rg p1 1 2147483647)
      exact J12 (F) (L) (A) (B) H locs ls hq hI hP hD hS (lv_sub hl [] rfl)
abbrev rm_X11_more_0 : Room := { frames := 4, cells := 0, slots := 0, locals := 107 }
set_option maxHeartbeats 4000000 in
set_option maxRecDepth 100000 in
theorem c_X11_more_0 (l : Launch) (D : va_G) (cA : Nat → ClassId) (sz : Nat) (ad : Nat → Nat) (F : Nat → Int32) (L : Nat → Int64) (A : Nat → Nat → Int32) (B : Nat → Nat → Int64) (p1 : Int32) (p2 : Int32) (p3 : Int32) (hT : typX F A) (hI : xX F) : Met l yX11_more (Cond.code yX11_more cX11_more 6 (some .int) :: GW) rm_X11_more_0 (mPc D classes (tysX cA) (wX cA ad F L A B) sz [.ref (ad 0), .int p1, .int p2, .int p3]) (mQi (S := SW) D classes (tysX cA) (wX cA ad F L A B) sz (wfX cA ad) (fun r u => qX [24, 25, 26, 32, 36] [19, 22, 23] F A u.1 u.2.2.1 ∧ xX u.1 ∧ rg r (-1) 99)) 0 0 (va_A (wX cA ad F L A B) sz) := by
  refine met_i (own := "ShoeingDay") (by decide +kernel) rfl (Nat.le_of_ble_eq_true rfl) ?_
  intro p e s m args below meth c Q Af ls hC hP hD hS hA hl hret
  have hx := hC.1
  have hb := hC.2.1
  have hown := hC.2.2.2.1
  have hg := hC.g
  have hK := hC.K
  have hl : lv_has ls 6 [(0, .ref (ad 0)), (1, .int p1), (2, .int p2), (3, .int p3)] := hl
  have hq : qX [24, 25, 26, 32, 36] [19, 22, 23] F A F A := qX.rf hT
  obtain ⟨H, hH⟩ : ∃ H, H = s.heap := ⟨_, rfl⟩
  have hP : va_P D classes (wX cA ad F L A B) H := by rw [hH]; exact hP
  have hS : va_S Af s.heap H [] := by rw [hH]; exact hS
  obtain ⟨locs, hlo⟩ : ∃ q : List Loc, q = [] := ⟨_, rfl⟩
  rw [← hH, ← hlo]
  rw [← hlo] at hS
  refine lv_aload_n hx hb dX11_more_0 rfl (lv_at hl 0 rfl) ?_
  refine lv_iload_n hx hb dX11_more_1 rfl (lv_at hl 1 rfl) ?_
  refine lv_iload_n hx hb dX11_more_2 rfl (lv_at hl 2 rfl) ?_
  refine callv_i (As := [.int p1, .int p2]) (rest := []) hC (c_X11_isPair_0 l D cA H.size ad F L A B (p1) (p2) hq.1) (cwV 2 hg (g_V mw_727 mw_724 mw_726 ms_18 mw_1) rfl rfl rfl (by decide +kernel) ⟨(Nat.le_of_ble_eq_true rfl), (Nat.le_of_ble_eq_true rfl)⟩) hP hD hS hA atX_0 rfl rfl hl.1 rfl (Nat.le_of_ble_eq_true rfl) dX11_more_3 ⟨Nat.zero_le _, Nat.zero_le _⟩ (fun x1 u H locs hw hP hD hS => ?_)
  obtain ⟨r2, g3⟩ := hw
  have hP : va_P D classes (wX cA ad F L A B) H := hP
  have hD : va_D Af (wX cA ad F L A B) := hD
  have J21 : ∀ (F4 : Nat → Int32) (L4 : Nat → Int64) (A4 : Nat → Nat → Int32) (B4 : Nat → Nat → Int64) (H : Heap) (locs : List Loc) (ls : Array Slot), qX [24, 25, 26, 32, 36] [19, 22, 23] F A F4 A4 → xX F4 → va_P D classes (wX cA ad F4 L4 A4 B4) H → va_D Af (wX cA ad F4 L4 A4 B4) → va_S Af s.heap H locs → lv_has ls 6 [] → W p l e rm_X11_more_0 s m args below meth c H locs 0 0 Q (F0 m 21 ls []) := by
    intro F4 L4 A4 B4 H locs ls hq i5 hP hD hS hl
    refine lv_iconst (v := (-1)) hx hb dX11_more_21 (by decide) ?_
    exact hret ((-1)) (F4, L4, A4, B4) H locs 22 ls rfl dX11_more_22 hP hD hS ⟨hq, i5, (rg_k (by decide))⟩
  refine lv_if_eq (tgt := 21) hx hb dX11_more_6 (by decide) (fun c6 => ?_) (fun c6 => ?_)
  · skip
    have r7 : rg x1 0 0 := rg_eq1 c6 (r2 : rg x1 0 1) ((rg_k (by decide)) : rg 0 0 0) (by decide)
    exact J21 (F) (L) (A) (B) H locs ls hq hI hP hD hS (lv_sub hl [] rfl)
  · skip
    have g8 := g3.resolve_left c6
    refine lv_iload_n hx hb dX11_more_9 rfl (lv_at hl 3 rfl) ?_
    refine lv_bipush (v := (-99)) hx hb dX11_more_10 (by decide) ?_
    refine lv_icmp_lt (tgt := 21) hx hb dX11_more_12 (by decide) (fun c9 => ?_) (fun c9 => ?_)
    · skip
      have r10 : rg p3 (-2147483648) (-100) := rg_lt1 (iL c9) ((rg_top _) : rg p3 (-2147483648) 2147483647) ((rg_k (by decide)) : rg (-99) (-99) (-99))
      exact J21 (F) (L) (A) (B) H locs ls hq hI hP hD hS (lv_sub hl [] rfl)
    · skip
      have r11 : rg p3 (-99) 2147483647 := rg_le2 (iNL c9) ((rg_k (by decide)) : rg (-99) (-99) (-99)) ((rg_top _) : rg p3 (-2147483648) 2147483647)
      refine lv_iload_n hx hb dX11_more_15 rfl (lv_at hl 3 rfl) ?_
      refine lv_bipush (v := 99) hx hb dX11_more_16 (by decide) ?_
      refine lv_icmp_le (tgt := 23) hx hb dX11_more_18 (by decide) (fun c12 => ?_) (fun c12 => ?_)
      · skip
        have r13 : rg p3 (-99) 99 := rg_le1 (iE c12) (r11 : rg p3 (-99) 2147483647) ((rg_k (by decide)) : rg 99 99 99)
        refine lv_iload_n hx hb dX11_more_23 rfl (lv_at hl 1 rfl) ?_
        refine lv_iload_n hx hb dX11_more_24 rfl (lv_at hl 2 rfl) ?_
        refine calls_i (As := [.int p1, .int p2]) (rest := []) hC (c_X11_cellOf l D (tysX cA) (wX cA ad F L A B) H.size (p1) (p2)) (cwS 2 hg (g_S mw_681 mw_736 mw_680 mw_1) rfl rfl rfl (by decide +kernel) ⟨(Nat.le_of_ble_eq_true rfl), (Nat.le_of_ble_eq_true rfl)⟩) hP hD hS hA rfl hl.1 rfl (Nat.le_of_ble_eq_true rfl) dX11_more_25 ⟨Nat.zero_le _, Nat.zero_le _⟩ (fun x15 u H locs hw hP hD hS => ?_)
        have e16 := hw
        have hP : va_P D classes (wX cA ad F L A B) H := hP
        have hD : va_D Af (wX cA ad F L A B) := hD
        have r17 : rg x15 0 79 := rg_cell hw (g8.1 : rg p1 0 7) (g8.2 : rg p2 0 9) (by decide)
        refine lv_istore (lv' := [(4, .int x15), (0, .ref (ad 0)), (1, .int p1), (2, .int p2), (3, .int p3)]) hx hb dX11_more_28 hl (by decide) rfl (fun ls hl => ?_)
        refine lv_aload_n hx hb dX11_more_30 rfl (lv_at hl 1 rfl) ?_
        refine va_get (ci := 11) (v := .ref (ad 18)) (C := RX11) (T := TX11) (N := 13) hx hb hg inX11 hown hK hP 0 atX_0 rfl 2 (by decide) (hg _ mw_527) (fun _ h9 => h9) rfl dX11_more_31 ?_
        refine va_get (ci := 3) (v := .ref (ad 19)) (C := RX3) (T := TX3) (N := 4) hx hb hg inX3 hown hK hP 18 atX_18 rfl 0 (by decide) (hg _ mw_237) (fun _ h9 => h9) rfl dX11_more_34 ?_
        refine lv_iload hx hb dX11_more_37 (lv_at hl 0 rfl) ?_
        refine va_iald hx hb hK hP 19 13 atX_19 tyX_19 (in_rg r17 (by decide)) dX11_more_39 ?_
        refine lv_topi (fun x18 e19 => ?_)
        refine lv_iload_n hx hb dX11_more_40 rfl (lv_at hl 4 rfl) ?_
        refine lv_iadd hx hb dX11_more_41 ?_
        refine lv_topi (fun x20 e21 => ?_)
        refine lv_istore (lv' := [(5, .int x20), (4, .int x15), (0, .ref (ad 0)), (1, .int p1), (2, .int p2), (3, .int p3)]) hx hb dX11_more_42 hl (by decide) rfl (fun ls hl => ?_)
        refine lv_iload hx hb dX11_more_44 (lv_at hl 0 rfl) ?_
        have J56 : ∀ (F22 : Nat → Int32) (L22 : Nat → Int64) (A22 : Nat → Nat → Int32) (B22 : Nat → Nat → Int64) (H : Heap) (locs : List Loc) (ls : Array Slot), qX [24, 25, 26, 32, 36] [19, 22, 23] F A F22 A22 → xX F22 → va_P D classes (wX cA ad F22 L22 A22 B22) H → va_D Af (wX cA ad F22 L22 A22 B22) → va_S Af s.heap H locs → lv_has ls 6 [] → W p l e rm_X11_more_0 s m args below meth c H locs 0 0 Q (F0 m 56 ls []) := by
          intro F22 L22 A22 B22 H locs ls hq i23 hP hD hS hl
          refine lv_iconst (v := (-1)) hx hb dX11_more_56 (by decide) ?_
          exact hret ((-1)) (F22, L22, A22, B22) H locs 57 ls rfl dX11_more_57 hP hD hS ⟨hq, i23, (rg_k (by decide))⟩
        refine lv_if_lt (tgt := 56) hx hb dX11_more_46 (by decide) (fun c24 => ?_) (fun c24 => ?_)
        · skip
          have r25 : rg x20 (-2147483648) (-1) := rg_lt1 (iL c24) ((rg_top _) : rg x20 (-2147483648) 2147483647) ((rg_k (by decide)) : rg 0 0 0)
          exact J56 (F) (L) (A) (B) H locs ls hq hI hP hD hS (lv_sub hl [] rfl)
        · skip
          have r26 : rg x20 0 2147483647 := rg_le2 (iNL c24) ((rg_k (by decide)) : rg 0 0 0) ((rg_top _) : rg x20 (-2147483648) 2147483647)
          refine lv_iload hx hb dX11_more_49 (lv_at hl 0 rfl) ?_
          refine lv_bipush (v := 99) hx hb dX11_more_51 (by decide) ?_
          refine lv_icmp_le (tgt := 58) hx hb dX11_more_53 (by decide) (fun c27 => ?_) (fun c27 => ?_)
          · skip
            have r28 : rg x20 0 99 := rg_le1 (iE c27) (r26 : rg x20 0 2147483647) ((rg_k (by decide)) : rg 99 99 99)
            refine lv_aload_n hx hb dX11_more_58 rfl (lv_at hl 2 rfl) ?_
            refine va_get (ci := 11) (v := .ref (ad 18)) (C := RX11) (T := TX11) (N := 13) hx hb hg inX11 hown hK hP 0 atX_0 rfl 2 (by decide) (hg _ mw_527) (fun _ h9 => h9) rfl dX11_more_59 ?_
            refine va_get (ci := 3) (v := .ref (ad 19)) (C := RX3) (T := TX3) (N := 4) hx hb hg inX3 hown hK hP 18 atX_18 rfl 0 (by decide) (hg _ mw_237) (fun _ h9 => h9) rfl dX11_more_62 ?_
            refine lv_iload hx hb dX11_more_65 (lv_at hl 1 rfl) ?_
            refine lv_iload hx hb dX11_more_67 (lv_at hl 0 rfl) ?_
            refine va_iast hx hb hK hP hD hS 19 13 atX_19 tyX_19 (in_rg r17 (by decide)) dX11_more_69 (fun H locs hP hD hS => ?_)
            have hq := hq.ast 19 (x15).toNatClampNeg (x := x20) (by decide) (rg_top _)
            rw [setX_19] at hP hD
            have k30 : x20 = (va_up A 19 (upd (A 19) (x15).toNatClampNeg x20)) 19 (x15).toNatClampNeg := (rdA).symm
            refine lv_aload_n hx hb dX11_more_70 rfl (lv_at hl 2 rfl) ?_
            refine callv_v (As := []) (rest := []) hC (c_X11_actIsDone_0 l D cA H.size ad F L (va_up A 19 (upd (A 19) (x15).toNatClampNeg x20)) B  hq.1 hI) (cwV 0 hg (g_V mw_951 mw_948 mw_950 ms_41 mw_1) rfl rfl rfl (by decide +kernel) ⟨(Nat.le_of_ble_eq_true rfl), (Nat.le_of_ble_eq_true rfl)⟩) hP hD hS hA atX_0 rfl rfl hl.1 rfl (Nat.le_of_ble_eq_true rfl) dX11_more_71 ⟨Nat.zero_le _, Nat.zero_le _⟩ (fun  u H locs hw hP hD hS => ?_)
            obtain ⟨F31, L31, A31, B31⟩ := u
            try dsimp only at hw
            obtain ⟨hq31, i32⟩ := hw
            have hq := hq.call hq31 (by decide)
            have hP : va_P D classes (wX cA ad F31 L31 A31 B31) H := hP
            have hD : va_D Af (wX cA ad F31 L31 A31 B31) := hD
            refine lv_iload hx hb dX11_more_74 (lv_at hl 0 rfl) ?_
            exact hret (x20) (F31, L31, A31, B31) H locs 76 ls rfl dX11_more_76 hP hD hS ⟨hq, i32, (rg_w r28 (by decide))⟩
          · skip
            have r29 : rg x20 100 2147483647 := rg_lt2 (iNE c27) ((rg_k (by decide)) : rg 99 99 99) (r26 : rg x20 0 2147483647)
            exact J56 (F) (L) (A) (B) H locs ls hq hI hP hD hS (lv_sub hl [] rfl)
      · skip
        have r14 : rg p3 100 2147483647 := rg_lt2 (iNE c12) ((rg_k (by decide)) : rg 99 99 99) (r11 : rg p3 (-99) 2147483647)
        exact J21 (F) (L) (A) (B) H locs ls hq hI hP hD hS (lv_sub hl [] rfl)
abbrev rm_X3_canHandOver_18 : Room := { frames := 1, cells := 0, slots := 0, locals := 21 }
set_option maxHeartbeats 4000000 in
set_option maxRecDepth 100000 in
theorem c_X3_canHandOver_18 (l : Launch) (D : va_G) (cA : Nat → ClassId) (sz : Nat) (ad : Nat → Nat) (F : Nat → Int32) (L : Nat → Int64) (A : Nat → Nat → Int32) (B : Nat → Nat → Int64) (p1 : Int32) (p2 : Int32) (hT : typX F A) (hp1 : rg p1 0 7) (hp2 : rg p2 0 7) : Met l yX3_canHandOver (Cond.code yX3_canHandOver cX3_canHandOver 4 (some .boolean) :: GW) rm_X3_canHandOver_18 (mPc D classes (tysX cA) (wX cA ad F L A B) sz [.ref (ad 18), .int p1, .int p2]) (mQi (S := Unit) D classes (tysX cA) (wX cA ad F L A B) sz (fun _ : Unit => wX cA ad F L A B) (fun r u => rg r 0 1)) 0 0 (va_A (wX cA ad F L A B) sz) := by
  refine met_i (own := "ShoeingDay$Ledger") (by decide +kernel) rfl (Nat.le_of_ble_eq_true rfl) ?_
  intro p e s m args below meth c Q Af ls hC hP hD hS hA hl hret
  have hx := hC.1
  have hb := hC.2.1
  have hown := hC.2.2.2.1
  have hg := hC.g
  have hK := hC.K
  have hl : lv_has ls 4 [(0, .ref (ad 18)), (1, .int p1), (2, .int p2)] := hl
  have hq : qX [] [] F A F A := qX.rf hT
  obtain ⟨H, hH⟩ : ∃ H, H = s.heap := ⟨_, rfl⟩
  have hP : va_P D classes (wX cA ad F L A B) H := by rw [hH]; exact hP
  have hS : va_S Af s.heap H [] := by rw [hH]; exact hS
  obtain ⟨locs, hlo⟩ : ∃ q : List Loc, q = [] := ⟨_, rfl⟩
  rw [← hH, ← hlo]
  rw [← hlo] at hS
  refine lv_iconst (v := 0) hx hb dX3_canHandOver_0 (by decide) ?_
  refine lv_istore_n (lv' := [(3, .int 0), (0, .ref (ad 18)), (1, .int p1), (2, .int p2)]) hx hb dX3_canHandOver_1 rfl hl (by decide) rfl (fun ls hl => ?_)
  have J2 : ∀ (n2 : Nat) (a1 : Int32) (H : Heap) (locs : List Loc) (ls : Array Slot), (10 - a1.toInt).toNat < n2 → rg a1 0 10 → va_P D classes (wX cA ad F L A B) H → va_D Af (wX cA ad F L A B) → va_S Af s.heap H locs → lv_has ls 4 [(0, .ref (ad 18)), (1, .int p1), (2, .int p2), (3, .int a1)] → W p l e rm_X3_canHandOver_18 s m args below meth c H locs 0 0 Q (F0 m 2 ls []) := by
    intro n2
    induction n2 with
    | zero =>
      intro _ _ _ _ hn
      exact absurd hn (Nat.not_lt_zero _)
    | succ n2 ih2 =>
      intro a1 H locs ls hn2 r2 hP hD hS hl
      refine lv_iload_n hx hb dX3_canHandOver_2 rfl (lv_at hl 3 rfl) ?_
      refine lv_aload_n hx hb dX3_canHandOver_3 rfl (lv_at hl 0 rfl) ?_
      refine va_get (ci := 3) (v := .int (F 22)) (C := RX3) (T := TX3) (N := 4) hx hb hg inX3 hown hK hP 18 atX_18 rfl 2 (by decide) (hg _ mw_243) (fun _ h9 => h9) rfl dX3_canHandOver_4 ?_
      refine lv_topi (fun x3 e4 => ?_)
      have r5 : rg x3 0 10 := rg_e e4 (hq.1.1 22)
      refine lv_icmp_ge (tgt := 44) hx hb dX3_canHandOver_7 (by decide) (fun c6 => ?_) (fun c6 => ?_)
      · skip
        refine lv_iconst (v := 1) hx hb dX3_canHandOver_44 (by decide) ?_
        exact hret (1) () H locs 45 ls rfl dX3_canHandOver_45 hP hD hS (rg_k (by decide))
      · skip
        have r7 : rg a1 0 9 := rg_lt1 (iNE c6) (r2 : rg a1 0 10) (r5 : rg x3 0 10)
        have r8 : rg x3 1 10 := rg_lt2 (iNE c6) (r2 : rg a1 0 10) (r5 : rg x3 0 10)
        refine lv_aload_n hx hb dX3_canHandOver_10 rfl (lv_at hl 0 rfl) ?_
        refine va_get (ci := 3) (v := .ref (ad 19)) (C := RX3) (T := TX3) (N := 4) hx hb hg inX3 hown hK hP 18 atX_18 rfl 0 (by decide) (hg _ mw_233) (fun _ h9 => h9) rfl dX3_canHandOver_11 ?_
        refine lv_iload_n hx hb dX3_canHandOver_14 rfl (lv_at hl 1 rfl) ?_
        refine lv_iload_n hx hb dX3_canHandOver_15 rfl (lv_at hl 3 rfl) ?_
        refine calln_i (As := [.int p1, .int a1]) (rest := [.ref (ad 19)]) hC (c_X11_cellOf l D (tysX cA) (wX cA ad F L A B) H.size (p1) (a1)) ⟨va_cnB 2 hg (g_N mw_681) rfl rfl rfl (mn_11 hC.N) (hg _ mw_1) (by decide +kernel) ⟨(Nat.le_of_ble_eq_true rfl), (Nat.le_of_ble_eq_true rfl)⟩, (hg _ mw_680), trivial⟩ hP hD hS hA rfl hl.1 rfl (Nat.le_of_ble_eq_true rfl) dX3_canHandOver_16 ⟨Nat.zero_le _, Nat.zero_le _⟩ (fun x9 u H locs hw hP hD hS => ?_)
        have e10 := hw
        have hP : va_P D classes (wX cA ad F L A B) H := hP
        have hD : va_D Af (wX cA ad F L A B) := hD
        have r11 : rg x9 0 79 := rg_cell hw (hp1 : rg p1 0 7) (r7 : rg a1 0 9) (by decide)
        refine va_iald hx hb hK hP 19 13 atX_19 tyX_19 (in_rg r11 (by decide)) dX3_canHandOver_19 ?_
        refine lv_topi (fun x12 e13 => ?_)
        refine lv_aload_n hx hb dX3_canHandOver_20 rfl (lv_at hl 0 rfl) ?_
        refine va_get (ci := 3) (v := .ref (ad 19)) (C := RX3) (T := TX3) (N := 4) hx hb hg inX3 hown hK hP 18 atX_18 rfl 0 (by decide) (hg _ mw_233) (fun _ h9 => h9) rfl dX3_canHandOver_21 ?_
        refine lv_iload_n hx hb dX3_canHandOver_24 rfl (lv_at hl 2 rfl) ?_
        refine lv_iload_n hx hb dX3_canHandOver_25 rfl (lv_at hl 3 rfl) ?_
        refine calln_i (As := [.int p2, .int a1]) (rest := [.ref (ad 19), .int x12]) hC (c_X11_cellOf l D (tysX cA) (wX cA ad F L A B) H.size (p2) (a1)) ⟨va_cnB 2 hg (g_N mw_681) rfl rfl rfl (mn_11 hC.N) (hg _ mw_1) (by decide +kernel) ⟨(Nat.le_of_ble_eq_true rfl), (Nat.le_of_ble_eq_true rfl)⟩, (hg _ mw_680), trivial⟩ hP hD hS hA rfl hl.1 rfl (Nat.le_of_ble_eq_true rfl) dX3_canHandOver_26 ⟨Nat.zero_le _, Nat.zero_le _⟩ (fun x14 u H locs hw hP hD hS => ?_)
        have e15 := hw
        have hP : va_P D classes (wX cA ad F L A B) H := hP
        have hD : va_D Af (wX cA ad F L A B) := hD
        have r16 : rg x14 0 79 := rg_cell hw (hp2 : rg p2 0 7) (r7 : rg a1 0 9) (by decide)
        refine va_iald hx hb hK hP 19 13 atX_19 tyX_19 (in_rg r16 (by decide)) dX3_canHandOver_29 ?_
        refine lv_topi (fun x17 e18 => ?_)
        refine lv_iadd hx hb dX3_canHandOver_30 ?_
        refine lv_topi (fun x19 e20 => ?_)
        refine lv_bipush (v := 99) hx hb dX3_canHandOver_31 (by decide) ?_
        refine lv_icmp_le (tgt := 38) hx hb dX3_canHandOver_33 (by decide) (fun c21 => ?_) (fun c21 => ?_)
        · skip
          have r22 : rg x19 (-2147483648) 99 := rg_le1 (iE c21) ((rg_top _) : rg x19 (-2147483648) 2147483647) ((rg_k (by decide)) : rg 99 99 99)
          obtain ⟨x24, e25⟩ : ∃ y : Int32, y = a1 + 1 := ⟨_, rfl⟩
          have r26 : rg x24 1 10 := rg_add e25 r7 (rg_k (by decide) : rg 1 1 1) (by decide)
          refine lv_iinc (v := x24) (lv' := [(3, .int x24), (0, .ref (ad 18)), (1, .int p1), (2, .int p2)]) hx hb dX3_canHandOver_38 hl (k := 3) rfl (by rw [e25]; rfl) (by decide) rfl (fun ls hl => ?_)
          refine lv_goto (tgt := 2) hx hb dX3_canHandOver_41 (by decide) ?_
          exact ih2 (x24) H locs ls (by have h0 : (1 : Int32).toInt = 1 := rfl; have h1 := ti_addk e25 r7 (by decide); have h2 : rg x24 0 10 := (rg_w r26 (by decide)); unfold rg at h2; omega) (rg_w r26 (by decide)) hP hD hS (lv_sub hl [1, 2, 3, 0] rfl)
        · skip
          have r23 : rg x19 100 2147483647 := rg_lt2 (iNE c21) ((rg_k (by decide)) : rg 99 99 99) ((rg_top _) : rg x19 (-2147483648) 2147483647)
          refine lv_iconst (v := 0) hx hb dX3_canHandOver_36 (by decide) ?_
          exact hret (0) () H locs 37 ls rfl dX3_canHandOver_37 hP hD hS (rg_k (by decide))
  exact J2 _ (0) H locs ls (Nat.lt_succ_self _) (rg_k (by decide)) hP hD hS (lv_sub hl [1, 2, 3, 0] rfl)
abbrev rm_X3_handOver_18 : Room := { frames := 1, cells := 0, slots := 0, locals := 21 }
set_option maxHeartbeats 4000000 in
set_option maxRecDepth 100000 in
theorem c_X3_handOver_18 (l : Launch) (D : va_G) (cA : Nat → ClassId) (sz : Nat) (ad : Nat → Nat) (F : Nat → Int32) (L : Nat → Int64) (A : Nat → Nat → Int32) (B : Nat → Nat → Int64) (p1 : Int32) (p2 : Int32) (hT : typX F A) (hp1 : rg p1 0 7) (hp2 : rg p2 0 7) : Met l yX3_handOver (Cond.code yX3_handOver cX3_handOver 6 (some .int) :: GW) rm_X3_handOver_18 (mPc D classes (tysX cA) (wX cA ad F L A B) sz [.ref (ad 18), .int p1, .int p2]) (mQi (S := SW) D classes (tysX cA) (wX cA ad F L A B) sz (wfX cA ad) (fun r u => qX [] [19] F A u.1 u.2.2.1)) 0 0 (va_A (wX cA ad F L A B) sz) := by
  refine met_i (own := "ShoeingDay$Ledger") (by decide +kernel) rfl (Nat.le_of_ble_eq_true rfl) ?_
  intro p e s m args below meth c Q Af ls hC hP hD hS hA hl hret
  have hx := hC.1
  have hb := hC.2.1
  have hown := hC.2.2.2.1
  have hg := hC.g
  have hK := hC.K
  have hl : lv_has ls 6 [(0, .ref (ad 18)), (1, .int p1), (2, .int p2)] := hl
  have hq : qX [] [19] F A F A := qX.rf hT
  obtain ⟨H, hH⟩ : ∃ H, H = s.heap := ⟨_, rfl⟩
  have hP : va_P D classes (wX cA ad F L A B) H := by rw [hH]; exact hP
  have hS : va_S Af s.heap H [] := by rw [hH]; exact hS
  obtain ⟨locs, hlo⟩ : ∃ q : List Loc, q = [] := ⟨_, rfl⟩
  rw [← hH, ← hlo]
  rw [← hlo] at hS
  refine lv_iconst (v := 0) hx hb dX3_handOver_0 (by decide) ?_
  refine lv_istore_n (lv' := [(3, .int 0), (0, .ref (ad 18)), (1, .int p1), (2, .int p2)]) hx hb dX3_handOver_1 rfl hl (by decide) rfl (fun ls hl => ?_)
  refine lv_iconst (v := 0) hx hb dX3_handOver_2 (by decide) ?_
  refine lv_istore (lv' := [(4, .int 0), (3, .int 0), (0, .ref (ad 18)), (1, .int p1), (2, .int p2)]) hx hb dX3_handOver_3 hl (by decide) rfl (fun ls hl => ?_)
  have J5 : ∀ (n5 : Nat) (a1 : Int32) (a2 : Int32) (F4 : Nat → Int32) (L4 : Nat → Int64) (A4 : Nat → Nat → Int32) (B4 : Nat → Nat → Int64) (H : Heap) (locs : List Loc) (ls : Array Slot), (10 - a2.toInt).toNat < n5 → rg a2 0 10 → qX [] [19] F A F4 A4 → va_P D classes (wX cA ad F4 L4 A4 B4) H → va_D Af (wX cA ad F4 L4 A4 B4) → va_S Af s.heap H locs → lv_has ls 6 [(0, .ref (ad 18)), (1, .int p1), (2, .int p2), (3, .int a1), (4, .int a2)] → W p l e rm_X3_handOver_18 s m args below meth c H locs 0 0 Q (F0 m 5 ls []) := by
    intro n5
    induction n5 with
    | zero =>
      intro _ _ _ _ _ _ _ _ _ hn
      exact absurd hn (Nat.not_lt_zero _)
    | succ n5 ih5 =>
      intro a1 a2 F4 L4 A4 B4 H locs ls hn5 r3 hq hP hD hS hl
      refine lv_iload hx hb dX3_handOver_5 (lv_at hl 4 rfl) ?_
      refine lv_aload_n hx hb dX3_handOver_7 rfl (lv_at hl 0 rfl) ?_
      refine va_get (ci := 3) (v := .int (F4 22)) (C := RX3) (T := TX3) (N := 4) hx hb hg inX3 hown hK hP 18 atX_18 rfl 2 (by decide) (hg _ mw_243) (fun _ h9 => h9) rfl dX3_handOver_8 ?_
      refine lv_topi (fun x5 e6 => ?_)
      have r7 : rg x5 0 10 := rg_e e6 (hq.1.1 22)
      refine lv_icmp_ge (tgt := 67) hx hb dX3_handOver_11 (by decide) (fun c8 => ?_) (fun c8 => ?_)
      · skip
        refine lv_iload_n hx hb dX3_handOver_67 rfl (lv_at hl 3 rfl) ?_
        exact hret (a1) (F4, L4, A4, B4) H locs 68 ls rfl dX3_handOver_68 hP hD hS hq
      · skip
        have r9 : rg a2 0 9 := rg_lt1 (iNE c8) (r3 : rg a2 0 10) (r7 : rg x5 0 10)
        have r10 : rg x5 1 10 := rg_lt2 (iNE c8) (r3 : rg a2 0 10) (r7 : rg x5 0 10)
        refine lv_iload_n hx hb dX3_handOver_14 rfl (lv_at hl 1 rfl) ?_
        refine lv_iload hx hb dX3_handOver_15 (lv_at hl 4 rfl) ?_
        refine calln_i (As := [.int p1, .int a2]) (rest := []) hC (c_X11_cellOf l D (tysX cA) (wX cA ad F4 L4 A4 B4) H.size (p1) (a2)) ⟨va_cnB 2 hg (g_N mw_681) rfl rfl rfl (mn_11 hC.N) (hg _ mw_1) (by decide +kernel) ⟨(Nat.le_of_ble_eq_true rfl), (Nat.le_of_ble_eq_true rfl)⟩, (hg _ mw_680), trivial⟩ hP hD hS hA rfl hl.1 rfl (Nat.le_of_ble_eq_true rfl) dX3_handOver_17 ⟨Nat.zero_le _, Nat.zero_le _⟩ (fun x11 u H locs hw hP hD hS => ?_)
        have e12 := hw
        have hP : va_P D classes (wX cA ad F4 L4 A4 B4) H := hP
        have hD : va_D Af (wX cA ad F4 L4 A4 B4) := hD
        have r13 : rg x11 0 79 := rg_cell hw (hp1 : rg p1 0 7) (r9 : rg a2 0 9) (by decide)
        refine lv_istore (lv' := [(5, .int x11), (0, .ref (ad 18)), (1, .int p1), (2, .int p2), (3, .int a1), (4, .int a2)]) hx hb dX3_handOver_20 hl (by decide) rfl (fun ls hl => ?_)
        refine lv_iload_n hx hb dX3_handOver_22 rfl (lv_at hl 4 rfl) ?_
        refine lv_aload_n hx hb dX3_handOver_23 rfl (lv_at hl 1 rfl) ?_
        refine va_get (ci := 3) (v := .ref (ad 19)) (C := RX3) (T := TX3) (N := 4) hx hb hg inX3 hown hK hP 18 atX_18 rfl 0 (by decide) (hg _ mw_233) (fun _ h9 => h9) rfl dX3_handOver_24 ?_
        refine lv_iload hx hb dX3_handOver_27 (lv_at hl 0 rfl) ?_
        refine va_iald hx hb hK hP 19 13 atX_19 tyX_19 (in_rg r13 (by decide)) dX3_handOver_29 ?_
        refine lv_topi (fun x14 e15 => ?_)
        refine lv_iadd hx hb dX3_handOver_30 ?_
        refine lv_topi (fun x16 e17 => ?_)
        refine lv_istore_n (lv' := [(3, .int x16), (5, .int x11), (0, .ref (ad 18)), (1, .int p1), (2, .int p2), (4, .int a2)]) hx hb dX3_handOver_31 rfl hl (by decide) rfl (fun ls hl => ?_)
        refine lv_aload_n hx hb dX3_handOver_32 rfl (lv_at hl 2 rfl) ?_
        refine va_get (ci := 3) (v := .ref (ad 19)) (C := RX3) (T := TX3) (N := 4) hx hb hg inX3 hown hK hP 18 atX_18 rfl 0 (by decide) (hg _ mw_233) (fun _ h9 => h9) rfl dX3_handOver_33 ?_
        refine lv_iload_n hx hb dX3_handOver_36 rfl (lv_at hl 4 rfl) ?_
        refine lv_iload hx hb dX3_handOver_37 (lv_at hl 5 rfl) ?_
        refine calln_i (As := [.int p2, .int a2]) (rest := [.ref (ad 19)]) hC (c_X11_cellOf l D (tysX cA) (wX cA ad F4 L4 A4 B4) H.size (p2) (a2)) ⟨va_cnB 2 hg (g_N mw_681) rfl rfl rfl (mn_11 hC.N) (hg _ mw_1) (by decide +kernel) ⟨(Nat.le_of_ble_eq_true rfl), (Nat.le_of_ble_eq_true rfl)⟩, (hg _ mw_680), trivial⟩ hP hD hS hA rfl hl.1 rfl (Nat.le_of_ble_eq_true rfl) dX3_handOver_39 ⟨Nat.zero_le _, Nat.zero_le _⟩ (fun x18 u H locs hw hP hD hS => ?_)
        have e19 := hw
        have hP : va_P D classes (wX cA ad F4 L4 A4 B4) H := hP
        have hD : va_D Af (wX cA ad F4 L4 A4 B4) := hD
        have r20 : rg x18 0 79 := rg_cell hw (hp2 : rg p2 0 7) (r9 : rg a2 0 9) (by decide)
        refine lv_dup2_11 hx hb dX3_handOver_42 rfl rfl ?_
        refine va_iald hx hb hK hP 19 13 atX_19 tyX_19 (in_rg r20 (by decide)) dX3_handOver_43 ?_
        refine lv_topi (fun x21 e22 => ?_)
        refine lv_aload_n hx hb dX3_handOver_44 rfl (lv_at hl 2 rfl) ?_
        refine va_get (ci := 3) (v := .ref (ad 19)) (C := RX3) (T := TX3) (N := 4) hx hb hg inX3 hown hK hP 18 atX_18 rfl 0 (by decide) (hg _ mw_233) (fun _ h9 => h9) rfl dX3_handOver_45 ?_
        refine lv_iload hx hb dX3_handOver_48 (lv_at hl 1 rfl) ?_
        refine va_iald hx hb hK hP 19 13 atX_19 tyX_19 (in_rg r13 (by decide)) dX3_handOver_50 ?_
        refine tope (e15) ?_
        refine lv_iadd hx hb dX3_handOver_51 ?_
        refine lv_topi (fun x23 e24 => ?_)
        refine va_iast hx hb hK hP hD hS 19 13 atX_19 tyX_19 (in_rg r20 (by decide)) dX3_handOver_52 (fun H locs hP hD hS => ?_)
        have hq := hq.ast 19 (x18).toNatClampNeg (x := x23) (by decide) (rg_top _)
        rw [setX_19] at hP hD
        have k25 : x23 = (va_up A4 19 (upd (A4 19) (x18).toNatClampNeg x23)) 19 (x18).toNatClampNeg := (rdA).symm
        refine lv_aload_n hx hb dX3_handOver_53 rfl (lv_at hl 2 rfl) ?_
        refine va_get (ci := 3) (v := .ref (ad 19)) (C := RX3) (T := TX3) (N := 4) hx hb hg inX3 hown hK hP 18 atX_18 rfl 0 (by decide) (hg _ mw_233) (fun _ h9 => h9) rfl dX3_handOver_54 ?_
        refine lv_iload hx hb dX3_handOver_57 (lv_at hl 1 rfl) ?_
        refine lv_iconst (v := 0) hx hb dX3_handOver_59 (by decide) ?_
        refine va_iast hx hb hK hP hD hS 19 13 atX_19 tyX_19 (in_rg r13 (by decide)) dX3_handOver_60 (fun H locs hP hD hS => ?_)
        have hq := hq.ast 19 (x11).toNatClampNeg (x := 0) (by decide) (rg_k (by decide))
        rw [setX_19] at hP hD
        have k26 : (0 : Int32) = (va_up (va_up A4 19 (upd (A4 19) (x18).toNatClampNeg x23)) 19 (upd ((va_up A4 19 (upd (A4 19) (x18).toNatClampNeg x23)) 19) (x11).toNatClampNeg 0)) 19 (x11).toNatClampNeg := (rdA).symm
        obtain ⟨x27, e28⟩ : ∃ y : Int32, y = a2 + 1 := ⟨_, rfl⟩
        have r29 : rg x27 1 10 := rg_add e28 r9 (rg_k (by decide) : rg 1 1 1) (by decide)
        refine lv_iinc (v := x27) (lv' := [(4, .int x27), (3, .int x16), (5, .int x11), (0, .ref (ad 18)), (1, .int p1), (2, .int p2)]) hx hb dX3_handOver_61 hl (k := 5) rfl (by rw [e28]; rfl) (by decide) rfl (fun ls hl => ?_)
        refine lv_goto (tgt := 5) hx hb dX3_handOver_64 (by decide) ?_
        exact ih5 (x16) (x27) (F4) (L4) ((va_up (va_up A4 19 (upd (A4 19) (x18).toNatClampNeg x23)) 19 (upd ((va_up A4 19 (upd (A4 19) (x18).toNatClampNeg x23)) 19) (x11).toNatClampNeg 0))) (B4) H locs ls (by have h0 : (1 : Int32).toInt = 1 := rfl; have h1 := ti_addk e28 r9 (by decide); have h2 : rg x27 0 10 := (rg_w r29 (by decide)); unfold rg at h2; omega) (rg_w r29 (by decide)) hq hP hD hS (lv_sub hl [3, 4, 5, 1, 0] rfl)
  exact J5 _ (0) (0) (F) (L) (A) (B) H locs ls (Nat.lt_succ_self _) (rg_k (by decide)) hq hP hD hS (lv_sub hl [2, 3, 4, 1, 0] rfl)
abbrev rm_X11_breaks_0 : Room := { frames := 4, cells := 0, slots := 0, locals := 107 }
set_option maxHeartbeats 4000000 in
set_option maxRecDepth 100000 in
theorem c_X11_breaks_0 (l : Launch) (D : va_G) (cA : Nat → ClassId) (sz : Nat) (ad : Nat → Nat) (F : Nat → Int32) (L : Nat → Int64) (A : Nat → Nat → Int32) (B : Nat → Nat → Int64) (p1 : Int32) (p2 : Int32) (hT : typX F A) (hI : xX F) : Met l yX11_breaks (Cond.code yX11_breaks cX11_breaks 4 (some .int) :: GW) rm_X11_breaks_0 (mPc D classes (tysX cA) (wX cA ad F L A B) sz [.ref (ad 0), .int p1, .int p2]) (mQi (S := SW) D classes (tysX cA) (wX cA ad F L A B) sz (wfX cA ad) (fun r u => qX [24, 25, 26, 32, 36] [19, 22, 23] F A u.1 u.2.2.1 ∧ xX u.1)) 0 0 (va_A (wX cA ad F L A B) sz) := by
  refine met_i (own := "ShoeingDay") (by decide +kernel) rfl (Nat.le_of_ble_eq_true rfl) ?_
  intro p e s m args below meth c Q Af ls hC hP hD hS hA hl hret
  have hx := hC.1
  have hb := hC.2.1
  have hown := hC.2.2.2.1
  have hg := hC.g
  have hK := hC.K
  have hl : lv_has ls 4 [(0, .ref (ad 0)), (1, .int p1), (2, .int p2)] := hl
  have hq : qX [24, 25, 26, 32, 36] [19, 22, 23] F A F A := qX.rf hT
  obtain ⟨H, hH⟩ : ∃ H, H = s.heap := ⟨_, rfl⟩
  have hP : va_P D classes (wX cA ad F L A B) H := by rw [hH]; exact hP
  have hS : va_S Af s.heap H [] := by rw [hH]; exact hS
  obtain ⟨locs, hlo⟩ : ∃ q : List Loc, q = [] := ⟨_, rfl⟩
  rw [← hH, ← hlo]
  rw [← hlo] at hS
  refine lv_aload_n hx hb dX11_breaks_0 rfl (lv_at hl 0 rfl) ?_
  refine lv_iload_n hx hb dX11_breaks_1 rfl (lv_at hl 1 rfl) ?_
  refine callv_i (As := [.int p1]) (rest := []) hC (c_X11_isSmith_0 l D cA H.size ad F L A B (p1) hq.1) (cwV 1 hg (g_V mw_731 mw_728 mw_730 ms_19 mw_1) rfl rfl rfl (by decide +kernel) ⟨(Nat.le_of_ble_eq_true rfl), (Nat.le_of_ble_eq_true rfl)⟩) hP hD hS hA atX_0 rfl rfl hl.1 rfl (Nat.le_of_ble_eq_true rfl) dX11_breaks_2 ⟨Nat.zero_le _, Nat.zero_le _⟩ (fun x1 u H locs hw hP hD hS => ?_)
  obtain ⟨r2, g3⟩ := hw
  have hP : va_P D classes (wX cA ad F L A B) H := hP
  have hD : va_D Af (wX cA ad F L A B) := hD
  have J33 : ∀ (F4 : Nat → Int32) (L4 : Nat → Int64) (A4 : Nat → Nat → Int32) (B4 : Nat → Nat → Int64) (H : Heap) (locs : List Loc) (ls : Array Slot), qX [24, 25, 26, 32, 36] [19, 22, 23] F A F4 A4 → xX F4 → va_P D classes (wX cA ad F4 L4 A4 B4) H → va_D Af (wX cA ad F4 L4 A4 B4) → va_S Af s.heap H locs → lv_has ls 4 [] → W p l e rm_X11_breaks_0 s m args below meth c H locs 0 0 Q (F0 m 33 ls []) := by
    intro F4 L4 A4 B4 H locs ls hq i5 hP hD hS hl
    refine lv_iconst (v := (-1)) hx hb dX11_breaks_33 (by decide) ?_
    exact hret ((-1)) (F4, L4, A4, B4) H locs 34 ls rfl dX11_breaks_34 hP hD hS ⟨hq, i5⟩
  refine lv_if_eq (tgt := 33) hx hb dX11_breaks_5 (by decide) (fun c6 => ?_) (fun c6 => ?_)
  · skip
    have r7 : rg x1 0 0 := rg_eq1 c6 (r2 : rg x1 0 1) ((rg_k (by decide)) : rg 0 0 0) (by decide)
    exact J33 (F) (L) (A) (B) H locs ls hq hI hP hD hS (lv_sub hl [] rfl)
  · skip
    have g8 := g3.resolve_left c6
    refine lv_aload_n hx hb dX11_breaks_8 rfl (lv_at hl 0 rfl) ?_
    refine lv_iload_n hx hb dX11_breaks_9 rfl (lv_at hl 2 rfl) ?_
    refine callv_i (As := [.int p2]) (rest := []) hC (c_X11_isSmith_0 l D cA H.size ad F L A B (p2) hq.1) (cwV 1 hg (g_V mw_731 mw_728 mw_730 ms_19 mw_1) rfl rfl rfl (by decide +kernel) ⟨(Nat.le_of_ble_eq_true rfl), (Nat.le_of_ble_eq_true rfl)⟩) hP hD hS hA atX_0 rfl rfl hl.1 rfl (Nat.le_of_ble_eq_true rfl) dX11_breaks_10 ⟨Nat.zero_le _, Nat.zero_le _⟩ (fun x9 u H locs hw hP hD hS => ?_)
    obtain ⟨r10, g11⟩ := hw
    have hP : va_P D classes (wX cA ad F L A B) H := hP
    have hD : va_D Af (wX cA ad F L A B) := hD
    refine lv_if_eq (tgt := 33) hx hb dX11_breaks_13 (by decide) (fun c12 => ?_) (fun c12 => ?_)
    · skip
      have r13 : rg x9 0 0 := rg_eq1 c12 (r10 : rg x9 0 1) ((rg_k (by decide)) : rg 0 0 0) (by decide)
      exact J33 (F) (L) (A) (B) H locs ls hq hI hP hD hS (lv_sub hl [] rfl)
    · skip
      have g14 := g11.resolve_left c12
      refine lv_iload_n hx hb dX11_breaks_16 rfl (lv_at hl 1 rfl) ?_
      refine lv_iload_n hx hb dX11_breaks_17 rfl (lv_at hl 2 rfl) ?_
      refine lv_icmp_eq (tgt := 33) hx hb dX11_breaks_18 (by decide) (fun c15 => ?_) (fun c15 => ?_)
      · skip
        exact J33 (F) (L) (A) (B) H locs ls hq hI hP hD hS (lv_sub hl [] rfl)
      · skip
        refine lv_aload_n hx hb dX11_breaks_21 rfl (lv_at hl 0 rfl) ?_
        refine va_get (ci := 11) (v := .ref (ad 18)) (C := RX11) (T := TX11) (N := 13) hx hb hg inX11 hown hK hP 0 atX_0 rfl 2 (by decide) (hg _ mw_527) (fun _ h9 => h9) rfl dX11_breaks_22 ?_
        refine lv_iload_n hx hb dX11_breaks_25 rfl (lv_at hl 1 rfl) ?_
        refine lv_iload_n hx hb dX11_breaks_26 rfl (lv_at hl 2 rfl) ?_
        refine callv_i (As := [.int p1, .int p2]) (rest := []) hC (c_X3_canHandOver_18 l D cA H.size ad F L A B (p1) (p2) hq.1 g8 g14) (cwV 2 hg (g_V mw_967 mw_964 mw_965 mw_966 mw_9) rfl rfl rfl (by decide +kernel) ⟨(Nat.le_of_ble_eq_true rfl), (Nat.le_of_ble_eq_true rfl)⟩) hP hD hS hA atX_18 rfl rfl hl.1 rfl (Nat.le_of_ble_eq_true rfl) dX11_breaks_27 ⟨Nat.zero_le _, Nat.zero_le _⟩ (fun x16 u H locs hw hP hD hS => ?_)
        have r17 := hw
        have hP : va_P D classes (wX cA ad F L A B) H := hP
        have hD : va_D Af (wX cA ad F L A B) := hD
        refine lv_if_ne (tgt := 35) hx hb dX11_breaks_30 (by decide) (fun c18 => ?_) (fun c18 => ?_)
        · skip
          have r19 : rg x16 1 1 := (rg_ne1 c18 (r17 : rg x16 0 1) ((rg_k (by decide)) : rg 0 0 0)).1 rfl
          refine lv_aload_n hx hb dX11_breaks_35 rfl (lv_at hl 0 rfl) ?_
          refine va_get (ci := 11) (v := .ref (ad 18)) (C := RX11) (T := TX11) (N := 13) hx hb hg inX11 hown hK hP 0 atX_0 rfl 2 (by decide) (hg _ mw_527) (fun _ h9 => h9) rfl dX11_breaks_36 ?_
          refine lv_iload_n hx hb dX11_breaks_39 rfl (lv_at hl 1 rfl) ?_
          refine lv_iload_n hx hb dX11_breaks_40 rfl (lv_at hl 2 rfl) ?_
          refine callv_i (As := [.int p1, .int p2]) (rest := []) hC (c_X3_handOver_18 l D cA H.size ad F L A B (p1) (p2) hq.1 g8 g14) (cwV 2 hg (g_V mw_971 mw_968 mw_969 mw_970 mw_9) rfl rfl rfl (by decide +kernel) ⟨(Nat.le_of_ble_eq_true rfl), (Nat.le_of_ble_eq_true rfl)⟩) hP hD hS hA atX_18 rfl rfl hl.1 rfl (Nat.le_of_ble_eq_true rfl) dX11_breaks_41 ⟨Nat.zero_le _, Nat.zero_le _⟩ (fun x21 u H locs hw hP hD hS => ?_)
          obtain ⟨F22, L22, A22, B22⟩ := u
          try dsimp only at hw
          have hq22 := hw
          have hq := hq.call hq22 (by decide)
          have hP : va_P D classes (wX cA ad F22 L22 A22 B22) H := hP
          have hD : va_D Af (wX cA ad F22 L22 A22 B22) := hD
          refine lv_istore_n (lv' := [(3, .int x21), (0, .ref (ad 0)), (1, .int p1), (2, .int p2)]) hx hb dX11_breaks_44 rfl hl (by decide) rfl (fun ls hl => ?_)
          refine lv_aload_n hx hb dX11_breaks_45 rfl (lv_at hl 1 rfl) ?_
          refine callv_v (As := []) (rest := []) hC (c_X11_actIsDone_0 l D cA H.size ad F22 L22 A22 B22  hq.1 (xX.fr hI (hq22.2.1 25 (by decide)) (hq22.2.1 26 (by decide)))) (cwV 0 hg (g_V mw_951 mw_948 mw_950 ms_41 mw_1) rfl rfl rfl (by decide +kernel) ⟨(Nat.le_of_ble_eq_true rfl), (Nat.le_of_ble_eq_true rfl)⟩) hP hD hS hA atX_0 rfl rfl hl.1 rfl (Nat.le_of_ble_eq_true rfl) dX11_breaks_46 ⟨Nat.zero_le _, Nat.zero_le _⟩ (fun  u H locs hw hP hD hS => ?_)
          obtain ⟨F23, L23, A23, B23⟩ := u
          try dsimp only at hw
          obtain ⟨hq23, i24⟩ := hw
          have hq := hq.call hq23 (by decide)
          have hP : va_P D classes (wX cA ad F23 L23 A23 B23) H := hP
          have hD : va_D Af (wX cA ad F23 L23 A23 B23) := hD
          refine lv_iload_n hx hb dX11_breaks_49 rfl (lv_at hl 0 rfl) ?_
          exact hret (x21) (F23, L23, A23, B23) H locs 50 ls rfl dX11_breaks_50 hP hD hS ⟨hq, i24⟩
        · skip
          have r20 : rg x16 0 0 := rg_eq1 c18 (r17 : rg x16 0 1) ((rg_k (by decide)) : rg 0 0 0) (by decide)
          exact J33 (F) (L) (A) (B) H locs ls hq hI hP hD hS (lv_sub hl [] rfl)
abbrev rm_X7_fetch_21_18 : Room := { frames := 1, cells := 0, slots := 0, locals := 44 }
set_option maxHeartbeats 4000000 in
set_option maxRecDepth 100000 in
theorem c_X7_fetch_21_18 (l : Launch) (D : va_G) (cA : Nat → ClassId) (sz : Nat) (ad : Nat → Nat) (F : Nat → Int32) (L : Nat → Int64) (A : Nat → Nat → Int32) (B : Nat → Nat → Int64) (p1 : Int32) (hT : typX F A) (hp1 : rg p1 0 40) : Met l yX7_fetch (Cond.code yX7_fetch cX7_fetch 3 (some .boolean) :: GW) rm_X7_fetch_21_18 (mPc D classes (tysX cA) (wX cA ad F L A B) sz [.ref (ad 21), .int p1, .ref (ad 18)]) (mQi (S := SW) D classes (tysX cA) (wX cA ad F L A B) sz (wfX cA ad) (fun r u => qX [23] [19] F A u.1 u.2.2.1 ∧ rg r 0 1)) 0 0 (va_A (wX cA ad F L A B) sz) := by
  refine met_i (own := "ShoeingDay$Shelf") (by decide +kernel) rfl (Nat.le_of_ble_eq_true rfl) ?_
  intro p e s m args below meth c Q Af ls hC hP hD hS hA hl hret
  have hx := hC.1
  have hb := hC.2.1
  have hown := hC.2.2.2.1
  have hg := hC.g
  have hK := hC.K
  have hl : lv_has ls 3 [(0, .ref (ad 21)), (1, .int p1), (2, .ref (ad 18))] := hl
  have hq : qX [23] [19] F A F A := qX.rf hT
  obtain ⟨H, hH⟩ : ∃ H, H = s.heap := ⟨_, rfl⟩
  have hP : va_P D classes (wX cA ad F L A B) H := by rw [hH]; exact hP
  have hS : va_S Af s.heap H [] := by rw [hH]; exact hS
  obtain ⟨locs, hlo⟩ : ∃ q : List Loc, q = [] := ⟨_, rfl⟩
  rw [← hH, ← hlo]
  rw [← hlo] at hS
  refine lv_iload_n hx hb dX7_fetch_0 rfl (lv_at hl 1 rfl) ?_
  refine lv_if_lt (tgt := 22) hx hb dX7_fetch_1 (by decide) (fun c1 => ?_) (fun c1 => ?_)
  · skip
    exact rg_emp (rg_lt1 (iL c1) (hp1 : rg p1 0 40) ((rg_k (by decide)) : rg 0 0 0)) (by decide)
  · skip
    refine lv_iload_n hx hb dX7_fetch_4 rfl (lv_at hl 1 rfl) ?_
    refine lv_aload_n hx hb dX7_fetch_5 rfl (lv_at hl 0 rfl) ?_
    refine va_get (ci := 7) (v := .int (F 27)) (C := RX7) (T := TX7) (N := 3) hx hb hg inX7 hown hK hP 21 atX_21 rfl 0 (by decide) (hg _ mw_281) (fun _ h9 => h9) rfl dX7_fetch_6 ?_
    refine lv_topi (fun x2 e3 => ?_)
    have r4 : rg x2 41 41 := rg_e e3 (hq.1.1 27)
    refine lv_icmp_ge (tgt := 22) hx hb dX7_fetch_9 (by decide) (fun c5 => ?_) (fun c5 => ?_)
    · skip
      exact rg_emp (rg_le1 (iE c5) (r4 : rg x2 41 41) (hp1 : rg p1 0 40)) (by decide)
    · skip
      refine lv_aload_n hx hb dX7_fetch_12 rfl (lv_at hl 0 rfl) ?_
      refine va_get (ci := 7) (v := .ref (ad 23)) (C := RX7) (T := TX7) (N := 3) hx hb hg inX7 hown hK hP 21 atX_21 rfl 2 (by decide) (hg _ mw_283) (fun _ h9 => h9) rfl dX7_fetch_13 ?_
      refine lv_iload_n hx hb dX7_fetch_16 rfl (lv_at hl 1 rfl) ?_
      refine va_iald hx hb hK hP 23 15 atX_23 tyX_23 (in_rg hp1 (by decide)) dX7_fetch_17 ?_
      refine lv_topi (fun x6 e7 => ?_)
      refine lv_iconst (v := (-1)) hx hb dX7_fetch_18 (by decide) ?_
      refine lv_icmp_ne (tgt := 24) hx hb dX7_fetch_19 (by decide) (fun c8 => ?_) (fun c8 => ?_)
      · skip
        refine lv_aload_n hx hb dX7_fetch_24 rfl (lv_at hl 0 rfl) ?_
        refine va_get (ci := 7) (v := .ref (ad 22)) (C := RX7) (T := TX7) (N := 3) hx hb hg inX7 hown hK hP 21 atX_21 rfl 1 (by decide) (hg _ mw_282) (fun _ h9 => h9) rfl dX7_fetch_25 ?_
        refine lv_iload_n hx hb dX7_fetch_28 rfl (lv_at hl 1 rfl) ?_
        refine lv_bipush (v := 80) hx hb dX7_fetch_29 (by decide) ?_
        refine lv_imul hx hb dX7_fetch_31 ?_
        refine lv_topi (fun x10 e11 => ?_)
        have r12 : rg x10 0 3200 := rg_mul e11 hp1 ((rg_k (by decide)) : rg 80 80 80) (by decide)
        refine lv_aload_n hx hb dX7_fetch_32 rfl (lv_at hl 2 rfl) ?_
        refine va_get (ci := 3) (v := .ref (ad 19)) (C := RX3) (T := TX3) (N := 4) hx hb hg inX3 hown hK hP 18 atX_18 rfl 0 (by decide) (hg _ mw_235) (fun _ h9 => h9) rfl dX7_fetch_33 ?_
        refine lv_iconst (v := 0) hx hb dX7_fetch_36 (by decide) ?_
        refine lv_bipush (v := 80) hx hb dX7_fetch_37 (by decide) ?_
        refine va_copyi hx hb (hC.2.2.1.trans hl.1.symm) hown (hg _ mw_522) (hg _ mw_524) (hg _ mw_523) (hg _ mw_19) hK hP hD hS 22 19 14 13 atX_22 atX_19 tyX_22 tyX_19 rfl (nn_rg (r12 : rg x10 0 3200) (by decide)) (nn_rg ((rg_k (by decide)) : rg 0 0 0) (by decide)) (nn_rg ((rg_k (by decide)) : rg 80 80 80) (by decide)) (cp_rg (r12 : rg x10 0 3200) ((rg_k (by decide)) : rg 80 80 80) (by decide)) (cp_rg ((rg_k (by decide)) : rg 0 0 0) ((rg_k (by decide)) : rg 80 80 80) (by decide)) (fun _ _ => rfl) (Nat.le_of_ble_eq_true rfl) (Nat.le_of_ble_eq_true rfl) dX7_fetch_39 (fun H locs hP hD hS => ?_)
        have hq := hq.cpy 19 22 (a := (x10).toNatClampNeg) (b := ((0 : Int32)).toNatClampNeg) (n := ((80 : Int32)).toNatClampNeg) (by decide) (by decide)
        rw [setX_19] at hP hD
        refine lv_aload_n hx hb dX7_fetch_42 rfl (lv_at hl 2 rfl) ?_
        refine lv_aload_n hx hb dX7_fetch_43 rfl (lv_at hl 0 rfl) ?_
        refine va_get (ci := 7) (v := .ref (ad 23)) (C := RX7) (T := TX7) (N := 3) hx hb hg inX7 hown hK hP 21 atX_21 rfl 2 (by decide) (hg _ mw_283) (fun _ h9 => h9) rfl dX7_fetch_44 ?_
        refine lv_iload_n hx hb dX7_fetch_47 rfl (lv_at hl 1 rfl) ?_
        refine va_iald hx hb hK hP 23 15 atX_23 tyX_23 (in_rg hp1 (by decide)) dX7_fetch_48 ?_
        refine tope (mv (by decide) (e7)) ?_
        refine va_put (ci := 3) (v := .int x6) (ty := .int) (C := RX3) (T := TX3) (N := 4) hx hb hg inX3 tyX3 tyX3_ok nmX3 hown hK hP hD hS 18 atX_18 rfl 3 (by decide) (hg _ mw_248) (fun _ h9 => h9) rfl (by decide +kernel) rfl rfl (Nat.le_of_ble_eq_true rfl) dX7_fetch_49 (fun H locs hP hD hS => ?_)
        have hq := hq.put 23 (x := x6) (by decide) (rg_top _)
        rw [setFX_23] at hP hD
        refine lv_iconst (v := 1) hx hb dX7_fetch_52 (by decide) ?_
        exact hret (1) ((upd F 23 x6), L, (va_up A 19 (va_cpy (A 22) (A 19) (x10).toNatClampNeg ((0 : Int32)).toNatClampNeg ((80 : Int32)).toNatClampNeg)), B) H locs 53 ls rfl dX7_fetch_53 hP hD hS ⟨hq, (rg_k (by decide))⟩
      · skip
        have r9 : rg x6 (-1) (-1) := rg_eq1 c8 ((rg_top _) : rg x6 (-2147483648) 2147483647) ((rg_k (by decide)) : rg (-1) (-1) (-1)) (by decide)
        have J22 : ∀ (F13 : Nat → Int32) (L13 : Nat → Int64) (A13 : Nat → Nat → Int32) (B13 : Nat → Nat → Int64) (H : Heap) (locs : List Loc) (ls : Array Slot), qX [23] [19] F A F13 A13 → va_P D classes (wX cA ad F13 L13 A13 B13) H → va_D Af (wX cA ad F13 L13 A13 B13) → va_S Af s.heap H locs → lv_has ls 3 [] → W p l e rm_X7_fetch_21_18 s m args below meth c H locs 0 0 Q (F0 m 22 ls []) := by
          intro F13 L13 A13 B13 H locs ls hq hP hD hS hl
          refine lv_iconst (v := 0) hx hb dX7_fetch_22 (by decide) ?_
          exact hret (0) (F13, L13, A13, B13) H locs 23 ls rfl dX7_fetch_23 hP hD hS ⟨hq, (rg_k (by decide))⟩
        exact J22 (F) (L) (A) (B) H locs ls hq hP hD hS (lv_sub hl [] rfl)
abbrev rm_X0_takeBack_20_18 : Room := { frames := 2, cells := 0, slots := 0, locals := 66 }
set_option maxHeartbeats 4000000 in
set_option maxRecDepth 100000 in
theorem c_X0_takeBack_20_18 (l : Launch) (D : va_G) (cA : Nat → ClassId) (sz : Nat) (ad : Nat → Nat) (F : Nat → Int32) (L : Nat → Int64) (A : Nat → Nat → Int32) (B : Nat → Nat → Int64)  (hT : typX F A) (hI : xX F) : Met l yX0_takeBack (Cond.code yX0_takeBack cX0_takeBack 2 (some .boolean) :: GW) rm_X0_takeBack_20_18 (mPc D classes (tysX cA) (wX cA ad F L A B) sz [.ref (ad 20), .ref (ad 18)]) (mQi (S := SW) D classes (tysX cA) (wX cA ad F L A B) sz (wfX cA ad) (fun r u => qX [23, 25, 26] [19] F A u.1 u.2.2.1 ∧ xX u.1 ∧ rg r 0 1)) 0 0 (va_A (wX cA ad F L A B) sz) := by
  refine met_i (own := "ShoeingDay$Acts") (by decide +kernel) rfl (Nat.le_of_ble_eq_true rfl) ?_
  intro p e s m args below meth c Q Af ls hC hP hD hS hA hl hret
  have hx := hC.1
  have hb := hC.2.1
  have hown := hC.2.2.2.1
  have hg := hC.g
  have hK := hC.K
  have hl : lv_has ls 2 [(0, .ref (ad 20)), (1, .ref (ad 18))] := hl
  have hq : qX [23, 25, 26] [19] F A F A := qX.rf hT
  obtain ⟨H, hH⟩ : ∃ H, H = s.heap := ⟨_, rfl⟩
  have hP : va_P D classes (wX cA ad F L A B) H := by rw [hH]; exact hP
  have hS : va_S Af s.heap H [] := by rw [hH]; exact hS
  obtain ⟨locs, hlo⟩ : ∃ q : List Loc, q = [] := ⟨_, rfl⟩
  rw [← hH, ← hlo]
  rw [← hlo] at hS
  refine lv_aload_n hx hb dX0_takeBack_0 rfl (lv_at hl 0 rfl) ?_
  refine va_get (ci := 0) (v := .int (F 25)) (C := RX0) (T := TX0) (N := 4) hx hb hg inX0 hown hK hP 20 atX_20 rfl 2 (by decide) (hg _ mw_293) (fun _ h9 => h9) rfl dX0_takeBack_1 ?_
  refine lv_topi (fun x1 e2 => ?_)
  have r3 : rg x1 0 40 := rg_e e2 (hq.1.1 25)
  refine lv_if_ne (tgt := 9) hx hb dX0_takeBack_4 (by decide) (fun c4 => ?_) (fun c4 => ?_)
  · skip
    have r5 : rg x1 1 40 := (rg_ne1 c4 (r3 : rg x1 0 40) ((rg_k (by decide)) : rg 0 0 0)).1 rfl
    refine lv_aload_n hx hb dX0_takeBack_9 rfl (lv_at hl 0 rfl) ?_
    refine lv_dup hx hb dX0_takeBack_10 rfl ?_
    refine va_get (ci := 0) (v := .int x1) (C := RX0) (T := TX0) (N := 4) hx hb hg inX0 hown hK hP 20 atX_20 rfl 2 (by decide) (hg _ mw_293) (fun _ h9 => h9) (congrArg (fun z => some (Value.int z)) (e2.symm)) dX0_takeBack_11 ?_
    refine lv_iconst (v := 1) hx hb dX0_takeBack_14 (by decide) ?_
    refine lv_isub hx hb dX0_takeBack_15 ?_
    refine lv_topi (fun x7 e8 => ?_)
    have r9 : rg x7 0 39 := rg_sub e8 r5 ((rg_k (by decide)) : rg 1 1 1) (by decide)
    refine va_put (ci := 0) (v := .int x7) (ty := .int) (C := RX0) (T := TX0) (N := 4) hx hb hg inX0 tyX0 tyX0_ok nmX0 hown hK hP hD hS 20 atX_20 rfl 2 (by decide) (hg _ mw_293) (fun _ h9 => h9) rfl (by decide +kernel) rfl rfl (Nat.le_of_ble_eq_true rfl) dX0_takeBack_16 (fun H locs hP hD hS => ?_)
    have hq := hq.put 25 (x := x7) (by decide) (rg_w r9 (by decide))
    rw [setFX_25] at hP hD
    refine lv_aload_n hx hb dX0_takeBack_19 rfl (lv_at hl 0 rfl) ?_
    refine lv_dup hx hb dX0_takeBack_20 rfl ?_
    refine va_get (ci := 0) (v := .int (F 26)) (C := RX0) (T := TX0) (N := 4) hx hb hg inX0 hown hK hP 20 atX_20 rfl 3 (by decide) (hg _ mw_295) (fun _ h9 => h9) rfl dX0_takeBack_21 ?_
    refine lv_topi (fun x10 e11 => ?_)
    have r12 : rg x10 0 39 := xX.u hI e2 r5 e11
    refine lv_iconst (v := 1) hx hb dX0_takeBack_24 (by decide) ?_
    refine lv_iadd hx hb dX0_takeBack_25 ?_
    refine lv_topi (fun x13 e14 => ?_)
    have r15 : rg x13 1 40 := rg_add e14 r12 ((rg_k (by decide)) : rg 1 1 1) (by decide)
    refine va_put (ci := 0) (v := .int x13) (ty := .int) (C := RX0) (T := TX0) (N := 4) hx hb hg inX0 tyX0 tyX0_ok nmX0 hown hK hP hD hS 20 atX_20 rfl 3 (by decide) (hg _ mw_295) (fun _ h9 => h9) rfl (by decide +kernel) rfl rfl (Nat.le_of_ble_eq_true rfl) dX0_takeBack_26 (fun H locs hP hD hS => ?_)
    have hq := hq.put 26 (x := x13) (by decide) (rg_w r15 (by decide))
    rw [setFX_26] at hP hD
    refine lv_aload_n hx hb dX0_takeBack_29 rfl (lv_at hl 0 rfl) ?_
    refine va_get (ci := 0) (v := .ref (ad 21)) (C := RX0) (T := TX0) (N := 4) hx hb hg inX0 hown hK hP 20 atX_20 rfl 0 (by decide) (hg _ mw_291) (fun _ h9 => h9) rfl dX0_takeBack_30 ?_
    refine lv_aload_n hx hb dX0_takeBack_33 rfl (lv_at hl 0 rfl) ?_
    refine va_get (ci := 0) (v := .int (F 24)) (C := RX0) (T := TX0) (N := 4) hx hb hg inX0 hown hK hP 20 atX_20 rfl 1 (by decide) (hg _ mw_292) (fun _ h9 => h9) rfl dX0_takeBack_34 ?_
    refine lv_topi (fun x16 e17 => ?_)
    have r18 : rg x16 0 40 := rg_e e17 (hq.1.1 24)
    refine lv_aload_n hx hb dX0_takeBack_37 rfl (lv_at hl 0 rfl) ?_
    refine va_get (ci := 0) (v := .int x7) (C := RX0) (T := TX0) (N := 4) hx hb hg inX0 hown hK hP 20 atX_20 rfl 2 (by decide) (hg _ mw_293) (fun _ h9 => h9) (congrArg (fun z => some (Value.int z)) (rfl)) dX0_takeBack_38 ?_
    refine lv_iadd hx hb dX0_takeBack_41 ?_
    refine lv_topi (fun x19 e20 => ?_)
    have r21 : rg x19 0 79 := rg_add e20 r18 r9 (by decide)
    refine lv_bipush (v := 41) hx hb dX0_takeBack_42 (by decide) ?_
    refine lv_irem hx hb dX0_takeBack_44 (by decide) ?_
    refine lv_topi (fun x22 e23 => ?_)
    have r24 : rg x22 0 40 := rg_rem e23 r21 ((rg_k (by decide)) : rg 41 41 41) (by decide)
    refine lv_aload_n hx hb dX0_takeBack_45 rfl (lv_at hl 1 rfl) ?_
    refine callv_i (As := [.int x22, .ref (ad 18)]) (rest := []) hC (c_X7_fetch_21_18 l D cA H.size ad (upd (upd F 25 x7) 26 x13) L A B (x22) hq.1 r24) (cwV 2 hg (g_V mw_983 mw_980 mw_981 mw_982 mw_11) rfl rfl rfl (by decide +kernel) ⟨(Nat.le_of_ble_eq_true rfl), (Nat.le_of_ble_eq_true rfl)⟩) hP hD hS hA atX_21 rfl rfl hl.1 rfl (Nat.le_of_ble_eq_true rfl) dX0_takeBack_46 ⟨Nat.zero_le _, Nat.zero_le _⟩ (fun x25 u H locs hw hP hD hS => ?_)
    obtain ⟨F26, L26, A26, B26⟩ := u
    try dsimp only at hw
    obtain ⟨hq26, r27⟩ := hw
    have hq := hq.call hq26 (by decide)
    have hP : va_P D classes (wX cA ad F26 L26 A26 B26) H := hP
    have hD : va_D Af (wX cA ad F26 L26 A26 B26) := hD
    exact hret (x25) (F26, L26, A26, B26) H locs 49 ls (nb_rg r27) dX0_takeBack_49 hP hD hS ⟨hq, (xX.of (a := x7) (b := x13) ((hq26.2.1 25 (by decide)).trans (rfl)) ((hq26.2.1 26 (by decide)).trans (rfl)) (xX.tb hI e2 e11 e8 r5 e14 r12)), r27⟩
  · skip
    have r6 : rg x1 0 0 := rg_eq1 c4 (r3 : rg x1 0 40) ((rg_k (by decide)) : rg 0 0 0) (by decide)
    refine lv_iconst (v := 0) hx hb dX0_takeBack_7 (by decide) ?_
    exact hret (0) (F, L, A, B) H locs 8 ls rfl dX0_takeBack_8 hP hD hS ⟨hq, hI, (rg_k (by decide))⟩
abbrev rm_X11_undo_0 : Room := { frames := 3, cells := 0, slots := 0, locals := 87 }
set_option maxHeartbeats 4000000 in
set_option maxRecDepth 100000 in
theorem c_X11_undo_0 (l : Launch) (D : va_G) (cA : Nat → ClassId) (sz : Nat) (ad : Nat → Nat) (F : Nat → Int32) (L : Nat → Int64) (A : Nat → Nat → Int32) (B : Nat → Nat → Int64)  (hT : typX F A) (hI : xX F) : Met l yX11_undo (Cond.code yX11_undo cX11_undo 2 (some .boolean) :: GW) rm_X11_undo_0 (mPc D classes (tysX cA) (wX cA ad F L A B) sz [.ref (ad 0)]) (mQi (S := SW) D classes (tysX cA) (wX cA ad F L A B) sz (wfX cA ad) (fun r u => qX [23, 25, 26, 32, 36] [19] F A u.1 u.2.2.1 ∧ xX u.1 ∧ rg r 0 1)) 0 0 (va_A (wX cA ad F L A B) sz) := by
  refine met_i (own := "ShoeingDay") (by decide +kernel) rfl (Nat.le_of_ble_eq_true rfl) ?_
  intro p e s m args below meth c Q Af ls hC hP hD hS hA hl hret
  have hx := hC.1
  have hb := hC.2.1
  have hown := hC.2.2.2.1
  have hg := hC.g
  have hK := hC.K
  have hl : lv_has ls 2 [(0, .ref (ad 0))] := hl
  have hq : qX [23, 25, 26, 32, 36] [19] F A F A := qX.rf hT
  obtain ⟨H, hH⟩ : ∃ H, H = s.heap := ⟨_, rfl⟩
  have hP : va_P D classes (wX cA ad F L A B) H := by rw [hH]; exact hP
  have hS : va_S Af s.heap H [] := by rw [hH]; exact hS
  obtain ⟨locs, hlo⟩ : ∃ q : List Loc, q = [] := ⟨_, rfl⟩
  rw [← hH, ← hlo]
  rw [← hlo] at hS
  refine lv_aload_n hx hb dX11_undo_0 rfl (lv_at hl 0 rfl) ?_
  refine va_get (ci := 11) (v := .ref (ad 20)) (C := RX11) (T := TX11) (N := 13) hx hb hg inX11 hown hK hP 0 atX_0 rfl 3 (by decide) (hg _ mw_528) (fun _ h9 => h9) rfl dX11_undo_1 ?_
  refine lv_aload_n hx hb dX11_undo_4 rfl (lv_at hl 0 rfl) ?_
  refine va_get (ci := 11) (v := .ref (ad 18)) (C := RX11) (T := TX11) (N := 13) hx hb hg inX11 hown hK hP 0 atX_0 rfl 2 (by decide) (hg _ mw_527) (fun _ h9 => h9) rfl dX11_undo_5 ?_
  refine callv_i (As := [.ref (ad 18)]) (rest := []) hC (c_X0_takeBack_20_18 l D cA H.size ad F L A B  hq.1 hI) (cwV 1 hg (g_V mw_979 mw_976 mw_977 mw_978 mw_10) rfl rfl rfl (by decide +kernel) ⟨(Nat.le_of_ble_eq_true rfl), (Nat.le_of_ble_eq_true rfl)⟩) hP hD hS hA atX_20 rfl rfl hl.1 rfl (Nat.le_of_ble_eq_true rfl) dX11_undo_8 ⟨Nat.zero_le _, Nat.zero_le _⟩ (fun x1 u H locs hw hP hD hS => ?_)
  obtain ⟨F2, L2, A2, B2⟩ := u
  try dsimp only at hw
  obtain ⟨hq2, i3, r4⟩ := hw
  have hq := hq.call hq2 (by decide)
  have hP : va_P D classes (wX cA ad F2 L2 A2 B2) H := hP
  have hD : va_D Af (wX cA ad F2 L2 A2 B2) := hD
  refine lv_istore_n (lv' := [(1, .int x1), (0, .ref (ad 0))]) hx hb dX11_undo_11 rfl hl (by decide) rfl (fun ls hl => ?_)
  refine lv_aload_n hx hb dX11_undo_12 rfl (lv_at hl 1 rfl) ?_
  refine callv_v (As := []) (rest := []) hC (c_X11_lackIsNew_0 l D cA H.size ad F2 L2 A2 B2  hq.1) (cwV 0 hg (g_V mw_715 mw_712 mw_714 ms_17 mw_1) rfl rfl rfl (by decide +kernel) ⟨(Nat.le_of_ble_eq_true rfl), (Nat.le_of_ble_eq_true rfl)⟩) hP hD hS hA atX_0 rfl rfl hl.1 rfl (Nat.le_of_ble_eq_true rfl) dX11_undo_13 ⟨Nat.zero_le _, Nat.zero_le _⟩ (fun  u H locs hw hP hD hS => ?_)
  obtain ⟨F5, L5, A5, B5⟩ := u
  try dsimp only at hw
  have hq5 := hw
  have hq := hq.call hq5 (by decide)
  have hP : va_P D classes (wX cA ad F5 L5 A5 B5) H := hP
  have hD : va_D Af (wX cA ad F5 L5 A5 B5) := hD
  refine lv_iload_n hx hb dX11_undo_16 rfl (lv_at hl 0 rfl) ?_
  exact hret (x1) (F5, L5, A5, B5) H locs 17 ls (nb_rg r4) dX11_undo_17 hP hD hS ⟨hq, (xX.fr i3 (hq5.2.1 25 (by decide)) (hq5.2.1 26 (by decide))), r4⟩
abbrev rm_X0_doAgain_20_18 : Room := { frames := 2, cells := 0, slots := 0, locals := 66 }
set_option maxHeartbeats 4000000 in
set_option maxRecDepth 100000 in
theorem c_X0_doAgain_20_18 (l : Launch) (D : va_G) (cA : Nat → ClassId) (sz : Nat) (ad : Nat → Nat) (F : Nat → Int32) (L : Nat → Int64) (A : Nat → Nat → Int32) (B : Nat → Nat → Int64)  (hT : typX F A) (hI : xX F) : Met l yX0_doAgain (Cond.code yX0_doAgain cX0_doAgain 2 (some .boolean) :: GW) rm_X0_doAgain_20_18 (mPc D classes (tysX cA) (wX cA ad F L A B) sz [.ref (ad 20), .ref (ad 18)]) (mQi (S := SW) D classes (tysX cA) (wX cA ad F L A B) sz (wfX cA ad) (fun r u => qX [23, 25, 26] [19] F A u.1 u.2.2.1 ∧ xX u.1 ∧ rg r 0 1)) 0 0 (va_A (wX cA ad F L A B) sz) := by
  refine met_i (own := "ShoeingDay$Acts") (by decide +kernel) rfl (Nat.le_of_ble_eq_true rfl) ?_
  intro p e s m args below meth c Q Af ls hC hP hD hS hA hl hret
  have hx := hC.1
  have hb := hC.2.1
  have hown := hC.2.2.2.1
  have hg := hC.g
  have hK := hC.K
  have hl : lv_has ls 2 [(0, .ref (ad 20)), (1, .ref (ad 18))] := hl
  have hq : qX [23, 25, 26] [19] F A F A := qX.rf hT
  obtain ⟨H, hH⟩ : ∃ H, H = s.heap := ⟨_, rfl⟩
  have hP : va_P D classes (wX cA ad F L A B) H := by rw [hH]; exact hP
  have hS : va_S Af s.heap H [] := by rw [hH]; exact hS
  obtain ⟨locs, hlo⟩ : ∃ q : List Loc, q = [] := ⟨_, rfl⟩
  rw [← hH, ← hlo]
  rw [← hlo] at hS
  refine lv_aload_n hx hb dX0_doAgain_0 rfl (lv_at hl 0 rfl) ?_
  refine va_get (ci := 0) (v := .int (F 26)) (C := RX0) (T := TX0) (N := 4) hx hb hg inX0 hown hK hP 20 atX_20 rfl 3 (by decide) (hg _ mw_295) (fun _ h9 => h9) rfl dX0_doAgain_1 ?_
  refine lv_topi (fun x1 e2 => ?_)
  have r3 : rg x1 0 40 := rg_e e2 (hq.1.1 26)
  refine lv_if_ne (tgt := 9) hx hb dX0_doAgain_4 (by decide) (fun c4 => ?_) (fun c4 => ?_)
  · skip
    have r5 : rg x1 1 40 := (rg_ne1 c4 (r3 : rg x1 0 40) ((rg_k (by decide)) : rg 0 0 0)).1 rfl
    refine lv_aload_n hx hb dX0_doAgain_9 rfl (lv_at hl 0 rfl) ?_
    refine lv_dup hx hb dX0_doAgain_10 rfl ?_
    refine va_get (ci := 0) (v := .int (F 25)) (C := RX0) (T := TX0) (N := 4) hx hb hg inX0 hown hK hP 20 atX_20 rfl 2 (by decide) (hg _ mw_293) (fun _ h9 => h9) rfl dX0_doAgain_11 ?_
    refine lv_topi (fun x7 e8 => ?_)
    have r9 : rg x7 0 39 := xX.d hI e2 r5 e8
    refine lv_iconst (v := 1) hx hb dX0_doAgain_14 (by decide) ?_
    refine lv_iadd hx hb dX0_doAgain_15 ?_
    refine lv_topi (fun x10 e11 => ?_)
    have r12 : rg x10 1 40 := rg_add e11 r9 ((rg_k (by decide)) : rg 1 1 1) (by decide)
    refine va_put (ci := 0) (v := .int x10) (ty := .int) (C := RX0) (T := TX0) (N := 4) hx hb hg inX0 tyX0 tyX0_ok nmX0 hown hK hP hD hS 20 atX_20 rfl 2 (by decide) (hg _ mw_293) (fun _ h9 => h9) rfl (by decide +kernel) rfl rfl (Nat.le_of_ble_eq_true rfl) dX0_doAgain_16 (fun H locs hP hD hS => ?_)
    have hq := hq.put 25 (x := x10) (by decide) (rg_w r12 (by decide))
    rw [setFX_25] at hP hD
    refine lv_aload_n hx hb dX0_doAgain_19 rfl (lv_at hl 0 rfl) ?_
    refine lv_dup hx hb dX0_doAgain_20 rfl ?_
    refine va_get (ci := 0) (v := .int x1) (C := RX0) (T := TX0) (N := 4) hx hb hg inX0 hown hK hP 20 atX_20 rfl 3 (by decide) (hg _ mw_295) (fun _ h9 => h9) (congrArg (fun z => some (Value.int z)) (e2.symm)) dX0_doAgain_21 ?_
    refine lv_iconst (v := 1) hx hb dX0_doAgain_24 (by decide) ?_
    refine lv_isub hx hb dX0_doAgain_25 ?_
    refine lv_topi (fun x13 e14 => ?_)
    have r15 : rg x13 0 39 := rg_sub e14 r5 ((rg_k (by decide)) : rg 1 1 1) (by decide)
    refine va_put (ci := 0) (v := .int x13) (ty := .int) (C := RX0) (T := TX0) (N := 4) hx hb hg inX0 tyX0 tyX0_ok nmX0 hown hK hP hD hS 20 atX_20 rfl 3 (by decide) (hg _ mw_295) (fun _ h9 => h9) rfl (by decide +kernel) rfl rfl (Nat.le_of_ble_eq_true rfl) dX0_doAgain_26 (fun H locs hP hD hS => ?_)
    have hq := hq.put 26 (x := x13) (by decide) (rg_w r15 (by decide))
    rw [setFX_26] at hP hD
    refine lv_aload_n hx hb dX0_doAgain_29 rfl (lv_at hl 0 rfl) ?_
    refine va_get (ci := 0) (v := .ref (ad 21)) (C := RX0) (T := TX0) (N := 4) hx hb hg inX0 hown hK hP 20 atX_20 rfl 0 (by decide) (hg _ mw_291) (fun _ h9 => h9) rfl dX0_doAgain_30 ?_
    refine lv_aload_n hx hb dX0_doAgain_33 rfl (lv_at hl 0 rfl) ?_
    refine va_get (ci := 0) (v := .int (F 24)) (C := RX0) (T := TX0) (N := 4) hx hb hg inX0 hown hK hP 20 atX_20 rfl 1 (by decide) (hg _ mw_292) (fun _ h9 => h9) rfl dX0_doAgain_34 ?_
    refine lv_topi (fun x16 e17 => ?_)
    have r18 : rg x16 0 40 := rg_e e17 (hq.1.1 24)
    refine lv_aload_n hx hb dX0_doAgain_37 rfl (lv_at hl 0 rfl) ?_
    refine va_get (ci := 0) (v := .int x10) (C := RX0) (T := TX0) (N := 4) hx hb hg inX0 hown hK hP 20 atX_20 rfl 2 (by decide) (hg _ mw_293) (fun _ h9 => h9) (congrArg (fun z => some (Value.int z)) (rfl)) dX0_doAgain_38 ?_
    refine lv_iadd hx hb dX0_doAgain_41 ?_
    refine lv_topi (fun x19 e20 => ?_)
    have r21 : rg x19 1 80 := rg_add e20 r18 r12 (by decide)
    refine lv_bipush (v := 41) hx hb dX0_doAgain_42 (by decide) ?_
    refine lv_irem hx hb dX0_doAgain_44 (by decide) ?_
    refine lv_topi (fun x22 e23 => ?_)
    have r24 : rg x22 0 40 := rg_rem e23 r21 ((rg_k (by decide)) : rg 41 41 41) (by decide)
    refine lv_aload_n hx hb dX0_doAgain_45 rfl (lv_at hl 1 rfl) ?_
    refine callv_i (As := [.int x22, .ref (ad 18)]) (rest := []) hC (c_X7_fetch_21_18 l D cA H.size ad (upd (upd F 25 x10) 26 x13) L A B (x22) hq.1 r24) (cwV 2 hg (g_V mw_983 mw_980 mw_981 mw_982 mw_11) rfl rfl rfl (by decide +kernel) ⟨(Nat.le_of_ble_eq_true rfl), (Nat.le_of_ble_eq_true rfl)⟩) hP hD hS hA atX_21 rfl rfl hl.1 rfl (Nat.le_of_ble_eq_true rfl) dX0_doAgain_46 ⟨Nat.zero_le _, Nat.zero_le _⟩ (fun x25 u H locs hw hP hD hS => ?_)
    obtain ⟨F26, L26, A26, B26⟩ := u
    try dsimp only at hw
    obtain ⟨hq26, r27⟩ := hw
    have hq := hq.call hq26 (by decide)
    have hP : va_P D classes (wX cA ad F26 L26 A26 B26) H := hP
    have hD : va_D Af (wX cA ad F26 L26 A26 B26) := hD
    exact hret (x25) (F26, L26, A26, B26) H locs 49 ls (nb_rg r27) dX0_doAgain_49 hP hD hS ⟨hq, (xX.of (a := x10) (b := x13) ((hq26.2.1 25 (by decide)).trans (rfl)) ((hq26.2.1 26 (by decide)).trans (rfl)) (xX.da hI e8 e2 e11 r9 e14 r5)), r27⟩
  · skip
    have r6 : rg x1 0 0 := rg_eq1 c4 (r3 : rg x1 0 40) ((rg_k (by decide)) : rg 0 0 0) (by decide)
    refine lv_iconst (v := 0) hx hb dX0_doAgain_7 (by decide) ?_
    exact hret (0) (F, L, A, B) H locs 8 ls rfl dX0_doAgain_8 hP hD hS ⟨hq, hI, (rg_k (by decide))⟩
abbrev rm_X11_redo_0 : Room := { frames := 3, cells := 0, slots := 0, locals := 87 }
set_option maxHeartbeats 4000000 in
set_option maxRecDepth 100000 in
theorem c_X11_redo_0 (l : Launch) (D : va_G) (cA : Nat → ClassId) (sz : Nat) (ad : Nat → Nat) (F : Nat → Int32) (L : Nat → Int64) (A : Nat → Nat → Int32) (B : Nat → Nat → Int64)  (hT : typX F A) (hI : xX F) : Met l yX11_redo (Cond.code yX11_redo cX11_redo 2 (some .boolean) :: GW) rm_X11_redo_0 (mPc D classes (tysX cA) (wX cA ad F L A B) sz [.ref (ad 0)]) (mQi (S := SW) D classes (tysX cA) (wX cA ad F L A B) sz (wfX cA ad) (fun r u => qX [23, 25, 26, 32, 36] [19] F A u.1 u.2.2.1 ∧ xX u.1 ∧ rg r 0 1)) 0 0 (va_A (wX cA ad F L A B) sz) := by
  refine met_i (own := "ShoeingDay") (by decide +kernel) rfl (Nat.le_of_ble_eq_true rfl) ?_
  intro p e s m args below meth c Q Af ls hC hP hD hS hA hl hret
  have hx := hC.1
  have hb := hC.2.1
  have hown := hC.2.2.2.1
  have hg := hC.g
  have hK := hC.K
  have hl : lv_has ls 2 [(0, .ref (ad 0))] := hl
  have hq : qX [23, 25, 26, 32, 36] [19] F A F A := qX.rf hT
  obtain ⟨H, hH⟩ : ∃ H, H = s.heap := ⟨_, rfl⟩
  have hP : va_P D classes (wX cA ad F L A B) H := by rw [hH]; exact hP
  have hS : va_S Af s.heap H [] := by rw [hH]; exact hS
  obtain ⟨locs, hlo⟩ : ∃ q : List Loc, q = [] := ⟨_, rfl⟩
  rw [← hH, ← hlo]
  rw [← hlo] at hS
  refine lv_aload_n hx hb dX11_redo_0 rfl (lv_at hl 0 rfl) ?_
  refine va_get (ci := 11) (v := .ref (ad 20)) (C := RX11) (T := TX11) (N := 13) hx hb hg inX11 hown hK hP 0 atX_0 rfl 3 (by decide) (hg _ mw_528) (fun _ h9 => h9) rfl dX11_redo_1 ?_
  refine lv_aload_n hx hb dX11_redo_4 rfl (lv_at hl 0 rfl) ?_
  refine va_get (ci := 11) (v := .ref (ad 18)) (C := RX11) (T := TX11) (N := 13) hx hb hg inX11 hown hK hP 0 atX_0 rfl 2 (by decide) (hg _ mw_527) (fun _ h9 => h9) rfl dX11_redo_5 ?_
  refine callv_i (As := [.ref (ad 18)]) (rest := []) hC (c_X0_doAgain_20_18 l D cA H.size ad F L A B  hq.1 hI) (cwV 1 hg (g_V mw_991 mw_988 mw_989 mw_990 mw_10) rfl rfl rfl (by decide +kernel) ⟨(Nat.le_of_ble_eq_true rfl), (Nat.le_of_ble_eq_true rfl)⟩) hP hD hS hA atX_20 rfl rfl hl.1 rfl (Nat.le_of_ble_eq_true rfl) dX11_redo_8 ⟨Nat.zero_le _, Nat.zero_le _⟩ (fun x1 u H locs hw hP hD hS => ?_)
  obtain ⟨F2, L2, A2, B2⟩ := u
  try dsimp only at hw
  obtain ⟨hq2, i3, r4⟩ := hw
  have hq := hq.call hq2 (by decide)
  have hP : va_P D classes (wX cA ad F2 L2 A2 B2) H := hP
  have hD : va_D Af (wX cA ad F2 L2 A2 B2) := hD
  refine lv_istore_n (lv' := [(1, .int x1), (0, .ref (ad 0))]) hx hb dX11_redo_11 rfl hl (by decide) rfl (fun ls hl => ?_)
  refine lv_aload_n hx hb dX11_redo_12 rfl (lv_at hl 1 rfl) ?_
  refine callv_v (As := []) (rest := []) hC (c_X11_lackIsNew_0 l D cA H.size ad F2 L2 A2 B2  hq.1) (cwV 0 hg (g_V mw_715 mw_712 mw_714 ms_17 mw_1) rfl rfl rfl (by decide +kernel) ⟨(Nat.le_of_ble_eq_true rfl), (Nat.le_of_ble_eq_true rfl)⟩) hP hD hS hA atX_0 rfl rfl hl.1 rfl (Nat.le_of_ble_eq_true rfl) dX11_redo_13 ⟨Nat.zero_le _, Nat.zero_le _⟩ (fun  u H locs hw hP hD hS => ?_)
  obtain ⟨F5, L5, A5, B5⟩ := u
  try dsimp only at hw
  have hq5 := hw
  have hq := hq.call hq5 (by decide)
  have hP : va_P D classes (wX cA ad F5 L5 A5 B5) H := hP
  have hD : va_D Af (wX cA ad F5 L5 A5 B5) := hD
  refine lv_iload_n hx hb dX11_redo_16 rfl (lv_at hl 0 rfl) ?_
  exact hret (x1) (F5, L5, A5, B5) H locs 17 ls (nb_rg r4) dX11_redo_17 hP hD hS ⟨hq, (xX.fr i3 (hq5.2.1 25 (by decide)) (hq5.2.1 26 (by decide))), r4⟩
abbrev rm_X9_beginOne_56 : Room := { frames := 0, cells := 0, slots := 0, locals := 0 }
set_option maxHeartbeats 4000000 in
set_option maxRecDepth 100000 in
theorem c_X9_beginOne_56 (l : Launch) (D : va_G) (cA : Nat → ClassId) (sz : Nat) (ad : Nat → Nat) (F : Nat → Int32) (L : Nat → Int64) (A : Nat → Nat → Int32) (B : Nat → Nat → Int64) (p1 : Int32) (hT : typX F A) (hp1 : rg p1 1 99) : Met l yX9_beginOne (Cond.code yX9_beginOne cX9_beginOne 2 (some .int) :: GW) rm_X9_beginOne_56 (mPc D classes (tysX cA) (wX cA ad F L A B) sz [.ref (ad 56), .int p1]) (mQi (S := SW) D classes (tysX cA) (wX cA ad F L A B) sz (wfX cA ad) (fun r u => qX [39] [57, 58] F A u.1 u.2.2.1 ∧ rg r (-1) 11)) 0 0 (va_A (wX cA ad F L A B) sz) := by
  refine met_i (own := "ShoeingDay$ToldRounds") (by decide +kernel) rfl (Nat.le_of_ble_eq_true rfl) ?_
  intro p e s m args below meth c Q Af ls hC hP hD hS hA hl hret
  have hx := hC.1
  have hb := hC.2.1
  have hown := hC.2.2.2.1
  have hg := hC.g
  have hK := hC.K
  have hl : lv_has ls 2 [(0, .ref (ad 56)), (1, .int p1)] := hl
  have hq : qX [39] [57, 58] F A F A := qX.rf hT
  obtain ⟨H, hH⟩ : ∃ H, H = s.heap := ⟨_, rfl⟩
  have hP : va_P D classes (wX cA ad F L A B) H := by rw [hH]; exact hP
  have hS : va_S Af s.heap H [] := by rw [hH]; exact hS
  obtain ⟨locs, hlo⟩ : ∃ q : List Loc, q = [] := ⟨_, rfl⟩
  rw [← hH, ← hlo]
  rw [← hlo] at hS
  refine lv_aload_n hx hb dX9_beginOne_0 rfl (lv_at hl 0 rfl) ?_
  refine va_get (ci := 9) (v := .int (F 39)) (C := RX9) (T := TX9) (N := 8) hx hb hg inX9 hown hK hP 56 atX_56 rfl 4 (by decide) (hg _ mw_448) (fun _ h9 => h9) rfl dX9_beginOne_1 ?_
  refine lv_topi (fun x1 e2 => ?_)
  have r3 : rg x1 0 12 := rg_e e2 (hq.1.1 39)
  refine lv_bipush (v := 12) hx hb dX9_beginOne_4 (by decide) ?_
  refine lv_icmp_lt (tgt := 11) hx hb dX9_beginOne_6 (by decide) (fun c4 => ?_) (fun c4 => ?_)
  · skip
    have r5 : rg x1 0 11 := rg_lt1 (iL c4) (r3 : rg x1 0 12) ((rg_k (by decide)) : rg 12 12 12)
    refine lv_aload_n hx hb dX9_beginOne_11 rfl (lv_at hl 0 rfl) ?_
    refine va_get (ci := 9) (v := .ref (ad 57)) (C := RX9) (T := TX9) (N := 8) hx hb hg inX9 hown hK hP 56 atX_56 rfl 0 (by decide) (hg _ mw_444) (fun _ h9 => h9) rfl dX9_beginOne_12 ?_
    refine lv_aload_n hx hb dX9_beginOne_15 rfl (lv_at hl 0 rfl) ?_
    refine va_get (ci := 9) (v := .int x1) (C := RX9) (T := TX9) (N := 8) hx hb hg inX9 hown hK hP 56 atX_56 rfl 4 (by decide) (hg _ mw_448) (fun _ h9 => h9) (congrArg (fun z => some (Value.int z)) (e2.symm)) dX9_beginOne_16 ?_
    refine lv_iload_n hx hb dX9_beginOne_19 rfl (lv_at hl 1 rfl) ?_
    refine va_iast hx hb hK hP hD hS 57 43 atX_57 tyX_57 (in_rg r5 (by decide)) dX9_beginOne_20 (fun H locs hP hD hS => ?_)
    have hq := hq.ast 57 (x1).toNatClampNeg (x := p1) (by decide) (rg_top _)
    rw [setX_57] at hP hD
    have k7 : p1 = (va_up A 57 (upd (A 57) (x1).toNatClampNeg p1)) 57 (x1).toNatClampNeg := (rdA).symm
    refine lv_aload_n hx hb dX9_beginOne_21 rfl (lv_at hl 0 rfl) ?_
    refine va_get (ci := 9) (v := .ref (ad 58)) (C := RX9) (T := TX9) (N := 8) hx hb hg inX9 hown hK hP 56 atX_56 rfl 1 (by decide) (hg _ mw_445) (fun _ h9 => h9) rfl dX9_beginOne_22 ?_
    refine lv_aload_n hx hb dX9_beginOne_25 rfl (lv_at hl 0 rfl) ?_
    refine va_get (ci := 9) (v := .int x1) (C := RX9) (T := TX9) (N := 8) hx hb hg inX9 hown hK hP 56 atX_56 rfl 4 (by decide) (hg _ mw_448) (fun _ h9 => h9) (congrArg (fun z => some (Value.int z)) (e2.symm)) dX9_beginOne_26 ?_
    refine lv_iconst (v := 0) hx hb dX9_beginOne_29 (by decide) ?_
    refine va_iast hx hb hK hP hD hS 58 44 atX_58 tyX_58 (in_rg r5 (by decide)) dX9_beginOne_30 (fun H locs hP hD hS => ?_)
    have hq := hq.ast 58 (x1).toNatClampNeg (x := 0) (by decide) (rg_k (by decide))
    rw [setX_58] at hP hD
    have k8 : (0 : Int32) = (va_up (va_up A 57 (upd (A 57) (x1).toNatClampNeg p1)) 58 (upd ((va_up A 57 (upd (A 57) (x1).toNatClampNeg p1)) 58) (x1).toNatClampNeg 0)) 58 (x1).toNatClampNeg := (rdA).symm
    refine lv_aload_n hx hb dX9_beginOne_31 rfl (lv_at hl 0 rfl) ?_
    refine lv_dup hx hb dX9_beginOne_32 rfl ?_
    refine va_get (ci := 9) (v := .int x1) (C := RX9) (T := TX9) (N := 8) hx hb hg inX9 hown hK hP 56 atX_56 rfl 4 (by decide) (hg _ mw_448) (fun _ h9 => h9) (congrArg (fun z => some (Value.int z)) (e2.symm)) dX9_beginOne_33 ?_
    refine lv_iconst (v := 1) hx hb dX9_beginOne_36 (by decide) ?_
    refine lv_iadd hx hb dX9_beginOne_37 ?_
    refine lv_topi (fun x9 e10 => ?_)
    have r11 : rg x9 1 12 := rg_add e10 r5 ((rg_k (by decide)) : rg 1 1 1) (by decide)
    refine va_put (ci := 9) (v := .int x9) (ty := .int) (C := RX9) (T := TX9) (N := 8) hx hb hg inX9 tyX9 tyX9_ok nmX9 hown hK hP hD hS 56 atX_56 rfl 4 (by decide) (hg _ mw_448) (fun _ h9 => h9) rfl (by decide +kernel) rfl rfl (Nat.le_of_ble_eq_true rfl) dX9_beginOne_38 (fun H locs hP hD hS => ?_)
    have hq := hq.put 39 (x := x9) (by decide) (rg_w r11 (by decide))
    rw [setFX_39] at hP hD
    refine lv_aload_n hx hb dX9_beginOne_41 rfl (lv_at hl 0 rfl) ?_
    refine va_get (ci := 9) (v := .int x9) (C := RX9) (T := TX9) (N := 8) hx hb hg inX9 hown hK hP 56 atX_56 rfl 4 (by decide) (hg _ mw_448) (fun _ h9 => h9) (congrArg (fun z => some (Value.int z)) (rfl)) dX9_beginOne_42 ?_
    refine lv_iconst (v := 1) hx hb dX9_beginOne_45 (by decide) ?_
    refine lv_isub hx hb dX9_beginOne_46 ?_
    refine lv_topi (fun x12 e13 => ?_)
    have r14 : rg x12 0 11 := rg_sub e13 r11 ((rg_k (by decide)) : rg 1 1 1) (by decide)
    exact hret (x12) ((upd F 39 x9), L, (va_up (va_up A 57 (upd (A 57) (x1).toNatClampNeg p1)) 58 (upd ((va_up A 57 (upd (A 57) (x1).toNatClampNeg p1)) 58) (x1).toNatClampNeg 0)), B) H locs 47 ls rfl dX9_beginOne_47 hP hD hS ⟨hq, (rg_w r14 (by decide))⟩
  · skip
    have r6 : rg x1 12 12 := rg_le2 (iNL c4) ((rg_k (by decide)) : rg 12 12 12) (r3 : rg x1 0 12)
    refine lv_iconst (v := (-1)) hx hb dX9_beginOne_9 (by decide) ?_
    exact hret ((-1)) (F, L, A, B) H locs 10 ls rfl dX9_beginOne_10 hP hD hS ⟨hq, (rg_k (by decide))⟩
abbrev rm_X11_round_0 : Room := { frames := 1, cells := 0, slots := 0, locals := 21 }
set_option maxHeartbeats 4000000 in
set_option maxRecDepth 100000 in
theorem c_X11_round_0 (l : Launch) (D : va_G) (cA : Nat → ClassId) (sz : Nat) (ad : Nat → Nat) (F : Nat → Int32) (L : Nat → Int64) (A : Nat → Nat → Int32) (B : Nat → Nat → Int64) (p1 : Int32) (hT : typX F A) : Met l yX11_round (Cond.code yX11_round cX11_round 2 (some .int) :: GW) rm_X11_round_0 (mPc D classes (tysX cA) (wX cA ad F L A B) sz [.ref (ad 0), .int p1]) (mQi (S := SW) D classes (tysX cA) (wX cA ad F L A B) sz (wfX cA ad) (fun r u => qX [39] [57, 58] F A u.1 u.2.2.1 ∧ rg r (-1) 11)) 0 0 (va_A (wX cA ad F L A B) sz) := by
  refine met_i (own := "ShoeingDay") (by decide +kernel) rfl (Nat.le_of_ble_eq_true rfl) ?_
  intro p e s m args below meth c Q Af ls hC hP hD hS hA hl hret
  have hx := hC.1
  have hb := hC.2.1
  have hown := hC.2.2.2.1
  have hg := hC.g
  have hK := hC.K
  have hl : lv_has ls 2 [(0, .ref (ad 0)), (1, .int p1)] := hl
  have hq : qX [39] [57, 58] F A F A := qX.rf hT
  obtain ⟨H, hH⟩ : ∃ H, H = s.heap := ⟨_, rfl⟩
  have hP : va_P D classes (wX cA ad F L A B) H := by rw [hH]; exact hP
  have hS : va_S Af s.heap H [] := by rw [hH]; exact hS
  obtain ⟨locs, hlo⟩ : ∃ q : List Loc, q = [] := ⟨_, rfl⟩
  rw [← hH, ← hlo]
  rw [← hlo] at hS
  refine lv_iload_n hx hb dX11_round_0 rfl (lv_at hl 1 rfl) ?_
  refine lv_iconst (v := 1) hx hb dX11_round_1 (by decide) ?_
  have J11 : ∀ (F1 : Nat → Int32) (L1 : Nat → Int64) (A1 : Nat → Nat → Int32) (B1 : Nat → Nat → Int64) (H : Heap) (locs : List Loc) (ls : Array Slot), qX [39] [57, 58] F A F1 A1 → va_P D classes (wX cA ad F1 L1 A1 B1) H → va_D Af (wX cA ad F1 L1 A1 B1) → va_S Af s.heap H locs → lv_has ls 2 [] → W p l e rm_X11_round_0 s m args below meth c H locs 0 0 Q (F0 m 11 ls []) := by
    intro F1 L1 A1 B1 H locs ls hq hP hD hS hl
    refine lv_iconst (v := (-1)) hx hb dX11_round_11 (by decide) ?_
    refine lv_goto (tgt := 23) hx hb dX11_round_12 (by decide) ?_
    exact hret ((-1)) (F1, L1, A1, B1) H locs 23 ls rfl dX11_round_23 hP hD hS ⟨hq, (rg_k (by decide))⟩
  refine lv_icmp_lt (tgt := 11) hx hb dX11_round_2 (by decide) (fun c2 => ?_) (fun c2 => ?_)
  · skip
    have r3 : rg p1 (-2147483648) 0 := rg_lt1 (iL c2) ((rg_top _) : rg p1 (-2147483648) 2147483647) ((rg_k (by decide)) : rg 1 1 1)
    exact J11 (F) (L) (A) (B) H locs ls hq hP hD hS (lv_sub hl [] rfl)
  · skip
    have r4 : rg p1 1 2147483647 := rg_le2 (iNL c2) ((rg_k (by decide)) : rg 1 1 1) ((rg_top _) : rg p1 (-2147483648) 2147483647)
    refine lv_iload_n hx hb dX11_round_5 rfl (lv_at hl 1 rfl) ?_
    refine lv_bipush (v := 99) hx hb dX11_round_6 (by decide) ?_
    refine lv_icmp_le (tgt := 15) hx hb dX11_round_8 (by decide) (fun c5 => ?_) (fun c5 => ?_)
    · skip
      have r6 : rg p1 1 99 := rg_le1 (iE c5) (r4 : rg p1 1 2147483647) ((rg_k (by decide)) : rg 99 99 99)
      refine lv_aload_n hx hb dX11_round_15 rfl (lv_at hl 0 rfl) ?_
      refine va_get (ci := 11) (v := .ref (ad 56)) (C := RX11) (T := TX11) (N := 13) hx hb hg inX11 hown hK hP 0 atX_0 rfl 7 (by decide) (hg _ mw_532) (fun _ h9 => h9) rfl dX11_round_16 ?_
      refine lv_iload_n hx hb dX11_round_19 rfl (lv_at hl 1 rfl) ?_
      refine callv_i (As := [.int p1]) (rest := []) hC (c_X9_beginOne_56 l D cA H.size ad F L A B (p1) hq.1 r6) (cwV 1 hg (g_V mw_999 mw_996 mw_997 mw_998 mw_17) rfl rfl rfl (by decide +kernel) ⟨(Nat.le_of_ble_eq_true rfl), (Nat.le_of_ble_eq_true rfl)⟩) hP hD hS hA atX_56 rfl rfl hl.1 rfl (Nat.le_of_ble_eq_true rfl) dX11_round_20 ⟨Nat.zero_le _, Nat.zero_le _⟩ (fun x8 u H locs hw hP hD hS => ?_)
      obtain ⟨F9, L9, A9, B9⟩ := u
      try dsimp only at hw
      obtain ⟨hq9, r10⟩ := hw
      have hq := hq.call hq9 (by decide)
      have hP : va_P D classes (wX cA ad F9 L9 A9 B9) H := hP
      have hD : va_D Af (wX cA ad F9 L9 A9 B9) := hD
      exact hret (x8) (F9, L9, A9, B9) H locs 23 ls rfl dX11_round_23 hP hD hS ⟨hq, r10⟩
    · skip
      have r7 : rg p1 100 2147483647 := rg_lt2 (iNE c5) ((rg_k (by decide)) : rg 99 99 99) (r4 : rg p1 1 2147483647)
      exact J11 (F) (L) (A) (B) H locs ls hq hP hD hS (lv_sub hl [] rfl)
abbrev rm_X9_addPair_56 : Room := { frames := 0, cells := 0, slots := 0, locals := 0 }
set_option maxHeartbeats 4000000 in
set_option maxRecDepth 100000 in
theorem c_X9_addPair_56 (l : Launch) (D : va_G) (cA : Nat → ClassId) (sz : Nat) (ad : Nat → Nat) (F : Nat → Int32) (L : Nat → Int64) (A : Nat → Nat → Int32) (B : Nat → Nat → Int64) (p1 : Int32) (hT : typX F A) (hp1 : rg p1 0 79) : Met l yX9_addPair (Cond.code yX9_addPair cX9_addPair 3 (some .int) :: GW) rm_X9_addPair_56 (mPc D classes (tysX cA) (wX cA ad F L A B) sz [.ref (ad 56), .int p1]) (mQi (S := SW) D classes (tysX cA) (wX cA ad F L A B) sz (wfX cA ad) (fun r u => qX [] [58, 59] F A u.1 u.2.2.1 ∧ rg r (-1) 10)) 0 0 (va_A (wX cA ad F L A B) sz) := by
  refine met_i (own := "ShoeingDay$ToldRounds") (by decide +kernel) rfl (Nat.le_of_ble_eq_true rfl) ?_
  intro p e s m args below meth c Q Af ls hC hP hD hS hA hl hret
  have hx := hC.1
  have hb := hC.2.1
  have hown := hC.2.2.2.1
  have hg := hC.g
  have hK := hC.K
  have hl : lv_has ls 3 [(0, .ref (ad 56)), (1, .int p1)] := hl
  have hq : qX [] [58, 59] F A F A := qX.rf hT
  obtain ⟨H, hH⟩ : ∃ H, H = s.heap := ⟨_, rfl⟩
  have hP : va_P D classes (wX cA ad F L A B) H := by rw [hH]; exact hP
  have hS : va_S Af s.heap H [] := by rw [hH]; exact hS
  obtain ⟨locs, hlo⟩ : ∃ q : List Loc, q = [] := ⟨_, rfl⟩
  rw [← hH, ← hlo]
  rw [← hlo] at hS
  refine lv_aload_n hx hb dX9_addPair_0 rfl (lv_at hl 0 rfl) ?_
  refine va_get (ci := 9) (v := .int (F 39)) (C := RX9) (T := TX9) (N := 8) hx hb hg inX9 hown hK hP 56 atX_56 rfl 4 (by decide) (hg _ mw_448) (fun _ h9 => h9) rfl dX9_addPair_1 ?_
  refine lv_topi (fun x1 e2 => ?_)
  have r3 : rg x1 0 12 := rg_e e2 (hq.1.1 39)
  have J23 : ∀ (F4 : Nat → Int32) (L4 : Nat → Int64) (A4 : Nat → Nat → Int32) (B4 : Nat → Nat → Int64) (H : Heap) (locs : List Loc) (ls : Array Slot), qX [] [58, 59] F A F4 A4 → va_P D classes (wX cA ad F4 L4 A4 B4) H → va_D Af (wX cA ad F4 L4 A4 B4) → va_S Af s.heap H locs → lv_has ls 3 [] → W p l e rm_X9_addPair_56 s m args below meth c H locs 0 0 Q (F0 m 23 ls []) := by
    intro F4 L4 A4 B4 H locs ls hq hP hD hS hl
    refine lv_iconst (v := (-1)) hx hb dX9_addPair_23 (by decide) ?_
    exact hret ((-1)) (F4, L4, A4, B4) H locs 24 ls rfl dX9_addPair_24 hP hD hS ⟨hq, (rg_k (by decide))⟩
  refine lv_if_eq (tgt := 23) hx hb dX9_addPair_4 (by decide) (fun c5 => ?_) (fun c5 => ?_)
  · skip
    have r6 : rg x1 0 0 := rg_eq1 c5 (r3 : rg x1 0 12) ((rg_k (by decide)) : rg 0 0 0) (by decide)
    exact J23 (F) (L) (A) (B) H locs ls hq hP hD hS (lv_sub hl [] rfl)
  · skip
    have r7 : rg x1 1 12 := (rg_ne1 c5 (r3 : rg x1 0 12) ((rg_k (by decide)) : rg 0 0 0)).1 rfl
    refine lv_aload_n hx hb dX9_addPair_7 rfl (lv_at hl 0 rfl) ?_
    refine va_get (ci := 9) (v := .ref (ad 58)) (C := RX9) (T := TX9) (N := 8) hx hb hg inX9 hown hK hP 56 atX_56 rfl 1 (by decide) (hg _ mw_445) (fun _ h9 => h9) rfl dX9_addPair_8 ?_
    refine lv_aload_n hx hb dX9_addPair_11 rfl (lv_at hl 0 rfl) ?_
    refine va_get (ci := 9) (v := .int x1) (C := RX9) (T := TX9) (N := 8) hx hb hg inX9 hown hK hP 56 atX_56 rfl 4 (by decide) (hg _ mw_448) (fun _ h9 => h9) (congrArg (fun z => some (Value.int z)) (e2.symm)) dX9_addPair_12 ?_
    refine lv_iconst (v := 1) hx hb dX9_addPair_15 (by decide) ?_
    refine lv_isub hx hb dX9_addPair_16 ?_
    refine lv_topi (fun x8 e9 => ?_)
    have r10 : rg x8 0 11 := rg_sub e9 r7 ((rg_k (by decide)) : rg 1 1 1) (by decide)
    refine va_iald hx hb hK hP 58 44 atX_58 tyX_58 (in_rg r10 (by decide)) dX9_addPair_17 ?_
    refine lv_topi (fun x11 e12 => ?_)
    have r13 : rg x11 0 10 := rg_e e12 (hq.1.2 58 _)
    refine lv_bipush (v := 10) hx hb dX9_addPair_18 (by decide) ?_
    refine lv_icmp_lt (tgt := 25) hx hb dX9_addPair_20 (by decide) (fun c14 => ?_) (fun c14 => ?_)
    · skip
      have r15 : rg x11 0 9 := rg_lt1 (iL c14) (r13 : rg x11 0 10) ((rg_k (by decide)) : rg 10 10 10)
      refine lv_aload_n hx hb dX9_addPair_25 rfl (lv_at hl 0 rfl) ?_
      refine va_get (ci := 9) (v := .int x1) (C := RX9) (T := TX9) (N := 8) hx hb hg inX9 hown hK hP 56 atX_56 rfl 4 (by decide) (hg _ mw_448) (fun _ h9 => h9) (congrArg (fun z => some (Value.int z)) (e2.symm)) dX9_addPair_26 ?_
      refine lv_iconst (v := 1) hx hb dX9_addPair_29 (by decide) ?_
      refine lv_isub hx hb dX9_addPair_30 ?_
      refine tope e9 ?_
      refine lv_istore_n (lv' := [(2, .int x8), (0, .ref (ad 56)), (1, .int p1)]) hx hb dX9_addPair_31 rfl hl (by decide) rfl (fun ls hl => ?_)
      refine lv_aload_n hx hb dX9_addPair_32 rfl (lv_at hl 1 rfl) ?_
      refine va_get (ci := 9) (v := .ref (ad 59)) (C := RX9) (T := TX9) (N := 8) hx hb hg inX9 hown hK hP 56 atX_56 rfl 2 (by decide) (hg _ mw_446) (fun _ h9 => h9) rfl dX9_addPair_33 ?_
      refine lv_iload_n hx hb dX9_addPair_36 rfl (lv_at hl 0 rfl) ?_
      refine lv_bipush (v := 10) hx hb dX9_addPair_37 (by decide) ?_
      refine lv_imul hx hb dX9_addPair_39 ?_
      refine lv_topi (fun x17 e18 => ?_)
      have r19 : rg x17 0 110 := rg_mul e18 r10 ((rg_k (by decide)) : rg 10 10 10) (by decide)
      refine lv_aload_n hx hb dX9_addPair_40 rfl (lv_at hl 1 rfl) ?_
      refine va_get (ci := 9) (v := .ref (ad 58)) (C := RX9) (T := TX9) (N := 8) hx hb hg inX9 hown hK hP 56 atX_56 rfl 1 (by decide) (hg _ mw_445) (fun _ h9 => h9) rfl dX9_addPair_41 ?_
      refine lv_iload_n hx hb dX9_addPair_44 rfl (lv_at hl 0 rfl) ?_
      refine va_iald hx hb hK hP 58 44 atX_58 tyX_58 (in_rg r10 (by decide)) dX9_addPair_45 ?_
      refine tope (e12) ?_
      refine lv_iadd hx hb dX9_addPair_46 ?_
      refine lv_topi (fun x20 e21 => ?_)
      have r22 : rg x20 0 119 := rg_add e21 r19 r15 (by decide)
      refine lv_iload_n hx hb dX9_addPair_47 rfl (lv_at hl 2 rfl) ?_
      refine va_iast hx hb hK hP hD hS 59 45 atX_59 tyX_59 (in_rg r22 (by decide)) dX9_addPair_48 (fun H locs hP hD hS => ?_)
      have hq := hq.ast 59 (x20).toNatClampNeg (x := p1) (by decide) hp1
      rw [setX_59] at hP hD
      have k23 : p1 = (va_up A 59 (upd (A 59) (x20).toNatClampNeg p1)) 59 (x20).toNatClampNeg := (rdA).symm
      refine lv_aload_n hx hb dX9_addPair_49 rfl (lv_at hl 1 rfl) ?_
      refine va_get (ci := 9) (v := .ref (ad 58)) (C := RX9) (T := TX9) (N := 8) hx hb hg inX9 hown hK hP 56 atX_56 rfl 1 (by decide) (hg _ mw_445) (fun _ h9 => h9) rfl dX9_addPair_50 ?_
      refine lv_iload_n hx hb dX9_addPair_53 rfl (lv_at hl 0 rfl) ?_
      refine lv_dup2_11 hx hb dX9_addPair_54 rfl rfl ?_
      refine va_iald hx hb hK hP 58 44 atX_58 tyX_58 (in_rg r10 (by decide)) dX9_addPair_55 ?_
      refine tope (mv (by decide) (e12)) ?_
      refine lv_iconst (v := 1) hx hb dX9_addPair_56 (by decide) ?_
      refine lv_iadd hx hb dX9_addPair_57 ?_
      refine lv_topi (fun x24 e25 => ?_)
      have r26 : rg x24 1 10 := rg_add e25 r15 ((rg_k (by decide)) : rg 1 1 1) (by decide)
      refine va_iast hx hb hK hP hD hS 58 44 atX_58 tyX_58 (in_rg r10 (by decide)) dX9_addPair_58 (fun H locs hP hD hS => ?_)
      have hq := hq.ast 58 (x8).toNatClampNeg (x := x24) (by decide) (rg_w r26 (by decide))
      rw [setX_58] at hP hD
      have k27 : x24 = (va_up (va_up A 59 (upd (A 59) (x20).toNatClampNeg p1)) 58 (upd ((va_up A 59 (upd (A 59) (x20).toNatClampNeg p1)) 58) (x8).toNatClampNeg x24)) 58 (x8).toNatClampNeg := (rdA).symm
      refine lv_aload_n hx hb dX9_addPair_59 rfl (lv_at hl 1 rfl) ?_
      refine va_get (ci := 9) (v := .ref (ad 58)) (C := RX9) (T := TX9) (N := 8) hx hb hg inX9 hown hK hP 56 atX_56 rfl 1 (by decide) (hg _ mw_445) (fun _ h9 => h9) rfl dX9_addPair_60 ?_
      refine lv_iload_n hx hb dX9_addPair_63 rfl (lv_at hl 0 rfl) ?_
      refine va_iald hx hb hK hP 58 44 atX_58 tyX_58 (in_rg r10 (by decide)) dX9_addPair_64 ?_
      refine tope (k27) ?_
      exact hret (x24) (F, L, (va_up (va_up A 59 (upd (A 59) (x20).toNatClampNeg p1)) 58 (upd ((va_up A 59 (upd (A 59) (x20).toNatClampNeg p1)) 58) (x8).toNatClampNeg x24)), B) H locs 65 ls rfl dX9_addPair_65 hP hD hS ⟨hq, (rg_w r26 (by decide))⟩
    · skip
      have r16 : rg x11 10 10 := rg_le2 (iNL c14) ((rg_k (by decide)) : rg 10 10 10) (r13 : rg x11 0 10)
      exact J23 (F) (L) (A) (B) H locs ls hq hP hD hS (lv_sub hl [] rfl)
