abbrev rm_X12_pair_0 : Room := { frames := 2, cells := 0, slots := 0, locals := 43 }
set_option maxHeartbeats 4000000 in
set_option maxRecDepth 100000 in
theorem c_X12_pair_0 (l : Launch) (D : va_G) (cA : Nat → ClassId) (sz : Nat) (ad : Nat → Nat) (F : Nat → Int32) (L : Nat → Int64) (A : Nat → Nat → Int32) (B : Nat → Nat → Int64) (p1 : Int32) (p2 : Int32) (hT : typM F A) : Met l yX12_pair (Cond.code yX12_pair cX12_pair 4 (some .int) :: GW) rm_X12_pair_0 (mPc D classes (tysM cA) (wM cA ad F L A B) sz [.ref (ad 0), .int p1, .int p2]) (mQi (S := SW) D classes (tysM cA) (wM cA ad F L A B) sz (wfM cA ad) (fun r u => qM [] [29, 30] F A u.1 u.2.2.1 ∧ rg r (-1) 10)) 0 0 (va_A (wM cA ad F L A B) sz) := by
  refine met_i (own := "ShoeingDayModel") (by decide +kernel) rfl (Nat.le_of_ble_eq_true rfl) ?_
  intro p e s m args below meth c Q Af ls hC hP hD hS hA hl hret
  have hx := hC.1
  have hb := hC.2.1
  have hown := hC.2.2.2.1
  have hg := hC.g
  have hK := hC.K
  have hl : lv_has ls 4 [(0, .ref (ad 0)), (1, .int p1), (2, .int p2)] := hl
  have hq : qM [] [29, 30] F A F A := qM.rf hT
  obtain ⟨H, hH⟩ : ∃ H, H = s.heap := ⟨_, rfl⟩
  have hP : va_P D classes (wM cA ad F L A B) H := by rw [hH]; exact hP
  have hS : va_S Af s.heap H [] := by rw [hH]; exact hS
  obtain ⟨locs, hlo⟩ : ∃ q : List Loc, q = [] := ⟨_, rfl⟩
  rw [← hH, ← hlo]
  rw [← hlo] at hS
  refine lv_aload_n hx hb dX12_pair_0 rfl (lv_at hl 0 rfl) ?_
  refine lv_iload_n hx hb dX12_pair_1 rfl (lv_at hl 1 rfl) ?_
  refine callv_i (As := [.int p1]) (rest := []) hC (c_X12_isSmith_0 l D cA H.size ad F L A B (p1) hq.1) (cwV 1 hg (g_V mw_1384 mw_1381 mw_1383 ms_66 mw_20) rfl rfl rfl (by decide +kernel) ⟨(Nat.le_of_ble_eq_true rfl), (Nat.le_of_ble_eq_true rfl)⟩) hP hD hS hA atM_0 rfl rfl hl.1 rfl (Nat.le_of_ble_eq_true rfl) dX12_pair_2 ⟨Nat.zero_le _, Nat.zero_le _⟩ (fun x1 u H locs hw hP hD hS => ?_)
  obtain ⟨r2, g3, g4⟩ := hw
  have hP : va_P D classes (wM cA ad F L A B) H := hP
  have hD : va_D Af (wM cA ad F L A B) := hD
  have J39 : ∀ (F5 : Nat → Int32) (L5 : Nat → Int64) (A5 : Nat → Nat → Int32) (B5 : Nat → Nat → Int64) (H : Heap) (locs : List Loc) (ls : Array Slot), qM [] [29, 30] F A F5 A5 → va_P D classes (wM cA ad F5 L5 A5 B5) H → va_D Af (wM cA ad F5 L5 A5 B5) → va_S Af s.heap H locs → lv_has ls 4 [] → W p l e rm_X12_pair_0 s m args below meth c H locs 0 0 Q (F0 m 39 ls []) := by
    intro F5 L5 A5 B5 H locs ls hq hP hD hS hl
    refine lv_iconst (v := (-1)) hx hb dX12_pair_39 (by decide) ?_
    exact hret ((-1)) (F5, L5, A5, B5) H locs 40 ls rfl dX12_pair_40 hP hD hS ⟨hq, (rg_k (by decide))⟩
  refine lv_if_eq (tgt := 39) hx hb dX12_pair_5 (by decide) (fun c6 => ?_) (fun c6 => ?_)
  · skip
    have r7 : rg x1 0 0 := rg_eq1 c6 (r2 : rg x1 0 1) ((rg_k (by decide)) : rg 0 0 0) (by decide)
    exact J39 (F) (L) (A) (B) H locs ls hq hP hD hS (lv_sub hl [] rfl)
  · skip
    have g8 := g3.resolve_left c6
    refine lv_aload_n hx hb dX12_pair_8 rfl (lv_at hl 0 rfl) ?_
    refine lv_iload_n hx hb dX12_pair_9 rfl (lv_at hl 2 rfl) ?_
    refine callv_i (As := [.int p2]) (rest := []) hC (c_X12_isHorse_0 l D cA H.size ad F L A B (p2) hq.1) (cwV 1 hg (g_V mw_1395 mw_1392 mw_1394 ms_68 mw_20) rfl rfl rfl (by decide +kernel) ⟨(Nat.le_of_ble_eq_true rfl), (Nat.le_of_ble_eq_true rfl)⟩) hP hD hS hA atM_0 rfl rfl hl.1 rfl (Nat.le_of_ble_eq_true rfl) dX12_pair_10 ⟨Nat.zero_le _, Nat.zero_le _⟩ (fun x9 u H locs hw hP hD hS => ?_)
    obtain ⟨r10, g11, g12⟩ := hw
    have hP : va_P D classes (wM cA ad F L A B) H := hP
    have hD : va_D Af (wM cA ad F L A B) := hD
    refine lv_if_eq (tgt := 39) hx hb dX12_pair_13 (by decide) (fun c13 => ?_) (fun c13 => ?_)
    · skip
      have r14 : rg x9 0 0 := rg_eq1 c13 (r10 : rg x9 0 1) ((rg_k (by decide)) : rg 0 0 0) (by decide)
      exact J39 (F) (L) (A) (B) H locs ls hq hP hD hS (lv_sub hl [] rfl)
    · skip
      have g15 := g11.resolve_left c13
      refine lv_aload_n hx hb dX12_pair_16 rfl (lv_at hl 0 rfl) ?_
      refine va_get (ci := 12) (v := .int (F 16)) (C := RX12) (T := TX12) (N := 57) hx hb hg inX12 hown hK hP 0 atM_0 rfl 47 (by decide) (hg _ mw_1155) (fun _ h9 => h9) rfl dX12_pair_17 ?_
      refine lv_topi (fun x16 e17 => ?_)
      have r18 : rg x16 0 12 := rg_e e17 (hq.1.1 16)
      refine lv_if_eq (tgt := 39) hx hb dX12_pair_20 (by decide) (fun c19 => ?_) (fun c19 => ?_)
      · skip
        have r20 : rg x16 0 0 := rg_eq1 c19 (r18 : rg x16 0 12) ((rg_k (by decide)) : rg 0 0 0) (by decide)
        exact J39 (F) (L) (A) (B) H locs ls hq hP hD hS (lv_sub hl [] rfl)
      · skip
        have r21 : rg x16 1 12 := (rg_ne1 c19 (r18 : rg x16 0 12) ((rg_k (by decide)) : rg 0 0 0)).1 rfl
        refine lv_aload_n hx hb dX12_pair_23 rfl (lv_at hl 0 rfl) ?_
        refine va_get (ci := 12) (v := .ref (ad 29)) (C := RX12) (T := TX12) (N := 57) hx hb hg inX12 hown hK hP 0 atM_0 rfl 45 (by decide) (hg _ mw_1153) (fun _ h9 => h9) rfl dX12_pair_24 ?_
        refine lv_aload_n hx hb dX12_pair_27 rfl (lv_at hl 0 rfl) ?_
        refine va_get (ci := 12) (v := .int x16) (C := RX12) (T := TX12) (N := 57) hx hb hg inX12 hown hK hP 0 atM_0 rfl 47 (by decide) (hg _ mw_1155) (fun _ h9 => h9) (congrArg (fun z => some (Value.int z)) (e17.symm)) dX12_pair_28 ?_
        refine lv_iconst (v := 1) hx hb dX12_pair_31 (by decide) ?_
        refine lv_isub hx hb dX12_pair_32 ?_
        refine lv_topi (fun x22 e23 => ?_)
        have r24 : rg x22 0 11 := rg_sub e23 r21 ((rg_k (by decide)) : rg 1 1 1) (by decide)
        refine va_iald hx hb hK hP 29 28 atM_29 tyM_29 (in_rg r24 (by decide)) dX12_pair_33 ?_
        refine lv_topi (fun x25 e26 => ?_)
        have r27 : rg x25 0 10 := rg_e e26 (hq.1.2 29 _)
        refine lv_bipush (v := 10) hx hb dX12_pair_34 (by decide) ?_
        refine lv_icmp_ne (tgt := 41) hx hb dX12_pair_36 (by decide) (fun c28 => ?_) (fun c28 => ?_)
        · skip
          have r29 : rg x25 0 9 := (rg_ne1 c28 (r27 : rg x25 0 10) ((rg_k (by decide)) : rg 10 10 10)).2 rfl
          refine lv_aload_n hx hb dX12_pair_41 rfl (lv_at hl 0 rfl) ?_
          refine va_get (ci := 12) (v := .int x16) (C := RX12) (T := TX12) (N := 57) hx hb hg inX12 hown hK hP 0 atM_0 rfl 47 (by decide) (hg _ mw_1155) (fun _ h9 => h9) (congrArg (fun z => some (Value.int z)) (e17.symm)) dX12_pair_42 ?_
          refine lv_iconst (v := 1) hx hb dX12_pair_45 (by decide) ?_
          refine lv_isub hx hb dX12_pair_46 ?_
          refine tope e23 ?_
          refine lv_istore_n (lv' := [(3, .int x22), (0, .ref (ad 0)), (1, .int p1), (2, .int p2)]) hx hb dX12_pair_47 rfl hl (by decide) rfl (fun ls hl => ?_)
          refine lv_aload_n hx hb dX12_pair_48 rfl (lv_at hl 1 rfl) ?_
          refine va_get (ci := 12) (v := .ref (ad 30)) (C := RX12) (T := TX12) (N := 57) hx hb hg inX12 hown hK hP 0 atM_0 rfl 46 (by decide) (hg _ mw_1154) (fun _ h9 => h9) rfl dX12_pair_49 ?_
          refine lv_bipush (v := 10) hx hb dX12_pair_52 (by decide) ?_
          refine lv_iload_n hx hb dX12_pair_54 rfl (lv_at hl 0 rfl) ?_
          refine lv_imul hx hb dX12_pair_55 ?_
          refine lv_topi (fun x31 e32 => ?_)
          have r33 : rg x31 0 110 := rg_mul e32 ((rg_k (by decide)) : rg 10 10 10) r24 (by decide)
          refine lv_aload_n hx hb dX12_pair_56 rfl (lv_at hl 1 rfl) ?_
          refine va_get (ci := 12) (v := .ref (ad 29)) (C := RX12) (T := TX12) (N := 57) hx hb hg inX12 hown hK hP 0 atM_0 rfl 45 (by decide) (hg _ mw_1153) (fun _ h9 => h9) rfl dX12_pair_57 ?_
          refine lv_iload_n hx hb dX12_pair_60 rfl (lv_at hl 0 rfl) ?_
          refine va_iald hx hb hK hP 29 28 atM_29 tyM_29 (in_rg r24 (by decide)) dX12_pair_61 ?_
          refine tope (e26) ?_
          refine lv_iadd hx hb dX12_pair_62 ?_
          refine lv_topi (fun x34 e35 => ?_)
          have r36 : rg x34 0 119 := rg_add e35 r33 r29 (by decide)
          refine lv_bipush (v := 10) hx hb dX12_pair_63 (by decide) ?_
          refine lv_iload_n hx hb dX12_pair_65 rfl (lv_at hl 2 rfl) ?_
          refine lv_imul hx hb dX12_pair_66 ?_
          refine lv_topi (fun x37 e38 => ?_)
          have r39 : rg x37 0 70 := rg_mul e38 ((rg_k (by decide)) : rg 10 10 10) g8 (by decide)
          refine lv_iload_n hx hb dX12_pair_67 rfl (lv_at hl 3 rfl) ?_
          refine lv_iadd hx hb dX12_pair_68 ?_
          refine lv_topi (fun x40 e41 => ?_)
          have r42 : rg x40 0 79 := rg_add e41 r39 g15 (by decide)
          refine va_iast hx hb hK hP hD hS 30 29 atM_30 tyM_30 (in_rg r36 (by decide)) dX12_pair_69 (fun H locs hP hD hS => ?_)
          have hq := hq.ast 30 (x34).toNatClampNeg (x := x40) (by decide) r42
          rw [setM_30] at hP hD
          have k43 : x40 = (va_up A 30 (upd (A 30) (x34).toNatClampNeg x40)) 30 (x34).toNatClampNeg := (rdA).symm
          refine lv_aload_n hx hb dX12_pair_70 rfl (lv_at hl 1 rfl) ?_
          refine va_get (ci := 12) (v := .ref (ad 29)) (C := RX12) (T := TX12) (N := 57) hx hb hg inX12 hown hK hP 0 atM_0 rfl 45 (by decide) (hg _ mw_1153) (fun _ h9 => h9) rfl dX12_pair_71 ?_
          refine lv_iload_n hx hb dX12_pair_74 rfl (lv_at hl 0 rfl) ?_
          refine lv_dup2_11 hx hb dX12_pair_75 rfl rfl ?_
          refine va_iald hx hb hK hP 29 28 atM_29 tyM_29 (in_rg r24 (by decide)) dX12_pair_76 ?_
          refine tope (mv (by decide) (e26)) ?_
          refine lv_iconst (v := 1) hx hb dX12_pair_77 (by decide) ?_
          refine lv_iadd hx hb dX12_pair_78 ?_
          refine lv_topi (fun x44 e45 => ?_)
          have r46 : rg x44 1 10 := rg_add e45 r29 ((rg_k (by decide)) : rg 1 1 1) (by decide)
          refine va_iast hx hb hK hP hD hS 29 28 atM_29 tyM_29 (in_rg r24 (by decide)) dX12_pair_79 (fun H locs hP hD hS => ?_)
          have hq := hq.ast 29 (x22).toNatClampNeg (x := x44) (by decide) (rg_w r46 (by decide))
          rw [setM_29] at hP hD
          have k47 : x44 = (va_up (va_up A 30 (upd (A 30) (x34).toNatClampNeg x40)) 29 (upd ((va_up A 30 (upd (A 30) (x34).toNatClampNeg x40)) 29) (x22).toNatClampNeg x44)) 29 (x22).toNatClampNeg := (rdA).symm
          refine lv_aload_n hx hb dX12_pair_80 rfl (lv_at hl 1 rfl) ?_
          refine va_get (ci := 12) (v := .ref (ad 29)) (C := RX12) (T := TX12) (N := 57) hx hb hg inX12 hown hK hP 0 atM_0 rfl 45 (by decide) (hg _ mw_1153) (fun _ h9 => h9) rfl dX12_pair_81 ?_
          refine lv_iload_n hx hb dX12_pair_84 rfl (lv_at hl 0 rfl) ?_
          refine va_iald hx hb hK hP 29 28 atM_29 tyM_29 (in_rg r24 (by decide)) dX12_pair_85 ?_
          refine tope (k47) ?_
          exact hret (x44) (F, L, (va_up (va_up A 30 (upd (A 30) (x34).toNatClampNeg x40)) 29 (upd ((va_up A 30 (upd (A 30) (x34).toNatClampNeg x40)) 29) (x22).toNatClampNeg x44)), B) H locs 86 ls rfl dX12_pair_86 hP hD hS ⟨hq, (rg_w r46 (by decide))⟩
        · skip
          have r30 : rg x25 10 10 := rg_eq1 c28 (r27 : rg x25 0 10) ((rg_k (by decide)) : rg 10 10 10) (by decide)
          exact J39 (F) (L) (A) (B) H locs ls hq hP hD hS (lv_sub hl [] rfl)
abbrev rm_X12_hush_0 : Room := { frames := 0, cells := 0, slots := 0, locals := 0 }
set_option maxHeartbeats 4000000 in
set_option maxRecDepth 100000 in
theorem c_X12_hush_0 (l : Launch) (D : va_G) (cA : Nat → ClassId) (sz : Nat) (ad : Nat → Nat) (F : Nat → Int32) (L : Nat → Int64) (A : Nat → Nat → Int32) (B : Nat → Nat → Int64)  (hT : typM F A) : Met l yX12_hush (Cond.code yX12_hush cX12_hush 2 (some .int) :: GW) rm_X12_hush_0 (mPc D classes (tysM cA) (wM cA ad F L A B) sz [.ref (ad 0)]) (mQi (S := SW) D classes (tysM cA) (wM cA ad F L A B) sz (wfM cA ad) (fun r u => qM [16] [] F A u.1 u.2.2.1 ∧ rg r 0 12)) 0 0 (va_A (wM cA ad F L A B) sz) := by
  refine met_i (own := "ShoeingDayModel") (by decide +kernel) rfl (Nat.le_of_ble_eq_true rfl) ?_
  intro p e s m args below meth c Q Af ls hC hP hD hS hA hl hret
  have hx := hC.1
  have hb := hC.2.1
  have hown := hC.2.2.2.1
  have hg := hC.g
  have hK := hC.K
  have hl : lv_has ls 2 [(0, .ref (ad 0))] := hl
  have hq : qM [16] [] F A F A := qM.rf hT
  obtain ⟨H, hH⟩ : ∃ H, H = s.heap := ⟨_, rfl⟩
  have hP : va_P D classes (wM cA ad F L A B) H := by rw [hH]; exact hP
  have hS : va_S Af s.heap H [] := by rw [hH]; exact hS
  obtain ⟨locs, hlo⟩ : ∃ q : List Loc, q = [] := ⟨_, rfl⟩
  rw [← hH, ← hlo]
  rw [← hlo] at hS
  refine lv_aload_n hx hb dX12_hush_0 rfl (lv_at hl 0 rfl) ?_
  refine va_get (ci := 12) (v := .int (F 16)) (C := RX12) (T := TX12) (N := 57) hx hb hg inX12 hown hK hP 0 atM_0 rfl 47 (by decide) (hg _ mw_1155) (fun _ h9 => h9) rfl dX12_hush_1 ?_
  refine lv_topi (fun x1 e2 => ?_)
  have r3 : rg x1 0 12 := rg_e e2 (hq.1.1 16)
  refine lv_istore_n (lv' := [(1, .int x1), (0, .ref (ad 0))]) hx hb dX12_hush_4 rfl hl (by decide) rfl (fun ls hl => ?_)
  refine lv_aload_n hx hb dX12_hush_5 rfl (lv_at hl 1 rfl) ?_
  refine lv_iconst (v := 0) hx hb dX12_hush_6 (by decide) ?_
  refine va_put (ci := 12) (v := .int 0) (ty := .int) (C := RX12) (T := TX12) (N := 57) hx hb hg inX12 tyX12 tyX12_ok nmX12 hown hK hP hD hS 0 atM_0 rfl 47 (by decide) (hg _ mw_1155) (fun _ h9 => h9) rfl (by decide +kernel) rfl rfl (Nat.le_of_ble_eq_true rfl) dX12_hush_7 (fun H locs hP hD hS => ?_)
  have hq := hq.put 16 (x := 0) (by decide) (rg_k (by decide))
  rw [setFM_16] at hP hD
  refine lv_iload_n hx hb dX12_hush_10 rfl (lv_at hl 0 rfl) ?_
  exact hret (x1) ((upd F 16 (0 : Int32)), L, A, B) H locs 11 ls rfl dX12_hush_11 hP hD hS ⟨hq, r3⟩
abbrev rm_X12_isSound_0 : Room := { frames := 0, cells := 0, slots := 0, locals := 0 }
set_option maxHeartbeats 4000000 in
set_option maxRecDepth 100000 in
theorem c_X12_isSound_0 (l : Launch) (D : va_G) (cA : Nat → ClassId) (sz : Nat) (ad : Nat → Nat) (F : Nat → Int32) (L : Nat → Int64) (A : Nat → Nat → Int32) (B : Nat → Nat → Int64) (p1 : Int32) (hT : typM F A) (hp1 : rg p1 0 11) : Met l yX12_isSound (Cond.code yX12_isSound cX12_isSound 6 (some .boolean) :: GW) rm_X12_isSound_0 (mPc D classes (tysM cA) (wM cA ad F L A B) sz [.ref (ad 0), .int p1]) (mQi (S := Unit) D classes (tysM cA) (wM cA ad F L A B) sz (fun _ : Unit => wM cA ad F L A B) (fun r u => rg r 0 1)) 0 0 (va_A (wM cA ad F L A B) sz) := by
  refine met_i (own := "ShoeingDayModel") (by decide +kernel) rfl (Nat.le_of_ble_eq_true rfl) ?_
  intro p e s m args below meth c Q Af ls hC hP hD hS hA hl hret
  have hx := hC.1
  have hb := hC.2.1
  have hown := hC.2.2.2.1
  have hg := hC.g
  have hK := hC.K
  have hl : lv_has ls 6 [(0, .ref (ad 0)), (1, .int p1)] := hl
  have hq : qM [] [] F A F A := qM.rf hT
  obtain ⟨H, hH⟩ : ∃ H, H = s.heap := ⟨_, rfl⟩
  have hP : va_P D classes (wM cA ad F L A B) H := by rw [hH]; exact hP
  have hS : va_S Af s.heap H [] := by rw [hH]; exact hS
  obtain ⟨locs, hlo⟩ : ∃ q : List Loc, q = [] := ⟨_, rfl⟩
  rw [← hH, ← hlo]
  rw [← hlo] at hS
  refine lv_iconst (v := 0) hx hb dX12_isSound_0 (by decide) ?_
  refine lv_istore_n (lv' := [(2, .int 0), (0, .ref (ad 0)), (1, .int p1)]) hx hb dX12_isSound_1 rfl hl (by decide) rfl (fun ls hl => ?_)
  refine lv_iconst (v := 0) hx hb dX12_isSound_2 (by decide) ?_
  refine lv_istore_n (lv' := [(3, .int 0), (2, .int 0), (0, .ref (ad 0)), (1, .int p1)]) hx hb dX12_isSound_3 rfl hl (by decide) rfl (fun ls hl => ?_)
  refine lv_iconst (v := 0) hx hb dX12_isSound_4 (by decide) ?_
  refine lv_istore (lv' := [(4, .int 0), (3, .int 0), (2, .int 0), (0, .ref (ad 0)), (1, .int p1)]) hx hb dX12_isSound_5 hl (by decide) rfl (fun ls hl => ?_)
  have J7 : ∀ (n7 : Nat) (a1 : Int32) (a3 : Int32) (a5 : Int32) (H : Heap) (locs : List Loc) (ls : Array Slot), (10 - a5.toInt).toNat < n7 → rg a1 0 255 → rg a3 0 1023 → rg a5 0 10 → va_P D classes (wM cA ad F L A B) H → va_D Af (wM cA ad F L A B) → va_S Af s.heap H locs → lv_has ls 6 [(0, .ref (ad 0)), (1, .int p1), (2, .int a1), (3, .int a3), (4, .int a5)] → W p l e rm_X12_isSound_0 s m args below meth c H locs 0 0 Q (F0 m 7 ls []) := by
    intro n7
    induction n7 with
    | zero =>
      intro _ _ _ _ _ _ hn
      exact absurd hn (Nat.not_lt_zero _)
    | succ n7 ih7 =>
      intro a1 a3 a5 H locs ls hn7 r2 r4 r6 hP hD hS hl
      refine lv_iload hx hb dX12_isSound_7 (lv_at hl 4 rfl) ?_
      refine lv_aload_n hx hb dX12_isSound_9 rfl (lv_at hl 0 rfl) ?_
      refine va_get (ci := 12) (v := .ref (ad 29)) (C := RX12) (T := TX12) (N := 57) hx hb hg inX12 hown hK hP 0 atM_0 rfl 45 (by decide) (hg _ mw_1153) (fun _ h9 => h9) rfl dX12_isSound_10 ?_
      refine lv_iload_n hx hb dX12_isSound_13 rfl (lv_at hl 1 rfl) ?_
      refine va_iald hx hb hK hP 29 28 atM_29 tyM_29 (in_rg hp1 (by decide)) dX12_isSound_14 ?_
      refine lv_topi (fun x7 e8 => ?_)
      have r9 : rg x7 0 10 := rg_e e8 (hq.1.2 29 _)
      refine lv_icmp_ge (tgt := 102) hx hb dX12_isSound_15 (by decide) (fun c10 => ?_) (fun c10 => ?_)
      · skip
        refine lv_iconst (v := 1) hx hb dX12_isSound_102 (by decide) ?_
        exact hret (1) () H locs 103 ls rfl dX12_isSound_103 hP hD hS (rg_k (by decide))
      · skip
        have r11 : rg a5 0 9 := rg_lt1 (iNE c10) (r6 : rg a5 0 10) (r9 : rg x7 0 10)
        have r12 : rg x7 1 10 := rg_lt2 (iNE c10) (r6 : rg a5 0 10) (r9 : rg x7 0 10)
        refine lv_aload_n hx hb dX12_isSound_18 rfl (lv_at hl 0 rfl) ?_
        refine va_get (ci := 12) (v := .ref (ad 30)) (C := RX12) (T := TX12) (N := 57) hx hb hg inX12 hown hK hP 0 atM_0 rfl 46 (by decide) (hg _ mw_1154) (fun _ h9 => h9) rfl dX12_isSound_19 ?_
        refine lv_bipush (v := 10) hx hb dX12_isSound_22 (by decide) ?_
        refine lv_iload_n hx hb dX12_isSound_24 rfl (lv_at hl 1 rfl) ?_
        refine lv_imul hx hb dX12_isSound_25 ?_
        refine lv_topi (fun x13 e14 => ?_)
        have r15 : rg x13 0 110 := rg_mul e14 ((rg_k (by decide)) : rg 10 10 10) hp1 (by decide)
        refine lv_iload hx hb dX12_isSound_26 (lv_at hl 4 rfl) ?_
        refine lv_iadd hx hb dX12_isSound_28 ?_
        refine lv_topi (fun x16 e17 => ?_)
        have r18 : rg x16 0 119 := rg_add e17 r15 r11 (by decide)
        refine va_iald hx hb hK hP 30 29 atM_30 tyM_30 (in_rg r18 (by decide)) dX12_isSound_29 ?_
        refine lv_topi (fun x19 e20 => ?_)
        have r21 : rg x19 0 79 := rg_e e20 (hq.1.2 30 _)
        refine lv_istore (lv' := [(5, .int x19), (0, .ref (ad 0)), (1, .int p1), (2, .int a1), (3, .int a3), (4, .int a5)]) hx hb dX12_isSound_30 hl (by decide) rfl (fun ls hl => ?_)
        refine lv_iload_n hx hb dX12_isSound_32 rfl (lv_at hl 3 rfl) ?_
        refine lv_iload hx hb dX12_isSound_33 (lv_at hl 0 rfl) ?_
        refine lv_bipush (v := 10) hx hb dX12_isSound_35 (by decide) ?_
        refine lv_idiv hx hb dX12_isSound_37 (by decide) ?_
        refine lv_topi (fun x22 e23 => ?_)
        have r24 : rg x22 0 7 := rg_div e23 r21 ((rg_k (by decide)) : rg 10 10 10) (by decide)
        refine lv_ishr hx hb dX12_isSound_38 ?_
        refine lv_topi (fun x25 e26 => ?_)
        have r27 : rg x25 0 255 := rg_shrk _ e26 r2 rfl (by decide)
        refine lv_iconst (v := 1) hx hb dX12_isSound_39 (by decide) ?_
        refine lv_iand hx hb dX12_isSound_40 ?_
        refine lv_topi (fun x28 e29 => ?_)
        have r30 : rg x28 0 1 := rg_andr e29 ((rg_k (by decide)) : rg 1 1 1) (by decide)
        refine lv_iconst (v := 1) hx hb dX12_isSound_41 (by decide) ?_
        have J74 : ∀ (H : Heap) (locs : List Loc) (ls : Array Slot), va_P D classes (wM cA ad F L A B) H → va_D Af (wM cA ad F L A B) → va_S Af s.heap H locs → lv_has ls 6 [] → W p l e rm_X12_isSound_0 s m args below meth c H locs 0 0 Q (F0 m 74 ls []) := by
          intro H locs ls hP hD hS hl
          refine lv_iconst (v := 0) hx hb dX12_isSound_74 (by decide) ?_
          exact hret (0) () H locs 75 ls rfl dX12_isSound_75 hP hD hS (rg_k (by decide))
        refine lv_icmp_eq (tgt := 74) hx hb dX12_isSound_42 (by decide) (fun c31 => ?_) (fun c31 => ?_)
        · skip
          have r32 : rg x28 1 1 := rg_eq1 c31 (r30 : rg x28 0 1) ((rg_k (by decide)) : rg 1 1 1) (by decide)
          exact J74  H locs ls  hP hD hS (lv_sub hl [] rfl)
        · skip
          have r33 : rg x28 0 0 := (rg_ne1 c31 (r30 : rg x28 0 1) ((rg_k (by decide)) : rg 1 1 1)).2 rfl
          refine lv_iload_n hx hb dX12_isSound_45 rfl (lv_at hl 4 rfl) ?_
          refine lv_iload hx hb dX12_isSound_46 (lv_at hl 0 rfl) ?_
          refine lv_bipush (v := 10) hx hb dX12_isSound_48 (by decide) ?_
          refine lv_irem hx hb dX12_isSound_50 (by decide) ?_
          refine lv_topi (fun x34 e35 => ?_)
          have r36 : rg x34 0 9 := rg_rem e35 r21 ((rg_k (by decide)) : rg 10 10 10) (by decide)
          refine lv_ishr hx hb dX12_isSound_51 ?_
          refine lv_topi (fun x37 e38 => ?_)
          have r39 : rg x37 0 1023 := rg_shrk _ e38 r4 rfl (by decide)
          refine lv_iconst (v := 1) hx hb dX12_isSound_52 (by decide) ?_
          refine lv_iand hx hb dX12_isSound_53 ?_
          refine lv_topi (fun x40 e41 => ?_)
          have r42 : rg x40 0 1 := rg_andr e41 ((rg_k (by decide)) : rg 1 1 1) (by decide)
          refine lv_iconst (v := 1) hx hb dX12_isSound_54 (by decide) ?_
          refine lv_icmp_eq (tgt := 74) hx hb dX12_isSound_55 (by decide) (fun c43 => ?_) (fun c43 => ?_)
          · skip
            have r44 : rg x40 1 1 := rg_eq1 c43 (r42 : rg x40 0 1) ((rg_k (by decide)) : rg 1 1 1) (by decide)
            exact J74  H locs ls  hP hD hS (lv_sub hl [] rfl)
          · skip
            have r45 : rg x40 0 0 := (rg_ne1 c43 (r42 : rg x40 0 1) ((rg_k (by decide)) : rg 1 1 1)).2 rfl
            refine lv_aload_n hx hb dX12_isSound_58 rfl (lv_at hl 1 rfl) ?_
            refine va_get (ci := 12) (v := .ref (ad 16)) (C := RX12) (T := TX12) (N := 57) hx hb hg inX12 hown hK hP 0 atM_0 rfl 26 (by decide) (hg _ mw_1134) (fun _ h9 => h9) rfl dX12_isSound_59 ?_
            refine lv_iload hx hb dX12_isSound_62 (lv_at hl 0 rfl) ?_
            refine va_iald hx hb hK hP 16 15 atM_16 tyM_16 (in_rg r21 (by decide)) dX12_isSound_64 ?_
            refine lv_topi (fun x46 e47 => ?_)
            refine lv_aload_n hx hb dX12_isSound_65 rfl (lv_at hl 1 rfl) ?_
            refine va_get (ci := 12) (v := .ref (ad 28)) (C := RX12) (T := TX12) (N := 57) hx hb hg inX12 hown hK hP 0 atM_0 rfl 44 (by decide) (hg _ mw_1152) (fun _ h9 => h9) rfl dX12_isSound_66 ?_
            refine lv_iload_n hx hb dX12_isSound_69 rfl (lv_at hl 2 rfl) ?_
            refine va_iald hx hb hK hP 28 27 atM_28 tyM_28 (in_rg hp1 (by decide)) dX12_isSound_70 ?_
            refine lv_topi (fun x48 e49 => ?_)
            refine lv_icmp_ge (tgt := 76) hx hb dX12_isSound_71 (by decide) (fun c50 => ?_) (fun c50 => ?_)
            · skip
              refine lv_iload_n hx hb dX12_isSound_76 rfl (lv_at hl 3 rfl) ?_
              refine lv_iconst (v := 1) hx hb dX12_isSound_77 (by decide) ?_
              refine lv_iload hx hb dX12_isSound_78 (lv_at hl 0 rfl) ?_
              refine lv_bipush (v := 10) hx hb dX12_isSound_80 (by decide) ?_
              refine lv_idiv hx hb dX12_isSound_82 (by decide) ?_
              refine tope e23 ?_
              refine lv_ishl hx hb dX12_isSound_83 ?_
              refine lv_topi (fun x53 e54 => ?_)
              have r55 : rg x53 1 128 := rg_shl1 e54 r24 (by decide)
              refine lv_ior hx hb dX12_isSound_84 ?_
              refine lv_topi (fun x56 e57 => ?_)
              have r58 : rg x56 0 255 := rg_or 8 e57 r2 r55 (by decide)
              refine lv_istore_n (lv' := [(2, .int x56), (5, .int x19), (0, .ref (ad 0)), (1, .int p1), (3, .int a3), (4, .int a5)]) hx hb dX12_isSound_85 rfl hl (by decide) rfl (fun ls hl => ?_)
              refine lv_iload_n hx hb dX12_isSound_86 rfl (lv_at hl 4 rfl) ?_
              refine lv_iconst (v := 1) hx hb dX12_isSound_87 (by decide) ?_
              refine lv_iload hx hb dX12_isSound_88 (lv_at hl 1 rfl) ?_
              refine lv_bipush (v := 10) hx hb dX12_isSound_90 (by decide) ?_
              refine lv_irem hx hb dX12_isSound_92 (by decide) ?_
              refine tope e35 ?_
              refine lv_ishl hx hb dX12_isSound_93 ?_
              refine lv_topi (fun x59 e60 => ?_)
              have r61 : rg x59 1 512 := rg_shl1 e60 r36 (by decide)
              refine lv_ior hx hb dX12_isSound_94 ?_
              refine lv_topi (fun x62 e63 => ?_)
              have r64 : rg x62 0 1023 := rg_or 10 e63 r4 r61 (by decide)
              refine lv_istore_n (lv' := [(3, .int x62), (2, .int x56), (5, .int x19), (0, .ref (ad 0)), (1, .int p1), (4, .int a5)]) hx hb dX12_isSound_95 rfl hl (by decide) rfl (fun ls hl => ?_)
              obtain ⟨x65, e66⟩ : ∃ y : Int32, y = a5 + 1 := ⟨_, rfl⟩
              have r67 : rg x65 1 10 := rg_add e66 r11 (rg_k (by decide) : rg 1 1 1) (by decide)
              refine lv_iinc (v := x65) (lv' := [(4, .int x65), (3, .int x62), (2, .int x56), (5, .int x19), (0, .ref (ad 0)), (1, .int p1)]) hx hb dX12_isSound_96 hl (k := 5) rfl (by rw [e66]; rfl) (by decide) rfl (fun ls hl => ?_)
              refine lv_goto (tgt := 7) hx hb dX12_isSound_99 (by decide) ?_
              exact ih7 (x56) (x62) (x65) H locs ls (by have h0 : (1 : Int32).toInt = 1 := rfl; have h1 := ti_addk e66 r11 (by decide); have h2 : rg x65 0 10 := (rg_w r67 (by decide)); unfold rg at h2; omega) r58 r64 (rg_w r67 (by decide)) hP hD hS (lv_sub hl [4, 5, 2, 1, 0] rfl)
            · skip
              have r51 : rg x46 (-2147483648) 2147483646 := rg_lt1 (iNE c50) ((rg_top _) : rg x46 (-2147483648) 2147483647) ((rg_top _) : rg x48 (-2147483648) 2147483647)
              have r52 : rg x48 (-2147483647) 2147483647 := rg_lt2 (iNE c50) ((rg_top _) : rg x46 (-2147483648) 2147483647) ((rg_top _) : rg x48 (-2147483648) 2147483647)
              exact J74  H locs ls  hP hD hS (lv_sub hl [] rfl)
  exact J7 _ (0) (0) (0) H locs ls (Nat.lt_succ_self _) (rg_k (by decide)) (rg_k (by decide)) (rg_k (by decide)) hP hD hS (lv_sub hl [3, 4, 2, 1, 0] rfl)
abbrev rm_X12_lackedOf_0 : Room := { frames := 0, cells := 0, slots := 0, locals := 0 }
set_option maxHeartbeats 4000000 in
set_option maxRecDepth 100000 in
theorem c_X12_lackedOf_0 (l : Launch) (D : va_G) (cA : Nat → ClassId) (sz : Nat) (ad : Nat → Nat) (F : Nat → Int32) (L : Nat → Int64) (A : Nat → Nat → Int32) (B : Nat → Nat → Int64)  (hT : typM F A) : Met l yX12_lackedOf (Cond.code yX12_lackedOf cX12_lackedOf 3 (some .int) :: GW) rm_X12_lackedOf_0 (mPc D classes (tysM cA) (wM cA ad F L A B) sz [.ref (ad 0)]) (mQi (S := Unit) D classes (tysM cA) (wM cA ad F L A B) sz (fun _ : Unit => wM cA ad F L A B) (fun r u => True)) 0 0 (va_A (wM cA ad F L A B) sz) := by
  refine met_i (own := "ShoeingDayModel") (by decide +kernel) rfl (Nat.le_of_ble_eq_true rfl) ?_
  intro p e s m args below meth c Q Af ls hC hP hD hS hA hl hret
  have hx := hC.1
  have hb := hC.2.1
  have hown := hC.2.2.2.1
  have hg := hC.g
  have hK := hC.K
  have hl : lv_has ls 3 [(0, .ref (ad 0))] := hl
  have hq : qM [] [] F A F A := qM.rf hT
  obtain ⟨H, hH⟩ : ∃ H, H = s.heap := ⟨_, rfl⟩
  have hP : va_P D classes (wM cA ad F L A B) H := by rw [hH]; exact hP
  have hS : va_S Af s.heap H [] := by rw [hH]; exact hS
  obtain ⟨locs, hlo⟩ : ∃ q : List Loc, q = [] := ⟨_, rfl⟩
  rw [← hH, ← hlo]
  rw [← hlo] at hS
  refine lv_iconst (v := 0) hx hb dX12_lackedOf_0 (by decide) ?_
  refine lv_istore_n (lv' := [(1, .int 0), (0, .ref (ad 0))]) hx hb dX12_lackedOf_1 rfl hl (by decide) rfl (fun ls hl => ?_)
  refine lv_iconst (v := 0) hx hb dX12_lackedOf_2 (by decide) ?_
  refine lv_istore_n (lv' := [(2, .int 0), (1, .int 0), (0, .ref (ad 0))]) hx hb dX12_lackedOf_3 rfl hl (by decide) rfl (fun ls hl => ?_)
  have J4 : ∀ (n4 : Nat) (a1 : Int32) (a2 : Int32) (H : Heap) (locs : List Loc) (ls : Array Slot), (80 - a2.toInt).toNat < n4 → rg a2 0 80 → va_P D classes (wM cA ad F L A B) H → va_D Af (wM cA ad F L A B) → va_S Af s.heap H locs → lv_has ls 3 [(0, .ref (ad 0)), (1, .int a1), (2, .int a2)] → W p l e rm_X12_lackedOf_0 s m args below meth c H locs 0 0 Q (F0 m 4 ls []) := by
    intro n4
    induction n4 with
    | zero =>
      intro _ _ _ _ _ hn
      exact absurd hn (Nat.not_lt_zero _)
    | succ n4 ih4 =>
      intro a1 a2 H locs ls hn4 r3 hP hD hS hl
      refine lv_iload_n hx hb dX12_lackedOf_4 rfl (lv_at hl 2 rfl) ?_
      refine lv_bipush (v := 80) hx hb dX12_lackedOf_5 (by decide) ?_
      refine lv_icmp_ge (tgt := 25) hx hb dX12_lackedOf_7 (by decide) (fun c4 => ?_) (fun c4 => ?_)
      · skip
        have r5 : rg a2 80 80 := rg_le2 (iE c4) ((rg_k (by decide)) : rg 80 80 80) (r3 : rg a2 0 80)
        refine lv_iload_n hx hb dX12_lackedOf_25 rfl (lv_at hl 1 rfl) ?_
        exact hret (a1) () H locs 26 ls rfl dX12_lackedOf_26 hP hD hS trivial
      · skip
        have r6 : rg a2 0 79 := rg_lt1 (iNE c4) (r3 : rg a2 0 80) ((rg_k (by decide)) : rg 80 80 80)
        refine lv_iload_n hx hb dX12_lackedOf_10 rfl (lv_at hl 1 rfl) ?_
        refine lv_aload_n hx hb dX12_lackedOf_11 rfl (lv_at hl 0 rfl) ?_
        refine va_get (ci := 12) (v := .ref (ad 16)) (C := RX12) (T := TX12) (N := 57) hx hb hg inX12 hown hK hP 0 atM_0 rfl 26 (by decide) (hg _ mw_1134) (fun _ h9 => h9) rfl dX12_lackedOf_12 ?_
        refine lv_iload_n hx hb dX12_lackedOf_15 rfl (lv_at hl 2 rfl) ?_
        refine va_iald hx hb hK hP 16 15 atM_16 tyM_16 (in_rg r6 (by decide)) dX12_lackedOf_16 ?_
        refine lv_topi (fun x7 e8 => ?_)
        refine lv_iadd hx hb dX12_lackedOf_17 ?_
        refine lv_topi (fun x9 e10 => ?_)
        refine lv_istore_n (lv' := [(1, .int x9), (0, .ref (ad 0)), (2, .int a2)]) hx hb dX12_lackedOf_18 rfl hl (by decide) rfl (fun ls hl => ?_)
        obtain ⟨x11, e12⟩ : ∃ y : Int32, y = a2 + 1 := ⟨_, rfl⟩
        have r13 : rg x11 1 80 := rg_add e12 r6 (rg_k (by decide) : rg 1 1 1) (by decide)
        refine lv_iinc (v := x11) (lv' := [(2, .int x11), (1, .int x9), (0, .ref (ad 0))]) hx hb dX12_lackedOf_19 hl (k := 2) rfl (by rw [e12]; rfl) (by decide) rfl (fun ls hl => ?_)
        refine lv_goto (tgt := 4) hx hb dX12_lackedOf_22 (by decide) ?_
        exact ih4 (x9) (x11) H locs ls (by have h0 : (1 : Int32).toInt = 1 := rfl; have h1 := ti_addk e12 r6 (by decide); have h2 : rg x11 0 80 := (rg_w r13 (by decide)); unfold rg at h2; omega) (rg_w r13 (by decide)) hP hD hS (lv_sub hl [2, 1, 0] rfl)
  exact J4 _ (0) (0) H locs ls (Nat.lt_succ_self _) (rg_k (by decide)) hP hD hS (lv_sub hl [2, 1, 0] rfl)
abbrev rm_X12_judge_0 : Room := { frames := 1, cells := 0, slots := 0, locals := 25 }
set_option maxHeartbeats 4000000 in
set_option maxRecDepth 100000 in
theorem c_X12_judge_0 (l : Launch) (D : va_G) (cA : Nat → ClassId) (sz : Nat) (ad : Nat → Nat) (F : Nat → Int32) (L : Nat → Int64) (A : Nat → Nat → Int32) (B : Nat → Nat → Int64) (p1 : Int32) (hT : typM F A) : Met l yX12_judge (Cond.code yX12_judge cX12_judge 5 (some .int) :: GW) rm_X12_judge_0 (mPc D classes (tysM cA) (wM cA ad F L A B) sz [.ref (ad 0), .int p1]) (mQi (S := SW) D classes (tysM cA) (wM cA ad F L A B) sz (wfM cA ad) (fun r u => qM [] [16] F A u.1 u.2.2.1)) 0 0 (va_A (wM cA ad F L A B) sz) := by
  refine met_i (own := "ShoeingDayModel") (by decide +kernel) rfl (Nat.le_of_ble_eq_true rfl) ?_
  intro p e s m args below meth c Q Af ls hC hP hD hS hA hl hret
  have hx := hC.1
  have hb := hC.2.1
  have hown := hC.2.2.2.1
  have hg := hC.g
  have hK := hC.K
  have hl : lv_has ls 5 [(0, .ref (ad 0)), (1, .int p1)] := hl
  have hq : qM [] [16] F A F A := qM.rf hT
  obtain ⟨H, hH⟩ : ∃ H, H = s.heap := ⟨_, rfl⟩
  have hP : va_P D classes (wM cA ad F L A B) H := by rw [hH]; exact hP
  have hS : va_S Af s.heap H [] := by rw [hH]; exact hS
  obtain ⟨locs, hlo⟩ : ∃ q : List Loc, q = [] := ⟨_, rfl⟩
  rw [← hH, ← hlo]
  rw [← hlo] at hS
  refine lv_iload_n hx hb dX12_judge_0 rfl (lv_at hl 1 rfl) ?_
  refine lv_iconst (v := 0) hx hb dX12_judge_1 (by decide) ?_
  refine lv_iconst (v := 2) hx hb dX12_judge_2 (by decide) ?_
  refine calls_i (As := [.int p1, .int 0, .int 2]) (rest := []) hC (c_X12_isIn l D (tysM cA) (wM cA ad F L A B) H.size (p1) (0) (2) (rg_k (by decide)) (rg_k (by decide))) (cwS 3 hg (g_S mw_1391 mw_1389 mw_1390 mw_20) rfl rfl rfl (by decide +kernel) ⟨(Nat.le_of_ble_eq_true rfl), (Nat.le_of_ble_eq_true rfl)⟩) hP hD hS hA rfl hl.1 rfl (Nat.le_of_ble_eq_true rfl) dX12_judge_3 ⟨Nat.zero_le _, Nat.zero_le _⟩ (fun x1 u H locs hw hP hD hS => ?_)
  obtain ⟨r2, g3, g4⟩ := hw
  have hP : va_P D classes (wM cA ad F L A B) H := hP
  have hD : va_D Af (wM cA ad F L A B) := hD
  refine lv_if_ne (tgt := 11) hx hb dX12_judge_6 (by decide) (fun c5 => ?_) (fun c5 => ?_)
  · skip
    have g6 := g3.resolve_left c5
    have r7 : rg p1 0 2147483647 := rg_le2 g6.1 ((rg_k (by decide)) : rg 0 0 0) ((rg_top _) : rg p1 (-2147483648) 2147483647)
    have r8 : rg p1 0 2 := rg_le1 g6.2 (r7 : rg p1 0 2147483647) ((rg_k (by decide)) : rg 2 2 2)
    refine lv_aload_n hx hb dX12_judge_11 rfl (lv_at hl 0 rfl) ?_
    refine callv_v (As := []) (rest := []) hC (c_X12_layNow_0 l D cA H.size ad F L A B  hq.1) (cwV 0 hg (g_V mw_1407 mw_1404 mw_1406 ms_70 mw_20) rfl rfl rfl (by decide +kernel) ⟨(Nat.le_of_ble_eq_true rfl), (Nat.le_of_ble_eq_true rfl)⟩) hP hD hS hA atM_0 rfl rfl hl.1 rfl (Nat.le_of_ble_eq_true rfl) dX12_judge_12 ⟨Nat.zero_le _, Nat.zero_le _⟩ (fun  u H locs hw hP hD hS => ?_)
    obtain ⟨F10, L10, A10, B10⟩ := u
    try dsimp only at hw
    obtain ⟨hq10, g11⟩ := hw
    have hq := hq.call hq10 (by decide)
    have hP : va_P D classes (wM cA ad F10 L10 A10 B10) H := hP
    have hD : va_D Af (wM cA ad F10 L10 A10 B10) := hD
    refine lv_iconst (v := 0) hx hb dX12_judge_15 (by decide) ?_
    refine lv_istore_n (lv' := [(2, .int 0), (0, .ref (ad 0)), (1, .int p1)]) hx hb dX12_judge_16 rfl hl (by decide) rfl (fun ls hl => ?_)
    refine lv_iconst (v := 0) hx hb dX12_judge_17 (by decide) ?_
    refine lv_istore_n (lv' := [(3, .int 0), (2, .int 0), (0, .ref (ad 0)), (1, .int p1)]) hx hb dX12_judge_18 rfl hl (by decide) rfl (fun ls hl => ?_)
    have J19 : ∀ (n19 : Nat) (a12 : Int32) (a13 : Int32) (F15 : Nat → Int32) (L15 : Nat → Int64) (A15 : Nat → Nat → Int32) (B15 : Nat → Nat → Int64) (H : Heap) (locs : List Loc) (ls : Array Slot), (12 - a13.toInt).toNat < n19 → rg a13 0 12 → qM [] [16] F A F15 A15 → va_P D classes (wM cA ad F15 L15 A15 B15) H → va_D Af (wM cA ad F15 L15 A15 B15) → va_S Af s.heap H locs → lv_has ls 5 [(0, .ref (ad 0)), (1, .int p1), (2, .int a12), (3, .int a13)] → W p l e rm_X12_judge_0 s m args below meth c H locs 0 0 Q (F0 m 19 ls []) := by
      intro n19
      induction n19 with
      | zero =>
        intro _ _ _ _ _ _ _ _ _ hn
        exact absurd hn (Nat.not_lt_zero _)
      | succ n19 ih19 =>
        intro a12 a13 F15 L15 A15 B15 H locs ls hn19 r14 hq hP hD hS hl
        refine lv_iload_n hx hb dX12_judge_19 rfl (lv_at hl 3 rfl) ?_
        refine lv_aload_n hx hb dX12_judge_20 rfl (lv_at hl 0 rfl) ?_
        refine va_get (ci := 12) (v := .int (F15 16)) (C := RX12) (T := TX12) (N := 57) hx hb hg inX12 hown hK hP 0 atM_0 rfl 47 (by decide) (hg _ mw_1155) (fun _ h9 => h9) rfl dX12_judge_21 ?_
        refine lv_topi (fun x16 e17 => ?_)
        have r18 : rg x16 0 12 := rg_e e17 (hq.1.1 16)
        have J96 : ∀ (F19 : Nat → Int32) (L19 : Nat → Int64) (A19 : Nat → Nat → Int32) (B19 : Nat → Nat → Int64) (H : Heap) (locs : List Loc) (ls : Array Slot), qM [] [16] F A F19 A19 → F19 16 = x16 → va_P D classes (wM cA ad F19 L19 A19 B19) H → va_D Af (wM cA ad F19 L19 A19 B19) → va_S Af s.heap H locs → lv_has ls 5 [(0, .ref (ad 0)), (1, .int p1), (2, .int a12), (3, .int a13)] → W p l e rm_X12_judge_0 s m args below meth c H locs 0 0 Q (F0 m 96 ls []) := by
          intro F19 L19 A19 B19 H locs ls hq f20 hP hD hS hl
          refine lv_iload_n hx hb dX12_judge_96 rfl (lv_at hl 1 rfl) ?_
          refine lv_iconst (v := 1) hx hb dX12_judge_97 (by decide) ?_
          refine lv_icmp_ne (tgt := 108) hx hb dX12_judge_98 (by decide) (fun c21 => ?_) (fun c21 => ?_)
          · skip
            refine lv_iload_n hx hb dX12_judge_108 rfl (lv_at hl 1 rfl) ?_
            refine lv_iconst (v := 2) hx hb dX12_judge_109 (by decide) ?_
            refine lv_icmp_ne (tgt := 117) hx hb dX12_judge_110 (by decide) (fun c23 => ?_) (fun c23 => ?_)
            · skip
              have r24 : rg p1 0 1 := (rg_ne1 c23 (r8 : rg p1 0 2) ((rg_k (by decide)) : rg 2 2 2)).2 rfl
              refine lv_iload_n hx hb dX12_judge_117 rfl (lv_at hl 3 rfl) ?_
              refine lv_aload_n hx hb dX12_judge_118 rfl (lv_at hl 0 rfl) ?_
              refine va_get (ci := 12) (v := .int x16) (C := RX12) (T := TX12) (N := 57) hx hb hg inX12 hown hK hP 0 atM_0 rfl 47 (by decide) (hg _ mw_1155) (fun _ h9 => h9) (congrArg (fun z => some (Value.int z)) (f20)) dX12_judge_119 ?_
              refine lv_icmp_ge (tgt := 129) hx hb dX12_judge_122 (by decide) (fun c26 => ?_) (fun c26 => ?_)
              · skip
                refine lv_iconst (v := (-1)) hx hb dX12_judge_129 (by decide) ?_
                exact hret ((-1)) (F19, L19, A19, B19) H locs 130 ls rfl dX12_judge_130 hP hD hS hq
              · skip
                have r27 : rg a13 0 11 := rg_lt1 (iNE c26) (r14 : rg a13 0 12) (r18 : rg x16 0 12)
                have r28 : rg x16 1 12 := rg_lt2 (iNE c26) (r14 : rg a13 0 12) (r18 : rg x16 0 12)
                refine lv_iload_n hx hb dX12_judge_125 rfl (lv_at hl 3 rfl) ?_
                refine lv_goto (tgt := 130) hx hb dX12_judge_126 (by decide) ?_
                exact hret (a13) (F19, L19, A19, B19) H locs 130 ls rfl dX12_judge_130 hP hD hS hq
            · skip
              have r25 : rg p1 2 2 := rg_eq1 c23 (r8 : rg p1 0 2) ((rg_k (by decide)) : rg 2 2 2) (by decide)
              refine lv_iload_n hx hb dX12_judge_113 rfl (lv_at hl 2 rfl) ?_
              refine lv_goto (tgt := 130) hx hb dX12_judge_114 (by decide) ?_
              exact hret (a12) (F19, L19, A19, B19) H locs 130 ls rfl dX12_judge_130 hP hD hS hq
          · skip
            have r22 : rg p1 1 1 := rg_eq1 c21 (r8 : rg p1 0 2) ((rg_k (by decide)) : rg 1 1 1) (by decide)
            refine lv_aload_n hx hb dX12_judge_101 rfl (lv_at hl 0 rfl) ?_
            refine callv_i (As := []) (rest := []) hC (c_X12_lackedOf_0 l D cA H.size ad F19 L19 A19 B19  hq.1) (cwV 0 hg (g_V mw_1576 mw_1573 mw_1575 ms_92 mw_20) rfl rfl rfl (by decide +kernel) ⟨(Nat.le_of_ble_eq_true rfl), (Nat.le_of_ble_eq_true rfl)⟩) hP hD hS hA atM_0 rfl rfl hl.1 rfl (Nat.le_of_ble_eq_true rfl) dX12_judge_102 ⟨Nat.zero_le _, Nat.zero_le _⟩ (fun x29 u H locs hw hP hD hS => ?_)
            have hP : va_P D classes (wM cA ad F19 L19 A19 B19) H := hP
            have hD : va_D Af (wM cA ad F19 L19 A19 B19) := hD
            refine lv_goto (tgt := 130) hx hb dX12_judge_105 (by decide) ?_
            exact hret (x29) (F19, L19, A19, B19) H locs 130 ls rfl dX12_judge_130 hP hD hS hq
        refine lv_icmp_ge (tgt := 96) hx hb dX12_judge_24 (by decide) (fun c30 => ?_) (fun c30 => ?_)
        · skip
          exact J96 (F15) (L15) (A15) (B15) H locs ls hq (e17.symm) hP hD hS (lv_sub hl [0, 1, 2, 3] rfl)
        · skip
          have r31 : rg a13 0 11 := rg_lt1 (iNE c30) (r14 : rg a13 0 12) (r18 : rg x16 0 12)
          have r32 : rg x16 1 12 := rg_lt2 (iNE c30) (r14 : rg a13 0 12) (r18 : rg x16 0 12)
          refine lv_aload_n hx hb dX12_judge_27 rfl (lv_at hl 0 rfl) ?_
          refine lv_iload_n hx hb dX12_judge_28 rfl (lv_at hl 3 rfl) ?_
          refine callv_i (As := [.int a13]) (rest := []) hC (c_X12_isSound_0 l D cA H.size ad F15 L15 A15 B15 (a13) hq.1 r31) (cwV 1 hg (g_V mw_1572 mw_1569 mw_1571 ms_91 mw_20) rfl rfl rfl (by decide +kernel) ⟨(Nat.le_of_ble_eq_true rfl), (Nat.le_of_ble_eq_true rfl)⟩) hP hD hS hA atM_0 rfl rfl hl.1 rfl (Nat.le_of_ble_eq_true rfl) dX12_judge_29 ⟨Nat.zero_le _, Nat.zero_le _⟩ (fun x33 u H locs hw hP hD hS => ?_)
          have r34 := hw
          have hP : va_P D classes (wM cA ad F15 L15 A15 B15) H := hP
          have hD : va_D Af (wM cA ad F15 L15 A15 B15) := hD
          refine lv_if_eq (tgt := 96) hx hb dX12_judge_32 (by decide) (fun c35 => ?_) (fun c35 => ?_)
          · skip
            have r36 : rg x33 0 0 := rg_eq1 c35 (r34 : rg x33 0 1) ((rg_k (by decide)) : rg 0 0 0) (by decide)
            exact J96 (F15) (L15) (A15) (B15) H locs ls hq (e17.symm) hP hD hS (lv_sub hl [0, 1, 2, 3] rfl)
          · skip
            have r37 : rg x33 1 1 := (rg_ne1 c35 (r34 : rg x33 0 1) ((rg_k (by decide)) : rg 0 0 0)).1 rfl
            refine lv_iconst (v := 0) hx hb dX12_judge_35 (by decide) ?_
            refine lv_istore (lv' := [(4, .int 0), (0, .ref (ad 0)), (1, .int p1), (2, .int a12), (3, .int a13)]) hx hb dX12_judge_36 hl (by decide) rfl (fun ls hl => ?_)
            have J38 : ∀ (n38 : Nat) (a38 : Int32) (F40 : Nat → Int32) (L40 : Nat → Int64) (A40 : Nat → Nat → Int32) (B40 : Nat → Nat → Int64) (H : Heap) (locs : List Loc) (ls : Array Slot), (10 - a38.toInt).toNat < n38 → rg a38 0 10 → qM [] [16] F A F40 A40 → F40 16 = x16 → va_P D classes (wM cA ad F40 L40 A40 B40) H → va_D Af (wM cA ad F40 L40 A40 B40) → va_S Af s.heap H locs → lv_has ls 5 [(0, .ref (ad 0)), (1, .int p1), (2, .int a12), (3, .int a13), (4, .int a38)] → W p l e rm_X12_judge_0 s m args below meth c H locs 0 0 Q (F0 m 38 ls []) := by
              intro n38
              induction n38 with
              | zero =>
                intro _ _ _ _ _ _ _ _ hn
                exact absurd hn (Nat.not_lt_zero _)
              | succ n38 ih38 =>
                intro a38 F40 L40 A40 B40 H locs ls hn38 r39 hq f41 hP hD hS hl
                refine lv_iload hx hb dX12_judge_38 (lv_at hl 4 rfl) ?_
                refine lv_aload_n hx hb dX12_judge_40 rfl (lv_at hl 0 rfl) ?_
                refine va_get (ci := 12) (v := .ref (ad 29)) (C := RX12) (T := TX12) (N := 57) hx hb hg inX12 hown hK hP 0 atM_0 rfl 45 (by decide) (hg _ mw_1153) (fun _ h9 => h9) rfl dX12_judge_41 ?_
                refine lv_iload_n hx hb dX12_judge_44 rfl (lv_at hl 3 rfl) ?_
                refine va_iald hx hb hK hP 29 28 atM_29 tyM_29 (in_rg r31 (by decide)) dX12_judge_45 ?_
                refine lv_topi (fun x42 e43 => ?_)
                have r44 : rg x42 0 10 := rg_e e43 (hq.1.2 29 _)
                refine lv_icmp_ge (tgt := 81) hx hb dX12_judge_46 (by decide) (fun c45 => ?_) (fun c45 => ?_)
                · skip
                  refine lv_iload_n hx hb dX12_judge_81 rfl (lv_at hl 2 rfl) ?_
                  refine lv_aload_n hx hb dX12_judge_82 rfl (lv_at hl 0 rfl) ?_
                  refine va_get (ci := 12) (v := .ref (ad 28)) (C := RX12) (T := TX12) (N := 57) hx hb hg inX12 hown hK hP 0 atM_0 rfl 44 (by decide) (hg _ mw_1152) (fun _ h9 => h9) rfl dX12_judge_83 ?_
                  refine lv_iload_n hx hb dX12_judge_86 rfl (lv_at hl 3 rfl) ?_
                  refine va_iald hx hb hK hP 28 27 atM_28 tyM_28 (in_rg r31 (by decide)) dX12_judge_87 ?_
                  refine lv_topi (fun x48 e49 => ?_)
                  refine lv_iadd hx hb dX12_judge_88 ?_
                  refine lv_topi (fun x50 e51 => ?_)
                  refine lv_istore_n (lv' := [(2, .int x50), (0, .ref (ad 0)), (1, .int p1), (3, .int a13), (4, .int a38)]) hx hb dX12_judge_89 rfl hl (by decide) rfl (fun ls hl => ?_)
                  obtain ⟨x52, e53⟩ : ∃ y : Int32, y = a13 + 1 := ⟨_, rfl⟩
                  have r54 : rg x52 1 12 := rg_add e53 r31 (rg_k (by decide) : rg 1 1 1) (by decide)
                  refine lv_iinc (v := x52) (lv' := [(3, .int x52), (2, .int x50), (0, .ref (ad 0)), (1, .int p1), (4, .int a38)]) hx hb dX12_judge_90 hl (k := 3) rfl (by rw [e53]; rfl) (by decide) rfl (fun ls hl => ?_)
                  refine lv_goto (tgt := 19) hx hb dX12_judge_93 (by decide) ?_
                  exact ih19 (x50) (x52) (F40) (L40) (A40) (B40) H locs ls (by have h0 : (1 : Int32).toInt = 1 := rfl; have h1 := ti_addk e53 r31 (by decide); have h2 : rg x52 0 12 := (rg_w r54 (by decide)); unfold rg at h2; omega) (rg_w r54 (by decide)) hq hP hD hS (lv_sub hl [2, 3, 1, 0] rfl)
                · skip
                  have r46 : rg a38 0 9 := rg_lt1 (iNE c45) (r39 : rg a38 0 10) (r44 : rg x42 0 10)
                  have r47 : rg x42 1 10 := rg_lt2 (iNE c45) (r39 : rg a38 0 10) (r44 : rg x42 0 10)
                  refine lv_aload_n hx hb dX12_judge_49 rfl (lv_at hl 0 rfl) ?_
                  refine va_get (ci := 12) (v := .ref (ad 16)) (C := RX12) (T := TX12) (N := 57) hx hb hg inX12 hown hK hP 0 atM_0 rfl 26 (by decide) (hg _ mw_1134) (fun _ h9 => h9) rfl dX12_judge_50 ?_
                  refine lv_aload_n hx hb dX12_judge_53 rfl (lv_at hl 0 rfl) ?_
                  refine va_get (ci := 12) (v := .ref (ad 30)) (C := RX12) (T := TX12) (N := 57) hx hb hg inX12 hown hK hP 0 atM_0 rfl 46 (by decide) (hg _ mw_1154) (fun _ h9 => h9) rfl dX12_judge_54 ?_
                  refine lv_bipush (v := 10) hx hb dX12_judge_57 (by decide) ?_
                  refine lv_iload_n hx hb dX12_judge_59 rfl (lv_at hl 3 rfl) ?_
                  refine lv_imul hx hb dX12_judge_60 ?_
                  refine lv_topi (fun x55 e56 => ?_)
                  have r57 : rg x55 0 110 := rg_mul e56 ((rg_k (by decide)) : rg 10 10 10) r31 (by decide)
                  refine lv_iload hx hb dX12_judge_61 (lv_at hl 4 rfl) ?_
                  refine lv_iadd hx hb dX12_judge_63 ?_
                  refine lv_topi (fun x58 e59 => ?_)
                  have r60 : rg x58 0 119 := rg_add e59 r57 r46 (by decide)
                  refine va_iald hx hb hK hP 30 29 atM_30 tyM_30 (in_rg r60 (by decide)) dX12_judge_64 ?_
                  refine lv_topi (fun x61 e62 => ?_)
                  have r63 : rg x61 0 79 := rg_e e62 (hq.1.2 30 _)
                  refine lv_dup2_11 hx hb dX12_judge_65 rfl rfl ?_
                  refine va_iald hx hb hK hP 16 15 atM_16 tyM_16 (in_rg r63 (by decide)) dX12_judge_66 ?_
                  refine lv_topi (fun x64 e65 => ?_)
                  refine lv_aload_n hx hb dX12_judge_67 rfl (lv_at hl 0 rfl) ?_
                  refine va_get (ci := 12) (v := .ref (ad 28)) (C := RX12) (T := TX12) (N := 57) hx hb hg inX12 hown hK hP 0 atM_0 rfl 44 (by decide) (hg _ mw_1152) (fun _ h9 => h9) rfl dX12_judge_68 ?_
                  refine lv_iload_n hx hb dX12_judge_71 rfl (lv_at hl 3 rfl) ?_
                  refine va_iald hx hb hK hP 28 27 atM_28 tyM_28 (in_rg r31 (by decide)) dX12_judge_72 ?_
                  refine lv_topi (fun x66 e67 => ?_)
                  refine lv_isub hx hb dX12_judge_73 ?_
                  refine lv_topi (fun x68 e69 => ?_)
                  refine va_iast hx hb hK hP hD hS 16 15 atM_16 tyM_16 (in_rg r63 (by decide)) dX12_judge_74 (fun H locs hP hD hS => ?_)
                  have hq := hq.ast 16 (x61).toNatClampNeg (x := x68) (by decide) (rg_top _)
                  rw [setM_16] at hP hD
                  have k70 : x68 = (va_up A40 16 (upd (A40 16) (x61).toNatClampNeg x68)) 16 (x61).toNatClampNeg := (rdA).symm
                  obtain ⟨x71, e72⟩ : ∃ y : Int32, y = a38 + 1 := ⟨_, rfl⟩
                  have r73 : rg x71 1 10 := rg_add e72 r46 (rg_k (by decide) : rg 1 1 1) (by decide)
                  refine lv_iinc (v := x71) (lv' := [(4, .int x71), (0, .ref (ad 0)), (1, .int p1), (2, .int a12), (3, .int a13)]) hx hb dX12_judge_75 hl (k := 4) rfl (by rw [e72]; rfl) (by decide) rfl (fun ls hl => ?_)
                  refine lv_goto (tgt := 38) hx hb dX12_judge_78 (by decide) ?_
                  exact ih38 (x71) (F40) (L40) ((va_up A40 16 (upd (A40 16) (x61).toNatClampNeg x68))) (B40) H locs ls (by have h0 : (1 : Int32).toInt = 1 := rfl; have h1 := ti_addk e72 r46 (by decide); have h2 : rg x71 0 10 := (rg_w r73 (by decide)); unfold rg at h2; omega) (rg_w r73 (by decide)) hq (f41) hP hD hS (lv_sub hl [1, 2, 3, 4, 0] rfl)
            exact J38 _ (0) (F15) (L15) (A15) (B15) H locs ls (Nat.lt_succ_self _) (rg_k (by decide)) hq (e17.symm) hP hD hS (lv_sub hl [1, 2, 3, 4, 0] rfl)
    exact J19 _ (0) (0) (F10) (L10) (A10) (B10) H locs ls (Nat.lt_succ_self _) (rg_k (by decide)) hq hP hD hS (lv_sub hl [2, 3, 1, 0] rfl)
  · skip
    have r9 : rg x1 0 0 := rg_eq1 c5 (r2 : rg x1 0 1) ((rg_k (by decide)) : rg 0 0 0) (by decide)
    refine lv_iconst (v := (-1)) hx hb dX12_judge_9 (by decide) ?_
    exact hret ((-1)) (F, L, A, B) H locs 10 ls rfl dX12_judge_10 hP hD hS hq
abbrev rm_X12_sight_0 : Room := { frames := 2, cells := 0, slots := 0, locals := 43 }
set_option maxHeartbeats 4000000 in
set_option maxRecDepth 100000 in
theorem c_X12_sight_0 (l : Launch) (D : va_G) (cA : Nat → ClassId) (sz : Nat) (ad : Nat → Nat) (F : Nat → Int32) (L : Nat → Int64) (A : Nat → Nat → Int32) (B : Nat → Nat → Int64) (p1 : Int32) (p2 : Int32) (p3 : Int32) (hT : typM F A) : Met l yX12_sight (Cond.code yX12_sight cX12_sight 4 (some .int) :: GW) rm_X12_sight_0 (mPc D classes (tysM cA) (wM cA ad F L A B) sz [.ref (ad 0), .int p1, .int p2, .int p3]) (mQi (S := SW) D classes (tysM cA) (wM cA ad F L A B) sz (wfM cA ad) (fun r u => qM [17] [31, 32, 33, 34, 35] F A u.1 u.2.2.1 ∧ rg r (-1) 19)) 0 0 (va_A (wM cA ad F L A B) sz) := by
  refine met_i (own := "ShoeingDayModel") (by decide +kernel) rfl (Nat.le_of_ble_eq_true rfl) ?_
  intro p e s m args below meth c Q Af ls hC hP hD hS hA hl hret
  have hx := hC.1
  have hb := hC.2.1
  have hown := hC.2.2.2.1
  have hg := hC.g
  have hK := hC.K
  have hl : lv_has ls 4 [(0, .ref (ad 0)), (1, .int p1), (2, .int p2), (3, .int p3)] := hl
  have hq : qM [17] [31, 32, 33, 34, 35] F A F A := qM.rf hT
  obtain ⟨H, hH⟩ : ∃ H, H = s.heap := ⟨_, rfl⟩
  have hP : va_P D classes (wM cA ad F L A B) H := by rw [hH]; exact hP
  have hS : va_S Af s.heap H [] := by rw [hH]; exact hS
  obtain ⟨locs, hlo⟩ : ∃ q : List Loc, q = [] := ⟨_, rfl⟩
  rw [← hH, ← hlo]
  rw [← hlo] at hS
  refine lv_iload_n hx hb dX12_sight_0 rfl (lv_at hl 1 rfl) ?_
  refine lv_iconst (v := 0) hx hb dX12_sight_1 (by decide) ?_
  refine lv_sipush (v := 999) hx hb dX12_sight_2 (by decide) ?_
  refine calls_i (As := [.int p1, .int 0, .int 999]) (rest := []) hC (c_X12_isIn l D (tysM cA) (wM cA ad F L A B) H.size (p1) (0) (999) (rg_k (by decide)) (rg_k (by decide))) (cwS 3 hg (g_S mw_1391 mw_1389 mw_1390 mw_20) rfl rfl rfl (by decide +kernel) ⟨(Nat.le_of_ble_eq_true rfl), (Nat.le_of_ble_eq_true rfl)⟩) hP hD hS hA rfl hl.1 rfl (Nat.le_of_ble_eq_true rfl) dX12_sight_5 ⟨Nat.zero_le _, Nat.zero_le _⟩ (fun x1 u H locs hw hP hD hS => ?_)
  obtain ⟨r2, g3, g4⟩ := hw
  have hP : va_P D classes (wM cA ad F L A B) H := hP
  have hD : va_D Af (wM cA ad F L A B) := hD
  have J41 : ∀ (F5 : Nat → Int32) (L5 : Nat → Int64) (A5 : Nat → Nat → Int32) (B5 : Nat → Nat → Int64) (H : Heap) (locs : List Loc) (ls : Array Slot), qM [17] [31, 32, 33, 34, 35] F A F5 A5 → va_P D classes (wM cA ad F5 L5 A5 B5) H → va_D Af (wM cA ad F5 L5 A5 B5) → va_S Af s.heap H locs → lv_has ls 4 [] → W p l e rm_X12_sight_0 s m args below meth c H locs 0 0 Q (F0 m 41 ls []) := by
    intro F5 L5 A5 B5 H locs ls hq hP hD hS hl
    refine lv_iconst (v := (-1)) hx hb dX12_sight_41 (by decide) ?_
    exact hret ((-1)) (F5, L5, A5, B5) H locs 42 ls rfl dX12_sight_42 hP hD hS ⟨hq, (rg_k (by decide))⟩
  refine lv_if_eq (tgt := 41) hx hb dX12_sight_8 (by decide) (fun c6 => ?_) (fun c6 => ?_)
  · skip
    have r7 : rg x1 0 0 := rg_eq1 c6 (r2 : rg x1 0 1) ((rg_k (by decide)) : rg 0 0 0) (by decide)
    exact J41 (F) (L) (A) (B) H locs ls hq hP hD hS (lv_sub hl [] rfl)
  · skip
    have g8 := g3.resolve_left c6
    have r9 : rg p1 0 2147483647 := rg_le2 g8.1 ((rg_k (by decide)) : rg 0 0 0) ((rg_top _) : rg p1 (-2147483648) 2147483647)
    have r10 : rg p1 0 999 := rg_le1 g8.2 (r9 : rg p1 0 2147483647) ((rg_k (by decide)) : rg 999 999 999)
    refine lv_aload_n hx hb dX12_sight_11 rfl (lv_at hl 0 rfl) ?_
    refine lv_iload_n hx hb dX12_sight_12 rfl (lv_at hl 2 rfl) ?_
    refine callv_i (As := [.int p2]) (rest := []) hC (c_X12_isSmith_0 l D cA H.size ad F L A B (p2) hq.1) (cwV 1 hg (g_V mw_1384 mw_1381 mw_1383 ms_66 mw_20) rfl rfl rfl (by decide +kernel) ⟨(Nat.le_of_ble_eq_true rfl), (Nat.le_of_ble_eq_true rfl)⟩) hP hD hS hA atM_0 rfl rfl hl.1 rfl (Nat.le_of_ble_eq_true rfl) dX12_sight_13 ⟨Nat.zero_le _, Nat.zero_le _⟩ (fun x11 u H locs hw hP hD hS => ?_)
    obtain ⟨r12, g13, g14⟩ := hw
    have hP : va_P D classes (wM cA ad F L A B) H := hP
    have hD : va_D Af (wM cA ad F L A B) := hD
    refine lv_if_eq (tgt := 41) hx hb dX12_sight_16 (by decide) (fun c15 => ?_) (fun c15 => ?_)
    · skip
      have r16 : rg x11 0 0 := rg_eq1 c15 (r12 : rg x11 0 1) ((rg_k (by decide)) : rg 0 0 0) (by decide)
      exact J41 (F) (L) (A) (B) H locs ls hq hP hD hS (lv_sub hl [] rfl)
    · skip
      have g17 := g13.resolve_left c15
      refine lv_iload_n hx hb dX12_sight_19 rfl (lv_at hl 3 rfl) ?_
      refine lv_iconst (v := (-1)) hx hb dX12_sight_20 (by decide) ?_
      have J32 : ∀ (F19 : Nat → Int32) (L19 : Nat → Int64) (A19 : Nat → Nat → Int32) (B19 : Nat → Nat → Int64) (H : Heap) (locs : List Loc) (ls : Array Slot), rg p3 (-1) 9 → qM [17] [31, 32, 33, 34, 35] F A F19 A19 → va_P D classes (wM cA ad F19 L19 A19 B19) H → va_D Af (wM cA ad F19 L19 A19 B19) → va_S Af s.heap H locs → lv_has ls 4 [(0, .ref (ad 0)), (1, .int p1), (2, .int p2), (3, .int p3)] → W p l e rm_X12_sight_0 s m args below meth c H locs 0 0 Q (F0 m 32 ls []) := by
        intro F19 L19 A19 B19 H locs ls r18 hq hP hD hS hl
        refine lv_aload_n hx hb dX12_sight_32 rfl (lv_at hl 0 rfl) ?_
        refine va_get (ci := 12) (v := .int (F19 17)) (C := RX12) (T := TX12) (N := 57) hx hb hg inX12 hown hK hP 0 atM_0 rfl 53 (by decide) (hg _ mw_1161) (fun _ h9 => h9) rfl dX12_sight_33 ?_
        refine lv_topi (fun x20 e21 => ?_)
        have r22 : rg x20 0 20 := rg_e e21 (hq.1.1 17)
        refine lv_bipush (v := 20) hx hb dX12_sight_36 (by decide) ?_
        refine lv_icmp_ne (tgt := 43) hx hb dX12_sight_38 (by decide) (fun c23 => ?_) (fun c23 => ?_)
        · skip
          have r24 : rg x20 0 19 := (rg_ne1 c23 (r22 : rg x20 0 20) ((rg_k (by decide)) : rg 20 20 20)).2 rfl
          refine lv_aload_n hx hb dX12_sight_43 rfl (lv_at hl 0 rfl) ?_
          refine va_get (ci := 12) (v := .ref (ad 31)) (C := RX12) (T := TX12) (N := 57) hx hb hg inX12 hown hK hP 0 atM_0 rfl 48 (by decide) (hg _ mw_1156) (fun _ h9 => h9) rfl dX12_sight_44 ?_
          refine lv_aload_n hx hb dX12_sight_47 rfl (lv_at hl 0 rfl) ?_
          refine va_get (ci := 12) (v := .int x20) (C := RX12) (T := TX12) (N := 57) hx hb hg inX12 hown hK hP 0 atM_0 rfl 53 (by decide) (hg _ mw_1161) (fun _ h9 => h9) (congrArg (fun z => some (Value.int z)) (e21.symm)) dX12_sight_48 ?_
          refine lv_iload_n hx hb dX12_sight_51 rfl (lv_at hl 1 rfl) ?_
          refine va_iast hx hb hK hP hD hS 31 30 atM_31 tyM_31 (in_rg r24 (by decide)) dX12_sight_52 (fun H locs hP hD hS => ?_)
          have hq := hq.ast 31 (x20).toNatClampNeg (x := p1) (by decide) (rg_top _)
          rw [setM_31] at hP hD
          have k26 : p1 = (va_up A19 31 (upd (A19 31) (x20).toNatClampNeg p1)) 31 (x20).toNatClampNeg := (rdA).symm
          refine lv_aload_n hx hb dX12_sight_53 rfl (lv_at hl 0 rfl) ?_
          refine va_get (ci := 12) (v := .ref (ad 32)) (C := RX12) (T := TX12) (N := 57) hx hb hg inX12 hown hK hP 0 atM_0 rfl 49 (by decide) (hg _ mw_1157) (fun _ h9 => h9) rfl dX12_sight_54 ?_
          refine lv_aload_n hx hb dX12_sight_57 rfl (lv_at hl 0 rfl) ?_
          refine va_get (ci := 12) (v := .int x20) (C := RX12) (T := TX12) (N := 57) hx hb hg inX12 hown hK hP 0 atM_0 rfl 53 (by decide) (hg _ mw_1161) (fun _ h9 => h9) (congrArg (fun z => some (Value.int z)) (e21.symm)) dX12_sight_58 ?_
          refine lv_iload_n hx hb dX12_sight_61 rfl (lv_at hl 2 rfl) ?_
          refine va_iast hx hb hK hP hD hS 32 31 atM_32 tyM_32 (in_rg r24 (by decide)) dX12_sight_62 (fun H locs hP hD hS => ?_)
          have hq := hq.ast 32 (x20).toNatClampNeg (x := p2) (by decide) g17
          rw [setM_32] at hP hD
          have k27 : p2 = (va_up (va_up A19 31 (upd (A19 31) (x20).toNatClampNeg p1)) 32 (upd ((va_up A19 31 (upd (A19 31) (x20).toNatClampNeg p1)) 32) (x20).toNatClampNeg p2)) 32 (x20).toNatClampNeg := (rdA).symm
          refine lv_aload_n hx hb dX12_sight_63 rfl (lv_at hl 0 rfl) ?_
          refine va_get (ci := 12) (v := .ref (ad 33)) (C := RX12) (T := TX12) (N := 57) hx hb hg inX12 hown hK hP 0 atM_0 rfl 50 (by decide) (hg _ mw_1158) (fun _ h9 => h9) rfl dX12_sight_64 ?_
          refine lv_aload_n hx hb dX12_sight_67 rfl (lv_at hl 0 rfl) ?_
          refine va_get (ci := 12) (v := .int x20) (C := RX12) (T := TX12) (N := 57) hx hb hg inX12 hown hK hP 0 atM_0 rfl 53 (by decide) (hg _ mw_1161) (fun _ h9 => h9) (congrArg (fun z => some (Value.int z)) (e21.symm)) dX12_sight_68 ?_
          refine lv_iload_n hx hb dX12_sight_71 rfl (lv_at hl 3 rfl) ?_
          refine va_iast hx hb hK hP hD hS 33 32 atM_33 tyM_33 (in_rg r24 (by decide)) dX12_sight_72 (fun H locs hP hD hS => ?_)
          have hq := hq.ast 33 (x20).toNatClampNeg (x := p3) (by decide) (rg_top _)
          rw [setM_33] at hP hD
          have k28 : p3 = (va_up (va_up (va_up A19 31 (upd (A19 31) (x20).toNatClampNeg p1)) 32 (upd ((va_up A19 31 (upd (A19 31) (x20).toNatClampNeg p1)) 32) (x20).toNatClampNeg p2)) 33 (upd ((va_up (va_up A19 31 (upd (A19 31) (x20).toNatClampNeg p1)) 32 (upd ((va_up A19 31 (upd (A19 31) (x20).toNatClampNeg p1)) 32) (x20).toNatClampNeg p2)) 33) (x20).toNatClampNeg p3)) 33 (x20).toNatClampNeg := (rdA).symm
          refine lv_aload_n hx hb dX12_sight_73 rfl (lv_at hl 0 rfl) ?_
          refine va_get (ci := 12) (v := .ref (ad 34)) (C := RX12) (T := TX12) (N := 57) hx hb hg inX12 hown hK hP 0 atM_0 rfl 51 (by decide) (hg _ mw_1159) (fun _ h9 => h9) rfl dX12_sight_74 ?_
          refine lv_aload_n hx hb dX12_sight_77 rfl (lv_at hl 0 rfl) ?_
          refine va_get (ci := 12) (v := .int x20) (C := RX12) (T := TX12) (N := 57) hx hb hg inX12 hown hK hP 0 atM_0 rfl 53 (by decide) (hg _ mw_1161) (fun _ h9 => h9) (congrArg (fun z => some (Value.int z)) (e21.symm)) dX12_sight_78 ?_
          refine lv_aload_n hx hb dX12_sight_81 rfl (lv_at hl 0 rfl) ?_
          refine va_get (ci := 12) (v := .int (F19 18)) (C := RX12) (T := TX12) (N := 57) hx hb hg inX12 hown hK hP 0 atM_0 rfl 54 (by decide) (hg _ mw_1162) (fun _ h9 => h9) rfl dX12_sight_82 ?_
          refine lv_topi (fun x29 e30 => ?_)
          have r31 : rg x29 0 100000 := rg_e e30 (hq.1.1 18)
          refine va_iast hx hb hK hP hD hS 34 33 atM_34 tyM_34 (in_rg r24 (by decide)) dX12_sight_85 (fun H locs hP hD hS => ?_)
          have hq := hq.ast 34 (x20).toNatClampNeg (x := x29) (by decide) (rg_top _)
          rw [setM_34] at hP hD
          have k32 : x29 = (va_up (va_up (va_up (va_up A19 31 (upd (A19 31) (x20).toNatClampNeg p1)) 32 (upd ((va_up A19 31 (upd (A19 31) (x20).toNatClampNeg p1)) 32) (x20).toNatClampNeg p2)) 33 (upd ((va_up (va_up A19 31 (upd (A19 31) (x20).toNatClampNeg p1)) 32 (upd ((va_up A19 31 (upd (A19 31) (x20).toNatClampNeg p1)) 32) (x20).toNatClampNeg p2)) 33) (x20).toNatClampNeg p3)) 34 (upd ((va_up (va_up (va_up A19 31 (upd (A19 31) (x20).toNatClampNeg p1)) 32 (upd ((va_up A19 31 (upd (A19 31) (x20).toNatClampNeg p1)) 32) (x20).toNatClampNeg p2)) 33 (upd ((va_up (va_up A19 31 (upd (A19 31) (x20).toNatClampNeg p1)) 32 (upd ((va_up A19 31 (upd (A19 31) (x20).toNatClampNeg p1)) 32) (x20).toNatClampNeg p2)) 33) (x20).toNatClampNeg p3)) 34) (x20).toNatClampNeg x29)) 34 (x20).toNatClampNeg := (rdA).symm
          refine lv_aload_n hx hb dX12_sight_86 rfl (lv_at hl 0 rfl) ?_
          refine va_get (ci := 12) (v := .ref (ad 35)) (C := RX12) (T := TX12) (N := 57) hx hb hg inX12 hown hK hP 0 atM_0 rfl 52 (by decide) (hg _ mw_1160) (fun _ h9 => h9) rfl dX12_sight_87 ?_
          refine lv_aload_n hx hb dX12_sight_90 rfl (lv_at hl 0 rfl) ?_
          refine va_get (ci := 12) (v := .int x20) (C := RX12) (T := TX12) (N := 57) hx hb hg inX12 hown hK hP 0 atM_0 rfl 53 (by decide) (hg _ mw_1161) (fun _ h9 => h9) (congrArg (fun z => some (Value.int z)) (e21.symm)) dX12_sight_91 ?_
          refine lv_iconst (v := (-1)) hx hb dX12_sight_94 (by decide) ?_
          refine va_iast hx hb hK hP hD hS 35 34 atM_35 tyM_35 (in_rg r24 (by decide)) dX12_sight_95 (fun H locs hP hD hS => ?_)
          have hq := hq.ast 35 (x20).toNatClampNeg (x := (-1)) (by decide) (rg_k (by decide))
          rw [setM_35] at hP hD
          have k33 : ((-1) : Int32) = (va_up (va_up (va_up (va_up (va_up A19 31 (upd (A19 31) (x20).toNatClampNeg p1)) 32 (upd ((va_up A19 31 (upd (A19 31) (x20).toNatClampNeg p1)) 32) (x20).toNatClampNeg p2)) 33 (upd ((va_up (va_up A19 31 (upd (A19 31) (x20).toNatClampNeg p1)) 32 (upd ((va_up A19 31 (upd (A19 31) (x20).toNatClampNeg p1)) 32) (x20).toNatClampNeg p2)) 33) (x20).toNatClampNeg p3)) 34 (upd ((va_up (va_up (va_up A19 31 (upd (A19 31) (x20).toNatClampNeg p1)) 32 (upd ((va_up A19 31 (upd (A19 31) (x20).toNatClampNeg p1)) 32) (x20).toNatClampNeg p2)) 33 (upd ((va_up (va_up A19 31 (upd (A19 31) (x20).toNatClampNeg p1)) 32 (upd ((va_up A19 31 (upd (A19 31) (x20).toNatClampNeg p1)) 32) (x20).toNatClampNeg p2)) 33) (x20).toNatClampNeg p3)) 34) (x20).toNatClampNeg x29)) 35 (upd ((va_up (va_up (va_up (va_up A19 31 (upd (A19 31) (x20).toNatClampNeg p1)) 32 (upd ((va_up A19 31 (upd (A19 31) (x20).toNatClampNeg p1)) 32) (x20).toNatClampNeg p2)) 33 (upd ((va_up (va_up A19 31 (upd (A19 31) (x20).toNatClampNeg p1)) 32 (upd ((va_up A19 31 (upd (A19 31) (x20).toNatClampNeg p1)) 32) (x20).toNatClampNeg p2)) 33) (x20).toNatClampNeg p3)) 34 (upd ((va_up (va_up (va_up A19 31 (upd (A19 31) (x20).toNatClampNeg p1)) 32 (upd ((va_up A19 31 (upd (A19 31) (x20).toNatClampNeg p1)) 32) (x20).toNatClampNeg p2)) 33 (upd ((va_up (va_up A19 31 (upd (A19 31) (x20).toNatClampNeg p1)) 32 (upd ((va_up A19 31 (upd (A19 31) (x20).toNatClampNeg p1)) 32) (x20).toNatClampNeg p2)) 33) (x20).toNatClampNeg p3)) 34) (x20).toNatClampNeg x29)) 35) (x20).toNatClampNeg (-1))) 35 (x20).toNatClampNeg := (rdA).symm
          refine lv_aload_n hx hb dX12_sight_96 rfl (lv_at hl 0 rfl) ?_
          refine lv_dup hx hb dX12_sight_97 rfl ?_
          refine va_get (ci := 12) (v := .int x20) (C := RX12) (T := TX12) (N := 57) hx hb hg inX12 hown hK hP 0 atM_0 rfl 53 (by decide) (hg _ mw_1161) (fun _ h9 => h9) (congrArg (fun z => some (Value.int z)) (e21.symm)) dX12_sight_98 ?_
          refine lv_iconst (v := 1) hx hb dX12_sight_101 (by decide) ?_
          refine lv_iadd hx hb dX12_sight_102 ?_
          refine lv_topi (fun x34 e35 => ?_)
          have r36 : rg x34 1 20 := rg_add e35 r24 ((rg_k (by decide)) : rg 1 1 1) (by decide)
          refine va_put (ci := 12) (v := .int x34) (ty := .int) (C := RX12) (T := TX12) (N := 57) hx hb hg inX12 tyX12 tyX12_ok nmX12 hown hK hP hD hS 0 atM_0 rfl 53 (by decide) (hg _ mw_1161) (fun _ h9 => h9) rfl (by decide +kernel) rfl rfl (Nat.le_of_ble_eq_true rfl) dX12_sight_103 (fun H locs hP hD hS => ?_)
          have hq := hq.put 17 (x := x34) (by decide) (rg_w r36 (by decide))
          rw [setFM_17] at hP hD
          refine lv_aload_n hx hb dX12_sight_106 rfl (lv_at hl 0 rfl) ?_
          refine va_get (ci := 12) (v := .int x34) (C := RX12) (T := TX12) (N := 57) hx hb hg inX12 hown hK hP 0 atM_0 rfl 53 (by decide) (hg _ mw_1161) (fun _ h9 => h9) (congrArg (fun z => some (Value.int z)) (rfl)) dX12_sight_107 ?_
          refine lv_iconst (v := 1) hx hb dX12_sight_110 (by decide) ?_
          refine lv_isub hx hb dX12_sight_111 ?_
          refine lv_topi (fun x37 e38 => ?_)
          have r39 : rg x37 0 19 := rg_sub e38 r36 ((rg_k (by decide)) : rg 1 1 1) (by decide)
          exact hret (x37) ((upd F19 17 x34), L19, (va_up (va_up (va_up (va_up (va_up A19 31 (upd (A19 31) (x20).toNatClampNeg p1)) 32 (upd ((va_up A19 31 (upd (A19 31) (x20).toNatClampNeg p1)) 32) (x20).toNatClampNeg p2)) 33 (upd ((va_up (va_up A19 31 (upd (A19 31) (x20).toNatClampNeg p1)) 32 (upd ((va_up A19 31 (upd (A19 31) (x20).toNatClampNeg p1)) 32) (x20).toNatClampNeg p2)) 33) (x20).toNatClampNeg p3)) 34 (upd ((va_up (va_up (va_up A19 31 (upd (A19 31) (x20).toNatClampNeg p1)) 32 (upd ((va_up A19 31 (upd (A19 31) (x20).toNatClampNeg p1)) 32) (x20).toNatClampNeg p2)) 33 (upd ((va_up (va_up A19 31 (upd (A19 31) (x20).toNatClampNeg p1)) 32 (upd ((va_up A19 31 (upd (A19 31) (x20).toNatClampNeg p1)) 32) (x20).toNatClampNeg p2)) 33) (x20).toNatClampNeg p3)) 34) (x20).toNatClampNeg x29)) 35 (upd ((va_up (va_up (va_up (va_up A19 31 (upd (A19 31) (x20).toNatClampNeg p1)) 32 (upd ((va_up A19 31 (upd (A19 31) (x20).toNatClampNeg p1)) 32) (x20).toNatClampNeg p2)) 33 (upd ((va_up (va_up A19 31 (upd (A19 31) (x20).toNatClampNeg p1)) 32 (upd ((va_up A19 31 (upd (A19 31) (x20).toNatClampNeg p1)) 32) (x20).toNatClampNeg p2)) 33) (x20).toNatClampNeg p3)) 34 (upd ((va_up (va_up (va_up A19 31 (upd (A19 31) (x20).toNatClampNeg p1)) 32 (upd ((va_up A19 31 (upd (A19 31) (x20).toNatClampNeg p1)) 32) (x20).toNatClampNeg p2)) 33 (upd ((va_up (va_up A19 31 (upd (A19 31) (x20).toNatClampNeg p1)) 32 (upd ((va_up A19 31 (upd (A19 31) (x20).toNatClampNeg p1)) 32) (x20).toNatClampNeg p2)) 33) (x20).toNatClampNeg p3)) 34) (x20).toNatClampNeg x29)) 35) (x20).toNatClampNeg (-1))), B19) H locs 112 ls rfl dX12_sight_112 hP hD hS ⟨hq, (rg_w r39 (by decide))⟩
        · skip
          have r25 : rg x20 20 20 := rg_eq1 c23 (r22 : rg x20 0 20) ((rg_k (by decide)) : rg 20 20 20) (by decide)
          exact J41 (F19) (L19) (A19) (B19) H locs ls hq hP hD hS (lv_sub hl [] rfl)
      refine lv_icmp_eq (tgt := 32) hx hb dX12_sight_21 (by decide) (fun c40 => ?_) (fun c40 => ?_)
      · skip
        have r41 : rg p3 (-1) (-1) := rg_eq1 c40 ((rg_top _) : rg p3 (-2147483648) 2147483647) ((rg_k (by decide)) : rg (-1) (-1) (-1)) (by decide)
        exact J32 (F) (L) (A) (B) H locs ls (rg_w r41 (by decide)) hq hP hD hS (lv_sub hl [0, 1, 2, 3] rfl)
      · skip
        refine lv_aload_n hx hb dX12_sight_24 rfl (lv_at hl 0 rfl) ?_
        refine lv_iload_n hx hb dX12_sight_25 rfl (lv_at hl 3 rfl) ?_
        refine callv_i (As := [.int p3]) (rest := []) hC (c_X12_isHorse_0 l D cA H.size ad F L A B (p3) hq.1) (cwV 1 hg (g_V mw_1395 mw_1392 mw_1394 ms_68 mw_20) rfl rfl rfl (by decide +kernel) ⟨(Nat.le_of_ble_eq_true rfl), (Nat.le_of_ble_eq_true rfl)⟩) hP hD hS hA atM_0 rfl rfl hl.1 rfl (Nat.le_of_ble_eq_true rfl) dX12_sight_26 ⟨Nat.zero_le _, Nat.zero_le _⟩ (fun x42 u H locs hw hP hD hS => ?_)
        obtain ⟨r43, g44, g45⟩ := hw
        have hP : va_P D classes (wM cA ad F L A B) H := hP
        have hD : va_D Af (wM cA ad F L A B) := hD
        refine lv_if_eq (tgt := 41) hx hb dX12_sight_29 (by decide) (fun c46 => ?_) (fun c46 => ?_)
        · skip
          have r47 : rg x42 0 0 := rg_eq1 c46 (r43 : rg x42 0 1) ((rg_k (by decide)) : rg 0 0 0) (by decide)
          exact J41 (F) (L) (A) (B) H locs ls hq hP hD hS (lv_sub hl [] rfl)
        · skip
          have g48 := g44.resolve_left c46
          exact J32 (F) (L) (A) (B) H locs ls (rg_w g48 (by decide)) hq hP hD hS (lv_sub hl [0, 1, 2, 3] rfl)
abbrev rm_X12_untell_0 : Room := { frames := 1, cells := 0, slots := 0, locals := 22 }
set_option maxHeartbeats 4000000 in
set_option maxRecDepth 100000 in
theorem c_X12_untell_0 (l : Launch) (D : va_G) (cA : Nat → ClassId) (sz : Nat) (ad : Nat → Nat) (F : Nat → Int32) (L : Nat → Int64) (A : Nat → Nat → Int32) (B : Nat → Nat → Int64) (p1 : Int32) (hT : typM F A) : Met l yX12_untell (Cond.code yX12_untell cX12_untell 2 (some .boolean) :: GW) rm_X12_untell_0 (mPc D classes (tysM cA) (wM cA ad F L A B) sz [.ref (ad 0), .int p1]) (mQi (S := SW) D classes (tysM cA) (wM cA ad F L A B) sz (wfM cA ad) (fun r u => qM [] [35] F A u.1 u.2.2.1 ∧ rg r 0 1 ∧ (r = 0 ∨ (rg p1 0 19)))) 0 0 (va_A (wM cA ad F L A B) sz) := by
  refine met_i (own := "ShoeingDayModel") (by decide +kernel) rfl (Nat.le_of_ble_eq_true rfl) ?_
  intro p e s m args below meth c Q Af ls hC hP hD hS hA hl hret
  have hx := hC.1
  have hb := hC.2.1
  have hown := hC.2.2.2.1
  have hg := hC.g
  have hK := hC.K
  have hl : lv_has ls 2 [(0, .ref (ad 0)), (1, .int p1)] := hl
  have hq : qM [] [35] F A F A := qM.rf hT
  obtain ⟨H, hH⟩ : ∃ H, H = s.heap := ⟨_, rfl⟩
  have hP : va_P D classes (wM cA ad F L A B) H := by rw [hH]; exact hP
  have hS : va_S Af s.heap H [] := by rw [hH]; exact hS
  obtain ⟨locs, hlo⟩ : ∃ q : List Loc, q = [] := ⟨_, rfl⟩
  rw [← hH, ← hlo]
  rw [← hlo] at hS
  refine lv_iload_n hx hb dX12_untell_0 rfl (lv_at hl 1 rfl) ?_
  refine lv_iconst (v := 0) hx hb dX12_untell_1 (by decide) ?_
  refine lv_aload_n hx hb dX12_untell_2 rfl (lv_at hl 0 rfl) ?_
  refine va_get (ci := 12) (v := .int (F 17)) (C := RX12) (T := TX12) (N := 57) hx hb hg inX12 hown hK hP 0 atM_0 rfl 53 (by decide) (hg _ mw_1161) (fun _ h9 => h9) rfl dX12_untell_3 ?_
  refine lv_topi (fun x1 e2 => ?_)
  have r3 : rg x1 0 20 := rg_e e2 (hq.1.1 17)
  refine lv_iconst (v := 1) hx hb dX12_untell_6 (by decide) ?_
  refine lv_isub hx hb dX12_untell_7 ?_
  refine lv_topi (fun x4 e5 => ?_)
  have r6 : rg x4 (-1) 19 := rg_sub e5 r3 ((rg_k (by decide)) : rg 1 1 1) (by decide)
  refine calls_i (As := [.int p1, .int 0, .int x4]) (rest := []) hC (c_X12_isIn l D (tysM cA) (wM cA ad F L A B) H.size (p1) (0) (x4) (rg_k (by decide)) (rg_w r6 (by decide))) (cwS 3 hg (g_S mw_1391 mw_1389 mw_1390 mw_20) rfl rfl rfl (by decide +kernel) ⟨(Nat.le_of_ble_eq_true rfl), (Nat.le_of_ble_eq_true rfl)⟩) hP hD hS hA rfl hl.1 rfl (Nat.le_of_ble_eq_true rfl) dX12_untell_8 ⟨Nat.zero_le _, Nat.zero_le _⟩ (fun x7 u H locs hw hP hD hS => ?_)
  obtain ⟨r8, g9, g10⟩ := hw
  have hP : va_P D classes (wM cA ad F L A B) H := hP
  have hD : va_D Af (wM cA ad F L A B) := hD
  have J23 : ∀ (F11 : Nat → Int32) (L11 : Nat → Int64) (A11 : Nat → Nat → Int32) (B11 : Nat → Nat → Int64) (H : Heap) (locs : List Loc) (ls : Array Slot), qM [] [35] F A F11 A11 → va_P D classes (wM cA ad F11 L11 A11 B11) H → va_D Af (wM cA ad F11 L11 A11 B11) → va_S Af s.heap H locs → lv_has ls 2 [] → W p l e rm_X12_untell_0 s m args below meth c H locs 0 0 Q (F0 m 23 ls []) := by
    intro F11 L11 A11 B11 H locs ls hq hP hD hS hl
    refine lv_iconst (v := 0) hx hb dX12_untell_23 (by decide) ?_
    exact hret (0) (F11, L11, A11, B11) H locs 24 ls rfl dX12_untell_24 hP hD hS ⟨hq, (rg_k (by decide)), Or.inl rfl⟩
  refine lv_if_eq (tgt := 23) hx hb dX12_untell_11 (by decide) (fun c12 => ?_) (fun c12 => ?_)
  · skip
    have r13 : rg x7 0 0 := rg_eq1 c12 (r8 : rg x7 0 1) ((rg_k (by decide)) : rg 0 0 0) (by decide)
    exact J23 (F) (L) (A) (B) H locs ls hq hP hD hS (lv_sub hl [] rfl)
  · skip
    have g14 := g9.resolve_left c12
    have r15 : rg p1 0 2147483647 := rg_le2 g14.1 ((rg_k (by decide)) : rg 0 0 0) ((rg_top _) : rg p1 (-2147483648) 2147483647)
    have r16 : rg p1 0 19 := rg_le1 g14.2 (r15 : rg p1 0 2147483647) (r6 : rg x4 (-1) 19)
    have r17 : rg x4 0 19 := rg_le2 g14.2 (r15 : rg p1 0 2147483647) (r6 : rg x4 (-1) 19)
    refine lv_aload_n hx hb dX12_untell_14 rfl (lv_at hl 0 rfl) ?_
    refine va_get (ci := 12) (v := .ref (ad 35)) (C := RX12) (T := TX12) (N := 57) hx hb hg inX12 hown hK hP 0 atM_0 rfl 52 (by decide) (hg _ mw_1160) (fun _ h9 => h9) rfl dX12_untell_15 ?_
    refine lv_iload_n hx hb dX12_untell_18 rfl (lv_at hl 1 rfl) ?_
    refine va_iald hx hb hK hP 35 34 atM_35 tyM_35 (in_rg r16 (by decide)) dX12_untell_19 ?_
    refine lv_topi (fun x18 e19 => ?_)
    refine lv_if_lt (tgt := 25) hx hb dX12_untell_20 (by decide) (fun c20 => ?_) (fun c20 => ?_)
    · skip
      have r21 : rg x18 (-2147483648) (-1) := rg_lt1 (iL c20) ((rg_top _) : rg x18 (-2147483648) 2147483647) ((rg_k (by decide)) : rg 0 0 0)
      refine lv_aload_n hx hb dX12_untell_25 rfl (lv_at hl 0 rfl) ?_
      refine va_get (ci := 12) (v := .ref (ad 35)) (C := RX12) (T := TX12) (N := 57) hx hb hg inX12 hown hK hP 0 atM_0 rfl 52 (by decide) (hg _ mw_1160) (fun _ h9 => h9) rfl dX12_untell_26 ?_
      refine lv_iload_n hx hb dX12_untell_29 rfl (lv_at hl 1 rfl) ?_
      refine lv_aload_n hx hb dX12_untell_30 rfl (lv_at hl 0 rfl) ?_
      refine va_get (ci := 12) (v := .int (F 18)) (C := RX12) (T := TX12) (N := 57) hx hb hg inX12 hown hK hP 0 atM_0 rfl 54 (by decide) (hg _ mw_1162) (fun _ h9 => h9) rfl dX12_untell_31 ?_
      refine lv_topi (fun x23 e24 => ?_)
      have r25 : rg x23 0 100000 := rg_e e24 (hq.1.1 18)
      refine va_iast hx hb hK hP hD hS 35 34 atM_35 tyM_35 (in_rg r16 (by decide)) dX12_untell_34 (fun H locs hP hD hS => ?_)
      have hq := hq.ast 35 (p1).toNatClampNeg (x := x23) (by decide) (rg_top _)
      rw [setM_35] at hP hD
      have k26 : x23 = (va_up A 35 (upd (A 35) (p1).toNatClampNeg x23)) 35 (p1).toNatClampNeg := (rdA).symm
      refine lv_iconst (v := 1) hx hb dX12_untell_35 (by decide) ?_
      exact hret (1) (F, L, (va_up A 35 (upd (A 35) (p1).toNatClampNeg x23)), B) H locs 36 ls rfl dX12_untell_36 hP hD hS ⟨hq, (rg_k (by decide)), Or.inr r16⟩
    · skip
      have r22 : rg x18 0 2147483647 := rg_le2 (iNL c20) ((rg_k (by decide)) : rg 0 0 0) ((rg_top _) : rg x18 (-2147483648) 2147483647)
      exact J23 (F) (L) (A) (B) H locs ls hq hP hD hS (lv_sub hl [] rfl)
abbrev rm_X12_later_0 : Room := { frames := 1, cells := 0, slots := 0, locals := 22 }
set_option maxHeartbeats 4000000 in
set_option maxRecDepth 100000 in
theorem c_X12_later_0 (l : Launch) (D : va_G) (cA : Nat → ClassId) (sz : Nat) (ad : Nat → Nat) (F : Nat → Int32) (L : Nat → Int64) (A : Nat → Nat → Int32) (B : Nat → Nat → Int64) (p1 : Int32) (hT : typM F A) : Met l yX12_later (Cond.code yX12_later cX12_later 2 (some .int) :: GW) rm_X12_later_0 (mPc D classes (tysM cA) (wM cA ad F L A B) sz [.ref (ad 0), .int p1]) (mQi (S := SW) D classes (tysM cA) (wM cA ad F L A B) sz (wfM cA ad) (fun r u => qM [18] [] F A u.1 u.2.2.1 ∧ rg r (-1) 100000 ∧ (lat (F 18) p1 r (u.1 18)))) 0 0 (va_A (wM cA ad F L A B) sz) := by
  refine met_i (own := "ShoeingDayModel") (by decide +kernel) rfl (Nat.le_of_ble_eq_true rfl) ?_
  intro p e s m args below meth c Q Af ls hC hP hD hS hA hl hret
  have hx := hC.1
  have hb := hC.2.1
  have hown := hC.2.2.2.1
  have hg := hC.g
  have hK := hC.K
  have hl : lv_has ls 2 [(0, .ref (ad 0)), (1, .int p1)] := hl
  have hq : qM [18] [] F A F A := qM.rf hT
  obtain ⟨H, hH⟩ : ∃ H, H = s.heap := ⟨_, rfl⟩
  have hP : va_P D classes (wM cA ad F L A B) H := by rw [hH]; exact hP
  have hS : va_S Af s.heap H [] := by rw [hH]; exact hS
  obtain ⟨locs, hlo⟩ : ∃ q : List Loc, q = [] := ⟨_, rfl⟩
  rw [← hH, ← hlo]
  rw [← hlo] at hS
  refine lv_iload_n hx hb dX12_later_0 rfl (lv_at hl 1 rfl) ?_
  refine lv_iconst (v := 0) hx hb dX12_later_1 (by decide) ?_
  refine lv_sipush (v := 1000) hx hb dX12_later_2 (by decide) ?_
  refine calls_i (As := [.int p1, .int 0, .int 1000]) (rest := []) hC (c_X12_isIn l D (tysM cA) (wM cA ad F L A B) H.size (p1) (0) (1000) (rg_k (by decide)) (rg_k (by decide))) (cwS 3 hg (g_S mw_1391 mw_1389 mw_1390 mw_20) rfl rfl rfl (by decide +kernel) ⟨(Nat.le_of_ble_eq_true rfl), (Nat.le_of_ble_eq_true rfl)⟩) hP hD hS hA rfl hl.1 rfl (Nat.le_of_ble_eq_true rfl) dX12_later_5 ⟨Nat.zero_le _, Nat.zero_le _⟩ (fun x1 u H locs hw hP hD hS => ?_)
  obtain ⟨r2, g3, g4⟩ := hw
  have hP : va_P D classes (wM cA ad F L A B) H := hP
  have hD : va_D Af (wM cA ad F L A B) := hD
  refine lv_if_eq (tgt := 23) hx hb dX12_later_8 (by decide) (fun c5 => ?_) (fun c5 => ?_)
  · skip
    have r6 : rg x1 0 0 := rg_eq1 c5 (r2 : rg x1 0 1) ((rg_k (by decide)) : rg 0 0 0) (by decide)
    refine lv_iconst (v := (-1)) hx hb dX12_later_23 (by decide) ?_
    exact hret ((-1)) (F, L, A, B) H locs 24 ls rfl dX12_later_24 hP hD hS ⟨hq, (rg_k (by decide)), (Or.inr ⟨by have h8 := (g4).resolve_left (fun z => z c5); have : (0 : Int32).toInt = 0 := rfl; have : (1000 : Int32).toInt = 1000 := rfl; have : (100000 : Int32).toInt = 100000 := rfl; have := c5; have : ((-1) : Int32).toInt = (-1) := rfl; omega, rfl, rfl⟩)⟩
  · skip
    have g7 := g3.resolve_left c5
    have r8 : rg p1 0 2147483647 := rg_le2 g7.1 ((rg_k (by decide)) : rg 0 0 0) ((rg_top _) : rg p1 (-2147483648) 2147483647)
    have r9 : rg p1 0 1000 := rg_le1 g7.2 (r8 : rg p1 0 2147483647) ((rg_k (by decide)) : rg 1000 1000 1000)
    refine lv_aload_n hx hb dX12_later_11 rfl (lv_at hl 0 rfl) ?_
    refine va_get (ci := 12) (v := .int (F 18)) (C := RX12) (T := TX12) (N := 57) hx hb hg inX12 hown hK hP 0 atM_0 rfl 54 (by decide) (hg _ mw_1162) (fun _ h9 => h9) rfl dX12_later_12 ?_
    refine lv_topi (fun x10 e11 => ?_)
    have r12 : rg x10 0 100000 := rg_e e11 (hq.1.1 18)
    refine lv_iload_n hx hb dX12_later_15 rfl (lv_at hl 1 rfl) ?_
    refine lv_iadd hx hb dX12_later_16 ?_
    refine lv_topi (fun x13 e14 => ?_)
    have r15 : rg x13 0 101000 := rg_add e14 r12 r9 (by decide)
    refine lv_ldcw (v := 100000) hx hb hown (hg _ mw_1589) dX12_later_17 ?_
    refine lv_icmp_le (tgt := 25) hx hb dX12_later_20 (by decide) (fun c16 => ?_) (fun c16 => ?_)
    · skip
      have r17 : rg x13 0 100000 := rg_le1 (iE c16) (r15 : rg x13 0 101000) ((rg_k (by decide)) : rg 100000 100000 100000)
      refine lv_aload_n hx hb dX12_later_25 rfl (lv_at hl 0 rfl) ?_
      refine lv_dup hx hb dX12_later_26 rfl ?_
      refine va_get (ci := 12) (v := .int x10) (C := RX12) (T := TX12) (N := 57) hx hb hg inX12 hown hK hP 0 atM_0 rfl 54 (by decide) (hg _ mw_1162) (fun _ h9 => h9) (congrArg (fun z => some (Value.int z)) (e11.symm)) dX12_later_27 ?_
      refine lv_iload_n hx hb dX12_later_30 rfl (lv_at hl 1 rfl) ?_
      refine lv_iadd hx hb dX12_later_31 ?_
      refine tope e14 ?_
      refine va_put (ci := 12) (v := .int x13) (ty := .int) (C := RX12) (T := TX12) (N := 57) hx hb hg inX12 tyX12 tyX12_ok nmX12 hown hK hP hD hS 0 atM_0 rfl 54 (by decide) (hg _ mw_1162) (fun _ h9 => h9) rfl (by decide +kernel) rfl rfl (Nat.le_of_ble_eq_true rfl) dX12_later_32 (fun H locs hP hD hS => ?_)
      have hq := hq.put 18 (x := x13) (by decide) r17
      rw [setFM_18] at hP hD
      refine lv_aload_n hx hb dX12_later_35 rfl (lv_at hl 0 rfl) ?_
      refine va_get (ci := 12) (v := .int x13) (C := RX12) (T := TX12) (N := 57) hx hb hg inX12 hown hK hP 0 atM_0 rfl 54 (by decide) (hg _ mw_1162) (fun _ h9 => h9) (congrArg (fun z => some (Value.int z)) (rfl)) dX12_later_36 ?_
      exact hret (x13) ((upd F 18 x13), L, A, B) H locs 39 ls rfl dX12_later_39 hP hD hS ⟨hq, (rg_w r17 (by decide)), (Or.inl ⟨by have := ((r17 : rg x13 0 100000)).1; have := ((r17 : rg x13 0 100000)).2; have := tiA e14 (r12 : rg x10 0 100000) (r9 : rg p1 0 1000) (by decide); have := ((r9 : rg p1 0 1000)).1; have := ((r9 : rg p1 0 1000)).2; have := ((r12 : rg x10 0 100000)).1; have := ((r12 : rg x10 0 100000)).2; have := congrArg Int32.toInt e11; have := c5; have := g7.1; have := g7.2; have := (iE c16); omega, by have := ((r17 : rg x13 0 100000)).1; have := ((r17 : rg x13 0 100000)).2; have := tiA e14 (r12 : rg x10 0 100000) (r9 : rg p1 0 1000) (by decide); have := ((r9 : rg p1 0 1000)).1; have := ((r9 : rg p1 0 1000)).2; have := ((r12 : rg x10 0 100000)).1; have := ((r12 : rg x10 0 100000)).2; have := congrArg Int32.toInt e11; have := c5; have := g7.1; have := g7.2; have := (iE c16); omega, by have hx9 : (F 18 + p1) = x13 := (by rw [e14, e11]); rw [hx9]; have := ((r17 : rg x13 0 100000)).1; have := ((r17 : rg x13 0 100000)).2; have := tiA e14 (r12 : rg x10 0 100000) (r9 : rg p1 0 1000) (by decide); have := ((r9 : rg p1 0 1000)).1; have := ((r9 : rg p1 0 1000)).2; have := ((r12 : rg x10 0 100000)).1; have := ((r12 : rg x10 0 100000)).2; have := congrArg Int32.toInt e11; have := c5; have := g7.1; have := g7.2; have := (iE c16); omega, by rw [e14, e11], by rw [← e11, ← e14]; rfl⟩)⟩
    · skip
      have r18 : rg x13 100001 101000 := rg_lt2 (iNE c16) ((rg_k (by decide)) : rg 100000 100000 100000) (r15 : rg x13 0 101000)
      refine lv_iconst (v := (-1)) hx hb dX12_later_23 (by decide) ?_
      exact hret ((-1)) (F, L, A, B) H locs 24 ls rfl dX12_later_24 hP hD hS ⟨hq, (rg_k (by decide)), (Or.inr ⟨by have hx9 : (F 18 + p1) = x13 := (by rw [e14, e11]); have : (0 : Int32).toInt = 0 := rfl; have : (1000 : Int32).toInt = 1000 := rfl; have : (100000 : Int32).toInt = 100000 := rfl; have := ((r18 : rg x13 100001 101000)).1; have := ((r18 : rg x13 100001 101000)).2; have := tiA e14 (r12 : rg x10 0 100000) (r9 : rg p1 0 1000) (by decide); have := ((r9 : rg p1 0 1000)).1; have := ((r9 : rg p1 0 1000)).2; have := ((r12 : rg x10 0 100000)).1; have := ((r12 : rg x10 0 100000)).2; have := congrArg Int32.toInt e11; have := c5; have := g7.1; have := g7.2; have := (iNE c16); have : ((-1) : Int32).toInt = (-1) := rfl; rw [hx9]; omega, rfl, rfl⟩)⟩
abbrev rm_X12_standsWith_0 : Room := { frames := 0, cells := 0, slots := 0, locals := 0 }
set_option maxHeartbeats 4000000 in
set_option maxRecDepth 100000 in
theorem c_X12_standsWith_0 (l : Launch) (D : va_G) (cA : Nat → ClassId) (sz : Nat) (ad : Nat → Nat) (F : Nat → Int32) (L : Nat → Int64) (A : Nat → Nat → Int32) (B : Nat → Nat → Int64) (p1 : Int32) (p2 : Int32) (hT : typM F A) (hp2 : rg p2 0 7) : Met l yX12_standsWith (Cond.code yX12_standsWith cX12_standsWith 5 (some .int) :: GW) rm_X12_standsWith_0 (mPc D classes (tysM cA) (wM cA ad F L A B) sz [.ref (ad 0), .int p1, .int p2]) (mQi (S := Unit) D classes (tysM cA) (wM cA ad F L A B) sz (fun _ : Unit => wM cA ad F L A B) (fun r u => rg r (-1) 9)) 0 0 (va_A (wM cA ad F L A B) sz) := by
  refine met_i (own := "ShoeingDayModel") (by decide +kernel) rfl (Nat.le_of_ble_eq_true rfl) ?_
  intro p e s m args below meth c Q Af ls hC hP hD hS hA hl hret
  have hx := hC.1
  have hb := hC.2.1
  have hown := hC.2.2.2.1
  have hg := hC.g
  have hK := hC.K
  have hl : lv_has ls 5 [(0, .ref (ad 0)), (1, .int p1), (2, .int p2)] := hl
  have hq : qM [] [] F A F A := qM.rf hT
  obtain ⟨H, hH⟩ : ∃ H, H = s.heap := ⟨_, rfl⟩
  have hP : va_P D classes (wM cA ad F L A B) H := by rw [hH]; exact hP
  have hS : va_S Af s.heap H [] := by rw [hH]; exact hS
  obtain ⟨locs, hlo⟩ : ∃ q : List Loc, q = [] := ⟨_, rfl⟩
  rw [← hH, ← hlo]
  rw [← hlo] at hS
  refine lv_iconst (v := 0) hx hb dX12_standsWith_0 (by decide) ?_
  refine lv_istore_n (lv' := [(3, .int 0), (0, .ref (ad 0)), (1, .int p1), (2, .int p2)]) hx hb dX12_standsWith_1 rfl hl (by decide) rfl (fun ls hl => ?_)
  refine lv_iconst (v := 0) hx hb dX12_standsWith_2 (by decide) ?_
  refine lv_istore (lv' := [(4, .int 0), (3, .int 0), (0, .ref (ad 0)), (1, .int p1), (2, .int p2)]) hx hb dX12_standsWith_3 hl (by decide) rfl (fun ls hl => ?_)
  have J5 : ∀ (n5 : Nat) (a1 : Int32) (a2 : Int32) (H : Heap) (locs : List Loc) (ls : Array Slot), (240 - a2.toInt).toNat < n5 → rg a2 0 240 → va_P D classes (wM cA ad F L A B) H → va_D Af (wM cA ad F L A B) → va_S Af s.heap H locs → lv_has ls 5 [(0, .ref (ad 0)), (1, .int p1), (2, .int p2), (3, .int a1), (4, .int a2)] → W p l e rm_X12_standsWith_0 s m args below meth c H locs 0 0 Q (F0 m 5 ls []) := by
    intro n5
    induction n5 with
    | zero =>
      intro _ _ _ _ _ hn
      exact absurd hn (Nat.not_lt_zero _)
    | succ n5 ih5 =>
      intro a1 a2 H locs ls hn5 r3 hP hD hS hl
      refine lv_iload hx hb dX12_standsWith_5 (lv_at hl 4 rfl) ?_
      refine lv_aload_n hx hb dX12_standsWith_7 rfl (lv_at hl 0 rfl) ?_
      refine va_get (ci := 12) (v := .int (F 11)) (C := RX12) (T := TX12) (N := 57) hx hb hg inX12 hown hK hP 0 atM_0 rfl 34 (by decide) (hg _ mw_1142) (fun _ h9 => h9) rfl dX12_standsWith_8 ?_
      refine lv_topi (fun x4 e5 => ?_)
      have r6 : rg x4 0 240 := rg_e e5 (hq.1.1 11)
      refine lv_icmp_ge (tgt := 48) hx hb dX12_standsWith_11 (by decide) (fun c7 => ?_) (fun c7 => ?_)
      · skip
        refine lv_iconst (v := (-1)) hx hb dX12_standsWith_48 (by decide) ?_
        exact hret ((-1)) () H locs 49 ls rfl dX12_standsWith_49 hP hD hS (rg_k (by decide))
      · skip
        have r8 : rg a2 0 239 := rg_lt1 (iNE c7) (r3 : rg a2 0 240) (r6 : rg x4 0 240)
        have r9 : rg x4 1 240 := rg_lt2 (iNE c7) (r3 : rg a2 0 240) (r6 : rg x4 0 240)
        refine lv_iload_n hx hb dX12_standsWith_14 rfl (lv_at hl 3 rfl) ?_
        refine lv_aload_n hx hb dX12_standsWith_15 rfl (lv_at hl 0 rfl) ?_
        refine va_get (ci := 12) (v := .ref (ad 21)) (C := RX12) (T := TX12) (N := 57) hx hb hg inX12 hown hK hP 0 atM_0 rfl 32 (by decide) (hg _ mw_1140) (fun _ h9 => h9) rfl dX12_standsWith_16 ?_
        refine lv_iload hx hb dX12_standsWith_19 (lv_at hl 4 rfl) ?_
        refine va_iald hx hb hK hP 21 20 atM_21 tyM_21 (in_rg r8 (by decide)) dX12_standsWith_21 ?_
        refine lv_topi (fun x10 e11 => ?_)
        refine lv_iadd hx hb dX12_standsWith_22 ?_
        refine lv_topi (fun x12 e13 => ?_)
        refine lv_istore_n (lv' := [(3, .int x12), (0, .ref (ad 0)), (1, .int p1), (2, .int p2), (4, .int a2)]) hx hb dX12_standsWith_23 rfl hl (by decide) rfl (fun ls hl => ?_)
        refine lv_iload_n hx hb dX12_standsWith_24 rfl (lv_at hl 2 rfl) ?_
        refine lv_iload_n hx hb dX12_standsWith_25 rfl (lv_at hl 0 rfl) ?_
        refine lv_icmp_ge (tgt := 42) hx hb dX12_standsWith_26 (by decide) (fun c14 => ?_) (fun c14 => ?_)
        · skip
          obtain ⟨x17, e18⟩ : ∃ y : Int32, y = a2 + 1 := ⟨_, rfl⟩
          have r19 : rg x17 1 240 := rg_add e18 r8 (rg_k (by decide) : rg 1 1 1) (by decide)
          refine lv_iinc (v := x17) (lv' := [(4, .int x17), (3, .int x12), (0, .ref (ad 0)), (1, .int p1), (2, .int p2)]) hx hb dX12_standsWith_42 hl (k := 4) rfl (by rw [e18]; rfl) (by decide) rfl (fun ls hl => ?_)
          refine lv_goto (tgt := 5) hx hb dX12_standsWith_45 (by decide) ?_
          exact ih5 (x12) (x17) H locs ls (by have h0 : (1 : Int32).toInt = 1 := rfl; have h1 := ti_addk e18 r8 (by decide); have h2 : rg x17 0 240 := (rg_w r19 (by decide)); unfold rg at h2; omega) (rg_w r19 (by decide)) hP hD hS (lv_sub hl [2, 3, 4, 1, 0] rfl)
        · skip
          have r15 : rg p1 (-2147483648) 2147483646 := rg_lt1 (iNE c14) ((rg_top _) : rg p1 (-2147483648) 2147483647) ((rg_top _) : rg x12 (-2147483648) 2147483647)
          have r16 : rg x12 (-2147483647) 2147483647 := rg_lt2 (iNE c14) ((rg_top _) : rg p1 (-2147483648) 2147483647) ((rg_top _) : rg x12 (-2147483648) 2147483647)
          refine lv_aload_n hx hb dX12_standsWith_29 rfl (lv_at hl 1 rfl) ?_
          refine va_get (ci := 12) (v := .ref (ad 22)) (C := RX12) (T := TX12) (N := 57) hx hb hg inX12 hown hK hP 0 atM_0 rfl 33 (by decide) (hg _ mw_1141) (fun _ h9 => h9) rfl dX12_standsWith_30 ?_
          refine lv_bipush (v := 8) hx hb dX12_standsWith_33 (by decide) ?_
          refine lv_iload hx hb dX12_standsWith_35 (lv_at hl 4 rfl) ?_
          refine lv_imul hx hb dX12_standsWith_37 ?_
          refine lv_topi (fun x20 e21 => ?_)
          have r22 : rg x20 0 1912 := rg_mul e21 ((rg_k (by decide)) : rg 8 8 8) r8 (by decide)
          refine lv_iload_n hx hb dX12_standsWith_38 rfl (lv_at hl 3 rfl) ?_
          refine lv_iadd hx hb dX12_standsWith_39 ?_
          refine lv_topi (fun x23 e24 => ?_)
          have r25 : rg x23 0 1919 := rg_add e24 r22 hp2 (by decide)
          refine va_iald hx hb hK hP 22 21 atM_22 tyM_22 (in_rg r25 (by decide)) dX12_standsWith_40 ?_
          refine lv_topi (fun x26 e27 => ?_)
          have r28 : rg x26 (-1) 9 := rg_e e27 (hq.1.2 22 _)
          exact hret (x26) () H locs 41 ls rfl dX12_standsWith_41 hP hD hS r28
  exact J5 _ (0) (0) H locs ls (Nat.lt_succ_self _) (rg_k (by decide)) hP hD hS (lv_sub hl [2, 3, 4, 1, 0] rfl)
abbrev rm_X12_isSo_0 : Room := { frames := 1, cells := 0, slots := 0, locals := 24 }
set_option maxHeartbeats 4000000 in
set_option maxRecDepth 100000 in
theorem c_X12_isSo_0 (l : Launch) (D : va_G) (cA : Nat → ClassId) (sz : Nat) (ad : Nat → Nat) (F : Nat → Int32) (L : Nat → Int64) (A : Nat → Nat → Int32) (B : Nat → Nat → Int64) (p1 : Int32) (hT : typM F A) : Met l yX12_isSo (Cond.code yX12_isSo cX12_isSo 3 (some .boolean) :: GW) rm_X12_isSo_0 (mPc D classes (tysM cA) (wM cA ad F L A B) sz [.ref (ad 0), .int p1]) (mQi (S := Unit) D classes (tysM cA) (wM cA ad F L A B) sz (fun _ : Unit => wM cA ad F L A B) (fun r u => rg r 0 1)) 0 0 (va_A (wM cA ad F L A B) sz) := by
  refine met_i (own := "ShoeingDayModel") (by decide +kernel) rfl (Nat.le_of_ble_eq_true rfl) ?_
  intro p e s m args below meth c Q Af ls hC hP hD hS hA hl hret
  have hx := hC.1
  have hb := hC.2.1
  have hown := hC.2.2.2.1
  have hg := hC.g
  have hK := hC.K
  have hl : lv_has ls 3 [(0, .ref (ad 0)), (1, .int p1)] := hl
  have hq : qM [] [] F A F A := qM.rf hT
  obtain ⟨H, hH⟩ : ∃ H, H = s.heap := ⟨_, rfl⟩
  have hP : va_P D classes (wM cA ad F L A B) H := by rw [hH]; exact hP
  have hS : va_S Af s.heap H [] := by rw [hH]; exact hS
  obtain ⟨locs, hlo⟩ : ∃ q : List Loc, q = [] := ⟨_, rfl⟩
  rw [← hH, ← hlo]
  rw [← hlo] at hS
  refine lv_iconst (v := 0) hx hb dX12_isSo_0 (by decide) ?_
  refine lv_istore_n (lv' := [(2, .int 0), (0, .ref (ad 0)), (1, .int p1)]) hx hb dX12_isSo_1 rfl hl (by decide) rfl (fun ls hl => ?_)
  have J2 : ∀ (n2 : Nat) (a1 : Int32) (H : Heap) (locs : List Loc) (ls : Array Slot), (20 - a1.toInt).toNat < n2 → rg a1 0 20 → va_P D classes (wM cA ad F L A B) H → va_D Af (wM cA ad F L A B) → va_S Af s.heap H locs → lv_has ls 3 [(0, .ref (ad 0)), (1, .int p1), (2, .int a1)] → W p l e rm_X12_isSo_0 s m args below meth c H locs 0 0 Q (F0 m 2 ls []) := by
    intro n2
    induction n2 with
    | zero =>
      intro _ _ _ _ hn
      exact absurd hn (Nat.not_lt_zero _)
    | succ n2 ih2 =>
      intro a1 H locs ls hn2 r2 hP hD hS hl
      refine lv_iload_n hx hb dX12_isSo_2 rfl (lv_at hl 2 rfl) ?_
      refine lv_aload_n hx hb dX12_isSo_3 rfl (lv_at hl 0 rfl) ?_
      refine va_get (ci := 12) (v := .int (F 17)) (C := RX12) (T := TX12) (N := 57) hx hb hg inX12 hown hK hP 0 atM_0 rfl 53 (by decide) (hg _ mw_1161) (fun _ h9 => h9) rfl dX12_isSo_4 ?_
      refine lv_topi (fun x3 e4 => ?_)
      have r5 : rg x3 0 20 := rg_e e4 (hq.1.1 17)
      refine lv_icmp_ge (tgt := 72) hx hb dX12_isSo_7 (by decide) (fun c6 => ?_) (fun c6 => ?_)
      · skip
        refine lv_iconst (v := 1) hx hb dX12_isSo_72 (by decide) ?_
        exact hret (1) () H locs 73 ls rfl dX12_isSo_73 hP hD hS (rg_k (by decide))
      · skip
        have r7 : rg a1 0 19 := rg_lt1 (iNE c6) (r2 : rg a1 0 20) (r5 : rg x3 0 20)
        have r8 : rg x3 1 20 := rg_lt2 (iNE c6) (r2 : rg a1 0 20) (r5 : rg x3 0 20)
        refine lv_aload_n hx hb dX12_isSo_10 rfl (lv_at hl 0 rfl) ?_
        refine va_get (ci := 12) (v := .ref (ad 34)) (C := RX12) (T := TX12) (N := 57) hx hb hg inX12 hown hK hP 0 atM_0 rfl 51 (by decide) (hg _ mw_1159) (fun _ h9 => h9) rfl dX12_isSo_11 ?_
        refine lv_iload_n hx hb dX12_isSo_14 rfl (lv_at hl 2 rfl) ?_
        refine va_iald hx hb hK hP 34 33 atM_34 tyM_34 (in_rg r7 (by decide)) dX12_isSo_15 ?_
        refine lv_topi (fun x9 e10 => ?_)
        refine lv_iload_n hx hb dX12_isSo_16 rfl (lv_at hl 1 rfl) ?_
        have J66 : ∀ (H : Heap) (locs : List Loc) (ls : Array Slot), va_P D classes (wM cA ad F L A B) H → va_D Af (wM cA ad F L A B) → va_S Af s.heap H locs → lv_has ls 3 [(0, .ref (ad 0)), (1, .int p1), (2, .int a1)] → W p l e rm_X12_isSo_0 s m args below meth c H locs 0 0 Q (F0 m 66 ls []) := by
          intro H locs ls hP hD hS hl
          obtain ⟨x11, e12⟩ : ∃ y : Int32, y = a1 + 1 := ⟨_, rfl⟩
          have r13 : rg x11 1 20 := rg_add e12 r7 (rg_k (by decide) : rg 1 1 1) (by decide)
          refine lv_iinc (v := x11) (lv' := [(2, .int x11), (0, .ref (ad 0)), (1, .int p1)]) hx hb dX12_isSo_66 hl (k := 2) rfl (by rw [e12]; rfl) (by decide) rfl (fun ls hl => ?_)
          refine lv_goto (tgt := 2) hx hb dX12_isSo_69 (by decide) ?_
          exact ih2 (x11) H locs ls (by have h0 : (1 : Int32).toInt = 1 := rfl; have h1 := ti_addk e12 r7 (by decide); have h2 : rg x11 0 20 := (rg_w r13 (by decide)); unfold rg at h2; omega) (rg_w r13 (by decide)) hP hD hS (lv_sub hl [1, 2, 0] rfl)
        refine lv_icmp_gt (tgt := 66) hx hb dX12_isSo_17 (by decide) (fun c14 => ?_) (fun c14 => ?_)
        · skip
          have r15 : rg p1 (-2147483648) 2147483646 := rg_lt1 (iL c14) ((rg_top _) : rg p1 (-2147483648) 2147483647) ((rg_top _) : rg x9 (-2147483648) 2147483647)
          have r16 : rg x9 (-2147483647) 2147483647 := rg_lt2 (iL c14) ((rg_top _) : rg p1 (-2147483648) 2147483647) ((rg_top _) : rg x9 (-2147483648) 2147483647)
          exact J66  H locs ls  hP hD hS (lv_sub hl [0, 1, 2] rfl)
        · skip
          refine lv_aload_n hx hb dX12_isSo_20 rfl (lv_at hl 0 rfl) ?_
          refine va_get (ci := 12) (v := .ref (ad 35)) (C := RX12) (T := TX12) (N := 57) hx hb hg inX12 hown hK hP 0 atM_0 rfl 52 (by decide) (hg _ mw_1160) (fun _ h9 => h9) rfl dX12_isSo_21 ?_
          refine lv_iload_n hx hb dX12_isSo_24 rfl (lv_at hl 2 rfl) ?_
          refine va_iald hx hb hK hP 35 34 atM_35 tyM_35 (in_rg r7 (by decide)) dX12_isSo_25 ?_
          refine lv_topi (fun x17 e18 => ?_)
          have J39 : ∀ (H : Heap) (locs : List Loc) (ls : Array Slot), va_P D classes (wM cA ad F L A B) H → va_D Af (wM cA ad F L A B) → va_S Af s.heap H locs → lv_has ls 3 [(0, .ref (ad 0)), (1, .int p1), (2, .int a1)] → W p l e rm_X12_isSo_0 s m args below meth c H locs 0 0 Q (F0 m 39 ls []) := by
            intro H locs ls hP hD hS hl
            refine lv_aload_n hx hb dX12_isSo_39 rfl (lv_at hl 0 rfl) ?_
            refine lv_aload_n hx hb dX12_isSo_40 rfl (lv_at hl 0 rfl) ?_
            refine va_get (ci := 12) (v := .ref (ad 31)) (C := RX12) (T := TX12) (N := 57) hx hb hg inX12 hown hK hP 0 atM_0 rfl 48 (by decide) (hg _ mw_1156) (fun _ h9 => h9) rfl dX12_isSo_41 ?_
            refine lv_iload_n hx hb dX12_isSo_44 rfl (lv_at hl 2 rfl) ?_
            refine va_iald hx hb hK hP 31 30 atM_31 tyM_31 (in_rg r7 (by decide)) dX12_isSo_45 ?_
            refine lv_topi (fun x19 e20 => ?_)
            refine lv_aload_n hx hb dX12_isSo_46 rfl (lv_at hl 0 rfl) ?_
            refine va_get (ci := 12) (v := .ref (ad 32)) (C := RX12) (T := TX12) (N := 57) hx hb hg inX12 hown hK hP 0 atM_0 rfl 49 (by decide) (hg _ mw_1157) (fun _ h9 => h9) rfl dX12_isSo_47 ?_
            refine lv_iload_n hx hb dX12_isSo_50 rfl (lv_at hl 2 rfl) ?_
            refine va_iald hx hb hK hP 32 31 atM_32 tyM_32 (in_rg r7 (by decide)) dX12_isSo_51 ?_
            refine lv_topi (fun x21 e22 => ?_)
            have r23 : rg x21 0 7 := rg_e e22 (hq.1.2 32 _)
            refine callv_i (As := [.int x19, .int x21]) (rest := []) hC (c_X12_standsWith_0 l D cA H.size ad F L A B (x19) (x21) hq.1 r23) (cwV 2 hg (g_V mw_1602 mw_1599 mw_1601 ms_94 mw_20) rfl rfl rfl (by decide +kernel) ⟨(Nat.le_of_ble_eq_true rfl), (Nat.le_of_ble_eq_true rfl)⟩) hP hD hS hA atM_0 rfl rfl hl.1 rfl (Nat.le_of_ble_eq_true rfl) dX12_isSo_52 ⟨Nat.zero_le _, Nat.zero_le _⟩ (fun x24 u H locs hw hP hD hS => ?_)
            have r25 := hw
            have hP : va_P D classes (wM cA ad F L A B) H := hP
            have hD : va_D Af (wM cA ad F L A B) := hD
            refine lv_aload_n hx hb dX12_isSo_55 rfl (lv_at hl 0 rfl) ?_
            refine va_get (ci := 12) (v := .ref (ad 33)) (C := RX12) (T := TX12) (N := 57) hx hb hg inX12 hown hK hP 0 atM_0 rfl 50 (by decide) (hg _ mw_1158) (fun _ h9 => h9) rfl dX12_isSo_56 ?_
            refine lv_iload_n hx hb dX12_isSo_59 rfl (lv_at hl 2 rfl) ?_
            refine va_iald hx hb hK hP 33 32 atM_33 tyM_33 (in_rg r7 (by decide)) dX12_isSo_60 ?_
            refine lv_topi (fun x26 e27 => ?_)
            refine lv_icmp_eq (tgt := 66) hx hb dX12_isSo_61 (by decide) (fun c28 => ?_) (fun c28 => ?_)
            · skip
              have r29 : rg x26 (-1) 9 := rg_eq1 (Eq.symm c28) ((rg_top _) : rg x26 (-2147483648) 2147483647) (r25 : rg x24 (-1) 9) (by decide)
              exact J66  H locs ls  hP hD hS (lv_sub hl [0, 1, 2] rfl)
            · skip
              refine lv_iconst (v := 0) hx hb dX12_isSo_64 (by decide) ?_
              exact hret (0) () H locs 65 ls rfl dX12_isSo_65 hP hD hS (rg_k (by decide))
          refine lv_if_lt (tgt := 39) hx hb dX12_isSo_26 (by decide) (fun c30 => ?_) (fun c30 => ?_)
          · skip
            have r31 : rg x17 (-2147483648) (-1) := rg_lt1 (iL c30) ((rg_top _) : rg x17 (-2147483648) 2147483647) ((rg_k (by decide)) : rg 0 0 0)
            exact J39  H locs ls  hP hD hS (lv_sub hl [0, 1, 2] rfl)
          · skip
            have r32 : rg x17 0 2147483647 := rg_le2 (iNL c30) ((rg_k (by decide)) : rg 0 0 0) ((rg_top _) : rg x17 (-2147483648) 2147483647)
            refine lv_aload_n hx hb dX12_isSo_29 rfl (lv_at hl 0 rfl) ?_
            refine va_get (ci := 12) (v := .ref (ad 35)) (C := RX12) (T := TX12) (N := 57) hx hb hg inX12 hown hK hP 0 atM_0 rfl 52 (by decide) (hg _ mw_1160) (fun _ h9 => h9) rfl dX12_isSo_30 ?_
            refine lv_iload_n hx hb dX12_isSo_33 rfl (lv_at hl 2 rfl) ?_
            refine va_iald hx hb hK hP 35 34 atM_35 tyM_35 (in_rg r7 (by decide)) dX12_isSo_34 ?_
            refine tope (e18) ?_
            refine lv_iload_n hx hb dX12_isSo_35 rfl (lv_at hl 1 rfl) ?_
            refine lv_icmp_le (tgt := 66) hx hb dX12_isSo_36 (by decide) (fun c33 => ?_) (fun c33 => ?_)
            · skip
              have r34 : rg p1 0 2147483647 := rg_le2 (iE c33) (r32 : rg x17 0 2147483647) ((rg_top _) : rg p1 (-2147483648) 2147483647)
              exact J66  H locs ls  hP hD hS (lv_sub hl [0, 1, 2] rfl)
            · skip
              have r35 : rg p1 (-2147483648) 2147483646 := rg_lt1 (iNE c33) ((rg_top _) : rg p1 (-2147483648) 2147483647) (r32 : rg x17 0 2147483647)
              exact J39  H locs ls  hP hD hS (lv_sub hl [0, 1, 2] rfl)
  exact J2 _ (0) H locs ls (Nat.lt_succ_self _) (rg_k (by decide)) hP hD hS (lv_sub hl [1, 2, 0] rfl)
abbrev rm_X12_fits_0 : Room := { frames := 5, cells := 0, slots := 0, locals := 119 }
set_option maxHeartbeats 4000000 in
set_option maxRecDepth 100000 in
theorem c_X12_fits_0 (l : Launch) (D : va_G) (cA : Nat → ClassId) (sz : Nat) (ad : Nat → Nat) (F : Nat → Int32) (L : Nat → Int64) (A : Nat → Nat → Int32) (B : Nat → Nat → Int64) (p1 : Int32) (p2 : Int32) (p3 : Int32) (hT : typM F A) (hLM : LM F A) : Met l yX12_fits (Cond.code yX12_fits cX12_fits 8 (some .long) :: GW) rm_X12_fits_0 (mPc D classes (tysM cA) (wM cA ad F L A B) sz [.ref (ad 0), .int p1, .int p2, .int p3]) (mQl (S := SW) D classes (tysM cA) (wM cA ad F L A B) sz (wfM cA ad) (fun r u => qM [11] [16, 18, 19, 20, 21, 22] F A u.1 u.2.2.1)) 0 0 (va_A (wM cA ad F L A B) sz) := by
  refine met_l (own := "ShoeingDayModel") (by decide +kernel) rfl (Nat.le_of_ble_eq_true rfl) ?_
  intro p e s m args below meth c Q Af ls hC hP hD hS hA hl hret
  have hx := hC.1
  have hb := hC.2.1
  have hown := hC.2.2.2.1
  have hg := hC.g
  have hK := hC.K
  have hl : lv_has ls 8 [(0, .ref (ad 0)), (1, .int p1), (2, .int p2), (3, .int p3)] := hl
  have hq : qM [11] [16, 18, 19, 20, 21, 22] F A F A := qM.rf hT
  obtain ⟨H, hH⟩ : ∃ H, H = s.heap := ⟨_, rfl⟩
  have hP : va_P D classes (wM cA ad F L A B) H := by rw [hH]; exact hP
  have hS : va_S Af s.heap H [] := by rw [hH]; exact hS
  obtain ⟨locs, hlo⟩ : ∃ q : List Loc, q = [] := ⟨_, rfl⟩
  rw [← hH, ← hlo]
  rw [← hlo] at hS
  refine lv_aload_n hx hb dX12_fits_0 rfl (lv_at hl 0 rfl) ?_
  refine lv_iload_n hx hb dX12_fits_1 rfl (lv_at hl 1 rfl) ?_
  refine callv_i (As := [.int p1]) (rest := []) hC (c_X12_isSmith_0 l D cA H.size ad F L A B (p1) hq.1) (cwV 1 hg (g_V mw_1384 mw_1381 mw_1383 ms_66 mw_20) rfl rfl rfl (by decide +kernel) ⟨(Nat.le_of_ble_eq_true rfl), (Nat.le_of_ble_eq_true rfl)⟩) hP hD hS hA atM_0 rfl rfl hl.1 rfl (Nat.le_of_ble_eq_true rfl) dX12_fits_2 ⟨Nat.zero_le _, Nat.zero_le _⟩ (fun x1 u H locs hw hP hD hS => ?_)
  obtain ⟨r2, g3, g4⟩ := hw
  have hP : va_P D classes (wM cA ad F L A B) H := hP
  have hD : va_D Af (wM cA ad F L A B) := hD
  have J16 : ∀ (F5 : Nat → Int32) (L5 : Nat → Int64) (A5 : Nat → Nat → Int32) (B5 : Nat → Nat → Int64) (H : Heap) (locs : List Loc) (ls : Array Slot), qM [11] [16, 18, 19, 20, 21, 22] F A F5 A5 → va_P D classes (wM cA ad F5 L5 A5 B5) H → va_D Af (wM cA ad F5 L5 A5 B5) → va_S Af s.heap H locs → lv_has ls 8 [] → W p l e rm_X12_fits_0 s m args below meth c H locs 0 0 Q (F0 m 16 ls []) := by
    intro F5 L5 A5 B5 H locs ls hq hP hD hS hl
    refine lv_ldc2 (v := (-1)) hx hb hown (hg _ mw_1594) dX12_fits_16 ?_
    exact hret ((-1 : Int64)) (F5, L5, A5, B5) H locs 19 ls dX12_fits_19 hP hD hS hq
  refine lv_if_eq (tgt := 16) hx hb dX12_fits_5 (by decide) (fun c6 => ?_) (fun c6 => ?_)
  · skip
    have r7 : rg x1 0 0 := rg_eq1 c6 (r2 : rg x1 0 1) ((rg_k (by decide)) : rg 0 0 0) (by decide)
    exact J16 (F) (L) (A) (B) H locs ls hq hP hD hS (lv_sub hl [] rfl)
  · skip
    have g8 := g3.resolve_left c6
    refine lv_aload_n hx hb dX12_fits_8 rfl (lv_at hl 0 rfl) ?_
    refine lv_iload_n hx hb dX12_fits_9 rfl (lv_at hl 2 rfl) ?_
    refine callv_i (As := [.int p2]) (rest := []) hC (c_X12_isHorse_0 l D cA H.size ad F L A B (p2) hq.1) (cwV 1 hg (g_V mw_1395 mw_1392 mw_1394 ms_68 mw_20) rfl rfl rfl (by decide +kernel) ⟨(Nat.le_of_ble_eq_true rfl), (Nat.le_of_ble_eq_true rfl)⟩) hP hD hS hA atM_0 rfl rfl hl.1 rfl (Nat.le_of_ble_eq_true rfl) dX12_fits_10 ⟨Nat.zero_le _, Nat.zero_le _⟩ (fun x9 u H locs hw hP hD hS => ?_)
    obtain ⟨r10, g11, g12⟩ := hw
    have hP : va_P D classes (wM cA ad F L A B) H := hP
    have hD : va_D Af (wM cA ad F L A B) := hD
    refine lv_if_ne (tgt := 20) hx hb dX12_fits_13 (by decide) (fun c13 => ?_) (fun c13 => ?_)
    · skip
      have g14 := g11.resolve_left c13
      refine lv_lconst (v := 0) hx hb dX12_fits_20 rfl ?_
      refine lv_lstore (lv' := [(4, .long (0 : Int64)), (0, .ref (ad 0)), (1, .int p1), (2, .int p2), (3, .int p3)]) hx hb dX12_fits_21 hl (by decide) rfl (fun ls hl => ?_)
      refine lv_iconst (v := 0) hx hb dX12_fits_23 (by decide) ?_
      refine lv_istore (lv' := [(6, .int 0), (4, .long (0 : Int64)), (0, .ref (ad 0)), (1, .int p1), (2, .int p2), (3, .int p3)]) hx hb dX12_fits_24 hl (by decide) rfl (fun ls hl => ?_)
      have J26 : ∀ (n26 : Nat) (z16 : Int64) (a17 : Int32) (F19 : Nat → Int32) (L19 : Nat → Int64) (A19 : Nat → Nat → Int32) (B19 : Nat → Nat → Int64) (H : Heap) (locs : List Loc) (ls : Array Slot), (41 - a17.toInt).toNat < n26 → rg a17 0 41 → qM [11] [16, 18, 19, 20, 21, 22] F A F19 A19 → va_P D classes (wM cA ad F19 L19 A19 B19) H → va_D Af (wM cA ad F19 L19 A19 B19) → va_S Af s.heap H locs → lv_has ls 8 [(0, .ref (ad 0)), (1, .int p1), (2, .int p2), (3, .int p3), (4, .long z16), (6, .int a17)] → W p l e rm_X12_fits_0 s m args below meth c H locs 0 0 Q (F0 m 26 ls []) := by
        intro n26
        induction n26 with
        | zero =>
          intro _ _ _ _ _ _ _ _ _ hn
          exact absurd hn (Nat.not_lt_zero _)
        | succ n26 ih26 =>
          intro z16 a17 F19 L19 A19 B19 H locs ls hn26 r18 hq hP hD hS hl
          refine lv_iload hx hb dX12_fits_26 (lv_at hl 5 rfl) ?_
          refine lv_bipush (v := 40) hx hb dX12_fits_28 (by decide) ?_
          refine lv_icmp_gt (tgt := 115) hx hb dX12_fits_30 (by decide) (fun c20 => ?_) (fun c20 => ?_)
          · skip
            have r21 : rg a17 41 41 := rg_lt2 (iL c20) ((rg_k (by decide)) : rg 40 40 40) (r18 : rg a17 0 41)
            refine lv_lload hx hb dX12_fits_115 (lv_at hl 4 rfl) ?_
            exact hret (z16) (F19, L19, A19, B19) H locs 117 ls dX12_fits_117 hP hD hS hq
          · skip
            have r22 : rg a17 0 40 := rg_le1 (iNL c20) (r18 : rg a17 0 41) ((rg_k (by decide)) : rg 40 40 40)
            refine lv_iconst (v := 0) hx hb dX12_fits_33 (by decide) ?_
            refine lv_istore (lv' := [(7, .int 0), (0, .ref (ad 0)), (1, .int p1), (2, .int p2), (3, .int p3), (4, .long z16), (6, .int a17)]) hx hb dX12_fits_34 hl (by decide) rfl (fun ls hl => ?_)
            have J36 : ∀ (n36 : Nat) (a23 : Int32) (F25 : Nat → Int32) (L25 : Nat → Int64) (A25 : Nat → Nat → Int32) (B25 : Nat → Nat → Int64) (H : Heap) (locs : List Loc) (ls : Array Slot), (80 - a23.toInt).toNat < n36 → rg a23 0 80 → qM [11] [16, 18, 19, 20, 21, 22] F A F25 A25 → (cpI (A25 16) (A 10) 0 (80 * (F 8).toNatClampNeg) a23.toInt) → va_P D classes (wM cA ad F25 L25 A25 B25) H → va_D Af (wM cA ad F25 L25 A25 B25) → va_S Af s.heap H locs → lv_has ls 8 [(0, .ref (ad 0)), (1, .int p1), (2, .int p2), (3, .int p3), (4, .long z16), (6, .int a17), (7, .int a23)] → W p l e rm_X12_fits_0 s m args below meth c H locs 0 0 Q (F0 m 36 ls []) := by
              intro n36
              induction n36 with
              | zero =>
                intro _ _ _ _ _ _ _ _ hn
                exact absurd hn (Nat.not_lt_zero _)
              | succ n36 ih36 =>
                intro a23 F25 L25 A25 B25 H locs ls hn36 r24 hq v26 hP hD hS hl
                refine lv_iload hx hb dX12_fits_36 (lv_at hl 6 rfl) ?_
                refine lv_bipush (v := 80) hx hb dX12_fits_38 (by decide) ?_
                refine lv_icmp_ge (tgt := 71) hx hb dX12_fits_40 (by decide) (fun c27 => ?_) (fun c27 => ?_)
                · skip
                  have r28 : rg a23 80 80 := rg_le2 (iE c27) ((rg_k (by decide)) : rg 80 80 80) (r24 : rg a23 0 80)
                  refine lv_aload_n hx hb dX12_fits_71 rfl (lv_at hl 0 rfl) ?_
                  refine va_get (ci := 12) (v := .ref (ad 16)) (C := RX12) (T := TX12) (N := 57) hx hb hg inX12 hown hK hP 0 atM_0 rfl 26 (by decide) (hg _ mw_1134) (fun _ h9 => h9) rfl dX12_fits_72 ?_
                  refine lv_bipush (v := 10) hx hb dX12_fits_75 (by decide) ?_
                  refine lv_iload_n hx hb dX12_fits_77 rfl (lv_at hl 1 rfl) ?_
                  refine lv_imul hx hb dX12_fits_78 ?_
                  refine lv_topi (fun x30 e31 => ?_)
                  have r32 : rg x30 0 70 := rg_mul e31 ((rg_k (by decide)) : rg 10 10 10) g8 (by decide)
                  refine lv_iload_n hx hb dX12_fits_79 rfl (lv_at hl 2 rfl) ?_
                  refine lv_iadd hx hb dX12_fits_80 ?_
                  refine lv_topi (fun x33 e34 => ?_)
                  have r35 : rg x33 0 79 := rg_add e34 r32 g14 (by decide)
                  refine lv_iload hx hb dX12_fits_81 (lv_at hl 5 rfl) ?_
                  refine va_iast hx hb hK hP hD hS 16 15 atM_16 tyM_16 (in_rg r35 (by decide)) dX12_fits_83 (fun H locs hP hD hS => ?_)
                  have hq := hq.ast 16 (x33).toNatClampNeg (x := a17) (by decide) (rg_top _)
                  rw [setM_16] at hP hD
                  have k36 : a17 = (va_up A25 16 (upd (A25 16) (x33).toNatClampNeg a17)) 16 (x33).toNatClampNeg := (rdA).symm
                  have hfd : ok99 ((va_up A25 16 (upd (A25 16) (x33).toNatClampNeg a17)) 16) ∧ zo ((va_up A25 16 (upd (A25 16) (x33).toNatClampNeg a17)) 16) (sN F A) (hN F A) := DM_ok (by rw [va_us]; exact DM_put (k := x33.toNatClampNeg) (cp_DM v26 (by have := (r28 : rg a23 80 80).1; omega) hLM.2.1) (Nat.zero_add _).symm (okc_of ((rg_w r22 (by decide)) : rg a17 0 99) (cell_in (g8 : rg p1 0 7) (g14 : rg p2 0 9) e31 e34 ((g4).resolve_left c6).2 ((g12).resolve_left c13).2).1 (cell_in (g8 : rg p1 0 7) (g14 : rg p2 0 9) e31 e34 ((g4).resolve_left c6).2 ((g12).resolve_left c13).2).2))
                  refine lv_aload_n hx hb dX12_fits_84 rfl (lv_at hl 0 rfl) ?_
                  refine callv_v (As := []) (rest := []) hC (c_X12_layDay_0 l D cA H.size ad F25 L25 (va_up A25 16 (upd (A25 16) (x33).toNatClampNeg a17)) B25  hq.1 hfd.1 (by rw [hq.2.2 3 (by decide), hq.2.2 4 (by decide), hq.2.1 8 (by decide)]; exact hfd.2)) (cwV 0 hg (g_V mw_1447 mw_1444 mw_1446 ms_77 mw_20) rfl rfl rfl (by decide +kernel) ⟨(Nat.le_of_ble_eq_true rfl), (Nat.le_of_ble_eq_true rfl)⟩) hP hD hS hA atM_0 rfl rfl hl.1 rfl (Nat.le_of_ble_eq_true rfl) dX12_fits_85 ⟨Nat.zero_le _, Nat.zero_le _⟩ (fun  u H locs hw hP hD hS => ?_)
                  obtain ⟨F37, L37, A37, B37⟩ := u
                  try dsimp only at hw
                  have hq37 := hw
                  have hq := hq.call hq37 (by decide)
                  have hP : va_P D classes (wM cA ad F37 L37 A37 B37) H := hP
                  have hD : va_D Af (wM cA ad F37 L37 A37 B37) := hD
                  refine lv_lload hx hb dX12_fits_88 (lv_at hl 4 rfl) ?_
                  refine lv_aload_n hx hb dX12_fits_90 rfl (lv_at hl 0 rfl) ?_
                  refine lv_iload_n hx hb dX12_fits_91 rfl (lv_at hl 3 rfl) ?_
                  refine callv_i (As := [.int p3]) (rest := [.long z16]) hC (c_X12_isSo_0 l D cA H.size ad F37 L37 A37 B37 (p3) hq.1) (cwV 1 hg (g_V mw_1598 mw_1595 mw_1597 ms_93 mw_20) rfl rfl rfl (by decide +kernel) ⟨(Nat.le_of_ble_eq_true rfl), (Nat.le_of_ble_eq_true rfl)⟩) hP hD hS hA atM_0 rfl rfl hl.1 rfl (Nat.le_of_ble_eq_true rfl) dX12_fits_92 ⟨Nat.zero_le _, Nat.zero_le _⟩ (fun x38 u H locs hw hP hD hS => ?_)
                  have r39 := hw
                  have hP : va_P D classes (wM cA ad F37 L37 A37 B37) H := hP
                  have hD : va_D Af (wM cA ad F37 L37 A37 B37) := hD
                  have J106 : ∀ (z40 : Int64) (F41 : Nat → Int32) (L41 : Nat → Int64) (A41 : Nat → Nat → Int32) (B41 : Nat → Nat → Int64) (H : Heap) (locs : List Loc) (ls : Array Slot), qM [11] [16, 18, 19, 20, 21, 22] F A F41 A41 → va_P D classes (wM cA ad F41 L41 A41 B41) H → va_D Af (wM cA ad F41 L41 A41 B41) → va_S Af s.heap H locs → lv_has ls 8 [(0, .ref (ad 0)), (1, .int p1), (2, .int p2), (3, .int p3), (6, .int a17)] → W p l e rm_X12_fits_0 s m args below meth c H locs 0 0 Q (F0 m 106 ls [.long z40, .long z16]) := by
                    intro z40 F41 L41 A41 B41 H locs ls hq hP hD hS hl
                    refine lv_lor hx hb dX12_fits_106 ?_
                    refine lv_topl (fun z42 _ => ?_)
                    refine lv_lstore (lv' := [(4, .long z42), (0, .ref (ad 0)), (1, .int p1), (2, .int p2), (3, .int p3), (6, .int a17)]) hx hb dX12_fits_107 hl (by decide) rfl (fun ls hl => ?_)
                    obtain ⟨x43, e44⟩ : ∃ y : Int32, y = a17 + 1 := ⟨_, rfl⟩
                    have r45 : rg x43 1 41 := rg_add e44 r22 (rg_k (by decide) : rg 1 1 1) (by decide)
                    refine lv_iinc (v := x43) (lv' := [(6, .int x43), (4, .long z42), (0, .ref (ad 0)), (1, .int p1), (2, .int p2), (3, .int p3)]) hx hb dX12_fits_109 hl (k := 5) rfl (by rw [e44]; rfl) (by decide) rfl (fun ls hl => ?_)
                    refine lv_goto (tgt := 26) hx hb dX12_fits_112 (by decide) ?_
                    exact ih26 (z42) (x43) (F41) (L41) (A41) (B41) H locs ls (by have h0 : (1 : Int32).toInt = 1 := rfl; have h1 := ti_addk e44 r22 (by decide); have h2 : rg x43 0 41 := (rg_w r45 (by decide)); unfold rg at h2; omega) (rg_w r45 (by decide)) hq hP hD hS (lv_sub hl [2, 3, 4, 5, 1, 0] rfl)
                  refine lv_if_eq (tgt := 105) hx hb dX12_fits_95 (by decide) (fun c46 => ?_) (fun c46 => ?_)
                  · skip
                    have r47 : rg x38 0 0 := rg_eq1 c46 (r39 : rg x38 0 1) ((rg_k (by decide)) : rg 0 0 0) (by decide)
                    refine lv_lconst (v := 0) hx hb dX12_fits_105 rfl ?_
                    exact J106 ((0 : Int64)) (F37) (L37) (A37) (B37) H locs ls hq hP hD hS (lv_sub hl [0, 1, 2, 3, 5] rfl)
                  · skip
                    have r48 : rg x38 1 1 := (rg_ne1 c46 (r39 : rg x38 0 1) ((rg_k (by decide)) : rg 0 0 0)).1 rfl
                    refine lv_lconst (v := 1) hx hb dX12_fits_98 rfl ?_
                    refine lv_iload hx hb dX12_fits_99 (lv_at hl 5 rfl) ?_
                    refine lv_lshl hx hb dX12_fits_101 rfl ?_
                    refine lv_topl (fun z49 _ => ?_)
                    refine lv_goto (tgt := 106) hx hb dX12_fits_102 (by decide) ?_
                    exact J106 (z49) (F37) (L37) (A37) (B37) H locs ls hq hP hD hS (lv_sub hl [0, 1, 2, 3, 5] rfl)
                · skip
                  have r29 : rg a23 0 79 := rg_lt1 (iNE c27) (r24 : rg a23 0 80) ((rg_k (by decide)) : rg 80 80 80)
                  refine lv_aload_n hx hb dX12_fits_43 rfl (lv_at hl 0 rfl) ?_
                  refine va_get (ci := 12) (v := .ref (ad 16)) (C := RX12) (T := TX12) (N := 57) hx hb hg inX12 hown hK hP 0 atM_0 rfl 26 (by decide) (hg _ mw_1134) (fun _ h9 => h9) rfl dX12_fits_44 ?_
                  refine lv_iload hx hb dX12_fits_47 (lv_at hl 6 rfl) ?_
                  refine lv_aload_n hx hb dX12_fits_49 rfl (lv_at hl 0 rfl) ?_
                  refine va_get (ci := 12) (v := .ref (ad 10)) (C := RX12) (T := TX12) (N := 57) hx hb hg inX12 hown hK hP 0 atM_0 rfl 18 (by decide) (hg _ mw_1126) (fun _ h9 => h9) rfl dX12_fits_50 ?_
                  refine lv_bipush (v := 80) hx hb dX12_fits_53 (by decide) ?_
                  refine lv_aload_n hx hb dX12_fits_55 rfl (lv_at hl 0 rfl) ?_
                  refine va_get (ci := 12) (v := .int (F25 8)) (C := RX12) (T := TX12) (N := 57) hx hb hg inX12 hown hK hP 0 atM_0 rfl 24 (by decide) (hg _ mw_1132) (fun _ h9 => h9) rfl dX12_fits_56 ?_
                  refine lv_topi (fun x50 e51 => ?_)
                  have r52 : rg x50 0 1 := rg_e e51 (hq.1.1 8)
                  refine lv_imul hx hb dX12_fits_59 ?_
                  refine lv_topi (fun x53 e54 => ?_)
                  have r55 : rg x53 0 80 := rg_mul e54 ((rg_k (by decide)) : rg 80 80 80) r52 (by decide)
                  refine lv_iload hx hb dX12_fits_60 (lv_at hl 6 rfl) ?_
                  refine lv_iadd hx hb dX12_fits_62 ?_
                  refine lv_topi (fun x56 e57 => ?_)
                  have r58 : rg x56 0 159 := rg_add e57 r55 r29 (by decide)
                  refine va_iald hx hb hK hP 10 9 atM_10 tyM_10 (in_rg r58 (by decide)) dX12_fits_63 ?_
                  refine lv_topi (fun x59 e60 => ?_)
                  refine va_iast hx hb hK hP hD hS 16 15 atM_16 tyM_16 (in_rg r29 (by decide)) dX12_fits_64 (fun H locs hP hD hS => ?_)
                  have hq := hq.ast 16 (a23).toNatClampNeg (x := x59) (by decide) (rg_top _)
                  rw [setM_16] at hP hD
                  have k61 : x59 = (va_up A25 16 (upd (A25 16) (a23).toNatClampNeg x59)) 16 (a23).toNatClampNeg := (rdA).symm
                  obtain ⟨x62, e63⟩ : ∃ y : Int32, y = a23 + 1 := ⟨_, rfl⟩
                  have r64 : rg x62 1 80 := rg_add e63 r29 (rg_k (by decide) : rg 1 1 1) (by decide)
                  refine lv_iinc (v := x62) (lv' := [(7, .int x62), (0, .ref (ad 0)), (1, .int p1), (2, .int p2), (3, .int p3), (4, .long z16), (6, .int a17)]) hx hb dX12_fits_65 hl (k := 6) rfl (by rw [e63]; rfl) (by decide) rfl (fun ls hl => ?_)
                  refine lv_goto (tgt := 36) hx hb dX12_fits_68 (by decide) ?_
                  exact ih36 (x62) (F25) (L25) ((va_up A25 16 (upd (A25 16) (a23).toNatClampNeg x59))) (B25) H locs ls (by have h0 : (1 : Int32).toInt = 1 := rfl; have h1 := ti_addk e63 r29 (by decide); have h2 : rg x62 0 80 := (rg_w r64 (by decide)); unfold rg at h2; omega) (rg_w r64 (by decide)) hq (by rw [va_us]; exact cp_step v26 (r29 : rg a23 0 79) (Nat.zero_add _).symm (by rw [(ad_off (cn := 80) rfl (by decide) ((rg_w r52 (by decide)) : rg x50 0 40) ((rg_w r29 (by decide)) : rg a23 0 80) e54 e57).1, e51, hq.2.1 8 (by decide)]) (e60.trans (congrFun (hq.2.2 10 (by decide)) _)) e63) hP hD hS (lv_sub hl [1, 2, 3, 4, 5, 6, 0] rfl)
            exact J36 _ (0) (F19) (L19) (A19) (B19) H locs ls (Nat.lt_succ_self _) (rg_k (by decide)) hq cp_0 hP hD hS (lv_sub hl [1, 2, 3, 4, 5, 6, 0] rfl)
      exact J26 _ ((0 : Int64)) (0) (F) (L) (A) (B) H locs ls (Nat.lt_succ_self _) (rg_k (by decide)) hq hP hD hS (lv_sub hl [2, 3, 4, 5, 1, 0] rfl)
    · skip
      have r15 : rg x9 0 0 := rg_eq1 c13 (r10 : rg x9 0 1) ((rg_k (by decide)) : rg 0 0 0) (by decide)
      exact J16 (F) (L) (A) (B) H locs ls hq hP hD hS (lv_sub hl [] rfl)
abbrev rm_X12_image_0 : Room := { frames := 1, cells := 0, slots := 0, locals := 22 }
set_option maxHeartbeats 4000000 in
set_option maxRecDepth 100000 in
theorem c_X12_image_0 (l : Launch) (D : va_G) (cA : Nat → ClassId) (sz : Nat) (ad : Nat → Nat) (F : Nat → Int32) (L : Nat → Int64) (A : Nat → Nat → Int32) (B : Nat → Nat → Int64) (p1 : Int32) (hT : typM F A) (hLM : LM F A) : Met l yX12_image (Cond.code yX12_image cX12_image 3 (some .int) :: GW) rm_X12_image_0 (mPc D classes (tysM cA) (wM cA ad F L A B) sz [.ref (ad 0), .int p1]) (mQi (S := SW) D classes (tysM cA) (wM cA ad F L A B) sz (wfM cA ad) (fun r u => qM [] [36, 37] F A u.1 u.2.2.1 ∧ (LM u.1 u.2.2.1))) 0 0 (va_A (wM cA ad F L A B) sz) := by
  refine met_i (own := "ShoeingDayModel") (by decide +kernel) rfl (Nat.le_of_ble_eq_true rfl) ?_
  intro p e s m args below meth c Q Af ls hC hP hD hS hA hl hret
  have hx := hC.1
  have hb := hC.2.1
  have hown := hC.2.2.2.1
  have hg := hC.g
  have hK := hC.K
  have hl : lv_has ls 3 [(0, .ref (ad 0)), (1, .int p1)] := hl
  have hq : qM [] [36, 37] F A F A := qM.rf hT
  obtain ⟨H, hH⟩ : ∃ H, H = s.heap := ⟨_, rfl⟩
  have hP : va_P D classes (wM cA ad F L A B) H := by rw [hH]; exact hP
  have hS : va_S Af s.heap H [] := by rw [hH]; exact hS
  obtain ⟨locs, hlo⟩ : ∃ q : List Loc, q = [] := ⟨_, rfl⟩
  rw [← hH, ← hlo]
  rw [← hlo] at hS
  refine lv_iload_n hx hb dX12_image_0 rfl (lv_at hl 1 rfl) ?_
  refine lv_iconst (v := 0) hx hb dX12_image_1 (by decide) ?_
  refine lv_iconst (v := 2) hx hb dX12_image_2 (by decide) ?_
  refine calls_i (As := [.int p1, .int 0, .int 2]) (rest := []) hC (c_X12_isIn l D (tysM cA) (wM cA ad F L A B) H.size (p1) (0) (2) (rg_k (by decide)) (rg_k (by decide))) (cwS 3 hg (g_S mw_1391 mw_1389 mw_1390 mw_20) rfl rfl rfl (by decide +kernel) ⟨(Nat.le_of_ble_eq_true rfl), (Nat.le_of_ble_eq_true rfl)⟩) hP hD hS hA rfl hl.1 rfl (Nat.le_of_ble_eq_true rfl) dX12_image_3 ⟨Nat.zero_le _, Nat.zero_le _⟩ (fun x1 u H locs hw hP hD hS => ?_)
  obtain ⟨r2, g3, g4⟩ := hw
  have hP : va_P D classes (wM cA ad F L A B) H := hP
  have hD : va_D Af (wM cA ad F L A B) := hD
  refine lv_if_ne (tgt := 11) hx hb dX12_image_6 (by decide) (fun c5 => ?_) (fun c5 => ?_)
  · skip
    have g6 := g3.resolve_left c5
    have r7 : rg p1 0 2147483647 := rg_le2 g6.1 ((rg_k (by decide)) : rg 0 0 0) ((rg_top _) : rg p1 (-2147483648) 2147483647)
    have r8 : rg p1 0 2 := rg_le1 g6.2 (r7 : rg p1 0 2147483647) ((rg_k (by decide)) : rg 2 2 2)
    refine lv_iconst (v := 0) hx hb dX12_image_11 (by decide) ?_
    refine lv_istore_n (lv' := [(2, .int 0), (0, .ref (ad 0)), (1, .int p1)]) hx hb dX12_image_12 rfl hl (by decide) rfl (fun ls hl => ?_)
    have J13 : ∀ (n13 : Nat) (a10 : Int32) (F12 : Nat → Int32) (L12 : Nat → Int64) (A12 : Nat → Nat → Int32) (B12 : Nat → Nat → Int64) (H : Heap) (locs : List Loc) (ls : Array Slot), (80 - a10.toInt).toNat < n13 → rg a10 0 80 → qM [] [36, 37] F A F12 A12 → A12 36 = A 36 → (imI (A12 37) (A 37) (A 17) p1.toNatClampNeg a10.toInt) → va_P D classes (wM cA ad F12 L12 A12 B12) H → va_D Af (wM cA ad F12 L12 A12 B12) → va_S Af s.heap H locs → lv_has ls 3 [(0, .ref (ad 0)), (1, .int p1), (2, .int a10)] → W p l e rm_X12_image_0 s m args below meth c H locs 0 0 Q (F0 m 13 ls []) := by
      intro n13
      induction n13 with
      | zero =>
        intro _ _ _ _ _ _ _ _ hn
        exact absurd hn (Nat.not_lt_zero _)
      | succ n13 ih13 =>
        intro a10 F12 L12 A12 B12 H locs ls hn13 r11 hq k13 v14 hP hD hS hl
        refine lv_iload_n hx hb dX12_image_13 rfl (lv_at hl 2 rfl) ?_
        refine lv_bipush (v := 80) hx hb dX12_image_14 (by decide) ?_
        refine lv_icmp_ge (tgt := 42) hx hb dX12_image_16 (by decide) (fun c15 => ?_) (fun c15 => ?_)
        · skip
          have r16 : rg a10 80 80 := rg_le2 (iE c15) ((rg_k (by decide)) : rg 80 80 80) (r11 : rg a10 0 80)
          refine lv_aload_n hx hb dX12_image_42 rfl (lv_at hl 0 rfl) ?_
          refine va_get (ci := 12) (v := .ref (ad 36)) (C := RX12) (T := TX12) (N := 57) hx hb hg inX12 hown hK hP 0 atM_0 rfl 55 (by decide) (hg _ mw_1163) (fun _ h9 => h9) rfl dX12_image_43 ?_
          refine lv_iload_n hx hb dX12_image_46 rfl (lv_at hl 1 rfl) ?_
          refine lv_aload_n hx hb dX12_image_47 rfl (lv_at hl 0 rfl) ?_
          refine va_get (ci := 12) (v := .int (F12 10)) (C := RX12) (T := TX12) (N := 57) hx hb hg inX12 hown hK hP 0 atM_0 rfl 28 (by decide) (hg _ mw_1136) (fun _ h9 => h9) rfl dX12_image_48 ?_
          refine lv_topi (fun x18 e19 => ?_)
          refine va_iast hx hb hK hP hD hS 36 35 atM_36 tyM_36 (in_rg r8 (by decide)) dX12_image_51 (fun H locs hP hD hS => ?_)
          have hq := hq.ast 36 (p1).toNatClampNeg (x := x18) (by decide) (rg_top _)
          rw [setM_36] at hP hD
          have k20 : x18 = (va_up A12 36 (upd (A12 36) (p1).toNatClampNeg x18)) 36 (p1).toNatClampNeg := (rdA).symm
          refine lv_aload_n hx hb dX12_image_52 rfl (lv_at hl 0 rfl) ?_
          refine va_get (ci := 12) (v := .int x18) (C := RX12) (T := TX12) (N := 57) hx hb hg inX12 hown hK hP 0 atM_0 rfl 28 (by decide) (hg _ mw_1136) (fun _ h9 => h9) (congrArg (fun z => some (Value.int z)) (e19.symm)) dX12_image_53 ?_
          exact hret (x18) (F12, L12, (va_up A12 36 (upd (A12 36) (p1).toNatClampNeg x18)), B12) H locs 56 ls rfl dX12_image_56 hP hD hS ⟨hq, (show LM F12 (va_up A12 36 (upd (A12 36) (p1).toNatClampNeg x18)) from LM.img hLM (hq.2.1 8 (by decide)) (hq.2.1 14 (by decide)) (hq.2.1 15 (by decide)) (hq.2.2 3 (by decide)) (hq.2.2 4 (by decide)) (hq.2.2 10 (by decide)) (hq.2.2 17 (by decide)) (hq.2.2 27 (by decide)) (fun x hx => by rw [va_us]; exact (pk_un hx).trans (congrFun k13 _)) v14 (by have := (r16 : rg a10 80 80).1; omega))⟩
        · skip
          have r17 : rg a10 0 79 := rg_lt1 (iNE c15) (r11 : rg a10 0 80) ((rg_k (by decide)) : rg 80 80 80)
          refine lv_aload_n hx hb dX12_image_19 rfl (lv_at hl 0 rfl) ?_
          refine va_get (ci := 12) (v := .ref (ad 37)) (C := RX12) (T := TX12) (N := 57) hx hb hg inX12 hown hK hP 0 atM_0 rfl 56 (by decide) (hg _ mw_1164) (fun _ h9 => h9) rfl dX12_image_20 ?_
          refine lv_bipush (v := 80) hx hb dX12_image_23 (by decide) ?_
          refine lv_iload_n hx hb dX12_image_25 rfl (lv_at hl 1 rfl) ?_
          refine lv_imul hx hb dX12_image_26 ?_
          refine lv_topi (fun x21 e22 => ?_)
          have r23 : rg x21 0 160 := rg_mul e22 ((rg_k (by decide)) : rg 80 80 80) r8 (by decide)
          refine lv_iload_n hx hb dX12_image_27 rfl (lv_at hl 2 rfl) ?_
          refine lv_iadd hx hb dX12_image_28 ?_
          refine lv_topi (fun x24 e25 => ?_)
          have r26 : rg x24 0 239 := rg_add e25 r23 r17 (by decide)
          refine lv_aload_n hx hb dX12_image_29 rfl (lv_at hl 0 rfl) ?_
          refine va_get (ci := 12) (v := .ref (ad 17)) (C := RX12) (T := TX12) (N := 57) hx hb hg inX12 hown hK hP 0 atM_0 rfl 27 (by decide) (hg _ mw_1135) (fun _ h9 => h9) rfl dX12_image_30 ?_
          refine lv_iload_n hx hb dX12_image_33 rfl (lv_at hl 2 rfl) ?_
          refine va_iald hx hb hK hP 17 16 atM_17 tyM_17 (in_rg r17 (by decide)) dX12_image_34 ?_
          refine lv_topi (fun x27 e28 => ?_)
          refine va_iast hx hb hK hP hD hS 37 36 atM_37 tyM_37 (in_rg r26 (by decide)) dX12_image_35 (fun H locs hP hD hS => ?_)
          have hq := hq.ast 37 (x24).toNatClampNeg (x := x27) (by decide) (rg_top _)
          rw [setM_37] at hP hD
          have k29 : x27 = (va_up A12 37 (upd (A12 37) (x24).toNatClampNeg x27)) 37 (x24).toNatClampNeg := (rdA).symm
          obtain ⟨x30, e31⟩ : ∃ y : Int32, y = a10 + 1 := ⟨_, rfl⟩
          have r32 : rg x30 1 80 := rg_add e31 r17 (rg_k (by decide) : rg 1 1 1) (by decide)
          refine lv_iinc (v := x30) (lv' := [(2, .int x30), (0, .ref (ad 0)), (1, .int p1)]) hx hb dX12_image_36 hl (k := 2) rfl (by rw [e31]; rfl) (by decide) rfl (fun ls hl => ?_)
          refine lv_goto (tgt := 13) hx hb dX12_image_39 (by decide) ?_
          exact ih13 (x30) (F12) (L12) ((va_up A12 37 (upd (A12 37) (x24).toNatClampNeg x27))) (B12) H locs ls (by have h0 : (1 : Int32).toInt = 1 := rfl; have h1 := ti_addk e31 r17 (by decide); have h2 : rg x30 0 80 := (rg_w r32 (by decide)); unfold rg at h2; omega) (rg_w r32 (by decide)) hq (k13) (by rw [va_us]; exact im_step v14 (r8 : rg p1 0 2) (r17 : rg a10 0 79) e22 e25 (e28.trans (congrFun (hq.2.2 17 (by decide)) _)) e31) hP hD hS (lv_sub hl [1, 2, 0] rfl)
    exact J13 _ (0) (F) (L) (A) (B) H locs ls (Nat.lt_succ_self _) (rg_k (by decide)) hq (rfl) im_0 hP hD hS (lv_sub hl [1, 2, 0] rfl)
  · skip
    have r9 : rg x1 0 0 := rg_eq1 c5 (r2 : rg x1 0 1) ((rg_k (by decide)) : rg 0 0 0) (by decide)
    refine lv_iconst (v := (-1)) hx hb dX12_image_9 (by decide) ?_
    exact hret ((-1)) (F, L, A, B) H locs 10 ls rfl dX12_image_10 hP hD hS ⟨hq, (show LM F A from hLM)⟩
abbrev rm_X12_back_0 : Room := { frames := 1, cells := 0, slots := 0, locals := 22 }
set_option maxHeartbeats 4000000 in
set_option maxRecDepth 100000 in
theorem c_X12_back_0 (l : Launch) (D : va_G) (cA : Nat → ClassId) (sz : Nat) (ad : Nat → Nat) (F : Nat → Int32) (L : Nat → Int64) (A : Nat → Nat → Int32) (B : Nat → Nat → Int64) (p1 : Int32) (hT : typM F A) (hI : xM F) (hLM : LM F A) : Met l yX12_back (Cond.code yX12_back cX12_back 3 (some .int) :: GW) rm_X12_back_0 (mPc D classes (tysM cA) (wM cA ad F L A B) sz [.ref (ad 0), .int p1]) (mQi (S := SW) D classes (tysM cA) (wM cA ad F L A B) sz (wfM cA ad) (fun r u => qM [10, 14, 15] [17] F A u.1 u.2.2.1 ∧ xM u.1 ∧ (LM u.1 u.2.2.1))) 0 0 (va_A (wM cA ad F L A B) sz) := by
  refine met_i (own := "ShoeingDayModel") (by decide +kernel) rfl (Nat.le_of_ble_eq_true rfl) ?_
  intro p e s m args below meth c Q Af ls hC hP hD hS hA hl hret
  have hx := hC.1
  have hb := hC.2.1
  have hown := hC.2.2.2.1
  have hg := hC.g
  have hK := hC.K
  have hl : lv_has ls 3 [(0, .ref (ad 0)), (1, .int p1)] := hl
  have hq : qM [10, 14, 15] [17] F A F A := qM.rf hT
  obtain ⟨H, hH⟩ : ∃ H, H = s.heap := ⟨_, rfl⟩
  have hP : va_P D classes (wM cA ad F L A B) H := by rw [hH]; exact hP
  have hS : va_S Af s.heap H [] := by rw [hH]; exact hS
  obtain ⟨locs, hlo⟩ : ∃ q : List Loc, q = [] := ⟨_, rfl⟩
  rw [← hH, ← hlo]
  rw [← hlo] at hS
  refine lv_iload_n hx hb dX12_back_0 rfl (lv_at hl 1 rfl) ?_
  refine lv_iconst (v := 0) hx hb dX12_back_1 (by decide) ?_
  refine lv_iconst (v := 2) hx hb dX12_back_2 (by decide) ?_
  refine calls_i (As := [.int p1, .int 0, .int 2]) (rest := []) hC (c_X12_isIn l D (tysM cA) (wM cA ad F L A B) H.size (p1) (0) (2) (rg_k (by decide)) (rg_k (by decide))) (cwS 3 hg (g_S mw_1391 mw_1389 mw_1390 mw_20) rfl rfl rfl (by decide +kernel) ⟨(Nat.le_of_ble_eq_true rfl), (Nat.le_of_ble_eq_true rfl)⟩) hP hD hS hA rfl hl.1 rfl (Nat.le_of_ble_eq_true rfl) dX12_back_3 ⟨Nat.zero_le _, Nat.zero_le _⟩ (fun x1 u H locs hw hP hD hS => ?_)
  obtain ⟨r2, g3, g4⟩ := hw
  have hP : va_P D classes (wM cA ad F L A B) H := hP
  have hD : va_D Af (wM cA ad F L A B) := hD
  have J18 : ∀ (F5 : Nat → Int32) (L5 : Nat → Int64) (A5 : Nat → Nat → Int32) (B5 : Nat → Nat → Int64) (H : Heap) (locs : List Loc) (ls : Array Slot), qM [10, 14, 15] [17] F A F5 A5 → xM F5 → (LM F5 A5) → va_P D classes (wM cA ad F5 L5 A5 B5) H → va_D Af (wM cA ad F5 L5 A5 B5) → va_S Af s.heap H locs → lv_has ls 3 [] → W p l e rm_X12_back_0 s m args below meth c H locs 0 0 Q (F0 m 18 ls []) := by
    intro F5 L5 A5 B5 H locs ls hq i6 v7 hP hD hS hl
    refine lv_iconst (v := (-1)) hx hb dX12_back_18 (by decide) ?_
    exact hret ((-1)) (F5, L5, A5, B5) H locs 19 ls rfl dX12_back_19 hP hD hS ⟨hq, i6, v7⟩
  refine lv_if_eq (tgt := 18) hx hb dX12_back_6 (by decide) (fun c8 => ?_) (fun c8 => ?_)
  · skip
    have r9 : rg x1 0 0 := rg_eq1 c8 (r2 : rg x1 0 1) ((rg_k (by decide)) : rg 0 0 0) (by decide)
    exact J18 (F) (L) (A) (B) H locs ls hq hI hLM hP hD hS (lv_sub hl [] rfl)
  · skip
    have g10 := g3.resolve_left c8
    have r11 : rg p1 0 2147483647 := rg_le2 g10.1 ((rg_k (by decide)) : rg 0 0 0) ((rg_top _) : rg p1 (-2147483648) 2147483647)
    have r12 : rg p1 0 2 := rg_le1 g10.2 (r11 : rg p1 0 2147483647) ((rg_k (by decide)) : rg 2 2 2)
    refine lv_aload_n hx hb dX12_back_9 rfl (lv_at hl 0 rfl) ?_
    refine va_get (ci := 12) (v := .ref (ad 36)) (C := RX12) (T := TX12) (N := 57) hx hb hg inX12 hown hK hP 0 atM_0 rfl 55 (by decide) (hg _ mw_1163) (fun _ h9 => h9) rfl dX12_back_10 ?_
    refine lv_iload_n hx hb dX12_back_13 rfl (lv_at hl 1 rfl) ?_
    refine va_iald hx hb hK hP 36 35 atM_36 tyM_36 (in_rg r12 (by decide)) dX12_back_14 ?_
    refine lv_topi (fun x13 e14 => ?_)
    refine lv_if_ge (tgt := 20) hx hb dX12_back_15 (by decide) (fun c15 => ?_) (fun c15 => ?_)
    · skip
      have r16 : rg x13 0 2147483647 := rg_le2 (iE c15) ((rg_k (by decide)) : rg 0 0 0) ((rg_top _) : rg x13 (-2147483648) 2147483647)
      refine lv_iconst (v := 0) hx hb dX12_back_20 (by decide) ?_
      refine lv_istore_n (lv' := [(2, .int 0), (0, .ref (ad 0)), (1, .int p1)]) hx hb dX12_back_21 rfl hl (by decide) rfl (fun ls hl => ?_)
      have J22 : ∀ (n22 : Nat) (a18 : Int32) (F20 : Nat → Int32) (L20 : Nat → Int64) (A20 : Nat → Nat → Int32) (B20 : Nat → Nat → Int64) (H : Heap) (locs : List Loc) (ls : Array Slot), (80 - a18.toInt).toNat < n22 → rg a18 0 80 → qM [10, 14, 15] [17] F A F20 A20 → xM F20 → (DM (sN F A) (hN F A) (A20 17) 0) → va_P D classes (wM cA ad F20 L20 A20 B20) H → va_D Af (wM cA ad F20 L20 A20 B20) → va_S Af s.heap H locs → lv_has ls 3 [(0, .ref (ad 0)), (1, .int p1), (2, .int a18)] → W p l e rm_X12_back_0 s m args below meth c H locs 0 0 Q (F0 m 22 ls []) := by
        intro n22
        induction n22 with
        | zero =>
          intro _ _ _ _ _ _ _ _ hn
          exact absurd hn (Nat.not_lt_zero _)
        | succ n22 ih22 =>
          intro a18 F20 L20 A20 B20 H locs ls hn22 r19 hq i21 v22 hP hD hS hl
          refine lv_iload_n hx hb dX12_back_22 rfl (lv_at hl 2 rfl) ?_
          refine lv_bipush (v := 80) hx hb dX12_back_23 (by decide) ?_
          refine lv_icmp_ge (tgt := 51) hx hb dX12_back_25 (by decide) (fun c23 => ?_) (fun c23 => ?_)
          · skip
            have r24 : rg a18 80 80 := rg_le2 (iE c23) ((rg_k (by decide)) : rg 80 80 80) (r19 : rg a18 0 80)
            refine lv_aload_n hx hb dX12_back_51 rfl (lv_at hl 0 rfl) ?_
            refine lv_aload_n hx hb dX12_back_52 rfl (lv_at hl 0 rfl) ?_
            refine va_get (ci := 12) (v := .ref (ad 36)) (C := RX12) (T := TX12) (N := 57) hx hb hg inX12 hown hK hP 0 atM_0 rfl 55 (by decide) (hg _ mw_1163) (fun _ h9 => h9) rfl dX12_back_53 ?_
            refine lv_iload_n hx hb dX12_back_56 rfl (lv_at hl 1 rfl) ?_
            refine va_iald hx hb hK hP 36 35 atM_36 tyM_36 (in_rg r12 (by decide)) dX12_back_57 ?_
            refine lv_topi (fun x26 e27 => ?_)
            refine va_put (ci := 12) (v := .int x26) (ty := .int) (C := RX12) (T := TX12) (N := 57) hx hb hg inX12 tyX12 tyX12_ok nmX12 hown hK hP hD hS 0 atM_0 rfl 28 (by decide) (hg _ mw_1136) (fun _ h9 => h9) rfl (by decide +kernel) rfl rfl (Nat.le_of_ble_eq_true rfl) dX12_back_58 (fun H locs hP hD hS => ?_)
            have hq := hq.put 10 (x := x26) (by decide) (rg_top _)
            rw [setFM_10] at hP hD
            refine lv_aload_n hx hb dX12_back_61 rfl (lv_at hl 0 rfl) ?_
            refine lv_iconst (v := 0) hx hb dX12_back_62 (by decide) ?_
            refine va_put (ci := 12) (v := .int 0) (ty := .int) (C := RX12) (T := TX12) (N := 57) hx hb hg inX12 tyX12 tyX12_ok nmX12 hown hK hP hD hS 0 atM_0 rfl 42 (by decide) (hg _ mw_1150) (fun _ h9 => h9) rfl (by decide +kernel) rfl rfl (Nat.le_of_ble_eq_true rfl) dX12_back_63 (fun H locs hP hD hS => ?_)
            have hq := hq.put 14 (x := 0) (by decide) (rg_k (by decide))
            rw [setFM_14] at hP hD
            refine lv_aload_n hx hb dX12_back_66 rfl (lv_at hl 0 rfl) ?_
            refine lv_iconst (v := 0) hx hb dX12_back_67 (by decide) ?_
            refine va_put (ci := 12) (v := .int 0) (ty := .int) (C := RX12) (T := TX12) (N := 57) hx hb hg inX12 tyX12 tyX12_ok nmX12 hown hK hP hD hS 0 atM_0 rfl 43 (by decide) (hg _ mw_1151) (fun _ h9 => h9) rfl (by decide +kernel) rfl rfl (Nat.le_of_ble_eq_true rfl) dX12_back_68 (fun H locs hP hD hS => ?_)
            have hq := hq.put 15 (x := 0) (by decide) (rg_k (by decide))
            rw [setFM_15] at hP hD
            refine lv_aload_n hx hb dX12_back_71 rfl (lv_at hl 0 rfl) ?_
            refine va_get (ci := 12) (v := .int x26) (C := RX12) (T := TX12) (N := 57) hx hb hg inX12 hown hK hP 0 atM_0 rfl 28 (by decide) (hg _ mw_1136) (fun _ h9 => h9) (congrArg (fun z => some (Value.int z)) (rfl)) dX12_back_72 ?_
            exact hret (x26) ((upd (upd (upd F20 10 x26) 14 (0 : Int32)) 15 (0 : Int32)), L20, A20, B20) H locs 75 ls rfl dX12_back_75 hP hD hS ⟨hq, (xM.of (a := (0 : Int32)) (b := (0 : Int32)) (rfl) (rfl) (by have h1 := ((rg_k (by decide)) : rg (0 : Int32) 0 0); have h2 := ((rg_k (by decide)) : rg (0 : Int32) 0 0); unfold rg at h1 h2; omega)), (show LM (upd (upd (upd F20 10 x26) 14 (0 : Int32)) 15 (0 : Int32)) A20 from LM.was hLM (hq.2.1 8 (by decide)) (hq.2.2 3 (by decide)) (hq.2.2 4 (by decide)) (hq.2.2 10 (by decide)) (hq.2.2 36 (by decide)) (hq.2.2 37 (by decide)) v22 (fun i hi => absurd hi (show ¬ (i : Int) < (0 : Int32).toInt + (0 : Int32).toInt by have : (0 : Int32).toInt = 0 := rfl; omega)))⟩
          · skip
            have r25 : rg a18 0 79 := rg_lt1 (iNE c23) (r19 : rg a18 0 80) ((rg_k (by decide)) : rg 80 80 80)
            refine lv_aload_n hx hb dX12_back_28 rfl (lv_at hl 0 rfl) ?_
            refine va_get (ci := 12) (v := .ref (ad 17)) (C := RX12) (T := TX12) (N := 57) hx hb hg inX12 hown hK hP 0 atM_0 rfl 27 (by decide) (hg _ mw_1135) (fun _ h9 => h9) rfl dX12_back_29 ?_
            refine lv_iload_n hx hb dX12_back_32 rfl (lv_at hl 2 rfl) ?_
            refine lv_aload_n hx hb dX12_back_33 rfl (lv_at hl 0 rfl) ?_
            refine va_get (ci := 12) (v := .ref (ad 37)) (C := RX12) (T := TX12) (N := 57) hx hb hg inX12 hown hK hP 0 atM_0 rfl 56 (by decide) (hg _ mw_1164) (fun _ h9 => h9) rfl dX12_back_34 ?_
            refine lv_bipush (v := 80) hx hb dX12_back_37 (by decide) ?_
            refine lv_iload_n hx hb dX12_back_39 rfl (lv_at hl 1 rfl) ?_
            refine lv_imul hx hb dX12_back_40 ?_
            refine lv_topi (fun x28 e29 => ?_)
            have r30 : rg x28 0 160 := rg_mul e29 ((rg_k (by decide)) : rg 80 80 80) r12 (by decide)
            refine lv_iload_n hx hb dX12_back_41 rfl (lv_at hl 2 rfl) ?_
            refine lv_iadd hx hb dX12_back_42 ?_
            refine lv_topi (fun x31 e32 => ?_)
            have r33 : rg x31 0 239 := rg_add e32 r30 r25 (by decide)
            refine va_iald hx hb hK hP 37 36 atM_37 tyM_37 (in_rg r33 (by decide)) dX12_back_43 ?_
            refine lv_topi (fun x34 e35 => ?_)
            refine va_iast hx hb hK hP hD hS 17 16 atM_17 tyM_17 (in_rg r25 (by decide)) dX12_back_44 (fun H locs hP hD hS => ?_)
            have hq := hq.ast 17 (a18).toNatClampNeg (x := x34) (by decide) (rg_top _)
            rw [setM_17] at hP hD
            have k36 : x34 = (va_up A20 17 (upd (A20 17) (a18).toNatClampNeg x34)) 17 (a18).toNatClampNeg := (rdA).symm
            obtain ⟨x37, e38⟩ : ∃ y : Int32, y = a18 + 1 := ⟨_, rfl⟩
            have r39 : rg x37 1 80 := rg_add e38 r25 (rg_k (by decide) : rg 1 1 1) (by decide)
            refine lv_iinc (v := x37) (lv' := [(2, .int x37), (0, .ref (ad 0)), (1, .int p1)]) hx hb dX12_back_45 hl (k := 2) rfl (by rw [e38]; rfl) (by decide) rfl (fun ls hl => ?_)
            refine lv_goto (tgt := 22) hx hb dX12_back_48 (by decide) ?_
            exact ih22 (x37) (F20) (L20) ((va_up A20 17 (upd (A20 17) (a18).toNatClampNeg x34))) (B20) H locs ls (by have h0 : (1 : Int32).toInt = 1 := rfl; have h1 := ti_addk e38 r25 (by decide); have h2 : rg x37 0 80 := (rg_w r39 (by decide)); unfold rg at h2; omega) (rg_w r39 (by decide)) hq i21 (by rw [va_us]; exact bk_step v22 (hLM.2.2.2 p1.toNatClampNeg (by have := cl_ti (r12 : rg p1 0 2) (by decide); have := (r12 : rg p1 0 2).2; omega) (by rw [← e14]; have := (iE c15); have : (0 : Int32).toInt = 0 := rfl; omega)) (r12 : rg p1 0 2) (r25 : rg a18 0 79) e29 e32 (e35.trans (congrFun (hq.2.2 37 (by decide)) _))) hP hD hS (lv_sub hl [1, 2, 0] rfl)
      exact J22 _ (0) (F) (L) (A) (B) H locs ls (Nat.lt_succ_self _) (rg_k (by decide)) hq hI hLM.1 hP hD hS (lv_sub hl [1, 2, 0] rfl)
    · skip
      have r17 : rg x13 (-2147483648) (-1) := rg_lt1 (iNE c15) ((rg_top _) : rg x13 (-2147483648) 2147483647) ((rg_k (by decide)) : rg 0 0 0)
      exact J18 (F) (L) (A) (B) H locs ls hq hI hLM hP hD hS (lv_sub hl [] rfl)
