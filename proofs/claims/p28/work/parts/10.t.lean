abbrev rm_X1_assign_34 : Room := { frames := 0, cells := 0, slots := 0, locals := 0 }
set_option maxHeartbeats 4000000 in
set_option maxRecDepth 100000 in
theorem c_X1_assign_34 (l : Launch) (D : va_G) (cA : Nat → ClassId) (sz : Nat) (ad : Nat → Nat) (F : Nat → Int32) (L : Nat → Int64) (A : Nat → Nat → Int32) (B : Nat → Nat → Int64) (p1 : Int32) (p2 : Int32) (hT : typX F A) (hp1 : rg p1 0 9) (hp2 : rg p2 0 9) : Met l yX1_assign (Cond.code yX1_assign cX1_assign 3 none :: GW) rm_X1_assign_34 (mPc D classes (tysX cA) (wX cA ad F L A B) sz [.ref (ad 34), .int p1, .int p2]) (mQv (S := SW) D classes (tysX cA) (wX cA ad F L A B) sz (wfX cA ad) (fun u => qX [] [36, 37] F A u.1 u.2.2.1)) 0 0 (va_A (wX cA ad F L A B) sz) := by
  refine met_v (own := "ShoeingDay$Cover") (by decide +kernel) rfl (Nat.le_of_ble_eq_true rfl) ?_
  intro p e s m args below meth c Q Af ls hC hP hD hS hA hl hret
  have hx := hC.1
  have hb := hC.2.1
  have hown := hC.2.2.2.1
  have hg := hC.g
  have hK := hC.K
  have hl : lv_has ls 3 [(0, .ref (ad 34)), (1, .int p1), (2, .int p2)] := hl
  have hq : qX [] [36, 37] F A F A := qX.rf hT
  obtain ⟨H, hH⟩ : ∃ H, H = s.heap := ⟨_, rfl⟩
  have hP : va_P D classes (wX cA ad F L A B) H := by rw [hH]; exact hP
  have hS : va_S Af s.heap H [] := by rw [hH]; exact hS
  obtain ⟨locs, hlo⟩ : ∃ q : List Loc, q = [] := ⟨_, rfl⟩
  rw [← hH, ← hlo]
  rw [← hlo] at hS
  refine lv_aload_n hx hb dX1_assign_0 rfl (lv_at hl 0 rfl) ?_
  refine va_get (ci := 1) (v := .ref (ad 36)) (C := RX1) (T := TX1) (N := 5) hx hb hg inX1 hown hK hP 34 atX_34 rfl 1 (by decide) (hg _ mw_322) (fun _ h9 => h9) rfl dX1_assign_1 ?_
  refine lv_iload_n hx hb dX1_assign_4 rfl (lv_at hl 1 rfl) ?_
  refine lv_iload_n hx hb dX1_assign_5 rfl (lv_at hl 2 rfl) ?_
  refine va_iast hx hb hK hP hD hS 36 25 atX_36 tyX_36 (in_rg hp1 (by decide)) dX1_assign_6 (fun H locs hP hD hS => ?_)
  have hq := hq.ast 36 (p1).toNatClampNeg (x := p2) (by decide) (rg_w hp2 (by decide))
  rw [setX_36] at hP hD
  refine lv_aload_n hx hb dX1_assign_7 rfl (lv_at hl 0 rfl) ?_
  refine va_get (ci := 1) (v := .ref (ad 37)) (C := RX1) (T := TX1) (N := 5) hx hb hg inX1 hown hK hP 34 atX_34 rfl 2 (by decide) (hg _ mw_324) (fun _ h9 => h9) rfl dX1_assign_8 ?_
  refine lv_iload_n hx hb dX1_assign_11 rfl (lv_at hl 2 rfl) ?_
  refine lv_iload_n hx hb dX1_assign_12 rfl (lv_at hl 1 rfl) ?_
  refine va_iast hx hb hK hP hD hS 37 26 atX_37 tyX_37 (in_rg hp2 (by decide)) dX1_assign_13 (fun H locs hP hD hS => ?_)
  have hq := hq.ast 37 (p2).toNatClampNeg (x := p1) (by decide) (rg_w hp1 (by decide))
  rw [setX_37] at hP hD
  exact hret (F, L, (va_up (va_up A 36 (upd (A 36) (p1).toNatClampNeg p2)) 37 (upd ((va_up A 36 (upd (A 36) (p1).toNatClampNeg p2)) 37) (p2).toNatClampNeg p1)), B) H locs 14 ls dX1_assign_14 hP hD hS hq
abbrev rm_X1_assign_40 : Room := { frames := 0, cells := 0, slots := 0, locals := 0 }
set_option maxHeartbeats 4000000 in
set_option maxRecDepth 100000 in
theorem c_X1_assign_40 (l : Launch) (D : va_G) (cA : Nat → ClassId) (sz : Nat) (ad : Nat → Nat) (F : Nat → Int32) (L : Nat → Int64) (A : Nat → Nat → Int32) (B : Nat → Nat → Int64) (p1 : Int32) (p2 : Int32) (hT : typX F A) (hp1 : rg p1 0 9) (hp2 : rg p2 0 9) : Met l yX1_assign (Cond.code yX1_assign cX1_assign 3 none :: GW) rm_X1_assign_40 (mPc D classes (tysX cA) (wX cA ad F L A B) sz [.ref (ad 40), .int p1, .int p2]) (mQv (S := SW) D classes (tysX cA) (wX cA ad F L A B) sz (wfX cA ad) (fun u => qX [] [42, 43] F A u.1 u.2.2.1)) 0 0 (va_A (wX cA ad F L A B) sz) := by
  refine met_v (own := "ShoeingDay$Cover") (by decide +kernel) rfl (Nat.le_of_ble_eq_true rfl) ?_
  intro p e s m args below meth c Q Af ls hC hP hD hS hA hl hret
  have hx := hC.1
  have hb := hC.2.1
  have hown := hC.2.2.2.1
  have hg := hC.g
  have hK := hC.K
  have hl : lv_has ls 3 [(0, .ref (ad 40)), (1, .int p1), (2, .int p2)] := hl
  have hq : qX [] [42, 43] F A F A := qX.rf hT
  obtain ⟨H, hH⟩ : ∃ H, H = s.heap := ⟨_, rfl⟩
  have hP : va_P D classes (wX cA ad F L A B) H := by rw [hH]; exact hP
  have hS : va_S Af s.heap H [] := by rw [hH]; exact hS
  obtain ⟨locs, hlo⟩ : ∃ q : List Loc, q = [] := ⟨_, rfl⟩
  rw [← hH, ← hlo]
  rw [← hlo] at hS
  refine lv_aload_n hx hb dX1_assign_0 rfl (lv_at hl 0 rfl) ?_
  refine va_get (ci := 1) (v := .ref (ad 42)) (C := RX1) (T := TX1) (N := 5) hx hb hg inX1 hown hK hP 40 atX_40 rfl 1 (by decide) (hg _ mw_322) (fun _ h9 => h9) rfl dX1_assign_1 ?_
  refine lv_iload_n hx hb dX1_assign_4 rfl (lv_at hl 1 rfl) ?_
  refine lv_iload_n hx hb dX1_assign_5 rfl (lv_at hl 2 rfl) ?_
  refine va_iast hx hb hK hP hD hS 42 30 atX_42 tyX_42 (in_rg hp1 (by decide)) dX1_assign_6 (fun H locs hP hD hS => ?_)
  have hq := hq.ast 42 (p1).toNatClampNeg (x := p2) (by decide) (rg_w hp2 (by decide))
  rw [setX_42] at hP hD
  refine lv_aload_n hx hb dX1_assign_7 rfl (lv_at hl 0 rfl) ?_
  refine va_get (ci := 1) (v := .ref (ad 43)) (C := RX1) (T := TX1) (N := 5) hx hb hg inX1 hown hK hP 40 atX_40 rfl 2 (by decide) (hg _ mw_324) (fun _ h9 => h9) rfl dX1_assign_8 ?_
  refine lv_iload_n hx hb dX1_assign_11 rfl (lv_at hl 2 rfl) ?_
  refine lv_iload_n hx hb dX1_assign_12 rfl (lv_at hl 1 rfl) ?_
  refine va_iast hx hb hK hP hD hS 43 31 atX_43 tyX_43 (in_rg hp2 (by decide)) dX1_assign_13 (fun H locs hP hD hS => ?_)
  have hq := hq.ast 43 (p2).toNatClampNeg (x := p1) (by decide) (rg_w hp1 (by decide))
  rw [setX_43] at hP hD
  exact hret (F, L, (va_up (va_up A 42 (upd (A 42) (p1).toNatClampNeg p2)) 43 (upd ((va_up A 42 (upd (A 42) (p1).toNatClampNeg p2)) 43) (p2).toNatClampNeg p1)), B) H locs 14 ls dX1_assign_14 hP hD hS hq
abbrev rm_X1_release_34 : Room := { frames := 0, cells := 0, slots := 0, locals := 0 }
set_option maxHeartbeats 4000000 in
set_option maxRecDepth 100000 in
theorem c_X1_release_34 (l : Launch) (D : va_G) (cA : Nat → ClassId) (sz : Nat) (ad : Nat → Nat) (F : Nat → Int32) (L : Nat → Int64) (A : Nat → Nat → Int32) (B : Nat → Nat → Int64) (p1 : Int32) (hT : typX F A) (hp1 : rg p1 0 9) : Met l yX1_release (Cond.code yX1_release cX1_release 3 none :: GW) rm_X1_release_34 (mPc D classes (tysX cA) (wX cA ad F L A B) sz [.ref (ad 34), .int p1]) (mQv (S := SW) D classes (tysX cA) (wX cA ad F L A B) sz (wfX cA ad) (fun u => qX [] [36, 37] F A u.1 u.2.2.1)) 0 0 (va_A (wX cA ad F L A B) sz) := by
  refine met_v (own := "ShoeingDay$Cover") (by decide +kernel) rfl (Nat.le_of_ble_eq_true rfl) ?_
  intro p e s m args below meth c Q Af ls hC hP hD hS hA hl hret
  have hx := hC.1
  have hb := hC.2.1
  have hown := hC.2.2.2.1
  have hg := hC.g
  have hK := hC.K
  have hl : lv_has ls 3 [(0, .ref (ad 34)), (1, .int p1)] := hl
  have hq : qX [] [36, 37] F A F A := qX.rf hT
  obtain ⟨H, hH⟩ : ∃ H, H = s.heap := ⟨_, rfl⟩
  have hP : va_P D classes (wX cA ad F L A B) H := by rw [hH]; exact hP
  have hS : va_S Af s.heap H [] := by rw [hH]; exact hS
  obtain ⟨locs, hlo⟩ : ∃ q : List Loc, q = [] := ⟨_, rfl⟩
  rw [← hH, ← hlo]
  rw [← hlo] at hS
  refine lv_aload_n hx hb dX1_release_0 rfl (lv_at hl 0 rfl) ?_
  refine va_get (ci := 1) (v := .ref (ad 36)) (C := RX1) (T := TX1) (N := 5) hx hb hg inX1 hown hK hP 34 atX_34 rfl 1 (by decide) (hg _ mw_322) (fun _ h9 => h9) rfl dX1_release_1 ?_
  refine lv_iload_n hx hb dX1_release_4 rfl (lv_at hl 1 rfl) ?_
  refine va_iald hx hb hK hP 36 25 atX_36 tyX_36 (in_rg hp1 (by decide)) dX1_release_5 ?_
  refine lv_topi (fun x1 e2 => ?_)
  have r3 : rg x1 (-1) 9 := rg_e e2 (hq.1.2 36 _)
  refine lv_istore_n (lv' := [(2, .int x1), (0, .ref (ad 34)), (1, .int p1)]) hx hb dX1_release_6 rfl hl (by decide) rfl (fun ls hl => ?_)
  refine lv_iload_n hx hb dX1_release_7 rfl (lv_at hl 0 rfl) ?_
  refine lv_iconst (v := (-1)) hx hb dX1_release_8 (by decide) ?_
  refine lv_icmp_eq (tgt := 26) hx hb dX1_release_9 (by decide) (fun c4 => ?_) (fun c4 => ?_)
  · skip
    have r5 : rg x1 (-1) (-1) := rg_eq1 c4 (r3 : rg x1 (-1) 9) ((rg_k (by decide)) : rg (-1) (-1) (-1)) (by decide)
    exact hret (F, L, A, B) H locs 26 ls dX1_release_26 hP hD hS hq
  · skip
    have r6 : rg x1 0 9 := (rg_ne1 c4 (r3 : rg x1 (-1) 9) ((rg_k (by decide)) : rg (-1) (-1) (-1))).1 rfl
    refine lv_aload_n hx hb dX1_release_12 rfl (lv_at hl 1 rfl) ?_
    refine va_get (ci := 1) (v := .ref (ad 37)) (C := RX1) (T := TX1) (N := 5) hx hb hg inX1 hown hK hP 34 atX_34 rfl 2 (by decide) (hg _ mw_324) (fun _ h9 => h9) rfl dX1_release_13 ?_
    refine lv_iload_n hx hb dX1_release_16 rfl (lv_at hl 0 rfl) ?_
    refine lv_iconst (v := (-1)) hx hb dX1_release_17 (by decide) ?_
    refine va_iast hx hb hK hP hD hS 37 26 atX_37 tyX_37 (in_rg r6 (by decide)) dX1_release_18 (fun H locs hP hD hS => ?_)
    have hq := hq.ast 37 (x1).toNatClampNeg (x := (-1)) (by decide) (rg_k (by decide))
    rw [setX_37] at hP hD
    refine lv_aload_n hx hb dX1_release_19 rfl (lv_at hl 1 rfl) ?_
    refine va_get (ci := 1) (v := .ref (ad 36)) (C := RX1) (T := TX1) (N := 5) hx hb hg inX1 hown hK hP 34 atX_34 rfl 1 (by decide) (hg _ mw_322) (fun _ h9 => h9) rfl dX1_release_20 ?_
    refine lv_iload_n hx hb dX1_release_23 rfl (lv_at hl 2 rfl) ?_
    refine lv_iconst (v := (-1)) hx hb dX1_release_24 (by decide) ?_
    refine va_iast hx hb hK hP hD hS 36 25 atX_36 tyX_36 (in_rg hp1 (by decide)) dX1_release_25 (fun H locs hP hD hS => ?_)
    have hq := hq.ast 36 (p1).toNatClampNeg (x := (-1)) (by decide) (rg_k (by decide))
    rw [setX_36] at hP hD
    exact hret (F, L, (va_up (va_up A 37 (upd (A 37) (x1).toNatClampNeg (-1))) 36 (upd ((va_up A 37 (upd (A 37) (x1).toNatClampNeg (-1))) 36) (p1).toNatClampNeg (-1))), B) H locs 26 ls dX1_release_26 hP hD hS hq
abbrev rm_X1_release_40 : Room := { frames := 0, cells := 0, slots := 0, locals := 0 }
set_option maxHeartbeats 4000000 in
set_option maxRecDepth 100000 in
theorem c_X1_release_40 (l : Launch) (D : va_G) (cA : Nat → ClassId) (sz : Nat) (ad : Nat → Nat) (F : Nat → Int32) (L : Nat → Int64) (A : Nat → Nat → Int32) (B : Nat → Nat → Int64) (p1 : Int32) (hT : typX F A) (hp1 : rg p1 0 9) : Met l yX1_release (Cond.code yX1_release cX1_release 3 none :: GW) rm_X1_release_40 (mPc D classes (tysX cA) (wX cA ad F L A B) sz [.ref (ad 40), .int p1]) (mQv (S := SW) D classes (tysX cA) (wX cA ad F L A B) sz (wfX cA ad) (fun u => qX [] [42, 43] F A u.1 u.2.2.1)) 0 0 (va_A (wX cA ad F L A B) sz) := by
  refine met_v (own := "ShoeingDay$Cover") (by decide +kernel) rfl (Nat.le_of_ble_eq_true rfl) ?_
  intro p e s m args below meth c Q Af ls hC hP hD hS hA hl hret
  have hx := hC.1
  have hb := hC.2.1
  have hown := hC.2.2.2.1
  have hg := hC.g
  have hK := hC.K
  have hl : lv_has ls 3 [(0, .ref (ad 40)), (1, .int p1)] := hl
  have hq : qX [] [42, 43] F A F A := qX.rf hT
  obtain ⟨H, hH⟩ : ∃ H, H = s.heap := ⟨_, rfl⟩
  have hP : va_P D classes (wX cA ad F L A B) H := by rw [hH]; exact hP
  have hS : va_S Af s.heap H [] := by rw [hH]; exact hS
  obtain ⟨locs, hlo⟩ : ∃ q : List Loc, q = [] := ⟨_, rfl⟩
  rw [← hH, ← hlo]
  rw [← hlo] at hS
  refine lv_aload_n hx hb dX1_release_0 rfl (lv_at hl 0 rfl) ?_
  refine va_get (ci := 1) (v := .ref (ad 42)) (C := RX1) (T := TX1) (N := 5) hx hb hg inX1 hown hK hP 40 atX_40 rfl 1 (by decide) (hg _ mw_322) (fun _ h9 => h9) rfl dX1_release_1 ?_
  refine lv_iload_n hx hb dX1_release_4 rfl (lv_at hl 1 rfl) ?_
  refine va_iald hx hb hK hP 42 30 atX_42 tyX_42 (in_rg hp1 (by decide)) dX1_release_5 ?_
  refine lv_topi (fun x1 e2 => ?_)
  have r3 : rg x1 (-1) 9 := rg_e e2 (hq.1.2 42 _)
  refine lv_istore_n (lv' := [(2, .int x1), (0, .ref (ad 40)), (1, .int p1)]) hx hb dX1_release_6 rfl hl (by decide) rfl (fun ls hl => ?_)
  refine lv_iload_n hx hb dX1_release_7 rfl (lv_at hl 0 rfl) ?_
  refine lv_iconst (v := (-1)) hx hb dX1_release_8 (by decide) ?_
  refine lv_icmp_eq (tgt := 26) hx hb dX1_release_9 (by decide) (fun c4 => ?_) (fun c4 => ?_)
  · skip
    have r5 : rg x1 (-1) (-1) := rg_eq1 c4 (r3 : rg x1 (-1) 9) ((rg_k (by decide)) : rg (-1) (-1) (-1)) (by decide)
    exact hret (F, L, A, B) H locs 26 ls dX1_release_26 hP hD hS hq
  · skip
    have r6 : rg x1 0 9 := (rg_ne1 c4 (r3 : rg x1 (-1) 9) ((rg_k (by decide)) : rg (-1) (-1) (-1))).1 rfl
    refine lv_aload_n hx hb dX1_release_12 rfl (lv_at hl 1 rfl) ?_
    refine va_get (ci := 1) (v := .ref (ad 43)) (C := RX1) (T := TX1) (N := 5) hx hb hg inX1 hown hK hP 40 atX_40 rfl 2 (by decide) (hg _ mw_324) (fun _ h9 => h9) rfl dX1_release_13 ?_
    refine lv_iload_n hx hb dX1_release_16 rfl (lv_at hl 0 rfl) ?_
    refine lv_iconst (v := (-1)) hx hb dX1_release_17 (by decide) ?_
    refine va_iast hx hb hK hP hD hS 43 31 atX_43 tyX_43 (in_rg r6 (by decide)) dX1_release_18 (fun H locs hP hD hS => ?_)
    have hq := hq.ast 43 (x1).toNatClampNeg (x := (-1)) (by decide) (rg_k (by decide))
    rw [setX_43] at hP hD
    refine lv_aload_n hx hb dX1_release_19 rfl (lv_at hl 1 rfl) ?_
    refine va_get (ci := 1) (v := .ref (ad 42)) (C := RX1) (T := TX1) (N := 5) hx hb hg inX1 hown hK hP 40 atX_40 rfl 1 (by decide) (hg _ mw_322) (fun _ h9 => h9) rfl dX1_release_20 ?_
    refine lv_iload_n hx hb dX1_release_23 rfl (lv_at hl 2 rfl) ?_
    refine lv_iconst (v := (-1)) hx hb dX1_release_24 (by decide) ?_
    refine va_iast hx hb hK hP hD hS 42 30 atX_42 tyX_42 (in_rg hp1 (by decide)) dX1_release_25 (fun H locs hP hD hS => ?_)
    have hq := hq.ast 42 (p1).toNatClampNeg (x := (-1)) (by decide) (rg_k (by decide))
    rw [setX_42] at hP hD
    exact hret (F, L, (va_up (va_up A 43 (upd (A 43) (x1).toNatClampNeg (-1))) 42 (upd ((va_up A 43 (upd (A 43) (x1).toNatClampNeg (-1))) 42) (p1).toNatClampNeg (-1))), B) H locs 26 ls dX1_release_26 hP hD hS hq
