def F_X12_lose (i0 : Nat) (a1 : Int32) (h : HP) : Option (Int32 × DP) :=
  (F_X12_isSheet a1).bind fun x2 =>
  (if x2 = 0 then
  some ((-2), dp h)
  else
  (gr h 12 i0 0).bind fun o3 =>
  (ga h 45 o3 4 a1).bind fun x6 =>
  (if 0 ≤ x6 then
  (gr h 12 i0 0).bind fun o9 =>
  (sa h 45 o9 4 a1 (-1)).bind fun h12 =>
  (gr h12 12 i0 1).bind fun o16 =>
  (ga h12 46 o16 4 a1).bind fun x19 =>
  some (x19, dp h12)
  else
  (F_X12_met i0 1 h).bind fun q27 => u2 q27 fun x28 d26 => nm (wd h d26) fun h23 =>
  some (x28, dp h23)))
set_option maxHeartbeats 4000000 in
set_option maxRecDepth 100000 in
theorem ok_X12_lose {l : Launch} {D : va_G} {cA : Nat → ClassId} {h : HP} {r : Int32} {d : DP} (i0 : Nat) (a1 : Int32) (al_0 : i0 < gn h 12) (hF : F_X12_lose i0 a1 h = some (r, d)) : MI l D cA yX12_lose cX12_lose 2 (some .int) 2 45 (fun φ => [.ref (φ 12 i0), .int a1]) h r (wd h d) := by
  refine mk_I (plainFor_of_name (by decide)) (fun φ => Nat.le_of_ble_eq_true rfl) ?_
  intro p e s m args below meth c ls φ A Q X hW hS hl hfin
  have hx := X.1
  have hb := X.2.1
  have hl : lv_has ls 2 [(0, .ref (φ 12 i0)), (1, .int a1)] := hl
  unfold F_X12_lose at hF
  refine lv_iload_n hx hb dX12_lose_0 rfl (lv_at hl 1 rfl) ?_
  obtain ⟨x2, e1, hF⟩ := bn hF
  refine rc_i (Af := fun φ => [.int a1]) X hW hS ⟨Nat.zero_le _, Nat.zero_le _⟩ (rn_S (As := [.int a1]) (rest := []) X hW hS cw_12_143 ⟨Nat.le_of_ble_eq_true rfl, Nat.le_of_ble_eq_true rfl⟩ rfl hl.1 rfl (Nat.le_of_ble_eq_true rfl) dX12_lose_1) (ok_X12_isSheet a1 e1) (fun H locs hW hS => ?_)
  refine lv_if_ne (tgt := 10) hx hb dX12_lose_4 (by decide) (fun c30 => ?_) (fun c30 => ?_)
  · have hF := ie c30 hF
    refine lv_aload_n hx hb dX12_lose_10 rfl (lv_at hl 0 rfl) ?_
    obtain ⟨o3, e4, hF⟩ := bn hF
    refine r_getr X hW al_0 fl_12_7 e4 dX12_lose_11 (fun al5 => ?_)
    refine lv_iload_n hx hb dX12_lose_14 rfl (lv_at hl 1 rfl) ?_
    obtain ⟨x6, e7, hF⟩ := bn hF
    obtain ⟨b8, e7⟩ := ga_s e7
    refine r_iald X hW al5 rfl b8 dX12_lose_15 ?_
    refine nmi e7 ?_
    refine lv_if_ge (tgt := 25) hx hb dX12_lose_16 (by decide) (fun c29 => ?_) (fun c29 => ?_)
    · have hF := it c29 hF
      refine lv_aload_n hx hb dX12_lose_25 rfl (lv_at hl 0 rfl) ?_
      obtain ⟨o9, e10, hF⟩ := bn hF
      refine r_getr X hW al_0 fl_12_7 e10 dX12_lose_26 (fun al11 => ?_)
      refine lv_iload_n hx hb dX12_lose_29 rfl (lv_at hl 1 rfl) ?_
      refine lv_iconst (v := (-1)) hx hb dX12_lose_30 (by decide) ?_
      obtain ⟨h12, e13, hF⟩ := bn hF
      obtain ⟨b14, e13⟩ := sa_s e13
      refine r_iast X hW hS al11 rfl b14 dX12_lose_31 (fun H locs hW hS => ?_)
      have hW := nmW e13 hW
      have g15 : h12.2.2 = h.2.2 := by rw [e13]; exact rfl
      refine lv_aload_n hx hb dX12_lose_32 rfl (lv_at hl 0 rfl) ?_
      obtain ⟨o16, e17, hF⟩ := bn hF
      refine r_getr X hW (gq g15 al_0) fl_12_13 e17 dX12_lose_33 (fun al18 => ?_)
      have al18 := qg g15 al18
      refine lv_iload_n hx hb dX12_lose_36 rfl (lv_at hl 1 rfl) ?_
      obtain ⟨x19, e20, hF⟩ := bn hF
      obtain ⟨b21, e20⟩ := ga_s e20
      refine r_iald X hW (gq g15 al18) rfl b21 dX12_lose_37 ?_
      refine nmi e20 ?_
      obtain ⟨rfl, rfl⟩ := sj2 hF
      exact hfin _ _ _ _ (wdW g15 hW) hS dX12_lose_38
    · have hF := ie c29 hF
      refine lv_aload_n hx hb dX12_lose_19 rfl (lv_at hl 0 rfl) ?_
      refine lv_iconst (v := 1) hx hb dX12_lose_20 (by decide) ?_
      obtain ⟨q27, e22, hF⟩ := bn hF
      obtain ⟨x28, d26⟩ := q27
      have hF := u2d hF
      refine rc_i (Af := fun φ => [.ref (φ 12 i0), .int 1]) X hW hS ⟨Nat.zero_le _, Nat.zero_le _⟩ (rn_V (As := [.int 1]) (rest := []) X hW hS cw_12_149 al_0 rfl rfl rfl ⟨Nat.le_of_ble_eq_true rfl, Nat.le_of_ble_eq_true rfl⟩ rfl hl.1 rfl (Nat.le_of_ble_eq_true rfl) dX12_lose_21) (ok_X12_met i0 1 al_0 e22) (fun H locs hW hS => ?_)
      obtain ⟨h23, e25, hF⟩ := nmx hF
      have hW := nmW e25 hW
      have g24 : h23.2.2 = h.2.2 := by rw [e25]; exact rfl
      obtain ⟨rfl, rfl⟩ := sj2 hF
      exact hfin _ _ _ _ (wdW g24 hW) hS dX12_lose_24
  · have hF := it c30 hF
    refine lv_bipush (v := (-2)) hx hb dX12_lose_7 (by decide) ?_
    obtain ⟨rfl, rfl⟩ := sj2 hF
    exact hfin _ _ _ _ (wdW rfl hW) hS dX12_lose_9
def F_X12_lacks (i0 : Nat) (a1 : Int32) (a2 : Int32) (a3 : Int32) (h : HP) : Option (Int32 × DP) :=
  (gr h 12 i0 0).bind fun o1 =>
  (ga h 45 o1 4 a1).bind fun x4 =>
  (if 0 ≤ x4 then
  (gr h 12 i0 0).bind fun o7 =>
  (ga h 45 o7 4 a1).bind fun x10 =>
  (if x10 = a2 then
  (gr h 12 i0 1).bind fun o13 =>
  (ga h 46 o13 4 a1).bind fun x16 =>
  (F_X12_in ((a3).toInt64) 0 (((x16 - 1)).toInt64)).bind fun x20 =>
  (if x20 = 0 then
  (F_X12_met i0 2 h).bind fun q26 => u2 q26 fun x27 d25 => nm (wd h d25) fun h22 =>
  some (x27, dp h22)
  else
  some (0, dp h))
  else
  (F_X12_met i0 3 h).bind fun q34 => u2 q34 fun x35 d33 => nm (wd h d33) fun h30 =>
  some (x35, dp h30))
  else
  (F_X12_met i0 1 h).bind fun q42 => u2 q42 fun x43 d41 => nm (wd h d41) fun h38 =>
  some (x43, dp h38))
set_option maxHeartbeats 4000000 in
set_option maxRecDepth 100000 in
theorem ok_X12_lacks {l : Launch} {D : va_G} {cA : Nat → ClassId} {h : HP} {r : Int32} {d : DP} (i0 : Nat) (a1 : Int32) (a2 : Int32) (a3 : Int32) (al_0 : i0 < gn h 12) (hF : F_X12_lacks i0 a1 a2 a3 h = some (r, d)) : MI l D cA yX12_lacks cX12_lacks 4 (some .int) 1 25 (fun φ => [.ref (φ 12 i0), .int a1, .int a2, .int a3]) h r (wd h d) := by
  refine mk_I (plainFor_of_name (by decide)) (fun φ => Nat.le_of_ble_eq_true rfl) ?_
  intro p e s m args below meth c ls φ A Q X hW hS hl hfin
  have hx := X.1
  have hb := X.2.1
  have hl : lv_has ls 4 [(0, .ref (φ 12 i0)), (1, .int a1), (2, .int a2), (3, .int a3)] := hl
  unfold F_X12_lacks at hF
  refine lv_aload_n hx hb dX12_lacks_0 rfl (lv_at hl 0 rfl) ?_
  obtain ⟨o1, e2, hF⟩ := bn hF
  refine r_getr X hW al_0 fl_12_7 e2 dX12_lacks_1 (fun al3 => ?_)
  refine lv_iload_n hx hb dX12_lacks_4 rfl (lv_at hl 1 rfl) ?_
  obtain ⟨x4, e5, hF⟩ := bn hF
  obtain ⟨b6, e5⟩ := ga_s e5
  refine r_iald X hW al3 rfl b6 dX12_lacks_5 ?_
  refine nmi e5 ?_
  refine lv_if_ge (tgt := 15) hx hb dX12_lacks_6 (by decide) (fun c44 => ?_) (fun c44 => ?_)
  · have hF := it c44 hF
    refine lv_aload_n hx hb dX12_lacks_15 rfl (lv_at hl 0 rfl) ?_
    obtain ⟨o7, e8, hF⟩ := bn hF
    refine r_getr X hW al_0 fl_12_7 e8 dX12_lacks_16 (fun al9 => ?_)
    refine lv_iload_n hx hb dX12_lacks_19 rfl (lv_at hl 1 rfl) ?_
    obtain ⟨x10, e11, hF⟩ := bn hF
    obtain ⟨b12, e11⟩ := ga_s e11
    refine r_iald X hW al9 rfl b12 dX12_lacks_20 ?_
    refine nmi e11 ?_
    refine lv_iload_n hx hb dX12_lacks_21 rfl (lv_at hl 2 rfl) ?_
    refine lv_icmp_eq (tgt := 31) hx hb dX12_lacks_22 (by decide) (fun c36 => ?_) (fun c36 => ?_)
    · have hF := it c36 hF
      refine lv_iload_n hx hb dX12_lacks_31 rfl (lv_at hl 3 rfl) ?_
      refine lv_i2l (v := (a3).toInt64) hx hb dX12_lacks_32 rfl ?_
      refine lv_lconst (v := 0) hx hb dX12_lacks_33 (by decide) ?_
      refine lv_aload_n hx hb dX12_lacks_34 rfl (lv_at hl 0 rfl) ?_
      obtain ⟨o13, e14, hF⟩ := bn hF
      refine r_getr X hW al_0 fl_12_13 e14 dX12_lacks_35 (fun al15 => ?_)
      refine lv_iload_n hx hb dX12_lacks_38 rfl (lv_at hl 1 rfl) ?_
      obtain ⟨x16, e17, hF⟩ := bn hF
      obtain ⟨b18, e17⟩ := ga_s e17
      refine r_iald X hW al15 rfl b18 dX12_lacks_39 ?_
      refine nmi e17 ?_
      refine lv_iconst (v := 1) hx hb dX12_lacks_40 (by decide) ?_
      refine lv_isub hx hb dX12_lacks_41 ?_
      refine lv_i2l (v := ((x16 - 1)).toInt64) hx hb dX12_lacks_42 rfl ?_
      obtain ⟨x20, e19, hF⟩ := bn hF
      refine rc_i (Af := fun φ => [.long ((a3).toInt64), .long 0, .long (((x16 - 1)).toInt64)]) X hW hS ⟨Nat.zero_le _, Nat.zero_le _⟩ (rn_S (As := [.long ((a3).toInt64), .long 0, .long (((x16 - 1)).toInt64)]) (rest := []) X hW hS cw_12_139 ⟨Nat.le_of_ble_eq_true rfl, Nat.le_of_ble_eq_true rfl⟩ rfl hl.1 rfl (Nat.le_of_ble_eq_true rfl) dX12_lacks_43) (ok_X12_in ((a3).toInt64) 0 (((x16 - 1)).toInt64) e19) (fun H locs hW hS => ?_)
      refine lv_if_eq (tgt := 53) hx hb dX12_lacks_46 (by decide) (fun c28 => ?_) (fun c28 => ?_)
      · have hF := it c28 hF
        refine lv_aload_n hx hb dX12_lacks_53 rfl (lv_at hl 0 rfl) ?_
        refine lv_iconst (v := 2) hx hb dX12_lacks_54 (by decide) ?_
        obtain ⟨q26, e21, hF⟩ := bn hF
        obtain ⟨x27, d25⟩ := q26
        have hF := u2d hF
        refine rc_i (Af := fun φ => [.ref (φ 12 i0), .int 2]) X hW hS ⟨Nat.zero_le _, Nat.zero_le _⟩ (rn_V (As := [.int 2]) (rest := []) X hW hS cw_12_149 al_0 rfl rfl rfl ⟨Nat.le_of_ble_eq_true rfl, Nat.le_of_ble_eq_true rfl⟩ rfl hl.1 rfl (Nat.le_of_ble_eq_true rfl) dX12_lacks_55) (ok_X12_met i0 2 al_0 e21) (fun H locs hW hS => ?_)
        obtain ⟨h22, e24, hF⟩ := nmx hF
        have hW := nmW e24 hW
        have g23 : h22.2.2 = h.2.2 := by rw [e24]; exact rfl
        obtain ⟨rfl, rfl⟩ := sj2 hF
        exact hfin _ _ _ _ (wdW g23 hW) hS dX12_lacks_58
      · have hF := ie c28 hF
        refine lv_iconst (v := 0) hx hb dX12_lacks_49 (by decide) ?_
        refine lv_goto (tgt := 58) hx hb dX12_lacks_50 (by decide) ?_
        obtain ⟨rfl, rfl⟩ := sj2 hF
        exact hfin _ _ _ _ (wdW rfl hW) hS dX12_lacks_58
    · have hF := ie c36 hF
      refine lv_aload_n hx hb dX12_lacks_25 rfl (lv_at hl 0 rfl) ?_
      refine lv_iconst (v := 3) hx hb dX12_lacks_26 (by decide) ?_
      obtain ⟨q34, e29, hF⟩ := bn hF
      obtain ⟨x35, d33⟩ := q34
      have hF := u2d hF
      refine rc_i (Af := fun φ => [.ref (φ 12 i0), .int 3]) X hW hS ⟨Nat.zero_le _, Nat.zero_le _⟩ (rn_V (As := [.int 3]) (rest := []) X hW hS cw_12_149 al_0 rfl rfl rfl ⟨Nat.le_of_ble_eq_true rfl, Nat.le_of_ble_eq_true rfl⟩ rfl hl.1 rfl (Nat.le_of_ble_eq_true rfl) dX12_lacks_27) (ok_X12_met i0 3 al_0 e29) (fun H locs hW hS => ?_)
      obtain ⟨h30, e32, hF⟩ := nmx hF
      have hW := nmW e32 hW
      have g31 : h30.2.2 = h.2.2 := by rw [e32]; exact rfl
      obtain ⟨rfl, rfl⟩ := sj2 hF
      exact hfin _ _ _ _ (wdW g31 hW) hS dX12_lacks_30
  · have hF := ie c44 hF
    refine lv_aload_n hx hb dX12_lacks_9 rfl (lv_at hl 0 rfl) ?_
    refine lv_iconst (v := 1) hx hb dX12_lacks_10 (by decide) ?_
    obtain ⟨q42, e37, hF⟩ := bn hF
    obtain ⟨x43, d41⟩ := q42
    have hF := u2d hF
    refine rc_i (Af := fun φ => [.ref (φ 12 i0), .int 1]) X hW hS ⟨Nat.zero_le _, Nat.zero_le _⟩ (rn_V (As := [.int 1]) (rest := []) X hW hS cw_12_149 al_0 rfl rfl rfl ⟨Nat.le_of_ble_eq_true rfl, Nat.le_of_ble_eq_true rfl⟩ rfl hl.1 rfl (Nat.le_of_ble_eq_true rfl) dX12_lacks_11) (ok_X12_met i0 1 al_0 e37) (fun H locs hW hS => ?_)
    obtain ⟨h38, e40, hF⟩ := nmx hF
    have hW := nmW e40 hW
    have g39 : h38.2.2 = h.2.2 := by rw [e40]; exact rfl
    obtain ⟨rfl, rfl⟩ := sj2 hF
    exact hfin _ _ _ _ (wdW g39 hW) hS dX12_lacks_14
def F_X12_cut (a0 : Int32) (a1 : Int32) : Option (Int32) :=
  (if a0 = 0 then
  some ((a1).toInt8.toInt32)
  else
  (if a0 = 1 then
  some ((a1).toInt16.toInt32)
  else
  some a1))
set_option maxHeartbeats 4000000 in
set_option maxRecDepth 100000 in
theorem ok_X12_cut {l : Launch} {D : va_G} {cA : Nat → ClassId} {h : HP} {r : Int32}  (a0 : Int32) (a1 : Int32)  (hF : F_X12_cut a0 a1 = some r) : MI l D cA yX12_cut cX12_cut 2 (some .int) 0 0 (fun φ => [.int a0, .int a1]) h r h := by
  refine mk_I (plainFor_of_name (by decide)) (fun φ => Nat.le_of_ble_eq_true rfl) ?_
  intro p e s m args below meth c ls φ A Q X hW hS hl hfin
  have hx := X.1
  have hb := X.2.1
  have hl : lv_has ls 2 [(0, .int a0), (1, .int a1)] := hl
  unfold F_X12_cut at hF
  refine lv_iload_n hx hb dX12_cut_0 rfl (lv_at hl 0 rfl) ?_
  refine lv_if_ne (tgt := 9) hx hb dX12_cut_1 (by decide) (fun c2 => ?_) (fun c2 => ?_)
  · have hF := ie c2 hF
    refine lv_iload_n hx hb dX12_cut_9 rfl (lv_at hl 0 rfl) ?_
    refine lv_iconst (v := 1) hx hb dX12_cut_10 (by decide) ?_
    refine lv_icmp_ne (tgt := 19) hx hb dX12_cut_11 (by decide) (fun c1 => ?_) (fun c1 => ?_)
    · have hF := ie c1 hF
      refine lv_iload_n hx hb dX12_cut_19 rfl (lv_at hl 1 rfl) ?_
      obtain rfl := sj hF
      exact hfin _ _ _ _ hW hS dX12_cut_20
    · have hF := it c1 hF
      refine lv_iload_n hx hb dX12_cut_14 rfl (lv_at hl 1 rfl) ?_
      refine lv_i2s (v := (a1).toInt16.toInt32) hx hb dX12_cut_15 rfl ?_
      refine lv_goto (tgt := 20) hx hb dX12_cut_16 (by decide) ?_
      obtain rfl := sj hF
      exact hfin _ _ _ _ hW hS dX12_cut_20
  · have hF := it c2 hF
    refine lv_iload_n hx hb dX12_cut_4 rfl (lv_at hl 1 rfl) ?_
    refine lv_i2b (v := (a1).toInt8.toInt32) hx hb dX12_cut_5 rfl ?_
    refine lv_goto (tgt := 20) hx hb dX12_cut_6 (by decide) ?_
    obtain rfl := sj hF
    exact hfin _ _ _ _ hW hS dX12_cut_20
def F_X12_put (i0 : Nat) (a1 : Int32) (a2 : Int32) (a3 : Int32) (a4 : Int32) (h : HP) : Option (Int32 × DP) :=
  (F_X12_isSheet a1).bind fun x2 =>
  (if x2 = 0 then
  some ((-2), dp h)
  else
  (F_X12_in ((a2).toInt64) 0 2).bind fun x4 =>
  (if x4 = 0 then
  some ((-2), dp h)
  else
  (F_X12_lacks i0 a1 a2 a3 h).bind fun q10 => u2 q10 fun x11 d9 => nm (wd h d9) fun h6 =>
  (if x11 = 0 then
  (gr h6 12 i0 2).bind fun o12 =>
  (F_X12_cut a2 a4).bind fun x16 =>
  (sa h6 47 o12 240 ((60 * a1) + a3) x16).bind fun h17 =>
  some (1, dp h17)
  else
  some (x11, dp h6))))
set_option maxHeartbeats 4000000 in
set_option maxRecDepth 100000 in
theorem ok_X12_put {l : Launch} {D : va_G} {cA : Nat → ClassId} {h : HP} {r : Int32} {d : DP} (i0 : Nat) (a1 : Int32) (a2 : Int32) (a3 : Int32) (a4 : Int32) (al_0 : i0 < gn h 12) (hF : F_X12_put i0 a1 a2 a3 a4 h = some (r, d)) : MI l D cA yX12_put cX12_put 6 (some .int) 2 48 (fun φ => [.ref (φ 12 i0), .int a1, .int a2, .int a3, .int a4]) h r (wd h d) := by
  refine mk_I (plainFor_of_name (by decide)) (fun φ => Nat.le_of_ble_eq_true rfl) ?_
  intro p e s m args below meth c ls φ A Q X hW hS hl hfin
  have hx := X.1
  have hb := X.2.1
  have hl : lv_has ls 6 [(0, .ref (φ 12 i0)), (1, .int a1), (2, .int a2), (3, .int a3), (4, .int a4)] := hl
  unfold F_X12_put at hF
  refine lv_iload_n hx hb dX12_put_0 rfl (lv_at hl 1 rfl) ?_
  obtain ⟨x2, e1, hF⟩ := bn hF
  refine rc_i (Af := fun φ => [.int a1]) X hW hS ⟨Nat.zero_le _, Nat.zero_le _⟩ (rn_S (As := [.int a1]) (rest := []) X hW hS cw_12_143 ⟨Nat.le_of_ble_eq_true rfl, Nat.le_of_ble_eq_true rfl⟩ rfl hl.1 rfl (Nat.le_of_ble_eq_true rfl) dX12_put_1) (ok_X12_isSheet a1 e1) (fun H locs hW hS => ?_)
  refine lv_if_eq (tgt := 19) hx hb dX12_put_4 (by decide) (fun c23 => ?_) (fun c23 => ?_)
  · have hF := it c23 hF
    refine lv_bipush (v := (-2)) hx hb dX12_put_19 (by decide) ?_
    obtain ⟨rfl, rfl⟩ := sj2 hF
    exact hfin _ _ _ _ (wdW rfl hW) hS dX12_put_21
  · have hF := ie c23 hF
    refine lv_iload_n hx hb dX12_put_7 rfl (lv_at hl 2 rfl) ?_
    refine lv_i2l (v := (a2).toInt64) hx hb dX12_put_8 rfl ?_
    refine lv_lconst (v := 0) hx hb dX12_put_9 (by decide) ?_
    refine lv_ldc2 (v := 2) hx hb X.2.2.2.1 (X.2.2.2.2.1 _ (AL_of 1179 (by decide +kernel) rfl)) dX12_put_10 ?_
    obtain ⟨x4, e3, hF⟩ := bn hF
    refine rc_i (Af := fun φ => [.long ((a2).toInt64), .long 0, .long 2]) X hW hS ⟨Nat.zero_le _, Nat.zero_le _⟩ (rn_S (As := [.long ((a2).toInt64), .long 0, .long 2]) (rest := []) X hW hS cw_12_139 ⟨Nat.le_of_ble_eq_true rfl, Nat.le_of_ble_eq_true rfl⟩ rfl hl.1 rfl (Nat.le_of_ble_eq_true rfl) dX12_put_13) (ok_X12_in ((a2).toInt64) 0 2 e3) (fun H locs hW hS => ?_)
    refine lv_if_ne (tgt := 22) hx hb dX12_put_16 (by decide) (fun c22 => ?_) (fun c22 => ?_)
    · have hF := ie c22 hF
      refine lv_aload_n hx hb dX12_put_22 rfl (lv_at hl 0 rfl) ?_
      refine lv_iload_n hx hb dX12_put_23 rfl (lv_at hl 1 rfl) ?_
      refine lv_iload_n hx hb dX12_put_24 rfl (lv_at hl 2 rfl) ?_
      refine lv_iload_n hx hb dX12_put_25 rfl (lv_at hl 3 rfl) ?_
      obtain ⟨q10, e5, hF⟩ := bn hF
      obtain ⟨x11, d9⟩ := q10
      have hF := u2d hF
      refine rc_i (Af := fun φ => [.ref (φ 12 i0), .int a1, .int a2, .int a3]) X hW hS ⟨Nat.zero_le _, Nat.zero_le _⟩ (rn_V (As := [.int a1, .int a2, .int a3]) (rest := []) X hW hS cw_12_153 al_0 rfl rfl rfl ⟨Nat.le_of_ble_eq_true rfl, Nat.le_of_ble_eq_true rfl⟩ rfl hl.1 rfl (Nat.le_of_ble_eq_true rfl) dX12_put_26) (ok_X12_lacks i0 a1 a2 a3 al_0 e5) (fun H locs hW hS => ?_)
      obtain ⟨h6, e8, hF⟩ := nmx hF
      have hW := nmW e8 hW
      have g7 : h6.2.2 = h.2.2 := by rw [e8]; exact rfl
      refine lv_istore (lv' := [(5, .int x11), (0, .ref (φ 12 i0)), (1, .int a1), (2, .int a2), (3, .int a3), (4, .int a4)]) hx hb dX12_put_29 hl (by decide) rfl (fun ls hl => ?_)
      refine lv_iload hx hb dX12_put_31 (lv_at hl 0 rfl) ?_
      refine lv_if_eq (tgt := 39) hx hb dX12_put_33 (by decide) (fun c21 => ?_) (fun c21 => ?_)
      · have hF := it c21 hF
        refine lv_aload_n hx hb dX12_put_39 rfl (lv_at hl 1 rfl) ?_
        obtain ⟨o12, e13, hF⟩ := bn hF
        refine r_getr X hW (gq g7 al_0) fl_12_16 e13 dX12_put_40 (fun al14 => ?_)
        have al14 := qg g7 al14
        refine lv_bipush (v := 60) hx hb dX12_put_43 (by decide) ?_
        refine lv_iload_n hx hb dX12_put_45 rfl (lv_at hl 2 rfl) ?_
        refine lv_imul hx hb dX12_put_46 ?_
        refine lv_iload_n hx hb dX12_put_47 rfl (lv_at hl 4 rfl) ?_
        refine lv_iadd hx hb dX12_put_48 ?_
        refine lv_iload_n hx hb dX12_put_49 rfl (lv_at hl 3 rfl) ?_
        refine lv_iload hx hb dX12_put_50 (lv_at hl 5 rfl) ?_
        obtain ⟨x16, e15, hF⟩ := bn hF
        refine rc_i (Af := fun φ => [.int a2, .int a4]) X hW hS ⟨Nat.zero_le _, Nat.zero_le _⟩ (rn_S (As := [.int a2, .int a4]) (rest := [.int ((60 * a1) + a3), .ref (φ 47 o12)]) X hW hS cw_12_157 ⟨Nat.le_of_ble_eq_true rfl, Nat.le_of_ble_eq_true rfl⟩ rfl hl.1 rfl (Nat.le_of_ble_eq_true rfl) dX12_put_52) (ok_X12_cut a2 a4 e15) (fun H locs hW hS => ?_)
        obtain ⟨h17, e18, hF⟩ := bn hF
        obtain ⟨b19, e18⟩ := sa_s e18
        refine r_iast X hW hS (gq g7 al14) rfl b19 dX12_put_55 (fun H locs hW hS => ?_)
        have hW := nmW e18 hW
        have g20 : h17.2.2 = h.2.2 := by rw [e18]; exact g7
        refine lv_iconst (v := 1) hx hb dX12_put_56 (by decide) ?_
        obtain ⟨rfl, rfl⟩ := sj2 hF
        exact hfin _ _ _ _ (wdW g20 hW) hS dX12_put_57
      · have hF := ie c21 hF
        refine lv_iload hx hb dX12_put_36 (lv_at hl 0 rfl) ?_
        obtain ⟨rfl, rfl⟩ := sj2 hF
        exact hfin _ _ _ _ (wdW g7 hW) hS dX12_put_38
    · have hF := it c22 hF
      refine lv_bipush (v := (-2)) hx hb dX12_put_19 (by decide) ?_
      obtain ⟨rfl, rfl⟩ := sj2 hF
      exact hfin _ _ _ _ (wdW rfl hW) hS dX12_put_21
def F_X12_get (i0 : Nat) (a1 : Int32) (a2 : Int32) (a3 : Int32) (h : HP) : Option (Int32 × DP) :=
  (F_X12_isSheet a1).bind fun x2 =>
  (if x2 = 0 then
  some ((-2147483648), dp h)
  else
  (F_X12_in ((a2).toInt64) 0 2).bind fun x4 =>
  (if x4 = 0 then
  some ((-2147483648), dp h)
  else
  (F_X12_lacks i0 a1 a2 a3 h).bind fun q10 => u2 q10 fun x11 d9 => nm (wd h d9) fun h6 =>
  (if x11 = 0 then
  (gr h6 12 i0 2).bind fun o12 =>
  (ga h6 47 o12 240 ((60 * a1) + a3)).bind fun x15 =>
  some (x15, dp h6)
  else
  some ((-2147483648), dp h6))))
set_option maxHeartbeats 4000000 in
set_option maxRecDepth 100000 in
theorem ok_X12_get {l : Launch} {D : va_G} {cA : Nat → ClassId} {h : HP} {r : Int32} {d : DP} (i0 : Nat) (a1 : Int32) (a2 : Int32) (a3 : Int32) (al_0 : i0 < gn h 12) (hF : F_X12_get i0 a1 a2 a3 h = some (r, d)) : MI l D cA yX12_get cX12_get 4 (some .int) 2 48 (fun φ => [.ref (φ 12 i0), .int a1, .int a2, .int a3]) h r (wd h d) := by
  refine mk_I (plainFor_of_name (by decide)) (fun φ => Nat.le_of_ble_eq_true rfl) ?_
  intro p e s m args below meth c ls φ A Q X hW hS hl hfin
  have hx := X.1
  have hb := X.2.1
  have hl : lv_has ls 4 [(0, .ref (φ 12 i0)), (1, .int a1), (2, .int a2), (3, .int a3)] := hl
  unfold F_X12_get at hF
  refine lv_iload_n hx hb dX12_get_0 rfl (lv_at hl 1 rfl) ?_
  obtain ⟨x2, e1, hF⟩ := bn hF
  refine rc_i (Af := fun φ => [.int a1]) X hW hS ⟨Nat.zero_le _, Nat.zero_le _⟩ (rn_S (As := [.int a1]) (rest := []) X hW hS cw_12_143 ⟨Nat.le_of_ble_eq_true rfl, Nat.le_of_ble_eq_true rfl⟩ rfl hl.1 rfl (Nat.le_of_ble_eq_true rfl) dX12_get_1) (ok_X12_isSheet a1 e1) (fun H locs hW hS => ?_)
  refine lv_if_eq (tgt := 29) hx hb dX12_get_4 (by decide) (fun c20 => ?_) (fun c20 => ?_)
  · have hF := it c20 hF
    refine lv_ldc (v := (-2147483648)) hx hb X.2.2.2.1 (X.2.2.2.2.1 _ (AL_of 1203 (by decide +kernel) rfl)) dX12_get_29 ?_
    obtain ⟨rfl, rfl⟩ := sj2 hF
    exact hfin _ _ _ _ (wdW rfl hW) hS dX12_get_31
  · have hF := ie c20 hF
    refine lv_iload_n hx hb dX12_get_7 rfl (lv_at hl 2 rfl) ?_
    refine lv_i2l (v := (a2).toInt64) hx hb dX12_get_8 rfl ?_
    refine lv_lconst (v := 0) hx hb dX12_get_9 (by decide) ?_
    refine lv_ldc2 (v := 2) hx hb X.2.2.2.1 (X.2.2.2.2.1 _ (AL_of 1179 (by decide +kernel) rfl)) dX12_get_10 ?_
    obtain ⟨x4, e3, hF⟩ := bn hF
    refine rc_i (Af := fun φ => [.long ((a2).toInt64), .long 0, .long 2]) X hW hS ⟨Nat.zero_le _, Nat.zero_le _⟩ (rn_S (As := [.long ((a2).toInt64), .long 0, .long 2]) (rest := []) X hW hS cw_12_139 ⟨Nat.le_of_ble_eq_true rfl, Nat.le_of_ble_eq_true rfl⟩ rfl hl.1 rfl (Nat.le_of_ble_eq_true rfl) dX12_get_13) (ok_X12_in ((a2).toInt64) 0 2 e3) (fun H locs hW hS => ?_)
    refine lv_if_eq (tgt := 29) hx hb dX12_get_16 (by decide) (fun c19 => ?_) (fun c19 => ?_)
    · have hF := it c19 hF
      refine lv_ldc (v := (-2147483648)) hx hb X.2.2.2.1 (X.2.2.2.2.1 _ (AL_of 1203 (by decide +kernel) rfl)) dX12_get_29 ?_
      obtain ⟨rfl, rfl⟩ := sj2 hF
      exact hfin _ _ _ _ (wdW rfl hW) hS dX12_get_31
    · have hF := ie c19 hF
      refine lv_aload_n hx hb dX12_get_19 rfl (lv_at hl 0 rfl) ?_
      refine lv_iload_n hx hb dX12_get_20 rfl (lv_at hl 1 rfl) ?_
      refine lv_iload_n hx hb dX12_get_21 rfl (lv_at hl 2 rfl) ?_
      refine lv_iload_n hx hb dX12_get_22 rfl (lv_at hl 3 rfl) ?_
      obtain ⟨q10, e5, hF⟩ := bn hF
      obtain ⟨x11, d9⟩ := q10
      have hF := u2d hF
      refine rc_i (Af := fun φ => [.ref (φ 12 i0), .int a1, .int a2, .int a3]) X hW hS ⟨Nat.zero_le _, Nat.zero_le _⟩ (rn_V (As := [.int a1, .int a2, .int a3]) (rest := []) X hW hS cw_12_153 al_0 rfl rfl rfl ⟨Nat.le_of_ble_eq_true rfl, Nat.le_of_ble_eq_true rfl⟩ rfl hl.1 rfl (Nat.le_of_ble_eq_true rfl) dX12_get_23) (ok_X12_lacks i0 a1 a2 a3 al_0 e5) (fun H locs hW hS => ?_)
      obtain ⟨h6, e8, hF⟩ := nmx hF
      have hW := nmW e8 hW
      have g7 : h6.2.2 = h.2.2 := by rw [e8]; exact rfl
      refine lv_if_eq (tgt := 32) hx hb dX12_get_26 (by decide) (fun c18 => ?_) (fun c18 => ?_)
      · have hF := it c18 hF
        refine lv_aload_n hx hb dX12_get_32 rfl (lv_at hl 0 rfl) ?_
        obtain ⟨o12, e13, hF⟩ := bn hF
        refine r_getr X hW (gq g7 al_0) fl_12_16 e13 dX12_get_33 (fun al14 => ?_)
        have al14 := qg g7 al14
        refine lv_bipush (v := 60) hx hb dX12_get_36 (by decide) ?_
        refine lv_iload_n hx hb dX12_get_38 rfl (lv_at hl 1 rfl) ?_
        refine lv_imul hx hb dX12_get_39 ?_
        refine lv_iload_n hx hb dX12_get_40 rfl (lv_at hl 3 rfl) ?_
        refine lv_iadd hx hb dX12_get_41 ?_
        obtain ⟨x15, e16, hF⟩ := bn hF
        obtain ⟨b17, e16⟩ := ga_s e16
        refine r_iald X hW (gq g7 al14) rfl b17 dX12_get_42 ?_
        refine nmi e16 ?_
        obtain ⟨rfl, rfl⟩ := sj2 hF
        exact hfin _ _ _ _ (wdW g7 hW) hS dX12_get_43
      · have hF := ie c18 hF
        refine lv_ldc (v := (-2147483648)) hx hb X.2.2.2.1 (X.2.2.2.2.1 _ (AL_of 1203 (by decide +kernel) rfl)) dX12_get_29 ?_
        obtain ⟨rfl, rfl⟩ := sj2 hF
        exact hfin _ _ _ _ (wdW g7 hW) hS dX12_get_31
def J_X12_copy_111 (i0 : Nat) (hj111 : HP) : Option (Int32 × DP) :=
  (F_X12_met i0 2 hj111).bind fun q6 => u2 q6 fun x7 d5 => nm (wd hj111 d5) fun h2 =>
  some (x7, dp h2)
def J_X12_copy_35 (i0 : Nat) (hj35 : HP) : Option (Int32 × DP) :=
  (F_X12_met i0 1 hj35).bind fun q13 => u2 q13 fun x14 d12 => nm (wd hj35 d12) fun h9 =>
  some (x14, dp h9)
def B_X12_copy_120 (i0 : Nat) (a1 : Int32) (a2 : Int32) (a3 : Int32) (a4 : Int32) (a5 : Int32) (h : HP) (q : Int32 × DP) : Option ((Int32 × DP) ⊕ (DP)) :=
  u2 q fun x55 d58 =>
  nm (wd h d58) fun h56 =>
  (if a5 ≤ x55 then
  some (.inr (dp h56))
  else
  (gr h56 12 i0 3).bind fun o59 =>
  (gr h56 12 i0 2).bind fun o62 =>
  (ga h56 47 o62 240 (((60 * a1) + a2) + x55)).bind fun x65 =>
  (sa h56 48 o59 60 x55 x65).bind fun h68 =>
  nm (x55 + 1) fun x72 =>
  some (.inl (x72, (dp h68))))
def B_X12_copy_157 (i0 : Nat) (a3 : Int32) (a4 : Int32) (a5 : Int32) (h79 : HP) (q : Int32 × DP) : Option ((Int32 × DP) ⊕ (DP)) :=
  u2 q fun x81 d84 =>
  nm (wd h79 d84) fun h82 =>
  (if a5 ≤ x81 then
  some (.inr (dp h82))
  else
  (gr h82 12 i0 2).bind fun o85 =>
  (gr h82 12 i0 3).bind fun o88 =>
  (ga h82 48 o88 60 x81).bind fun x91 =>
  (sa h82 47 o85 240 (((60 * a3) + a4) + x81) x91).bind fun h94 =>
  nm (x81 + 1) fun x98 =>
  some (.inl (x98, (dp h94))))
def F_X12_copy (i0 : Nat) (a1 : Int32) (a2 : Int32) (a3 : Int32) (a4 : Int32) (a5 : Int32) (h : HP) : Option (Int32 × DP) :=
  (F_X12_isSheet a1).bind fun x16 =>
  (if x16 = 0 then
  some ((-2), dp h)
  else
  (F_X12_isSheet a3).bind fun x18 =>
  (if x18 = 0 then
  some ((-2), dp h)
  else
  (gr h 12 i0 0).bind fun o19 =>
  (ga h 45 o19 4 a1).bind fun x22 =>
  (if x22 < 0 then
  J_X12_copy_35 i0 h
  else
  (gr h 12 i0 0).bind fun o25 =>
  (ga h 45 o25 4 a3).bind fun x28 =>
  (if 0 ≤ x28 then
  (gr h 12 i0 0).bind fun o31 =>
  (ga h 45 o31 4 a1).bind fun x34 =>
  (gr h 12 i0 0).bind fun o37 =>
  (ga h 45 o37 4 a3).bind fun x40 =>
  (if x34 = x40 then
  (if a2 < 0 then
  J_X12_copy_111 i0 h
  else
  (if a4 < 0 then
  J_X12_copy_111 i0 h
  else
  (if a5 < 0 then
  J_X12_copy_111 i0 h
  else
  (gr h 12 i0 1).bind fun o43 =>
  (ga h 46 o43 4 a1).bind fun x46 =>
  (if 0 < (lg_cmp ((a2).toInt64 + (a5).toInt64) ((x46).toInt64)) then
  J_X12_copy_111 i0 h
  else
  (gr h 12 i0 1).bind fun o49 =>
  (ga h 46 o49 4 a3).bind fun x52 =>
  (if (lg_cmp ((a4).toInt64 + (a5).toInt64) ((x52).toInt64)) ≤ 0 then
  (loopN LF (B_X12_copy_120 i0 a1 a2 a3 a4 a5 h) (0, (dp h))).bind fun d78 =>
  nm (wd h d78) fun h79 =>
  (loopN LF (B_X12_copy_157 i0 a3 a4 a5 h79) (0, (dp h79))).bind fun d104 =>
  nm (wd h79 d104) fun h105 =>
  some (1, dp h105)
  else
  J_X12_copy_111 i0 h)))))
  else
  (F_X12_met i0 4 h).bind fun q119 => u2 q119 fun x120 d118 => nm (wd h d118) fun h115 =>
  some (x120, dp h115))
  else
  J_X12_copy_35 i0 h))))
set_option maxHeartbeats 4000000 in
set_option maxRecDepth 100000 in
theorem ok_X12_copy {l : Launch} {D : va_G} {cA : Nat → ClassId} {h : HP} {r : Int32} {d : DP} (i0 : Nat) (a1 : Int32) (a2 : Int32) (a3 : Int32) (a4 : Int32) (a5 : Int32) (al_0 : i0 < gn h 12) (hF : F_X12_copy i0 a1 a2 a3 a4 a5 h = some (r, d)) : MI l D cA yX12_copy cX12_copy 7 (some .int) 2 45 (fun φ => [.ref (φ 12 i0), .int a1, .int a2, .int a3, .int a4, .int a5]) h r (wd h d) := by
  refine mk_I (plainFor_of_name (by decide)) (fun φ => Nat.le_of_ble_eq_true rfl) ?_
  intro p e s m args below meth c ls φ A Q X hW hS hl hfin
  have hx := X.1
  have hb := X.2.1
  have hl : lv_has ls 7 [(0, .ref (φ 12 i0)), (1, .int a1), (2, .int a2), (3, .int a3), (4, .int a4), (5, .int a5)] := hl
  unfold F_X12_copy at hF
  have j_111 : ∀ (hj111 : HP) (H : Heap) (locs : List Loc) (ls : Array Slot), hj111.2.2 = h.2.2 → J_X12_copy_111 i0 hj111 = some (r, d) → HW D cA A φ hj111 H → va_S A s.heap H locs → lv_has ls 7 [(0, .ref (φ 12 i0))] → W p l e (rmo 2 45 0 0) s m args below meth c H locs 0 0 Q (F0 m 111 ls []) := by
    intro hj111 H locs ls gj111 hF hW hS hl
    unfold J_X12_copy_111 at hF
    refine lv_aload_n hx hb dX12_copy_111 rfl (lv_at hl 0 rfl) ?_
    refine lv_iconst (v := 2) hx hb dX12_copy_112 (by decide) ?_
    obtain ⟨q6, e1, hF⟩ := bn hF
    obtain ⟨x7, d5⟩ := q6
    have hF := u2d hF
    refine rc_i (Af := fun φ => [.ref (φ 12 i0), .int 2]) X hW hS ⟨Nat.zero_le _, Nat.zero_le _⟩ (rn_V (As := [.int 2]) (rest := []) X hW hS cw_12_149 (gq gj111 al_0) rfl rfl rfl ⟨Nat.le_of_ble_eq_true rfl, Nat.le_of_ble_eq_true rfl⟩ rfl hl.1 rfl (Nat.le_of_ble_eq_true rfl) dX12_copy_113) (ok_X12_met i0 2 (gq gj111 al_0) e1) (fun H locs hW hS => ?_)
    obtain ⟨h2, e4, hF⟩ := nmx hF
    have hW := nmW e4 hW
    have g3 : h2.2.2 = h.2.2 := by rw [e4]; exact gj111
    obtain ⟨rfl, rfl⟩ := sj2 hF
    exact hfin _ _ _ _ (wdW g3 hW) hS dX12_copy_116
  have j_35 : ∀ (hj35 : HP) (H : Heap) (locs : List Loc) (ls : Array Slot), hj35.2.2 = h.2.2 → J_X12_copy_35 i0 hj35 = some (r, d) → HW D cA A φ hj35 H → va_S A s.heap H locs → lv_has ls 7 [(0, .ref (φ 12 i0))] → W p l e (rmo 2 45 0 0) s m args below meth c H locs 0 0 Q (F0 m 35 ls []) := by
    intro hj35 H locs ls gj35 hF hW hS hl
    unfold J_X12_copy_35 at hF
    refine lv_aload_n hx hb dX12_copy_35 rfl (lv_at hl 0 rfl) ?_
    refine lv_iconst (v := 1) hx hb dX12_copy_36 (by decide) ?_
    obtain ⟨q13, e8, hF⟩ := bn hF
    obtain ⟨x14, d12⟩ := q13
    have hF := u2d hF
    refine rc_i (Af := fun φ => [.ref (φ 12 i0), .int 1]) X hW hS ⟨Nat.zero_le _, Nat.zero_le _⟩ (rn_V (As := [.int 1]) (rest := []) X hW hS cw_12_149 (gq gj35 al_0) rfl rfl rfl ⟨Nat.le_of_ble_eq_true rfl, Nat.le_of_ble_eq_true rfl⟩ rfl hl.1 rfl (Nat.le_of_ble_eq_true rfl) dX12_copy_37) (ok_X12_met i0 1 (gq gj35 al_0) e8) (fun H locs hW hS => ?_)
    obtain ⟨h9, e11, hF⟩ := nmx hF
    have hW := nmW e11 hW
    have g10 : h9.2.2 = h.2.2 := by rw [e11]; exact gj35
    obtain ⟨rfl, rfl⟩ := sj2 hF
    exact hfin _ _ _ _ (wdW g10 hW) hS dX12_copy_40
  refine lv_iload_n hx hb dX12_copy_0 rfl (lv_at hl 1 rfl) ?_
  obtain ⟨x16, e15, hF⟩ := bn hF
  refine rc_i (Af := fun φ => [.int a1]) X hW hS ⟨Nat.zero_le _, Nat.zero_le _⟩ (rn_S (As := [.int a1]) (rest := []) X hW hS cw_12_143 ⟨Nat.le_of_ble_eq_true rfl, Nat.le_of_ble_eq_true rfl⟩ rfl hl.1 rfl (Nat.le_of_ble_eq_true rfl) dX12_copy_1) (ok_X12_isSheet a1 e15) (fun H locs hW hS => ?_)
  refine lv_if_eq (tgt := 14) hx hb dX12_copy_4 (by decide) (fun c125 => ?_) (fun c125 => ?_)
  · have hF := it c125 hF
    refine lv_bipush (v := (-2)) hx hb dX12_copy_14 (by decide) ?_
    obtain ⟨rfl, rfl⟩ := sj2 hF
    exact hfin _ _ _ _ (wdW rfl hW) hS dX12_copy_16
  · have hF := ie c125 hF
    refine lv_iload_n hx hb dX12_copy_7 rfl (lv_at hl 3 rfl) ?_
    obtain ⟨x18, e17, hF⟩ := bn hF
    refine rc_i (Af := fun φ => [.int a3]) X hW hS ⟨Nat.zero_le _, Nat.zero_le _⟩ (rn_S (As := [.int a3]) (rest := []) X hW hS cw_12_143 ⟨Nat.le_of_ble_eq_true rfl, Nat.le_of_ble_eq_true rfl⟩ rfl hl.1 rfl (Nat.le_of_ble_eq_true rfl) dX12_copy_8) (ok_X12_isSheet a3 e17) (fun H locs hW hS => ?_)
    refine lv_if_ne (tgt := 17) hx hb dX12_copy_11 (by decide) (fun c124 => ?_) (fun c124 => ?_)
    · have hF := ie c124 hF
      refine lv_aload_n hx hb dX12_copy_17 rfl (lv_at hl 0 rfl) ?_
      obtain ⟨o19, e20, hF⟩ := bn hF
      refine r_getr X hW al_0 fl_12_7 e20 dX12_copy_18 (fun al21 => ?_)
      refine lv_iload_n hx hb dX12_copy_21 rfl (lv_at hl 1 rfl) ?_
      obtain ⟨x22, e23, hF⟩ := bn hF
      obtain ⟨b24, e23⟩ := ga_s e23
      refine r_iald X hW al21 rfl b24 dX12_copy_22 ?_
      refine nmi e23 ?_
      refine lv_if_lt (tgt := 35) hx hb dX12_copy_23 (by decide) (fun c123 => ?_) (fun c123 => ?_)
      · have hF := it c123 hF
        exact j_35 h _ _ _ rfl hF hW hS (lv_sub hl [0] rfl)
      · have hF := ie c123 hF
        refine lv_aload_n hx hb dX12_copy_26 rfl (lv_at hl 0 rfl) ?_
        obtain ⟨o25, e26, hF⟩ := bn hF
        refine r_getr X hW al_0 fl_12_7 e26 dX12_copy_27 (fun al27 => ?_)
        refine lv_iload_n hx hb dX12_copy_30 rfl (lv_at hl 3 rfl) ?_
        obtain ⟨x28, e29, hF⟩ := bn hF
        obtain ⟨b30, e29⟩ := ga_s e29
        refine r_iald X hW al27 rfl b30 dX12_copy_31 ?_
        refine nmi e29 ?_
        refine lv_if_ge (tgt := 41) hx hb dX12_copy_32 (by decide) (fun c122 => ?_) (fun c122 => ?_)
        · have hF := it c122 hF
          refine lv_aload_n hx hb dX12_copy_41 rfl (lv_at hl 0 rfl) ?_
          obtain ⟨o31, e32, hF⟩ := bn hF
          refine r_getr X hW al_0 fl_12_7 e32 dX12_copy_42 (fun al33 => ?_)
          refine lv_iload_n hx hb dX12_copy_45 rfl (lv_at hl 1 rfl) ?_
          obtain ⟨x34, e35, hF⟩ := bn hF
          obtain ⟨b36, e35⟩ := ga_s e35
          refine r_iald X hW al33 rfl b36 dX12_copy_46 ?_
          refine nmi e35 ?_
          refine lv_aload_n hx hb dX12_copy_47 rfl (lv_at hl 0 rfl) ?_
          obtain ⟨o37, e38, hF⟩ := bn hF
          refine r_getr X hW al_0 fl_12_7 e38 dX12_copy_48 (fun al39 => ?_)
          refine lv_iload_n hx hb dX12_copy_51 rfl (lv_at hl 3 rfl) ?_
          obtain ⟨x40, e41, hF⟩ := bn hF
          obtain ⟨b42, e41⟩ := ga_s e41
          refine r_iald X hW al39 rfl b42 dX12_copy_52 ?_
          refine nmi e41 ?_
          refine lv_icmp_eq (tgt := 62) hx hb dX12_copy_53 (by decide) (fun c121 => ?_) (fun c121 => ?_)
          · have hF := it c121 hF
            refine lv_iload_n hx hb dX12_copy_62 rfl (lv_at hl 2 rfl) ?_
            refine lv_if_lt (tgt := 111) hx hb dX12_copy_63 (by decide) (fun c113 => ?_) (fun c113 => ?_)
            · have hF := it c113 hF
              exact j_111 h _ _ _ rfl hF hW hS (lv_sub hl [0] rfl)
            · have hF := ie c113 hF
              refine lv_iload hx hb dX12_copy_66 (lv_at hl 4 rfl) ?_
              refine lv_if_lt (tgt := 111) hx hb dX12_copy_68 (by decide) (fun c112 => ?_) (fun c112 => ?_)
              · have hF := it c112 hF
                exact j_111 h _ _ _ rfl hF hW hS (lv_sub hl [0] rfl)
              · have hF := ie c112 hF
                refine lv_iload hx hb dX12_copy_71 (lv_at hl 5 rfl) ?_
                refine lv_if_lt (tgt := 111) hx hb dX12_copy_73 (by decide) (fun c111 => ?_) (fun c111 => ?_)
                · have hF := it c111 hF
                  exact j_111 h _ _ _ rfl hF hW hS (lv_sub hl [0] rfl)
                · have hF := ie c111 hF
                  refine lv_iload_n hx hb dX12_copy_76 rfl (lv_at hl 2 rfl) ?_
                  refine lv_i2l (v := (a2).toInt64) hx hb dX12_copy_77 rfl ?_
                  refine lv_iload hx hb dX12_copy_78 (lv_at hl 5 rfl) ?_
                  refine lv_i2l (v := (a5).toInt64) hx hb dX12_copy_80 rfl ?_
                  refine lv_ladd hx hb dX12_copy_81 ?_
                  refine lv_aload_n hx hb dX12_copy_82 rfl (lv_at hl 0 rfl) ?_
                  obtain ⟨o43, e44, hF⟩ := bn hF
                  refine r_getr X hW al_0 fl_12_13 e44 dX12_copy_83 (fun al45 => ?_)
                  refine lv_iload_n hx hb dX12_copy_86 rfl (lv_at hl 1 rfl) ?_
                  obtain ⟨x46, e47, hF⟩ := bn hF
                  obtain ⟨b48, e47⟩ := ga_s e47
                  refine r_iald X hW al45 rfl b48 dX12_copy_87 ?_
                  refine nmi e47 ?_
                  refine lv_i2l (v := (x46).toInt64) hx hb dX12_copy_88 rfl ?_
                  refine W.lcmp hx hb dX12_copy_89 ?_
                  refine lv_if_gt (tgt := 111) hx hb dX12_copy_90 (by decide) (fun c110 => ?_) (fun c110 => ?_)
                  · have hF := it c110 hF
                    exact j_111 h _ _ _ rfl hF hW hS (lv_sub hl [0] rfl)
                  · have hF := ie c110 hF
                    refine lv_iload hx hb dX12_copy_93 (lv_at hl 4 rfl) ?_
                    refine lv_i2l (v := (a4).toInt64) hx hb dX12_copy_95 rfl ?_
                    refine lv_iload hx hb dX12_copy_96 (lv_at hl 5 rfl) ?_
                    refine lv_i2l (v := (a5).toInt64) hx hb dX12_copy_98 rfl ?_
                    refine lv_ladd hx hb dX12_copy_99 ?_
                    refine lv_aload_n hx hb dX12_copy_100 rfl (lv_at hl 0 rfl) ?_
                    obtain ⟨o49, e50, hF⟩ := bn hF
                    refine r_getr X hW al_0 fl_12_13 e50 dX12_copy_101 (fun al51 => ?_)
                    refine lv_iload_n hx hb dX12_copy_104 rfl (lv_at hl 3 rfl) ?_
                    obtain ⟨x52, e53, hF⟩ := bn hF
                    obtain ⟨b54, e53⟩ := ga_s e53
                    refine r_iald X hW al51 rfl b54 dX12_copy_105 ?_
                    refine nmi e53 ?_
                    refine lv_i2l (v := (x52).toInt64) hx hb dX12_copy_106 rfl ?_
                    refine W.lcmp hx hb dX12_copy_107 ?_
                    refine lv_if_le (tgt := 117) hx hb dX12_copy_108 (by decide) (fun c109 => ?_) (fun c109 => ?_)
                    · have hF := it c109 hF
                      refine lv_iconst (v := 0) hx hb dX12_copy_117 (by decide) ?_
                      refine lv_istore (lv' := [(6, .int 0), (0, .ref (φ 12 i0)), (1, .int a1), (2, .int a2), (3, .int a3), (4, .int a4), (5, .int a5)]) hx hb dX12_copy_118 hl (by decide) rfl (fun ls hl => ?_)
                      obtain ⟨q75, e76, hF⟩ := bn hF
                      refine loop_w (f := B_X12_copy_120 i0 a1 a2 a3 a4 a5 h) (Z := fun q => ∀ (H : Heap) (locs : List Loc) (ls : Array Slot), HW D cA A φ (wd h q.2) H → va_S A s.heap H locs → lv_has ls 7 [(0, .ref (φ 12 i0)), (1, .int a1), (2, .int a2), (3, .int a3), (4, .int a4), (5, .int a5), (6, .int (q.1))] → W p l e (rmo 2 45 0 0) s m args below meth c H locs 0 0 Q (F0 m 120 ls [])) (K := fun q => ∀ (H : Heap) (locs : List Loc) (ls : Array Slot), HW D cA A φ (wd h q) H → va_S A s.heap H locs → lv_has ls 7 [(0, .ref (φ 12 i0)), (3, .int a3), (4, .int a4), (5, .int a5)] → W p l e (rmo 2 45 0 0) s m args below meth c H locs 0 0 Q (F0 m 154 ls [])) ?_ LF _ q75 e76 ?_ _ _ _ (wdW rfl hW) hS (lv_sub hl [1, 2, 3, 4, 5, 6, 0] rfl)
                      · intro q v hF hK H locs ls hW hS hl
                        obtain ⟨x55, d58⟩ := q
                        unfold B_X12_copy_120 at hF
                        have hF := u2d hF
                        obtain ⟨h56, e77, hF⟩ := nmx hF
                        have hW := nmW e77 hW
                        have g57 : h56.2.2 = h.2.2 := by rw [e77]; exact rfl
                        have hl : lv_has ls 7 [(0, .ref (φ 12 i0)), (1, .int a1), (2, .int a2), (3, .int a3), (4, .int a4), (5, .int a5), (6, .int x55)] := hl
                        refine lv_iload hx hb dX12_copy_120 (lv_at hl 6 rfl) ?_
                        refine lv_iload hx hb dX12_copy_122 (lv_at hl 5 rfl) ?_
                        refine lv_icmp_ge (tgt := 154) hx hb dX12_copy_124 (by decide) (fun c74 => ?_) (fun c74 => ?_)
                        · have hF := it c74 hF
                          obtain rfl := sj hF
                          exact hK _ _ _ (wdW (sq g57 rfl) hW) hS (lv_sub hl [0, 3, 4, 5] rfl)
                        · have hF := ie c74 hF
                          refine lv_aload_n hx hb dX12_copy_127 rfl (lv_at hl 0 rfl) ?_
                          obtain ⟨o59, e60, hF⟩ := bn hF
                          refine r_getr X hW (gq g57 al_0) fl_12_19 e60 dX12_copy_128 (fun al61 => ?_)
                          have al61 := qg g57 al61
                          refine lv_iload hx hb dX12_copy_131 (lv_at hl 6 rfl) ?_
                          refine lv_aload_n hx hb dX12_copy_133 rfl (lv_at hl 0 rfl) ?_
                          obtain ⟨o62, e63, hF⟩ := bn hF
                          refine r_getr X hW (gq g57 al_0) fl_12_16 e63 dX12_copy_134 (fun al64 => ?_)
                          have al64 := qg g57 al64
                          refine lv_bipush (v := 60) hx hb dX12_copy_137 (by decide) ?_
                          refine lv_iload_n hx hb dX12_copy_139 rfl (lv_at hl 1 rfl) ?_
                          refine lv_imul hx hb dX12_copy_140 ?_
                          refine lv_iload_n hx hb dX12_copy_141 rfl (lv_at hl 2 rfl) ?_
                          refine lv_iadd hx hb dX12_copy_142 ?_
                          refine lv_iload hx hb dX12_copy_143 (lv_at hl 6 rfl) ?_
                          refine lv_iadd hx hb dX12_copy_145 ?_
                          obtain ⟨x65, e66, hF⟩ := bn hF
                          obtain ⟨b67, e66⟩ := ga_s e66
                          refine r_iald X hW (gq g57 al64) rfl b67 dX12_copy_146 ?_
                          refine nmi e66 ?_
                          obtain ⟨h68, e69, hF⟩ := bn hF
                          obtain ⟨b70, e69⟩ := sa_s e69
                          refine r_iast X hW hS (gq g57 al61) rfl b70 dX12_copy_147 (fun H locs hW hS => ?_)
                          have hW := nmW e69 hW
                          have g71 : h68.2.2 = h.2.2 := by rw [e69]; exact g57
                          obtain ⟨x72, e73, hF⟩ := nmx hF
                          refine lv_iinc (v := x72) (lv' := [(6, .int x72), (0, .ref (φ 12 i0)), (1, .int a1), (2, .int a2), (3, .int a3), (4, .int a4), (5, .int a5)]) hx hb dX12_copy_148 hl (k := 6) rfl (by rw [e73]; rfl) (by decide) rfl (fun ls hl => ?_)
                          refine lv_goto (tgt := 120) hx hb dX12_copy_151 (by decide) ?_
                          obtain rfl := sj hF
                          exact hK _ _ _ (wdW (sq g71 rfl) hW) hS (lv_sub hl [1, 2, 3, 4, 5, 6, 0] rfl)
                      · intro H locs ls hW hS hl
                        obtain ⟨d78, rfl⟩ : ∃ z, z = q75 := ⟨_, rfl⟩
                        obtain ⟨h79, e108, hF⟩ := nmx hF
                        have hW := nmW e108 hW
                        have g80 : h79.2.2 = h.2.2 := by rw [e108]; exact rfl
                        have hl : lv_has ls 7 [(0, .ref (φ 12 i0)), (3, .int a3), (4, .int a4), (5, .int a5)] := hl
                        refine lv_iconst (v := 0) hx hb dX12_copy_154 (by decide) ?_
                        refine lv_istore (lv' := [(6, .int 0), (0, .ref (φ 12 i0)), (3, .int a3), (4, .int a4), (5, .int a5)]) hx hb dX12_copy_155 hl (by decide) rfl (fun ls hl => ?_)
                        obtain ⟨q101, e102, hF⟩ := bn hF
                        refine loop_w (f := B_X12_copy_157 i0 a3 a4 a5 h79) (Z := fun q => ∀ (H : Heap) (locs : List Loc) (ls : Array Slot), HW D cA A φ (wd h79 q.2) H → va_S A s.heap H locs → lv_has ls 7 [(0, .ref (φ 12 i0)), (3, .int a3), (4, .int a4), (5, .int a5), (6, .int (q.1))] → W p l e (rmo 2 45 0 0) s m args below meth c H locs 0 0 Q (F0 m 157 ls [])) (K := fun q => ∀ (H : Heap) (locs : List Loc) (ls : Array Slot), HW D cA A φ (wd h79 q) H → va_S A s.heap H locs → lv_has ls 7 [] → W p l e (rmo 2 45 0 0) s m args below meth c H locs 0 0 Q (F0 m 192 ls [])) ?_ LF _ q101 e102 ?_ _ _ _ (wdW rfl hW) hS (lv_sub hl [1, 2, 3, 4, 0] rfl)
                        · intro q v hF hK H locs ls hW hS hl
                          obtain ⟨x81, d84⟩ := q
                          unfold B_X12_copy_157 at hF
                          have hF := u2d hF
                          obtain ⟨h82, e103, hF⟩ := nmx hF
                          have hW := nmW e103 hW
                          have g83 : h82.2.2 = h.2.2 := by rw [e103]; exact g80
                          have hl : lv_has ls 7 [(0, .ref (φ 12 i0)), (3, .int a3), (4, .int a4), (5, .int a5), (6, .int x81)] := hl
                          refine lv_iload hx hb dX12_copy_157 (lv_at hl 4 rfl) ?_
                          refine lv_iload hx hb dX12_copy_159 (lv_at hl 3 rfl) ?_
                          refine lv_icmp_ge (tgt := 192) hx hb dX12_copy_161 (by decide) (fun c100 => ?_) (fun c100 => ?_)
                          · have hF := it c100 hF
                            obtain rfl := sj hF
                            exact hK _ _ _ (wdW (sq g83 g80) hW) hS (lv_sub hl [] rfl)
                          · have hF := ie c100 hF
                            refine lv_aload_n hx hb dX12_copy_164 rfl (lv_at hl 0 rfl) ?_
                            obtain ⟨o85, e86, hF⟩ := bn hF
                            refine r_getr X hW (gq g83 al_0) fl_12_16 e86 dX12_copy_165 (fun al87 => ?_)
                            have al87 := qg g83 al87
                            refine lv_bipush (v := 60) hx hb dX12_copy_168 (by decide) ?_
                            refine lv_iload_n hx hb dX12_copy_170 rfl (lv_at hl 1 rfl) ?_
                            refine lv_imul hx hb dX12_copy_171 ?_
                            refine lv_iload hx hb dX12_copy_172 (lv_at hl 2 rfl) ?_
                            refine lv_iadd hx hb dX12_copy_174 ?_
                            refine lv_iload hx hb dX12_copy_175 (lv_at hl 4 rfl) ?_
                            refine lv_iadd hx hb dX12_copy_177 ?_
                            refine lv_aload_n hx hb dX12_copy_178 rfl (lv_at hl 0 rfl) ?_
                            obtain ⟨o88, e89, hF⟩ := bn hF
                            refine r_getr X hW (gq g83 al_0) fl_12_19 e89 dX12_copy_179 (fun al90 => ?_)
                            have al90 := qg g83 al90
                            refine lv_iload hx hb dX12_copy_182 (lv_at hl 4 rfl) ?_
                            obtain ⟨x91, e92, hF⟩ := bn hF
                            obtain ⟨b93, e92⟩ := ga_s e92
                            refine r_iald X hW (gq g83 al90) rfl b93 dX12_copy_184 ?_
                            refine nmi e92 ?_
                            obtain ⟨h94, e95, hF⟩ := bn hF
                            obtain ⟨b96, e95⟩ := sa_s e95
                            refine r_iast X hW hS (gq g83 al87) rfl b96 dX12_copy_185 (fun H locs hW hS => ?_)
                            have hW := nmW e95 hW
                            have g97 : h94.2.2 = h.2.2 := by rw [e95]; exact g83
                            obtain ⟨x98, e99, hF⟩ := nmx hF
                            refine lv_iinc (v := x98) (lv' := [(6, .int x98), (0, .ref (φ 12 i0)), (3, .int a3), (4, .int a4), (5, .int a5)]) hx hb dX12_copy_186 hl (k := 4) rfl (by rw [e99]; rfl) (by decide) rfl (fun ls hl => ?_)
                            refine lv_goto (tgt := 157) hx hb dX12_copy_189 (by decide) ?_
                            obtain rfl := sj hF
                            exact hK _ _ _ (wdW (sq g97 g80) hW) hS (lv_sub hl [1, 2, 3, 4, 0] rfl)
                        · intro H locs ls hW hS hl
                          obtain ⟨d104, rfl⟩ : ∃ z, z = q101 := ⟨_, rfl⟩
                          obtain ⟨h105, e107, hF⟩ := nmx hF
                          have hW := nmW e107 hW
                          have g106 : h105.2.2 = h.2.2 := by rw [e107]; exact g80
                          have hl : lv_has ls 7 [] := hl
                          refine lv_iconst (v := 1) hx hb dX12_copy_192 (by decide) ?_
                          obtain ⟨rfl, rfl⟩ := sj2 hF
                          exact hfin _ _ _ _ (wdW g106 hW) hS dX12_copy_193
                    · have hF := ie c109 hF
                      exact j_111 h _ _ _ rfl hF hW hS (lv_sub hl [0] rfl)
          · have hF := ie c121 hF
            refine lv_aload_n hx hb dX12_copy_56 rfl (lv_at hl 0 rfl) ?_
            refine lv_iconst (v := 4) hx hb dX12_copy_57 (by decide) ?_
            obtain ⟨q119, e114, hF⟩ := bn hF
            obtain ⟨x120, d118⟩ := q119
            have hF := u2d hF
            refine rc_i (Af := fun φ => [.ref (φ 12 i0), .int 4]) X hW hS ⟨Nat.zero_le _, Nat.zero_le _⟩ (rn_V (As := [.int 4]) (rest := []) X hW hS cw_12_149 al_0 rfl rfl rfl ⟨Nat.le_of_ble_eq_true rfl, Nat.le_of_ble_eq_true rfl⟩ rfl hl.1 rfl (Nat.le_of_ble_eq_true rfl) dX12_copy_58) (ok_X12_met i0 4 al_0 e114) (fun H locs hW hS => ?_)
            obtain ⟨h115, e117, hF⟩ := nmx hF
            have hW := nmW e117 hW
            have g116 : h115.2.2 = h.2.2 := by rw [e117]; exact rfl
            obtain ⟨rfl, rfl⟩ := sj2 hF
            exact hfin _ _ _ _ (wdW g116 hW) hS dX12_copy_61
        · have hF := ie c122 hF
          exact j_35 h _ _ _ rfl hF hW hS (lv_sub hl [0] rfl)
    · have hF := it c124 hF
      refine lv_bipush (v := (-2)) hx hb dX12_copy_14 (by decide) ?_
      obtain ⟨rfl, rfl⟩ := sj2 hF
      exact hfin _ _ _ _ (wdW rfl hW) hS dX12_copy_16
def F_X12_isWeek (a0 : Int32) : Option (Int32) :=
  (F_X12_in ((a0).toInt64) 0 199).bind fun x2 =>
  (bz x2).bind fun x3 => some x3
set_option maxHeartbeats 4000000 in
set_option maxRecDepth 100000 in
theorem ok_X12_isWeek {l : Launch} {D : va_G} {cA : Nat → ClassId} {h : HP} {r : Int32}  (a0 : Int32)  (hF : F_X12_isWeek a0 = some r) : MI l D cA yX12_isWeek cX12_isWeek 1 (some .boolean) 1 25 (fun φ => [.int a0]) h r h := by
  refine mk_Z (plainFor_of_name (by decide)) (fun φ => Nat.le_of_ble_eq_true rfl) ?_
  intro p e s m args below meth c ls φ A Q X hW hS hl hfin
  have hx := X.1
  have hb := X.2.1
  have hl : lv_has ls 1 [(0, .int a0)] := hl
  unfold F_X12_isWeek at hF
  refine lv_iload_n hx hb dX12_isWeek_0 rfl (lv_at hl 0 rfl) ?_
  refine lv_i2l (v := (a0).toInt64) hx hb dX12_isWeek_1 rfl ?_
  refine lv_lconst (v := 0) hx hb dX12_isWeek_2 (by decide) ?_
  refine lv_ldc2 (v := 199) hx hb X.2.2.2.1 (X.2.2.2.2.1 _ (AL_of 1310 (by decide +kernel) rfl)) dX12_isWeek_3 ?_
  obtain ⟨x2, e1, hF⟩ := bn hF
  refine rc_i (Af := fun φ => [.long ((a0).toInt64), .long 0, .long 199]) X hW hS ⟨Nat.zero_le _, Nat.zero_le _⟩ (rn_S (As := [.long ((a0).toInt64), .long 0, .long 199]) (rest := []) X hW hS cw_12_139 ⟨Nat.le_of_ble_eq_true rfl, Nat.le_of_ble_eq_true rfl⟩ rfl hl.1 rfl (Nat.le_of_ble_eq_true rfl) dX12_isWeek_6) (ok_X12_in ((a0).toInt64) 0 199 e1) (fun H locs hW hS => ?_)
  obtain ⟨x3, e4, hF⟩ := bn hF
  obtain ⟨b5, e4⟩ := bz_s e4
  refine nmi e4 ?_
  rw [← e4] at b5
  obtain rfl := sj hF
  exact hfin _ _ _ _ hW hS b5 dX12_isWeek_9
def F_X12_isParish (i0 : Nat) (a1 : Int32) (h : HP) : Option (Int32) :=
  (F_X12_in ((a1).toInt64) 0 ((((gi h 12 i0 6) - 1)).toInt64)).bind fun x2 =>
  (bz x2).bind fun x3 => some x3
set_option maxHeartbeats 4000000 in
set_option maxRecDepth 100000 in
theorem ok_X12_isParish {l : Launch} {D : va_G} {cA : Nat → ClassId} {h : HP} {r : Int32}  (i0 : Nat) (a1 : Int32) (al_0 : i0 < gn h 12) (hF : F_X12_isParish i0 a1 h = some r) : MI l D cA yX12_isParish cX12_isParish 2 (some .boolean) 1 25 (fun φ => [.ref (φ 12 i0), .int a1]) h r h := by
  refine mk_Z (plainFor_of_name (by decide)) (fun φ => Nat.le_of_ble_eq_true rfl) ?_
  intro p e s m args below meth c ls φ A Q X hW hS hl hfin
  have hx := X.1
  have hb := X.2.1
  have hl : lv_has ls 2 [(0, .ref (φ 12 i0)), (1, .int a1)] := hl
  unfold F_X12_isParish at hF
  refine lv_iload_n hx hb dX12_isParish_0 rfl (lv_at hl 1 rfl) ?_
  refine lv_i2l (v := (a1).toInt64) hx hb dX12_isParish_1 rfl ?_
  refine lv_lconst (v := 0) hx hb dX12_isParish_2 (by decide) ?_
  refine lv_aload_n hx hb dX12_isParish_3 rfl (lv_at hl 0 rfl) ?_
  refine r_geti X hW al_0 fl_12_164 dX12_isParish_4 ?_
  refine lv_iconst (v := 1) hx hb dX12_isParish_7 (by decide) ?_
  refine lv_isub hx hb dX12_isParish_8 ?_
  refine lv_i2l (v := (((gi h 12 i0 6) - 1)).toInt64) hx hb dX12_isParish_9 rfl ?_
  obtain ⟨x2, e1, hF⟩ := bn hF
  refine rc_i (Af := fun φ => [.long ((a1).toInt64), .long 0, .long ((((gi h 12 i0 6) - 1)).toInt64)]) X hW hS ⟨Nat.zero_le _, Nat.zero_le _⟩ (rn_S (As := [.long ((a1).toInt64), .long 0, .long ((((gi h 12 i0 6) - 1)).toInt64)]) (rest := []) X hW hS cw_12_139 ⟨Nat.le_of_ble_eq_true rfl, Nat.le_of_ble_eq_true rfl⟩ rfl hl.1 rfl (Nat.le_of_ble_eq_true rfl) dX12_isParish_10) (ok_X12_in ((a1).toInt64) 0 ((((gi h 12 i0 6) - 1)).toInt64) e1) (fun H locs hW hS => ?_)
  obtain ⟨x3, e4, hF⟩ := bn hF
  obtain ⟨b5, e4⟩ := bz_s e4
  refine nmi e4 ?_
  rw [← e4] at b5
  obtain rfl := sj hF
  exact hfin _ _ _ _ hW hS b5 dX12_isParish_13
def F_X12_isBell (i0 : Nat) (a1 : Int32) (h : HP) : Option (Int32) :=
  (F_X12_in ((a1).toInt64) 0 ((((gi h 12 i0 8) - 1)).toInt64)).bind fun x2 =>
  (bz x2).bind fun x3 => some x3
set_option maxHeartbeats 4000000 in
set_option maxRecDepth 100000 in
theorem ok_X12_isBell {l : Launch} {D : va_G} {cA : Nat → ClassId} {h : HP} {r : Int32}  (i0 : Nat) (a1 : Int32) (al_0 : i0 < gn h 12) (hF : F_X12_isBell i0 a1 h = some r) : MI l D cA yX12_isBell cX12_isBell 2 (some .boolean) 1 25 (fun φ => [.ref (φ 12 i0), .int a1]) h r h := by
  refine mk_Z (plainFor_of_name (by decide)) (fun φ => Nat.le_of_ble_eq_true rfl) ?_
  intro p e s m args below meth c ls φ A Q X hW hS hl hfin
  have hx := X.1
  have hb := X.2.1
  have hl : lv_has ls 2 [(0, .ref (φ 12 i0)), (1, .int a1)] := hl
  unfold F_X12_isBell at hF
  refine lv_iload_n hx hb dX12_isBell_0 rfl (lv_at hl 1 rfl) ?_
  refine lv_i2l (v := (a1).toInt64) hx hb dX12_isBell_1 rfl ?_
  refine lv_lconst (v := 0) hx hb dX12_isBell_2 (by decide) ?_
  refine lv_aload_n hx hb dX12_isBell_3 rfl (lv_at hl 0 rfl) ?_
  refine r_geti X hW al_0 fl_12_167 dX12_isBell_4 ?_
  refine lv_iconst (v := 1) hx hb dX12_isBell_7 (by decide) ?_
  refine lv_isub hx hb dX12_isBell_8 ?_
  refine lv_i2l (v := (((gi h 12 i0 8) - 1)).toInt64) hx hb dX12_isBell_9 rfl ?_
  obtain ⟨x2, e1, hF⟩ := bn hF
  refine rc_i (Af := fun φ => [.long ((a1).toInt64), .long 0, .long ((((gi h 12 i0 8) - 1)).toInt64)]) X hW hS ⟨Nat.zero_le _, Nat.zero_le _⟩ (rn_S (As := [.long ((a1).toInt64), .long 0, .long ((((gi h 12 i0 8) - 1)).toInt64)]) (rest := []) X hW hS cw_12_139 ⟨Nat.le_of_ble_eq_true rfl, Nat.le_of_ble_eq_true rfl⟩ rfl hl.1 rfl (Nat.le_of_ble_eq_true rfl) dX12_isBell_10) (ok_X12_in ((a1).toInt64) 0 ((((gi h 12 i0 8) - 1)).toInt64) e1) (fun H locs hW hS => ?_)
  obtain ⟨x3, e4, hF⟩ := bn hF
  obtain ⟨b5, e4⟩ := bz_s e4
  refine nmi e4 ?_
  rw [← e4] at b5
  obtain rfl := sj hF
  exact hfin _ _ _ _ hW hS b5 dX12_isBell_13
def F_X12_pass (i0 : Nat) (a1 : Int32) (h : HP) : Option (Int32 × DP) :=
  (F_X12_in ((a1).toInt64) 1 100).bind fun x2 =>
  (if x2 = 0 then
  some ((-2), dp h)
  else
  (if ((gi h 12 i0 5) + a1) ≤ 199 then
  nm (si h 12 i0 5 ((gi h 12 i0 5) + a1)) fun h3 =>
  some ((gi h3 12 i0 5), dp h3)
  else
  some ((-2), dp h)))
set_option maxHeartbeats 4000000 in
set_option maxRecDepth 100000 in
theorem ok_X12_pass {l : Launch} {D : va_G} {cA : Nat → ClassId} {h : HP} {r : Int32} {d : DP} (i0 : Nat) (a1 : Int32) (al_0 : i0 < gn h 12) (hF : F_X12_pass i0 a1 h = some (r, d)) : MI l D cA yX12_pass cX12_pass 2 (some .int) 1 25 (fun φ => [.ref (φ 12 i0), .int a1]) h r (wd h d) := by
  refine mk_I (plainFor_of_name (by decide)) (fun φ => Nat.le_of_ble_eq_true rfl) ?_
  intro p e s m args below meth c ls φ A Q X hW hS hl hfin
  have hx := X.1
  have hb := X.2.1
  have hl : lv_has ls 2 [(0, .ref (φ 12 i0)), (1, .int a1)] := hl
  unfold F_X12_pass at hF
  refine lv_iload_n hx hb dX12_pass_0 rfl (lv_at hl 1 rfl) ?_
  refine lv_i2l (v := (a1).toInt64) hx hb dX12_pass_1 rfl ?_
  refine lv_lconst (v := 1) hx hb dX12_pass_2 (by decide) ?_
  refine lv_ldc2 (v := 100) hx hb X.2.2.2.1 (X.2.2.2.2.1 _ (AL_of 1212 (by decide +kernel) rfl)) dX12_pass_3 ?_
  obtain ⟨x2, e1, hF⟩ := bn hF
  refine rc_i (Af := fun φ => [.long ((a1).toInt64), .long 1, .long 100]) X hW hS ⟨Nat.zero_le _, Nat.zero_le _⟩ (rn_S (As := [.long ((a1).toInt64), .long 1, .long 100]) (rest := []) X hW hS cw_12_139 ⟨Nat.le_of_ble_eq_true rfl, Nat.le_of_ble_eq_true rfl⟩ rfl hl.1 rfl (Nat.le_of_ble_eq_true rfl) dX12_pass_6) (ok_X12_in ((a1).toInt64) 1 100 e1) (fun H locs hW hS => ?_)
  refine lv_if_eq (tgt := 24) hx hb dX12_pass_9 (by decide) (fun c7 => ?_) (fun c7 => ?_)
  · have hF := it c7 hF
    refine lv_bipush (v := (-2)) hx hb dX12_pass_24 (by decide) ?_
    obtain ⟨rfl, rfl⟩ := sj2 hF
    exact hfin _ _ _ _ (wdW rfl hW) hS dX12_pass_26
  · have hF := ie c7 hF
    refine lv_aload_n hx hb dX12_pass_12 rfl (lv_at hl 0 rfl) ?_
    refine r_geti X hW al_0 fl_12_172 dX12_pass_13 ?_
    refine lv_iload_n hx hb dX12_pass_16 rfl (lv_at hl 1 rfl) ?_
    refine lv_iadd hx hb dX12_pass_17 ?_
    refine lv_sipush (v := 199) hx hb dX12_pass_18 (by decide) ?_
    refine lv_icmp_le (tgt := 27) hx hb dX12_pass_21 (by decide) (fun c6 => ?_) (fun c6 => ?_)
    · have hF := it c6 hF
      refine lv_aload_n hx hb dX12_pass_27 rfl (lv_at hl 0 rfl) ?_
      refine lv_dup hx hb dX12_pass_28 rfl ?_
      refine r_geti X hW al_0 fl_12_172 dX12_pass_29 ?_
      refine lv_iload_n hx hb dX12_pass_32 rfl (lv_at hl 1 rfl) ?_
      refine lv_iadd hx hb dX12_pass_33 ?_
      refine r_puti X hW hS al_0 fp_12_172 rfl rfl dX12_pass_34 (fun H locs hW hS => ?_)
      obtain ⟨h3, e4, hF⟩ := nmx hF
      have hW := nmW e4 hW
      have g5 : h3.2.2 = h.2.2 := by rw [e4]; exact rfl
      refine lv_aload_n hx hb dX12_pass_37 rfl (lv_at hl 0 rfl) ?_
      refine r_geti X hW (gq g5 al_0) fl_12_172 dX12_pass_38 ?_
      obtain ⟨rfl, rfl⟩ := sj2 hF
      exact hfin _ _ _ _ (wdW g5 hW) hS dX12_pass_41
    · have hF := ie c6 hF
      refine lv_bipush (v := (-2)) hx hb dX12_pass_24 (by decide) ?_
      obtain ⟨rfl, rfl⟩ := sj2 hF
      exact hfin _ _ _ _ (wdW rfl hW) hS dX12_pass_26
def F_X12_parish (i0 : Nat) (a1 : Int32) (h : HP) : Option (Int32 × DP) :=
  (F_X12_in ((a1).toInt64) 0 3).bind fun x2 =>
  (if x2 = 0 then
  some ((-2), dp h)
  else
  (if (gi h 12 i0 6) = 8 then
  some ((-4), dp h)
  else
  (gr h 12 i0 7).bind fun o3 =>
  (sa h 49 o3 8 (gi h 12 i0 6) a1).bind fun h6 =>
  nm (si h6 12 i0 6 ((gi h6 12 i0 6) + 1)) fun h10 =>
  some (((gi h10 12 i0 6) - 1), dp h10)))
set_option maxHeartbeats 4000000 in
set_option maxRecDepth 100000 in
theorem ok_X12_parish {l : Launch} {D : va_G} {cA : Nat → ClassId} {h : HP} {r : Int32} {d : DP} (i0 : Nat) (a1 : Int32) (al_0 : i0 < gn h 12) (hF : F_X12_parish i0 a1 h = some (r, d)) : MI l D cA yX12_parish cX12_parish 2 (some .int) 1 25 (fun φ => [.ref (φ 12 i0), .int a1]) h r (wd h d) := by
  refine mk_I (plainFor_of_name (by decide)) (fun φ => Nat.le_of_ble_eq_true rfl) ?_
  intro p e s m args below meth c ls φ A Q X hW hS hl hfin
  have hx := X.1
  have hb := X.2.1
  have hl : lv_has ls 2 [(0, .ref (φ 12 i0)), (1, .int a1)] := hl
  unfold F_X12_parish at hF
  refine lv_iload_n hx hb dX12_parish_0 rfl (lv_at hl 1 rfl) ?_
  refine lv_i2l (v := (a1).toInt64) hx hb dX12_parish_1 rfl ?_
  refine lv_lconst (v := 0) hx hb dX12_parish_2 (by decide) ?_
  refine lv_ldc2 (v := 3) hx hb X.2.2.2.1 (X.2.2.2.2.1 _ (AL_of 1175 (by decide +kernel) rfl)) dX12_parish_3 ?_
  obtain ⟨x2, e1, hF⟩ := bn hF
  refine rc_i (Af := fun φ => [.long ((a1).toInt64), .long 0, .long 3]) X hW hS ⟨Nat.zero_le _, Nat.zero_le _⟩ (rn_S (As := [.long ((a1).toInt64), .long 0, .long 3]) (rest := []) X hW hS cw_12_139 ⟨Nat.le_of_ble_eq_true rfl, Nat.le_of_ble_eq_true rfl⟩ rfl hl.1 rfl (Nat.le_of_ble_eq_true rfl) dX12_parish_6) (ok_X12_in ((a1).toInt64) 0 3 e1) (fun H locs hW hS => ?_)
  refine lv_if_ne (tgt := 15) hx hb dX12_parish_9 (by decide) (fun c14 => ?_) (fun c14 => ?_)
  · have hF := ie c14 hF
    refine lv_aload_n hx hb dX12_parish_15 rfl (lv_at hl 0 rfl) ?_
    refine r_geti X hW al_0 fl_12_164 dX12_parish_16 ?_
    refine lv_bipush (v := 8) hx hb dX12_parish_19 (by decide) ?_
    refine lv_icmp_ne (tgt := 27) hx hb dX12_parish_21 (by decide) (fun c13 => ?_) (fun c13 => ?_)
    · have hF := ie c13 hF
      refine lv_aload_n hx hb dX12_parish_27 rfl (lv_at hl 0 rfl) ?_
      obtain ⟨o3, e4, hF⟩ := bn hF
      refine r_getr X hW al_0 fl_12_22 e4 dX12_parish_28 (fun al5 => ?_)
      refine lv_aload_n hx hb dX12_parish_31 rfl (lv_at hl 0 rfl) ?_
      refine r_geti X hW al_0 fl_12_164 dX12_parish_32 ?_
      refine lv_iload_n hx hb dX12_parish_35 rfl (lv_at hl 1 rfl) ?_
      obtain ⟨h6, e7, hF⟩ := bn hF
      obtain ⟨b8, e7⟩ := sa_s e7
      refine r_iast X hW hS al5 rfl b8 dX12_parish_36 (fun H locs hW hS => ?_)
      have hW := nmW e7 hW
      have g9 : h6.2.2 = h.2.2 := by rw [e7]; exact rfl
      refine lv_aload_n hx hb dX12_parish_37 rfl (lv_at hl 0 rfl) ?_
      refine lv_dup hx hb dX12_parish_38 rfl ?_
      refine r_geti X hW (gq g9 al_0) fl_12_164 dX12_parish_39 ?_
      refine lv_iconst (v := 1) hx hb dX12_parish_42 (by decide) ?_
      refine lv_iadd hx hb dX12_parish_43 ?_
      refine r_puti X hW hS (gq g9 al_0) fp_12_164 rfl rfl dX12_parish_44 (fun H locs hW hS => ?_)
      obtain ⟨h10, e11, hF⟩ := nmx hF
      have hW := nmW e11 hW
      have g12 : h10.2.2 = h.2.2 := by rw [e11]; exact g9
      refine lv_aload_n hx hb dX12_parish_47 rfl (lv_at hl 0 rfl) ?_
      refine r_geti X hW (gq g12 al_0) fl_12_164 dX12_parish_48 ?_
      refine lv_iconst (v := 1) hx hb dX12_parish_51 (by decide) ?_
      refine lv_isub hx hb dX12_parish_52 ?_
      obtain ⟨rfl, rfl⟩ := sj2 hF
      exact hfin _ _ _ _ (wdW g12 hW) hS dX12_parish_53
    · have hF := it c13 hF
      refine lv_bipush (v := (-4)) hx hb dX12_parish_24 (by decide) ?_
      obtain ⟨rfl, rfl⟩ := sj2 hF
      exact hfin _ _ _ _ (wdW rfl hW) hS dX12_parish_26
  · have hF := it c14 hF
    refine lv_bipush (v := (-2)) hx hb dX12_parish_12 (by decide) ?_
    obtain ⟨rfl, rfl⟩ := sj2 hF
    exact hfin _ _ _ _ (wdW rfl hW) hS dX12_parish_14
def F_X12_moved (i0 : Nat) (a1 : Int32) (a2 : Int32) (h : HP) : Option (Int32 × DP) :=
  (F_X12_isParish i0 a1 h).bind fun x2 =>
  (if x2 = 0 then
  some ((-2), dp h)
  else
  (F_X12_in ((a2).toInt64) 0 3).bind fun x4 =>
  (if x4 = 0 then
  some ((-2), dp h)
  else
  (gr h 12 i0 7).bind fun o5 =>
  (ga h 49 o5 8 a1).bind fun x8 =>
  (if x8 = a2 then
  some ((-2), dp h)
  else
  (gr h 12 i0 7).bind fun o11 =>
  (ga h 49 o11 8 a1).bind fun x14 =>
  (gr h 12 i0 7).bind fun o17 =>
  (sa h 49 o17 8 a1 a2).bind fun h20 =>
  some (x14, dp h20))))
set_option maxHeartbeats 4000000 in
set_option maxRecDepth 100000 in
theorem ok_X12_moved {l : Launch} {D : va_G} {cA : Nat → ClassId} {h : HP} {r : Int32} {d : DP} (i0 : Nat) (a1 : Int32) (a2 : Int32) (al_0 : i0 < gn h 12) (hF : F_X12_moved i0 a1 a2 h = some (r, d)) : MI l D cA yX12_moved cX12_moved 4 (some .int) 2 46 (fun φ => [.ref (φ 12 i0), .int a1, .int a2]) h r (wd h d) := by
  refine mk_I (plainFor_of_name (by decide)) (fun φ => Nat.le_of_ble_eq_true rfl) ?_
  intro p e s m args below meth c ls φ A Q X hW hS hl hfin
  have hx := X.1
  have hb := X.2.1
  have hl : lv_has ls 4 [(0, .ref (φ 12 i0)), (1, .int a1), (2, .int a2)] := hl
  unfold F_X12_moved at hF
  refine lv_aload_n hx hb dX12_moved_0 rfl (lv_at hl 0 rfl) ?_
  refine lv_iload_n hx hb dX12_moved_1 rfl (lv_at hl 1 rfl) ?_
  obtain ⟨x2, e1, hF⟩ := bn hF
  refine rc_i (Af := fun φ => [.ref (φ 12 i0), .int a1]) X hW hS ⟨Nat.zero_le _, Nat.zero_le _⟩ (rn_V (As := [.int a1]) (rest := []) X hW hS cw_12_175 al_0 rfl rfl rfl ⟨Nat.le_of_ble_eq_true rfl, Nat.le_of_ble_eq_true rfl⟩ rfl hl.1 rfl (Nat.le_of_ble_eq_true rfl) dX12_moved_2) (ok_X12_isParish i0 a1 al_0 e1) (fun H locs hW hS => ?_)
  refine lv_if_eq (tgt := 30) hx hb dX12_moved_5 (by decide) (fun c26 => ?_) (fun c26 => ?_)
  · have hF := it c26 hF
    refine lv_bipush (v := (-2)) hx hb dX12_moved_30 (by decide) ?_
    obtain ⟨rfl, rfl⟩ := sj2 hF
    exact hfin _ _ _ _ (wdW rfl hW) hS dX12_moved_32
  · have hF := ie c26 hF
    refine lv_iload_n hx hb dX12_moved_8 rfl (lv_at hl 2 rfl) ?_
    refine lv_i2l (v := (a2).toInt64) hx hb dX12_moved_9 rfl ?_
    refine lv_lconst (v := 0) hx hb dX12_moved_10 (by decide) ?_
    refine lv_ldc2 (v := 3) hx hb X.2.2.2.1 (X.2.2.2.2.1 _ (AL_of 1175 (by decide +kernel) rfl)) dX12_moved_11 ?_
    obtain ⟨x4, e3, hF⟩ := bn hF
    refine rc_i (Af := fun φ => [.long ((a2).toInt64), .long 0, .long 3]) X hW hS ⟨Nat.zero_le _, Nat.zero_le _⟩ (rn_S (As := [.long ((a2).toInt64), .long 0, .long 3]) (rest := []) X hW hS cw_12_139 ⟨Nat.le_of_ble_eq_true rfl, Nat.le_of_ble_eq_true rfl⟩ rfl hl.1 rfl (Nat.le_of_ble_eq_true rfl) dX12_moved_14) (ok_X12_in ((a2).toInt64) 0 3 e3) (fun H locs hW hS => ?_)
    refine lv_if_eq (tgt := 30) hx hb dX12_moved_17 (by decide) (fun c25 => ?_) (fun c25 => ?_)
    · have hF := it c25 hF
      refine lv_bipush (v := (-2)) hx hb dX12_moved_30 (by decide) ?_
      obtain ⟨rfl, rfl⟩ := sj2 hF
      exact hfin _ _ _ _ (wdW rfl hW) hS dX12_moved_32
    · have hF := ie c25 hF
      refine lv_aload_n hx hb dX12_moved_20 rfl (lv_at hl 0 rfl) ?_
      obtain ⟨o5, e6, hF⟩ := bn hF
      refine r_getr X hW al_0 fl_12_22 e6 dX12_moved_21 (fun al7 => ?_)
      refine lv_iload_n hx hb dX12_moved_24 rfl (lv_at hl 1 rfl) ?_
      obtain ⟨x8, e9, hF⟩ := bn hF
      obtain ⟨b10, e9⟩ := ga_s e9
      refine r_iald X hW al7 rfl b10 dX12_moved_25 ?_
      refine nmi e9 ?_
      refine lv_iload_n hx hb dX12_moved_26 rfl (lv_at hl 2 rfl) ?_
      refine lv_icmp_ne (tgt := 33) hx hb dX12_moved_27 (by decide) (fun c24 => ?_) (fun c24 => ?_)
      · have hF := ie c24 hF
        refine lv_aload_n hx hb dX12_moved_33 rfl (lv_at hl 0 rfl) ?_
        obtain ⟨o11, e12, hF⟩ := bn hF
        refine r_getr X hW al_0 fl_12_22 e12 dX12_moved_34 (fun al13 => ?_)
        refine lv_iload_n hx hb dX12_moved_37 rfl (lv_at hl 1 rfl) ?_
        obtain ⟨x14, e15, hF⟩ := bn hF
        obtain ⟨b16, e15⟩ := ga_s e15
        refine r_iald X hW al13 rfl b16 dX12_moved_38 ?_
        refine nmi e15 ?_
        refine lv_istore_n (lv' := [(3, .int x14), (0, .ref (φ 12 i0)), (1, .int a1), (2, .int a2)]) hx hb dX12_moved_39 rfl hl (by decide) rfl (fun ls hl => ?_)
        refine lv_aload_n hx hb dX12_moved_40 rfl (lv_at hl 1 rfl) ?_
        obtain ⟨o17, e18, hF⟩ := bn hF
        refine r_getr X hW al_0 fl_12_22 e18 dX12_moved_41 (fun al19 => ?_)
        refine lv_iload_n hx hb dX12_moved_44 rfl (lv_at hl 2 rfl) ?_
        refine lv_iload_n hx hb dX12_moved_45 rfl (lv_at hl 3 rfl) ?_
        obtain ⟨h20, e21, hF⟩ := bn hF
        obtain ⟨b22, e21⟩ := sa_s e21
        refine r_iast X hW hS al19 rfl b22 dX12_moved_46 (fun H locs hW hS => ?_)
        have hW := nmW e21 hW
        have g23 : h20.2.2 = h.2.2 := by rw [e21]; exact rfl
        refine lv_iload_n hx hb dX12_moved_47 rfl (lv_at hl 0 rfl) ?_
        obtain ⟨rfl, rfl⟩ := sj2 hF
        exact hfin _ _ _ _ (wdW g23 hW) hS dX12_moved_48
      · have hF := it c24 hF
        refine lv_bipush (v := (-2)) hx hb dX12_moved_30 (by decide) ?_
        obtain ⟨rfl, rfl⟩ := sj2 hF
        exact hfin _ _ _ _ (wdW rfl hW) hS dX12_moved_32
def B_X12_bell_138 (i0 : Nat) (h54 : HP) (q : Int32 × DP) : Option ((Int32 × DP) ⊕ (DP)) :=
  u2 q fun x58 d61 =>
  nm (wd h54 d61) fun h59 =>
  (if 5 ≤ x58 then
  some (.inr (dp h59))
  else
  (gr h59 12 i0 13).bind fun o62 =>
  (sa h59 54 o62 100 ((5 * (gi h59 12 i0 8)) + x58) (-1)).bind fun h65 =>
  nm (x58 + 1) fun x69 =>
  some (.inl (x69, (dp h65))))
def F_X12_bell (i0 : Nat) (a1 : Int32) (a2 : Int32) (a3 : Int32) (a4 : Int32) (h : HP) : Option (Int32 × DP) :=
  (F_X12_isParish i0 a1 h).bind fun x2 =>
  (if x2 = 0 then
  some ((-2), dp h)
  else
  (F_X12_in ((a2).toInt64) 1 9999).bind fun x4 =>
  (if x4 = 0 then
  some ((-2), dp h)
  else
  (F_X12_in ((a3).toInt64) 1000 1939).bind fun x6 =>
  (if x6 = 0 then
  some ((-2), dp h)
  else
  (F_X12_in ((a4).toInt64) 0 30).bind fun x8 =>
  (if x8 = 0 then
  some ((-2), dp h)
  else
  (if (gi h 12 i0 8) = 20 then
  some ((-4), dp h)
  else
  (gr h 12 i0 9).bind fun o9 =>
  (sa h 50 o9 20 (gi h 12 i0 8) a1).bind fun h12 =>
  (gr h12 12 i0 10).bind fun o16 =>
  (sa h12 51 o16 20 (gi h12 12 i0 8) a2).bind fun h19 =>
  (gr h19 12 i0 11).bind fun o23 =>
  (sa h19 52 o23 20 (gi h19 12 i0 8) a3).bind fun h26 =>
  (gr h26 12 i0 12).bind fun o30 =>
  (sa h26 53 o30 20 (gi h26 12 i0 8) a4).bind fun h33 =>
  (gr h33 12 i0 14).bind fun o37 =>
  (sa h33 55 o37 20 (gi h33 12 i0 8) (-1)).bind fun h40 =>
  (gr h40 12 i0 15).bind fun o44 =>
  (sa h40 56 o44 20 (gi h40 12 i0 8) 5).bind fun h47 =>
  (gr h47 12 i0 16).bind fun o51 =>
  (sa h47 57 o51 20 (gi h47 12 i0 8) 999).bind fun h54 =>
  (loopN LF (B_X12_bell_138 i0 h54) (0, (dp h54))).bind fun d75 =>
  nm (wd h54 d75) fun h76 =>
  nm (si h76 12 i0 8 ((gi h76 12 i0 8) + 1)) fun h78 =>
  some (((gi h78 12 i0 8) - 1), dp h78))))))
set_option maxHeartbeats 4000000 in
set_option maxRecDepth 100000 in
theorem ok_X12_bell {l : Launch} {D : va_G} {cA : Nat → ClassId} {h : HP} {r : Int32} {d : DP} (i0 : Nat) (a1 : Int32) (a2 : Int32) (a3 : Int32) (a4 : Int32) (al_0 : i0 < gn h 12) (hF : F_X12_bell i0 a1 a2 a3 a4 h = some (r, d)) : MI l D cA yX12_bell cX12_bell 6 (some .int) 2 46 (fun φ => [.ref (φ 12 i0), .int a1, .int a2, .int a3, .int a4]) h r (wd h d) := by
  refine mk_I (plainFor_of_name (by decide)) (fun φ => Nat.le_of_ble_eq_true rfl) ?_
  intro p e s m args below meth c ls φ A Q X hW hS hl hfin
  have hx := X.1
  have hb := X.2.1
  have hl : lv_has ls 6 [(0, .ref (φ 12 i0)), (1, .int a1), (2, .int a2), (3, .int a3), (4, .int a4)] := hl
  unfold F_X12_bell at hF
  refine lv_aload_n hx hb dX12_bell_0 rfl (lv_at hl 0 rfl) ?_
  refine lv_iload_n hx hb dX12_bell_1 rfl (lv_at hl 1 rfl) ?_
  obtain ⟨x2, e1, hF⟩ := bn hF
  refine rc_i (Af := fun φ => [.ref (φ 12 i0), .int a1]) X hW hS ⟨Nat.zero_le _, Nat.zero_le _⟩ (rn_V (As := [.int a1]) (rest := []) X hW hS cw_12_175 al_0 rfl rfl rfl ⟨Nat.le_of_ble_eq_true rfl, Nat.le_of_ble_eq_true rfl⟩ rfl hl.1 rfl (Nat.le_of_ble_eq_true rfl) dX12_bell_2) (ok_X12_isParish i0 a1 al_0 e1) (fun H locs hW hS => ?_)
  refine lv_if_eq (tgt := 47) hx hb dX12_bell_5 (by decide) (fun c86 => ?_) (fun c86 => ?_)
  · have hF := it c86 hF
    refine lv_bipush (v := (-2)) hx hb dX12_bell_47 (by decide) ?_
    obtain ⟨rfl, rfl⟩ := sj2 hF
    exact hfin _ _ _ _ (wdW rfl hW) hS dX12_bell_49
  · have hF := ie c86 hF
    refine lv_iload_n hx hb dX12_bell_8 rfl (lv_at hl 2 rfl) ?_
    refine lv_i2l (v := (a2).toInt64) hx hb dX12_bell_9 rfl ?_
    refine lv_lconst (v := 1) hx hb dX12_bell_10 (by decide) ?_
    refine lv_ldc2 (v := 9999) hx hb X.2.2.2.1 (X.2.2.2.2.1 _ (AL_of 1229 (by decide +kernel) rfl)) dX12_bell_11 ?_
    obtain ⟨x4, e3, hF⟩ := bn hF
    refine rc_i (Af := fun φ => [.long ((a2).toInt64), .long 1, .long 9999]) X hW hS ⟨Nat.zero_le _, Nat.zero_le _⟩ (rn_S (As := [.long ((a2).toInt64), .long 1, .long 9999]) (rest := []) X hW hS cw_12_139 ⟨Nat.le_of_ble_eq_true rfl, Nat.le_of_ble_eq_true rfl⟩ rfl hl.1 rfl (Nat.le_of_ble_eq_true rfl) dX12_bell_14) (ok_X12_in ((a2).toInt64) 1 9999 e3) (fun H locs hW hS => ?_)
    refine lv_if_eq (tgt := 47) hx hb dX12_bell_17 (by decide) (fun c85 => ?_) (fun c85 => ?_)
    · have hF := it c85 hF
      refine lv_bipush (v := (-2)) hx hb dX12_bell_47 (by decide) ?_
      obtain ⟨rfl, rfl⟩ := sj2 hF
      exact hfin _ _ _ _ (wdW rfl hW) hS dX12_bell_49
    · have hF := ie c85 hF
      refine lv_iload_n hx hb dX12_bell_20 rfl (lv_at hl 3 rfl) ?_
      refine lv_i2l (v := (a3).toInt64) hx hb dX12_bell_21 rfl ?_
      refine lv_ldc2 (v := 1000) hx hb X.2.2.2.1 (X.2.2.2.2.1 _ (AL_of 1230 (by decide +kernel) rfl)) dX12_bell_22 ?_
      refine lv_ldc2 (v := 1939) hx hb X.2.2.2.1 (X.2.2.2.2.1 _ (AL_of 1231 (by decide +kernel) rfl)) dX12_bell_25 ?_
      obtain ⟨x6, e5, hF⟩ := bn hF
      refine rc_i (Af := fun φ => [.long ((a3).toInt64), .long 1000, .long 1939]) X hW hS ⟨Nat.zero_le _, Nat.zero_le _⟩ (rn_S (As := [.long ((a3).toInt64), .long 1000, .long 1939]) (rest := []) X hW hS cw_12_139 ⟨Nat.le_of_ble_eq_true rfl, Nat.le_of_ble_eq_true rfl⟩ rfl hl.1 rfl (Nat.le_of_ble_eq_true rfl) dX12_bell_28) (ok_X12_in ((a3).toInt64) 1000 1939 e5) (fun H locs hW hS => ?_)
      refine lv_if_eq (tgt := 47) hx hb dX12_bell_31 (by decide) (fun c84 => ?_) (fun c84 => ?_)
      · have hF := it c84 hF
        refine lv_bipush (v := (-2)) hx hb dX12_bell_47 (by decide) ?_
        obtain ⟨rfl, rfl⟩ := sj2 hF
        exact hfin _ _ _ _ (wdW rfl hW) hS dX12_bell_49
      · have hF := ie c84 hF
        refine lv_iload hx hb dX12_bell_34 (lv_at hl 4 rfl) ?_
        refine lv_i2l (v := (a4).toInt64) hx hb dX12_bell_36 rfl ?_
        refine lv_lconst (v := 0) hx hb dX12_bell_37 (by decide) ?_
        refine lv_ldc2 (v := 30) hx hb X.2.2.2.1 (X.2.2.2.2.1 _ (AL_of 1232 (by decide +kernel) rfl)) dX12_bell_38 ?_
        obtain ⟨x8, e7, hF⟩ := bn hF
        refine rc_i (Af := fun φ => [.long ((a4).toInt64), .long 0, .long 30]) X hW hS ⟨Nat.zero_le _, Nat.zero_le _⟩ (rn_S (As := [.long ((a4).toInt64), .long 0, .long 30]) (rest := []) X hW hS cw_12_139 ⟨Nat.le_of_ble_eq_true rfl, Nat.le_of_ble_eq_true rfl⟩ rfl hl.1 rfl (Nat.le_of_ble_eq_true rfl) dX12_bell_41) (ok_X12_in ((a4).toInt64) 0 30 e7) (fun H locs hW hS => ?_)
        refine lv_if_ne (tgt := 50) hx hb dX12_bell_44 (by decide) (fun c83 => ?_) (fun c83 => ?_)
        · have hF := ie c83 hF
          refine lv_aload_n hx hb dX12_bell_50 rfl (lv_at hl 0 rfl) ?_
          refine r_geti X hW al_0 fl_12_167 dX12_bell_51 ?_
          refine lv_bipush (v := 20) hx hb dX12_bell_54 (by decide) ?_
          refine lv_icmp_ne (tgt := 62) hx hb dX12_bell_56 (by decide) (fun c82 => ?_) (fun c82 => ?_)
          · have hF := ie c82 hF
            refine lv_aload_n hx hb dX12_bell_62 rfl (lv_at hl 0 rfl) ?_
            obtain ⟨o9, e10, hF⟩ := bn hF
            refine r_getr X hW al_0 fl_12_25 e10 dX12_bell_63 (fun al11 => ?_)
            refine lv_aload_n hx hb dX12_bell_66 rfl (lv_at hl 0 rfl) ?_
            refine r_geti X hW al_0 fl_12_167 dX12_bell_67 ?_
            refine lv_iload_n hx hb dX12_bell_70 rfl (lv_at hl 1 rfl) ?_
            obtain ⟨h12, e13, hF⟩ := bn hF
            obtain ⟨b14, e13⟩ := sa_s e13
            refine r_iast X hW hS al11 rfl b14 dX12_bell_71 (fun H locs hW hS => ?_)
            have hW := nmW e13 hW
            have g15 : h12.2.2 = h.2.2 := by rw [e13]; exact rfl
            refine lv_aload_n hx hb dX12_bell_72 rfl (lv_at hl 0 rfl) ?_
            obtain ⟨o16, e17, hF⟩ := bn hF
            refine r_getr X hW (gq g15 al_0) fl_12_28 e17 dX12_bell_73 (fun al18 => ?_)
            have al18 := qg g15 al18
            refine lv_aload_n hx hb dX12_bell_76 rfl (lv_at hl 0 rfl) ?_
            refine r_geti X hW (gq g15 al_0) fl_12_167 dX12_bell_77 ?_
            refine lv_iload_n hx hb dX12_bell_80 rfl (lv_at hl 2 rfl) ?_
            obtain ⟨h19, e20, hF⟩ := bn hF
            obtain ⟨b21, e20⟩ := sa_s e20
            refine r_iast X hW hS (gq g15 al18) rfl b21 dX12_bell_81 (fun H locs hW hS => ?_)
            have hW := nmW e20 hW
            have g22 : h19.2.2 = h.2.2 := by rw [e20]; exact g15
            refine lv_aload_n hx hb dX12_bell_82 rfl (lv_at hl 0 rfl) ?_
            obtain ⟨o23, e24, hF⟩ := bn hF
            refine r_getr X hW (gq g22 al_0) fl_12_31 e24 dX12_bell_83 (fun al25 => ?_)
            have al25 := qg g22 al25
            refine lv_aload_n hx hb dX12_bell_86 rfl (lv_at hl 0 rfl) ?_
            refine r_geti X hW (gq g22 al_0) fl_12_167 dX12_bell_87 ?_
            refine lv_iload_n hx hb dX12_bell_90 rfl (lv_at hl 3 rfl) ?_
            obtain ⟨h26, e27, hF⟩ := bn hF
            obtain ⟨b28, e27⟩ := sa_s e27
            refine r_iast X hW hS (gq g22 al25) rfl b28 dX12_bell_91 (fun H locs hW hS => ?_)
            have hW := nmW e27 hW
            have g29 : h26.2.2 = h.2.2 := by rw [e27]; exact g22
            refine lv_aload_n hx hb dX12_bell_92 rfl (lv_at hl 0 rfl) ?_
            obtain ⟨o30, e31, hF⟩ := bn hF
            refine r_getr X hW (gq g29 al_0) fl_12_34 e31 dX12_bell_93 (fun al32 => ?_)
            have al32 := qg g29 al32
            refine lv_aload_n hx hb dX12_bell_96 rfl (lv_at hl 0 rfl) ?_
            refine r_geti X hW (gq g29 al_0) fl_12_167 dX12_bell_97 ?_
            refine lv_iload hx hb dX12_bell_100 (lv_at hl 4 rfl) ?_
            obtain ⟨h33, e34, hF⟩ := bn hF
            obtain ⟨b35, e34⟩ := sa_s e34
            refine r_iast X hW hS (gq g29 al32) rfl b35 dX12_bell_102 (fun H locs hW hS => ?_)
            have hW := nmW e34 hW
            have g36 : h33.2.2 = h.2.2 := by rw [e34]; exact g29
            refine lv_aload_n hx hb dX12_bell_103 rfl (lv_at hl 0 rfl) ?_
            obtain ⟨o37, e38, hF⟩ := bn hF
            refine r_getr X hW (gq g36 al_0) fl_12_40 e38 dX12_bell_104 (fun al39 => ?_)
            have al39 := qg g36 al39
            refine lv_aload_n hx hb dX12_bell_107 rfl (lv_at hl 0 rfl) ?_
            refine r_geti X hW (gq g36 al_0) fl_12_167 dX12_bell_108 ?_
            refine lv_iconst (v := (-1)) hx hb dX12_bell_111 (by decide) ?_
            obtain ⟨h40, e41, hF⟩ := bn hF
            obtain ⟨b42, e41⟩ := sa_s e41
            refine r_iast X hW hS (gq g36 al39) rfl b42 dX12_bell_112 (fun H locs hW hS => ?_)
            have hW := nmW e41 hW
            have g43 : h40.2.2 = h.2.2 := by rw [e41]; exact g36
            refine lv_aload_n hx hb dX12_bell_113 rfl (lv_at hl 0 rfl) ?_
            obtain ⟨o44, e45, hF⟩ := bn hF
            refine r_getr X hW (gq g43 al_0) fl_12_43 e45 dX12_bell_114 (fun al46 => ?_)
            have al46 := qg g43 al46
            refine lv_aload_n hx hb dX12_bell_117 rfl (lv_at hl 0 rfl) ?_
            refine r_geti X hW (gq g43 al_0) fl_12_167 dX12_bell_118 ?_
            refine lv_iconst (v := 5) hx hb dX12_bell_121 (by decide) ?_
            obtain ⟨h47, e48, hF⟩ := bn hF
            obtain ⟨b49, e48⟩ := sa_s e48
            refine r_iast X hW hS (gq g43 al46) rfl b49 dX12_bell_122 (fun H locs hW hS => ?_)
            have hW := nmW e48 hW
            have g50 : h47.2.2 = h.2.2 := by rw [e48]; exact g43
            refine lv_aload_n hx hb dX12_bell_123 rfl (lv_at hl 0 rfl) ?_
            obtain ⟨o51, e52, hF⟩ := bn hF
            refine r_getr X hW (gq g50 al_0) fl_12_46 e52 dX12_bell_124 (fun al53 => ?_)
            have al53 := qg g50 al53
            refine lv_aload_n hx hb dX12_bell_127 rfl (lv_at hl 0 rfl) ?_
            refine r_geti X hW (gq g50 al_0) fl_12_167 dX12_bell_128 ?_
            refine lv_sipush (v := 999) hx hb dX12_bell_131 (by decide) ?_
            obtain ⟨h54, e55, hF⟩ := bn hF
            obtain ⟨b56, e55⟩ := sa_s e55
            refine r_iast X hW hS (gq g50 al53) rfl b56 dX12_bell_134 (fun H locs hW hS => ?_)
            have hW := nmW e55 hW
            have g57 : h54.2.2 = h.2.2 := by rw [e55]; exact g50
            refine lv_iconst (v := 0) hx hb dX12_bell_135 (by decide) ?_
            refine lv_istore (lv' := [(5, .int 0), (0, .ref (φ 12 i0)), (1, .int a1), (2, .int a2), (3, .int a3), (4, .int a4)]) hx hb dX12_bell_136 hl (by decide) rfl (fun ls hl => ?_)
            obtain ⟨q72, e73, hF⟩ := bn hF
            refine loop_w (f := B_X12_bell_138 i0 h54) (Z := fun q => ∀ (H : Heap) (locs : List Loc) (ls : Array Slot), HW D cA A φ (wd h54 q.2) H → va_S A s.heap H locs → lv_has ls 6 [(0, .ref (φ 12 i0)), (5, .int (q.1))] → W p l e (rmo 2 46 0 0) s m args below meth c H locs 0 0 Q (F0 m 138 ls [])) (K := fun q => ∀ (H : Heap) (locs : List Loc) (ls : Array Slot), HW D cA A φ (wd h54 q) H → va_S A s.heap H locs → lv_has ls 6 [(0, .ref (φ 12 i0))] → W p l e (rmo 2 46 0 0) s m args below meth c H locs 0 0 Q (F0 m 165 ls [])) ?_ LF _ q72 e73 ?_ _ _ _ (wdW rfl hW) hS (lv_sub hl [1, 0] rfl)
            · intro q v hF hK H locs ls hW hS hl
              obtain ⟨x58, d61⟩ := q
              unfold B_X12_bell_138 at hF
              have hF := u2d hF
              obtain ⟨h59, e74, hF⟩ := nmx hF
              have hW := nmW e74 hW
              have g60 : h59.2.2 = h.2.2 := by rw [e74]; exact g57
              have hl : lv_has ls 6 [(0, .ref (φ 12 i0)), (5, .int x58)] := hl
              refine lv_iload hx hb dX12_bell_138 (lv_at hl 1 rfl) ?_
              refine lv_iconst (v := 5) hx hb dX12_bell_140 (by decide) ?_
              refine lv_icmp_ge (tgt := 165) hx hb dX12_bell_141 (by decide) (fun c71 => ?_) (fun c71 => ?_)
              · have hF := it c71 hF
                obtain rfl := sj hF
                exact hK _ _ _ (wdW (sq g60 g57) hW) hS (lv_sub hl [0] rfl)
              · have hF := ie c71 hF
                refine lv_aload_n hx hb dX12_bell_144 rfl (lv_at hl 0 rfl) ?_
                obtain ⟨o62, e63, hF⟩ := bn hF
                refine r_getr X hW (gq g60 al_0) fl_12_37 e63 dX12_bell_145 (fun al64 => ?_)
                have al64 := qg g60 al64
                refine lv_iconst (v := 5) hx hb dX12_bell_148 (by decide) ?_
                refine lv_aload_n hx hb dX12_bell_149 rfl (lv_at hl 0 rfl) ?_
                refine r_geti X hW (gq g60 al_0) fl_12_167 dX12_bell_150 ?_
                refine lv_imul hx hb dX12_bell_153 ?_
                refine lv_iload hx hb dX12_bell_154 (lv_at hl 1 rfl) ?_
                refine lv_iadd hx hb dX12_bell_156 ?_
                refine lv_iconst (v := (-1)) hx hb dX12_bell_157 (by decide) ?_
                obtain ⟨h65, e66, hF⟩ := bn hF
                obtain ⟨b67, e66⟩ := sa_s e66
                refine r_iast X hW hS (gq g60 al64) rfl b67 dX12_bell_158 (fun H locs hW hS => ?_)
                have hW := nmW e66 hW
                have g68 : h65.2.2 = h.2.2 := by rw [e66]; exact g60
                obtain ⟨x69, e70, hF⟩ := nmx hF
                refine lv_iinc (v := x69) (lv' := [(5, .int x69), (0, .ref (φ 12 i0))]) hx hb dX12_bell_159 hl (k := 1) rfl (by rw [e70]; rfl) (by decide) rfl (fun ls hl => ?_)
                refine lv_goto (tgt := 138) hx hb dX12_bell_162 (by decide) ?_
                obtain rfl := sj hF
                exact hK _ _ _ (wdW (sq g68 g57) hW) hS (lv_sub hl [1, 0] rfl)
            · intro H locs ls hW hS hl
              obtain ⟨d75, rfl⟩ : ∃ z, z = q72 := ⟨_, rfl⟩
              obtain ⟨h76, e81, hF⟩ := nmx hF
              have hW := nmW e81 hW
              have g77 : h76.2.2 = h.2.2 := by rw [e81]; exact g57
              have hl : lv_has ls 6 [(0, .ref (φ 12 i0))] := hl
              refine lv_aload_n hx hb dX12_bell_165 rfl (lv_at hl 0 rfl) ?_
              refine lv_dup hx hb dX12_bell_166 rfl ?_
              refine r_geti X hW (gq g77 al_0) fl_12_167 dX12_bell_167 ?_
              refine lv_iconst (v := 1) hx hb dX12_bell_170 (by decide) ?_
              refine lv_iadd hx hb dX12_bell_171 ?_
              refine r_puti X hW hS (gq g77 al_0) fp_12_167 rfl rfl dX12_bell_172 (fun H locs hW hS => ?_)
              obtain ⟨h78, e79, hF⟩ := nmx hF
              have hW := nmW e79 hW
              have g80 : h78.2.2 = h.2.2 := by rw [e79]; exact g77
              refine lv_aload_n hx hb dX12_bell_175 rfl (lv_at hl 0 rfl) ?_
              refine r_geti X hW (gq g80 al_0) fl_12_167 dX12_bell_176 ?_
              refine lv_iconst (v := 1) hx hb dX12_bell_179 (by decide) ?_
              refine lv_isub hx hb dX12_bell_180 ?_
              obtain ⟨rfl, rfl⟩ := sj2 hF
              exact hfin _ _ _ _ (wdW g80 hW) hS dX12_bell_181
          · have hF := it c82 hF
            refine lv_bipush (v := (-4)) hx hb dX12_bell_59 (by decide) ?_
            obtain ⟨rfl, rfl⟩ := sj2 hF
            exact hfin _ _ _ _ (wdW rfl hW) hS dX12_bell_61
        · have hF := it c83 hF
          refine lv_bipush (v := (-2)) hx hb dX12_bell_47 (by decide) ?_
          obtain ⟨rfl, rfl⟩ := sj2 hF
          exact hfin _ _ _ _ (wdW rfl hW) hS dX12_bell_49
