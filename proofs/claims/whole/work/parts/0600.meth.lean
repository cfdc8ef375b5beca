def F_X11_isFrom (a0 : Int32) (a1 : Int32) (a2 : Int32) : Option (Int32) :=
  (if a0 < a1 then
  some 0
  else
  (if a2 < a0 then
  some 0
  else
  some 1))
set_option maxHeartbeats 4000000 in
set_option maxRecDepth 100000 in
theorem ok_X11_isFrom {l : Launch} {D : va_G} {cA : Nat → ClassId} {h : HP} {r : Int32}  (a0 : Int32) (a1 : Int32) (a2 : Int32)  (hF : F_X11_isFrom a0 a1 a2 = some r) : MI l D cA yX11_isFrom cX11_isFrom 3 (some .boolean) 0 0 (fun φ => [.int a0, .int a1, .int a2]) h r h := by
  refine mk_Z (plainFor_of_name (by decide)) (fun φ => Nat.le_of_ble_eq_true rfl) ?_
  intro p e s m args below meth c ls φ A Q X hW hS hl hfin
  have hx := X.1
  have hb := X.2.1
  have hl : lv_has ls 3 [(0, .int a0), (1, .int a1), (2, .int a2)] := hl
  unfold F_X11_isFrom at hF
  refine lv_iload_n hx hb dX11_isFrom_0 rfl (lv_at hl 0 rfl) ?_
  refine lv_iload_n hx hb dX11_isFrom_1 rfl (lv_at hl 1 rfl) ?_
  refine lv_icmp_lt (tgt := 14) hx hb dX11_isFrom_2 (by decide) (fun c2 => ?_) (fun c2 => ?_)
  · have hF := it c2 hF
    refine lv_iconst (v := 0) hx hb dX11_isFrom_14 (by decide) ?_
    obtain rfl := sj hF
    exact hfin _ _ _ _ hW hS (Or.inl rfl) dX11_isFrom_15
  · have hF := ie c2 hF
    refine lv_iload_n hx hb dX11_isFrom_5 rfl (lv_at hl 0 rfl) ?_
    refine lv_iload_n hx hb dX11_isFrom_6 rfl (lv_at hl 2 rfl) ?_
    refine lv_icmp_gt (tgt := 14) hx hb dX11_isFrom_7 (by decide) (fun c1 => ?_) (fun c1 => ?_)
    · have hF := it c1 hF
      refine lv_iconst (v := 0) hx hb dX11_isFrom_14 (by decide) ?_
      obtain rfl := sj hF
      exact hfin _ _ _ _ hW hS (Or.inl rfl) dX11_isFrom_15
    · have hF := ie c1 hF
      refine lv_iconst (v := 1) hx hb dX11_isFrom_10 (by decide) ?_
      refine lv_goto (tgt := 15) hx hb dX11_isFrom_11 (by decide) ?_
      obtain rfl := sj hF
      exact hfin _ _ _ _ hW hS (Or.inr rfl) dX11_isFrom_15
def F_X11_pass (i0 : Nat) (a1 : Int32) (h : HP) : Option (Int32 × DP) :=
  (F_X11_isFrom a1 1 100).bind fun x2 =>
  (if x2 = 0 then
  some ((-2), dp h)
  else
  (if ((gi h 11 i0 0) + a1) ≤ 199 then
  nm (si h 11 i0 0 ((gi h 11 i0 0) + a1)) fun h3 =>
  some ((gi h3 11 i0 0), dp h3)
  else
  some ((-2), dp h)))
set_option maxHeartbeats 4000000 in
set_option maxRecDepth 100000 in
theorem ok_X11_pass {l : Launch} {D : va_G} {cA : Nat → ClassId} {h : HP} {r : Int32} {d : DP} (i0 : Nat) (a1 : Int32) (al_0 : i0 < gn h 11) (hF : F_X11_pass i0 a1 h = some (r, d)) : MI l D cA yX11_pass cX11_pass 2 (some .int) 1 22 (fun φ => [.ref (φ 11 i0), .int a1]) h r (wd h d) := by
  refine mk_I (plainFor_of_name (by decide)) (fun φ => Nat.le_of_ble_eq_true rfl) ?_
  intro p e s m args below meth c ls φ A Q X hW hS hl hfin
  have hx := X.1
  have hb := X.2.1
  have hl : lv_has ls 2 [(0, .ref (φ 11 i0)), (1, .int a1)] := hl
  unfold F_X11_pass at hF
  refine lv_iload_n hx hb dX11_pass_0 rfl (lv_at hl 1 rfl) ?_
  refine lv_iconst (v := 1) hx hb dX11_pass_1 (by decide) ?_
  refine lv_bipush (v := 100) hx hb dX11_pass_2 (by decide) ?_
  obtain ⟨x2, e1, hF⟩ := bn hF
  refine rc_i (Af := fun φ => [.int a1, .int 1, .int 100]) X hW hS ⟨Nat.zero_le _, Nat.zero_le _⟩ (rn_S (As := [.int a1, .int 1, .int 100]) (rest := []) X hW hS cw_11_81 ⟨Nat.le_of_ble_eq_true rfl, Nat.le_of_ble_eq_true rfl⟩ rfl hl.1 rfl (Nat.le_of_ble_eq_true rfl) dX11_pass_4) (ok_X11_isFrom a1 1 100 e1) (fun H locs hW hS => ?_)
  refine lv_if_eq (tgt := 22) hx hb dX11_pass_7 (by decide) (fun c7 => ?_) (fun c7 => ?_)
  · have hF := it c7 hF
    refine lv_bipush (v := (-2)) hx hb dX11_pass_22 (by decide) ?_
    obtain ⟨rfl, rfl⟩ := sj2 hF
    exact hfin _ _ _ _ (wdW rfl hW) hS dX11_pass_24
  · have hF := ie c7 hF
    refine lv_aload_n hx hb dX11_pass_10 rfl (lv_at hl 0 rfl) ?_
    refine r_geti X hW al_0 fl_11_85 dX11_pass_11 ?_
    refine lv_iload_n hx hb dX11_pass_14 rfl (lv_at hl 1 rfl) ?_
    refine lv_iadd hx hb dX11_pass_15 ?_
    refine lv_sipush (v := 199) hx hb dX11_pass_16 (by decide) ?_
    refine lv_icmp_le (tgt := 25) hx hb dX11_pass_19 (by decide) (fun c6 => ?_) (fun c6 => ?_)
    · have hF := it c6 hF
      refine lv_aload_n hx hb dX11_pass_25 rfl (lv_at hl 0 rfl) ?_
      refine lv_dup hx hb dX11_pass_26 rfl ?_
      refine r_geti X hW al_0 fl_11_85 dX11_pass_27 ?_
      refine lv_iload_n hx hb dX11_pass_30 rfl (lv_at hl 1 rfl) ?_
      refine lv_iadd hx hb dX11_pass_31 ?_
      refine r_puti X hW hS al_0 fp_11_85 rfl rfl dX11_pass_32 (fun H locs hW hS => ?_)
      obtain ⟨h3, e4, hF⟩ := nmx hF
      have hW := nmW e4 hW
      have g5 : h3.2.2 = h.2.2 := by rw [e4]; exact rfl
      refine lv_aload_n hx hb dX11_pass_35 rfl (lv_at hl 0 rfl) ?_
      refine r_geti X hW (gq g5 al_0) fl_11_85 dX11_pass_36 ?_
      obtain ⟨rfl, rfl⟩ := sj2 hF
      exact hfin _ _ _ _ (wdW g5 hW) hS dX11_pass_39
    · have hF := ie c6 hF
      refine lv_bipush (v := (-2)) hx hb dX11_pass_22 (by decide) ?_
      obtain ⟨rfl, rfl⟩ := sj2 hF
      exact hfin _ _ _ _ (wdW rfl hW) hS dX11_pass_24
def F_X11_isLand (a0 : Int32) : Option (Int32) :=
  (F_X11_isFrom a0 0 3).bind fun x2 =>
  (bz x2).bind fun x3 => some x3
set_option maxHeartbeats 4000000 in
set_option maxRecDepth 100000 in
theorem ok_X11_isLand {l : Launch} {D : va_G} {cA : Nat → ClassId} {h : HP} {r : Int32}  (a0 : Int32)  (hF : F_X11_isLand a0 = some r) : MI l D cA yX11_isLand cX11_isLand 1 (some .boolean) 1 22 (fun φ => [.int a0]) h r h := by
  refine mk_Z (plainFor_of_name (by decide)) (fun φ => Nat.le_of_ble_eq_true rfl) ?_
  intro p e s m args below meth c ls φ A Q X hW hS hl hfin
  have hx := X.1
  have hb := X.2.1
  have hl : lv_has ls 1 [(0, .int a0)] := hl
  unfold F_X11_isLand at hF
  refine lv_iload_n hx hb dX11_isLand_0 rfl (lv_at hl 0 rfl) ?_
  refine lv_iconst (v := 0) hx hb dX11_isLand_1 (by decide) ?_
  refine lv_iconst (v := 3) hx hb dX11_isLand_2 (by decide) ?_
  obtain ⟨x2, e1, hF⟩ := bn hF
  refine rc_i (Af := fun φ => [.int a0, .int 0, .int 3]) X hW hS ⟨Nat.zero_le _, Nat.zero_le _⟩ (rn_S (As := [.int a0, .int 0, .int 3]) (rest := []) X hW hS cw_11_81 ⟨Nat.le_of_ble_eq_true rfl, Nat.le_of_ble_eq_true rfl⟩ rfl hl.1 rfl (Nat.le_of_ble_eq_true rfl) dX11_isLand_3) (ok_X11_isFrom a0 0 3 e1) (fun H locs hW hS => ?_)
  obtain ⟨x3, e4, hF⟩ := bn hF
  obtain ⟨b5, e4⟩ := bz_s e4
  refine nmi e4 ?_
  rw [← e4] at b5
  obtain rfl := sj hF
  exact hfin _ _ _ _ hW hS b5 dX11_isLand_6
def F_X11_parish (i0 : Nat) (a1 : Int32) (h : HP) : Option (Int32 × DP) :=
  (F_X11_isLand a1).bind fun x2 =>
  (if x2 = 0 then
  some ((-2), dp h)
  else
  (if (gi h 11 i0 2) < 8 then
  (gr h 11 i0 1).bind fun o3 =>
  (sa h 41 o3 8 (gi h 11 i0 2) a1).bind fun h6 =>
  nm (si h6 11 i0 2 ((gi h6 11 i0 2) + 1)) fun h10 =>
  some (((gi h10 11 i0 2) - 1), dp h10)
  else
  some ((-4), dp h)))
set_option maxHeartbeats 4000000 in
set_option maxRecDepth 100000 in
theorem ok_X11_parish {l : Launch} {D : va_G} {cA : Nat → ClassId} {h : HP} {r : Int32} {d : DP} (i0 : Nat) (a1 : Int32) (al_0 : i0 < gn h 11) (hF : F_X11_parish i0 a1 h = some (r, d)) : MI l D cA yX11_parish cX11_parish 2 (some .int) 2 42 (fun φ => [.ref (φ 11 i0), .int a1]) h r (wd h d) := by
  refine mk_I (plainFor_of_name (by decide)) (fun φ => Nat.le_of_ble_eq_true rfl) ?_
  intro p e s m args below meth c ls φ A Q X hW hS hl hfin
  have hx := X.1
  have hb := X.2.1
  have hl : lv_has ls 2 [(0, .ref (φ 11 i0)), (1, .int a1)] := hl
  unfold F_X11_parish at hF
  refine lv_iload_n hx hb dX11_parish_0 rfl (lv_at hl 1 rfl) ?_
  obtain ⟨x2, e1, hF⟩ := bn hF
  refine rc_i (Af := fun φ => [.int a1]) X hW hS ⟨Nat.zero_le _, Nat.zero_le _⟩ (rn_S (As := [.int a1]) (rest := []) X hW hS cw_11_89 ⟨Nat.le_of_ble_eq_true rfl, Nat.le_of_ble_eq_true rfl⟩ rfl hl.1 rfl (Nat.le_of_ble_eq_true rfl) dX11_parish_1) (ok_X11_isLand a1 e1) (fun H locs hW hS => ?_)
  refine lv_if_ne (tgt := 10) hx hb dX11_parish_4 (by decide) (fun c14 => ?_) (fun c14 => ?_)
  · have hF := ie c14 hF
    refine lv_aload_n hx hb dX11_parish_10 rfl (lv_at hl 0 rfl) ?_
    refine r_geti X hW al_0 fl_11_93 dX11_parish_11 ?_
    refine lv_bipush (v := 8) hx hb dX11_parish_14 (by decide) ?_
    refine lv_icmp_lt (tgt := 22) hx hb dX11_parish_16 (by decide) (fun c13 => ?_) (fun c13 => ?_)
    · have hF := it c13 hF
      refine lv_aload_n hx hb dX11_parish_22 rfl (lv_at hl 0 rfl) ?_
      obtain ⟨o3, e4, hF⟩ := bn hF
      refine r_getr X hW al_0 fl_11_9 e4 dX11_parish_23 (fun al5 => ?_)
      refine lv_aload_n hx hb dX11_parish_26 rfl (lv_at hl 0 rfl) ?_
      refine r_geti X hW al_0 fl_11_93 dX11_parish_27 ?_
      refine lv_iload_n hx hb dX11_parish_30 rfl (lv_at hl 1 rfl) ?_
      obtain ⟨h6, e7, hF⟩ := bn hF
      obtain ⟨b8, e7⟩ := sa_s e7
      refine r_iast X hW hS al5 rfl b8 dX11_parish_31 (fun H locs hW hS => ?_)
      have hW := nmW e7 hW
      have g9 : h6.2.2 = h.2.2 := by rw [e7]; exact rfl
      refine lv_aload_n hx hb dX11_parish_32 rfl (lv_at hl 0 rfl) ?_
      refine lv_dup hx hb dX11_parish_33 rfl ?_
      refine r_geti X hW (gq g9 al_0) fl_11_93 dX11_parish_34 ?_
      refine lv_iconst (v := 1) hx hb dX11_parish_37 (by decide) ?_
      refine lv_iadd hx hb dX11_parish_38 ?_
      refine r_puti X hW hS (gq g9 al_0) fp_11_93 rfl rfl dX11_parish_39 (fun H locs hW hS => ?_)
      obtain ⟨h10, e11, hF⟩ := nmx hF
      have hW := nmW e11 hW
      have g12 : h10.2.2 = h.2.2 := by rw [e11]; exact g9
      refine lv_aload_n hx hb dX11_parish_42 rfl (lv_at hl 0 rfl) ?_
      refine r_geti X hW (gq g12 al_0) fl_11_93 dX11_parish_43 ?_
      refine lv_iconst (v := 1) hx hb dX11_parish_46 (by decide) ?_
      refine lv_isub hx hb dX11_parish_47 ?_
      obtain ⟨rfl, rfl⟩ := sj2 hF
      exact hfin _ _ _ _ (wdW g12 hW) hS dX11_parish_48
    · have hF := ie c13 hF
      refine lv_bipush (v := (-4)) hx hb dX11_parish_19 (by decide) ?_
      obtain ⟨rfl, rfl⟩ := sj2 hF
      exact hfin _ _ _ _ (wdW rfl hW) hS dX11_parish_21
  · have hF := it c14 hF
    refine lv_bipush (v := (-2)) hx hb dX11_parish_7 (by decide) ?_
    obtain ⟨rfl, rfl⟩ := sj2 hF
    exact hfin _ _ _ _ (wdW rfl hW) hS dX11_parish_9
def F_X11_isParish (i0 : Nat) (a1 : Int32) (h : HP) : Option (Int32) :=
  (F_X11_isFrom a1 0 ((gi h 11 i0 2) - 1)).bind fun x2 =>
  (bz x2).bind fun x3 => some x3
set_option maxHeartbeats 4000000 in
set_option maxRecDepth 100000 in
theorem ok_X11_isParish {l : Launch} {D : va_G} {cA : Nat → ClassId} {h : HP} {r : Int32}  (i0 : Nat) (a1 : Int32) (al_0 : i0 < gn h 11) (hF : F_X11_isParish i0 a1 h = some r) : MI l D cA yX11_isParish cX11_isParish 2 (some .boolean) 1 22 (fun φ => [.ref (φ 11 i0), .int a1]) h r h := by
  refine mk_Z (plainFor_of_name (by decide)) (fun φ => Nat.le_of_ble_eq_true rfl) ?_
  intro p e s m args below meth c ls φ A Q X hW hS hl hfin
  have hx := X.1
  have hb := X.2.1
  have hl : lv_has ls 2 [(0, .ref (φ 11 i0)), (1, .int a1)] := hl
  unfold F_X11_isParish at hF
  refine lv_iload_n hx hb dX11_isParish_0 rfl (lv_at hl 1 rfl) ?_
  refine lv_iconst (v := 0) hx hb dX11_isParish_1 (by decide) ?_
  refine lv_aload_n hx hb dX11_isParish_2 rfl (lv_at hl 0 rfl) ?_
  refine r_geti X hW al_0 fl_11_93 dX11_isParish_3 ?_
  refine lv_iconst (v := 1) hx hb dX11_isParish_6 (by decide) ?_
  refine lv_isub hx hb dX11_isParish_7 ?_
  obtain ⟨x2, e1, hF⟩ := bn hF
  refine rc_i (Af := fun φ => [.int a1, .int 0, .int ((gi h 11 i0 2) - 1)]) X hW hS ⟨Nat.zero_le _, Nat.zero_le _⟩ (rn_S (As := [.int a1, .int 0, .int ((gi h 11 i0 2) - 1)]) (rest := []) X hW hS cw_11_81 ⟨Nat.le_of_ble_eq_true rfl, Nat.le_of_ble_eq_true rfl⟩ rfl hl.1 rfl (Nat.le_of_ble_eq_true rfl) dX11_isParish_8) (ok_X11_isFrom a1 0 ((gi h 11 i0 2) - 1) e1) (fun H locs hW hS => ?_)
  obtain ⟨x3, e4, hF⟩ := bn hF
  obtain ⟨b5, e4⟩ := bz_s e4
  refine nmi e4 ?_
  rw [← e4] at b5
  obtain rfl := sj hF
  exact hfin _ _ _ _ hW hS b5 dX11_isParish_11
def F_X11_moved (i0 : Nat) (a1 : Int32) (a2 : Int32) (h : HP) : Option (Int32 × DP) :=
  (F_X11_isParish i0 a1 h).bind fun x2 =>
  (if x2 = 0 then
  some ((-2), dp h)
  else
  (F_X11_isLand a2).bind fun x4 =>
  (if x4 = 0 then
  some ((-2), dp h)
  else
  (gr h 11 i0 1).bind fun o5 =>
  (ga h 41 o5 8 a1).bind fun x8 =>
  (if x8 = a2 then
  some ((-2), dp h)
  else
  (gr h 11 i0 1).bind fun o11 =>
  (ga h 41 o11 8 a1).bind fun x14 =>
  (gr h 11 i0 1).bind fun o17 =>
  (sa h 41 o17 8 a1 a2).bind fun h20 =>
  some (x14, dp h20))))
set_option maxHeartbeats 4000000 in
set_option maxRecDepth 100000 in
theorem ok_X11_moved {l : Launch} {D : va_G} {cA : Nat → ClassId} {h : HP} {r : Int32} {d : DP} (i0 : Nat) (a1 : Int32) (a2 : Int32) (al_0 : i0 < gn h 11) (hF : F_X11_moved i0 a1 a2 h = some (r, d)) : MI l D cA yX11_moved cX11_moved 4 (some .int) 2 43 (fun φ => [.ref (φ 11 i0), .int a1, .int a2]) h r (wd h d) := by
  refine mk_I (plainFor_of_name (by decide)) (fun φ => Nat.le_of_ble_eq_true rfl) ?_
  intro p e s m args below meth c ls φ A Q X hW hS hl hfin
  have hx := X.1
  have hb := X.2.1
  have hl : lv_has ls 4 [(0, .ref (φ 11 i0)), (1, .int a1), (2, .int a2)] := hl
  unfold F_X11_moved at hF
  refine lv_aload_n hx hb dX11_moved_0 rfl (lv_at hl 0 rfl) ?_
  refine lv_iload_n hx hb dX11_moved_1 rfl (lv_at hl 1 rfl) ?_
  obtain ⟨x2, e1, hF⟩ := bn hF
  refine rc_i (Af := fun φ => [.ref (φ 11 i0), .int a1]) X hW hS ⟨Nat.zero_le _, Nat.zero_le _⟩ (rn_V (As := [.int a1]) (rest := []) X hW hS cw_11_96 al_0 rfl rfl rfl ⟨Nat.le_of_ble_eq_true rfl, Nat.le_of_ble_eq_true rfl⟩ rfl hl.1 rfl (Nat.le_of_ble_eq_true rfl) dX11_moved_2) (ok_X11_isParish i0 a1 al_0 e1) (fun H locs hW hS => ?_)
  refine lv_if_eq (tgt := 25) hx hb dX11_moved_5 (by decide) (fun c26 => ?_) (fun c26 => ?_)
  · have hF := it c26 hF
    refine lv_bipush (v := (-2)) hx hb dX11_moved_25 (by decide) ?_
    obtain ⟨rfl, rfl⟩ := sj2 hF
    exact hfin _ _ _ _ (wdW rfl hW) hS dX11_moved_27
  · have hF := ie c26 hF
    refine lv_iload_n hx hb dX11_moved_8 rfl (lv_at hl 2 rfl) ?_
    obtain ⟨x4, e3, hF⟩ := bn hF
    refine rc_i (Af := fun φ => [.int a2]) X hW hS ⟨Nat.zero_le _, Nat.zero_le _⟩ (rn_S (As := [.int a2]) (rest := []) X hW hS cw_11_89 ⟨Nat.le_of_ble_eq_true rfl, Nat.le_of_ble_eq_true rfl⟩ rfl hl.1 rfl (Nat.le_of_ble_eq_true rfl) dX11_moved_9) (ok_X11_isLand a2 e3) (fun H locs hW hS => ?_)
    refine lv_if_eq (tgt := 25) hx hb dX11_moved_12 (by decide) (fun c25 => ?_) (fun c25 => ?_)
    · have hF := it c25 hF
      refine lv_bipush (v := (-2)) hx hb dX11_moved_25 (by decide) ?_
      obtain ⟨rfl, rfl⟩ := sj2 hF
      exact hfin _ _ _ _ (wdW rfl hW) hS dX11_moved_27
    · have hF := ie c25 hF
      refine lv_aload_n hx hb dX11_moved_15 rfl (lv_at hl 0 rfl) ?_
      obtain ⟨o5, e6, hF⟩ := bn hF
      refine r_getr X hW al_0 fl_11_9 e6 dX11_moved_16 (fun al7 => ?_)
      refine lv_iload_n hx hb dX11_moved_19 rfl (lv_at hl 1 rfl) ?_
      obtain ⟨x8, e9, hF⟩ := bn hF
      obtain ⟨b10, e9⟩ := ga_s e9
      refine r_iald X hW al7 rfl b10 dX11_moved_20 ?_
      refine nmi e9 ?_
      refine lv_iload_n hx hb dX11_moved_21 rfl (lv_at hl 2 rfl) ?_
      refine lv_icmp_ne (tgt := 28) hx hb dX11_moved_22 (by decide) (fun c24 => ?_) (fun c24 => ?_)
      · have hF := ie c24 hF
        refine lv_aload_n hx hb dX11_moved_28 rfl (lv_at hl 0 rfl) ?_
        obtain ⟨o11, e12, hF⟩ := bn hF
        refine r_getr X hW al_0 fl_11_9 e12 dX11_moved_29 (fun al13 => ?_)
        refine lv_iload_n hx hb dX11_moved_32 rfl (lv_at hl 1 rfl) ?_
        obtain ⟨x14, e15, hF⟩ := bn hF
        obtain ⟨b16, e15⟩ := ga_s e15
        refine r_iald X hW al13 rfl b16 dX11_moved_33 ?_
        refine nmi e15 ?_
        refine lv_istore_n (lv' := [(3, .int x14), (0, .ref (φ 11 i0)), (1, .int a1), (2, .int a2)]) hx hb dX11_moved_34 rfl hl (by decide) rfl (fun ls hl => ?_)
        refine lv_aload_n hx hb dX11_moved_35 rfl (lv_at hl 1 rfl) ?_
        obtain ⟨o17, e18, hF⟩ := bn hF
        refine r_getr X hW al_0 fl_11_9 e18 dX11_moved_36 (fun al19 => ?_)
        refine lv_iload_n hx hb dX11_moved_39 rfl (lv_at hl 2 rfl) ?_
        refine lv_iload_n hx hb dX11_moved_40 rfl (lv_at hl 3 rfl) ?_
        obtain ⟨h20, e21, hF⟩ := bn hF
        obtain ⟨b22, e21⟩ := sa_s e21
        refine r_iast X hW hS al19 rfl b22 dX11_moved_41 (fun H locs hW hS => ?_)
        have hW := nmW e21 hW
        have g23 : h20.2.2 = h.2.2 := by rw [e21]; exact rfl
        refine lv_iload_n hx hb dX11_moved_42 rfl (lv_at hl 0 rfl) ?_
        obtain ⟨rfl, rfl⟩ := sj2 hF
        exact hfin _ _ _ _ (wdW g23 hW) hS dX11_moved_43
      · have hF := it c24 hF
        refine lv_bipush (v := (-2)) hx hb dX11_moved_25 (by decide) ?_
        obtain ⟨rfl, rfl⟩ := sj2 hF
        exact hfin _ _ _ _ (wdW rfl hW) hS dX11_moved_27
def F_X11_mayBeBell (i0 : Nat) (a1 : Int32) (a2 : Int32) (a3 : Int32) (a4 : Int32) (h : HP) : Option (Int32) :=
  (F_X11_isParish i0 a1 h).bind fun x2 =>
  (if x2 = 0 then
  some 0
  else
  (F_X11_isFrom a2 1 9999).bind fun x4 =>
  (if x4 = 0 then
  some 0
  else
  (F_X11_isFrom a3 1000 1939).bind fun x6 =>
  (if x6 = 0 then
  some 0
  else
  (F_X11_isFrom a4 0 30).bind fun x8 =>
  (if x8 = 0 then
  some 0
  else
  some 1))))
set_option maxHeartbeats 4000000 in
set_option maxRecDepth 100000 in
theorem ok_X11_mayBeBell {l : Launch} {D : va_G} {cA : Nat → ClassId} {h : HP} {r : Int32}  (i0 : Nat) (a1 : Int32) (a2 : Int32) (a3 : Int32) (a4 : Int32) (al_0 : i0 < gn h 11) (hF : F_X11_mayBeBell i0 a1 a2 a3 a4 h = some r) : MI l D cA yX11_mayBeBell cX11_mayBeBell 5 (some .boolean) 2 43 (fun φ => [.ref (φ 11 i0), .int a1, .int a2, .int a3, .int a4]) h r h := by
  refine mk_Z (plainFor_of_name (by decide)) (fun φ => Nat.le_of_ble_eq_true rfl) ?_
  intro p e s m args below meth c ls φ A Q X hW hS hl hfin
  have hx := X.1
  have hb := X.2.1
  have hl : lv_has ls 5 [(0, .ref (φ 11 i0)), (1, .int a1), (2, .int a2), (3, .int a3), (4, .int a4)] := hl
  unfold F_X11_mayBeBell at hF
  refine lv_aload_n hx hb dX11_mayBeBell_0 rfl (lv_at hl 0 rfl) ?_
  refine lv_iload_n hx hb dX11_mayBeBell_1 rfl (lv_at hl 1 rfl) ?_
  obtain ⟨x2, e1, hF⟩ := bn hF
  refine rc_i (Af := fun φ => [.ref (φ 11 i0), .int a1]) X hW hS ⟨Nat.zero_le _, Nat.zero_le _⟩ (rn_V (As := [.int a1]) (rest := []) X hW hS cw_11_96 al_0 rfl rfl rfl ⟨Nat.le_of_ble_eq_true rfl, Nat.le_of_ble_eq_true rfl⟩ rfl hl.1 rfl (Nat.le_of_ble_eq_true rfl) dX11_mayBeBell_2) (ok_X11_isParish i0 a1 al_0 e1) (fun H locs hW hS => ?_)
  refine lv_if_eq (tgt := 47) hx hb dX11_mayBeBell_5 (by decide) (fun c12 => ?_) (fun c12 => ?_)
  · have hF := it c12 hF
    refine lv_iconst (v := 0) hx hb dX11_mayBeBell_47 (by decide) ?_
    obtain rfl := sj hF
    exact hfin _ _ _ _ hW hS (Or.inl rfl) dX11_mayBeBell_48
  · have hF := ie c12 hF
    refine lv_iload_n hx hb dX11_mayBeBell_8 rfl (lv_at hl 2 rfl) ?_
    refine lv_iconst (v := 1) hx hb dX11_mayBeBell_9 (by decide) ?_
    refine lv_sipush (v := 9999) hx hb dX11_mayBeBell_10 (by decide) ?_
    obtain ⟨x4, e3, hF⟩ := bn hF
    refine rc_i (Af := fun φ => [.int a2, .int 1, .int 9999]) X hW hS ⟨Nat.zero_le _, Nat.zero_le _⟩ (rn_S (As := [.int a2, .int 1, .int 9999]) (rest := []) X hW hS cw_11_81 ⟨Nat.le_of_ble_eq_true rfl, Nat.le_of_ble_eq_true rfl⟩ rfl hl.1 rfl (Nat.le_of_ble_eq_true rfl) dX11_mayBeBell_13) (ok_X11_isFrom a2 1 9999 e3) (fun H locs hW hS => ?_)
    refine lv_if_eq (tgt := 47) hx hb dX11_mayBeBell_16 (by decide) (fun c11 => ?_) (fun c11 => ?_)
    · have hF := it c11 hF
      refine lv_iconst (v := 0) hx hb dX11_mayBeBell_47 (by decide) ?_
      obtain rfl := sj hF
      exact hfin _ _ _ _ hW hS (Or.inl rfl) dX11_mayBeBell_48
    · have hF := ie c11 hF
      refine lv_iload_n hx hb dX11_mayBeBell_19 rfl (lv_at hl 3 rfl) ?_
      refine lv_sipush (v := 1000) hx hb dX11_mayBeBell_20 (by decide) ?_
      refine lv_sipush (v := 1939) hx hb dX11_mayBeBell_23 (by decide) ?_
      obtain ⟨x6, e5, hF⟩ := bn hF
      refine rc_i (Af := fun φ => [.int a3, .int 1000, .int 1939]) X hW hS ⟨Nat.zero_le _, Nat.zero_le _⟩ (rn_S (As := [.int a3, .int 1000, .int 1939]) (rest := []) X hW hS cw_11_81 ⟨Nat.le_of_ble_eq_true rfl, Nat.le_of_ble_eq_true rfl⟩ rfl hl.1 rfl (Nat.le_of_ble_eq_true rfl) dX11_mayBeBell_26) (ok_X11_isFrom a3 1000 1939 e5) (fun H locs hW hS => ?_)
      refine lv_if_eq (tgt := 47) hx hb dX11_mayBeBell_29 (by decide) (fun c10 => ?_) (fun c10 => ?_)
      · have hF := it c10 hF
        refine lv_iconst (v := 0) hx hb dX11_mayBeBell_47 (by decide) ?_
        obtain rfl := sj hF
        exact hfin _ _ _ _ hW hS (Or.inl rfl) dX11_mayBeBell_48
      · have hF := ie c10 hF
        refine lv_iload hx hb dX11_mayBeBell_32 (lv_at hl 4 rfl) ?_
        refine lv_iconst (v := 0) hx hb dX11_mayBeBell_34 (by decide) ?_
        refine lv_bipush (v := 30) hx hb dX11_mayBeBell_35 (by decide) ?_
        obtain ⟨x8, e7, hF⟩ := bn hF
        refine rc_i (Af := fun φ => [.int a4, .int 0, .int 30]) X hW hS ⟨Nat.zero_le _, Nat.zero_le _⟩ (rn_S (As := [.int a4, .int 0, .int 30]) (rest := []) X hW hS cw_11_81 ⟨Nat.le_of_ble_eq_true rfl, Nat.le_of_ble_eq_true rfl⟩ rfl hl.1 rfl (Nat.le_of_ble_eq_true rfl) dX11_mayBeBell_37) (ok_X11_isFrom a4 0 30 e7) (fun H locs hW hS => ?_)
        refine lv_if_eq (tgt := 47) hx hb dX11_mayBeBell_40 (by decide) (fun c9 => ?_) (fun c9 => ?_)
        · have hF := it c9 hF
          refine lv_iconst (v := 0) hx hb dX11_mayBeBell_47 (by decide) ?_
          obtain rfl := sj hF
          exact hfin _ _ _ _ hW hS (Or.inl rfl) dX11_mayBeBell_48
        · have hF := ie c9 hF
          refine lv_iconst (v := 1) hx hb dX11_mayBeBell_43 (by decide) ?_
          refine lv_goto (tgt := 48) hx hb dX11_mayBeBell_44 (by decide) ?_
          obtain rfl := sj hF
          exact hfin _ _ _ _ hW hS (Or.inr rfl) dX11_mayBeBell_48
def F_X2_isFull (i0 : Nat) (h : HP) : Option (Int32) :=
  (if (gi h 2 i0 1) < 20 then
  some 0
  else
  some 1)
set_option maxHeartbeats 4000000 in
set_option maxRecDepth 100000 in
theorem ok_X2_isFull {l : Launch} {D : va_G} {cA : Nat → ClassId} {h : HP} {r : Int32}  (i0 : Nat) (al_0 : i0 < gn h 2) (hF : F_X2_isFull i0 h = some r) : MI l D cA yX2_isFull cX2_isFull 1 (some .boolean) 0 0 (fun φ => [.ref (φ 2 i0)]) h r h := by
  refine mk_Z (plainFor_of_name (by decide)) (fun φ => Nat.le_of_ble_eq_true rfl) ?_
  intro p e s m args below meth c ls φ A Q X hW hS hl hfin
  have hx := X.1
  have hb := X.2.1
  have hl : lv_has ls 1 [(0, .ref (φ 2 i0))] := hl
  unfold F_X2_isFull at hF
  refine lv_aload_n hx hb dX2_isFull_0 rfl (lv_at hl 0 rfl) ?_
  refine r_geti X hW al_0 fl_2_17 dX2_isFull_1 ?_
  refine lv_bipush (v := 20) hx hb dX2_isFull_4 (by decide) ?_
  refine lv_icmp_lt (tgt := 13) hx hb dX2_isFull_6 (by decide) (fun c1 => ?_) (fun c1 => ?_)
  · have hF := it c1 hF
    refine lv_iconst (v := 0) hx hb dX2_isFull_13 (by decide) ?_
    obtain rfl := sj hF
    exact hfin _ _ _ _ hW hS (Or.inl rfl) dX2_isFull_14
  · have hF := ie c1 hF
    refine lv_iconst (v := 1) hx hb dX2_isFull_9 (by decide) ?_
    refine lv_goto (tgt := 14) hx hb dX2_isFull_10 (by decide) ?_
    obtain rfl := sj hF
    exact hfin _ _ _ _ hW hS (Or.inr rfl) dX2_isFull_14
def F_X11_isSheet (a0 : Int32) : Option (Int32) :=
  (F_X11_isFrom a0 0 3).bind fun x2 =>
  (bz x2).bind fun x3 => some x3
set_option maxHeartbeats 4000000 in
set_option maxRecDepth 100000 in
theorem ok_X11_isSheet {l : Launch} {D : va_G} {cA : Nat → ClassId} {h : HP} {r : Int32}  (a0 : Int32)  (hF : F_X11_isSheet a0 = some r) : MI l D cA yX11_isSheet cX11_isSheet 1 (some .boolean) 1 22 (fun φ => [.int a0]) h r h := by
  refine mk_Z (plainFor_of_name (by decide)) (fun φ => Nat.le_of_ble_eq_true rfl) ?_
  intro p e s m args below meth c ls φ A Q X hW hS hl hfin
  have hx := X.1
  have hb := X.2.1
  have hl : lv_has ls 1 [(0, .int a0)] := hl
  unfold F_X11_isSheet at hF
  refine lv_iload_n hx hb dX11_isSheet_0 rfl (lv_at hl 0 rfl) ?_
  refine lv_iconst (v := 0) hx hb dX11_isSheet_1 (by decide) ?_
  refine lv_iconst (v := 3) hx hb dX11_isSheet_2 (by decide) ?_
  obtain ⟨x2, e1, hF⟩ := bn hF
  refine rc_i (Af := fun φ => [.int a0, .int 0, .int 3]) X hW hS ⟨Nat.zero_le _, Nat.zero_le _⟩ (rn_S (As := [.int a0, .int 0, .int 3]) (rest := []) X hW hS cw_11_81 ⟨Nat.le_of_ble_eq_true rfl, Nat.le_of_ble_eq_true rfl⟩ rfl hl.1 rfl (Nat.le_of_ble_eq_true rfl) dX11_isSheet_3) (ok_X11_isFrom a0 0 3 e1) (fun H locs hW hS => ?_)
  obtain ⟨x3, e4, hF⟩ := bn hF
  obtain ⟨b5, e4⟩ := bz_s e4
  refine nmi e4 ?_
  rw [← e4] at b5
  obtain rfl := sj hF
  exact hfin _ _ _ _ hW hS b5 dX11_isSheet_6
def F_X11_finding (i0 : Nat) (a1 : Int32) (h : HP) : Option (Int32 × DP) :=
  nm (si h 11 i0 15 a1) fun h1 =>
  some (((-10) - a1), dp h1)
set_option maxHeartbeats 4000000 in
set_option maxRecDepth 100000 in
theorem ok_X11_finding {l : Launch} {D : va_G} {cA : Nat → ClassId} {h : HP} {r : Int32} {d : DP} (i0 : Nat) (a1 : Int32) (al_0 : i0 < gn h 11) (hF : F_X11_finding i0 a1 h = some (r, d)) : MI l D cA yX11_finding cX11_finding 2 (some .int) 0 0 (fun φ => [.ref (φ 11 i0), .int a1]) h r (wd h d) := by
  refine mk_I (plainFor_of_name (by decide)) (fun φ => Nat.le_of_ble_eq_true rfl) ?_
  intro p e s m args below meth c ls φ A Q X hW hS hl hfin
  have hx := X.1
  have hb := X.2.1
  have hl : lv_has ls 2 [(0, .ref (φ 11 i0)), (1, .int a1)] := hl
  unfold F_X11_finding at hF
  refine lv_aload_n hx hb dX11_finding_0 rfl (lv_at hl 0 rfl) ?_
  refine lv_iload_n hx hb dX11_finding_1 rfl (lv_at hl 1 rfl) ?_
  refine r_puti X hW hS al_0 fp_11_362 rfl rfl dX11_finding_2 (fun H locs hW hS => ?_)
  obtain ⟨h1, e2, hF⟩ := nmx hF
  have hW := nmW e2 hW
  have g3 : h1.2.2 = h.2.2 := by rw [e2]; exact rfl
  refine lv_bipush (v := (-10)) hx hb dX11_finding_5 (by decide) ?_
  refine lv_iload_n hx hb dX11_finding_7 rfl (lv_at hl 1 rfl) ?_
  refine lv_isub hx hb dX11_finding_8 ?_
  obtain ⟨rfl, rfl⟩ := sj2 hF
  exact hfin _ _ _ _ (wdW g3 hW) hS dX11_finding_9
def F_X2_has (i0 : Nat) (a1 : Int32) (h : HP) : Option (Int32) :=
  (F_X11_isFrom a1 0 ((gi h 2 i0 1) - 1)).bind fun x2 =>
  (bz x2).bind fun x3 => some x3
set_option maxHeartbeats 4000000 in
set_option maxRecDepth 100000 in
theorem ok_X2_has {l : Launch} {D : va_G} {cA : Nat → ClassId} {h : HP} {r : Int32}  (i0 : Nat) (a1 : Int32) (al_0 : i0 < gn h 2) (hF : F_X2_has i0 a1 h = some r) : MI l D cA yX2_has cX2_has 2 (some .boolean) 1 22 (fun φ => [.ref (φ 2 i0), .int a1]) h r h := by
  refine mk_Z (plainFor_of_name (by decide)) (fun φ => Nat.le_of_ble_eq_true rfl) ?_
  intro p e s m args below meth c ls φ A Q X hW hS hl hfin
  have hx := X.1
  have hb := X.2.1
  have hl : lv_has ls 2 [(0, .ref (φ 2 i0)), (1, .int a1)] := hl
  unfold F_X2_has at hF
  refine lv_iload_n hx hb dX2_has_0 rfl (lv_at hl 1 rfl) ?_
  refine lv_iconst (v := 0) hx hb dX2_has_1 (by decide) ?_
  refine lv_aload_n hx hb dX2_has_2 rfl (lv_at hl 0 rfl) ?_
  refine r_geti X hW al_0 fl_2_17 dX2_has_3 ?_
  refine lv_iconst (v := 1) hx hb dX2_has_6 (by decide) ?_
  refine lv_isub hx hb dX2_has_7 ?_
  obtain ⟨x2, e1, hF⟩ := bn hF
  refine rc_i (Af := fun φ => [.int a1, .int 0, .int ((gi h 2 i0 1) - 1)]) X hW hS ⟨Nat.zero_le _, Nat.zero_le _⟩ (rn_N (As := [.int a1, .int 0, .int ((gi h 2 i0 1) - 1)]) (rest := []) X hW hS cw_2_21 ⟨Nat.le_of_ble_eq_true rfl, Nat.le_of_ble_eq_true rfl⟩ rfl hl.1 rfl (Nat.le_of_ble_eq_true rfl) dX2_has_8) (ok_X11_isFrom a1 0 ((gi h 2 i0 1) - 1) e1) (fun H locs hW hS => ?_)
  obtain ⟨x3, e4, hF⟩ := bn hF
  obtain ⟨b5, e4⟩ := bz_s e4
  refine nmi e4 ?_
  rw [← e4] at b5
  obtain rfl := sj hF
  exact hfin _ _ _ _ hW hS b5 dX2_has_11
def J_X11_tone_40 (i0 : Nat) (a1 : Int32) (a2 : Int32) (a3 : Int32) (hj40 : HP) : Option (Int32 × DP) :=
  (gr hj40 11 i0 3).bind fun o1 =>
  (gr hj40 2 o1 0).bind fun o4 =>
  (gar hj40 23 o4 20 a1).bind fun o7 =>
  (gr hj40 1 o7 4).bind fun o11 =>
  (ga hj40 20 o11 5 a2).bind fun x14 =>
  (sa hj40 20 o11 5 a2 a3).bind fun h17 =>
  some (x14, dp h17)
def F_X11_tone (i0 : Nat) (a1 : Int32) (a2 : Int32) (a3 : Int32) (h : HP) : Option (Int32 × DP) :=
  (gr h 11 i0 3).bind fun o21 =>
  (F_X2_has o21 a1 h).bind fun x25 =>
  (if x25 = 0 then
  some ((-1000), dp h)
  else
  (F_X11_isFrom a2 0 4).bind fun x27 =>
  (if x27 = 0 then
  some ((-1000), dp h)
  else
  (F_X11_isFrom a3 0 9999).bind fun x29 =>
  (if x29 = 0 then
  (if a3 = (-1) then
  J_X11_tone_40 i0 a1 a2 a3 h
  else
  some ((-1000), dp h))
  else
  J_X11_tone_40 i0 a1 a2 a3 h)))
set_option maxHeartbeats 4000000 in
set_option maxRecDepth 100000 in
theorem ok_X11_tone {l : Launch} {D : va_G} {cA : Nat → ClassId} {h : HP} {r : Int32} {d : DP} (i0 : Nat) (a1 : Int32) (a2 : Int32) (a3 : Int32) (al_0 : i0 < gn h 11) (hF : F_X11_tone i0 a1 a2 a3 h = some (r, d)) : MI l D cA yX11_tone cX11_tone 6 (some .int) 2 43 (fun φ => [.ref (φ 11 i0), .int a1, .int a2, .int a3]) h r (wd h d) := by
  refine mk_I (plainFor_of_name (by decide)) (fun φ => Nat.le_of_ble_eq_true rfl) ?_
  intro p e s m args below meth c ls φ A Q X hW hS hl hfin
  have hx := X.1
  have hb := X.2.1
  have hl : lv_has ls 6 [(0, .ref (φ 11 i0)), (1, .int a1), (2, .int a2), (3, .int a3)] := hl
  unfold F_X11_tone at hF
  have j_40 : ∀ (hj40 : HP) (H : Heap) (locs : List Loc) (ls : Array Slot), hj40.2.2 = h.2.2 → J_X11_tone_40 i0 a1 a2 a3 hj40 = some (r, d) → HW D cA A φ hj40 H → va_S A s.heap H locs → lv_has ls 6 [(0, .ref (φ 11 i0)), (1, .int a1), (2, .int a2), (3, .int a3)] → W p l e (rmo 2 43 0 0) s m args below meth c H locs 0 0 Q (F0 m 40 ls []) := by
    intro hj40 H locs ls gj40 hF hW hS hl
    unfold J_X11_tone_40 at hF
    refine lv_aload_n hx hb dX11_tone_40 rfl (lv_at hl 0 rfl) ?_
    obtain ⟨o1, e2, hF⟩ := bn hF
    refine r_getr X hW (gq gj40 al_0) fl_11_16 e2 dX11_tone_41 (fun al3 => ?_)
    have al3 := qg gj40 al3
    obtain ⟨o4, e5, hF⟩ := bn hF
    refine r_getr X hW (gq gj40 al3) fl_11_140 e5 dX11_tone_44 (fun al6 => ?_)
    have al6 := qg gj40 al6
    refine lv_iload_n hx hb dX11_tone_47 rfl (lv_at hl 1 rfl) ?_
    obtain ⟨o7, e8, hF⟩ := bn hF
    obtain ⟨b9, e8⟩ := gar_s e8
    refine r_aald (t0 := 3) X hW (gq gj40 al6) rfl rfl b9 e8 dX11_tone_48 (fun al10 => ?_)
    have al10 := qg gj40 al10
    obtain ⟨o11, e12, hF⟩ := bn hF
    refine r_getr X hW (gq gj40 al10) fl_11_144 e12 dX11_tone_49 (fun al13 => ?_)
    have al13 := qg gj40 al13
    refine lv_astore (lv' := [(4, .ref (φ 20 o11)), (0, .ref (φ 11 i0)), (1, .int a1), (2, .int a2), (3, .int a3)]) hx hb dX11_tone_52 hl (by decide) rfl (fun ls hl => ?_)
    refine lv_aload hx hb dX11_tone_54 (lv_at hl 0 rfl) ?_
    refine lv_iload_n hx hb dX11_tone_56 rfl (lv_at hl 3 rfl) ?_
    obtain ⟨x14, e15, hF⟩ := bn hF
    obtain ⟨b16, e15⟩ := ga_s e15
    refine r_iald X hW (gq gj40 al13) rfl b16 dX11_tone_57 ?_
    refine nmi e15 ?_
    refine lv_istore (lv' := [(5, .int x14), (4, .ref (φ 20 o11)), (0, .ref (φ 11 i0)), (1, .int a1), (2, .int a2), (3, .int a3)]) hx hb dX11_tone_58 hl (by decide) rfl (fun ls hl => ?_)
    refine lv_aload hx hb dX11_tone_60 (lv_at hl 1 rfl) ?_
    refine lv_iload_n hx hb dX11_tone_62 rfl (lv_at hl 4 rfl) ?_
    refine lv_iload_n hx hb dX11_tone_63 rfl (lv_at hl 5 rfl) ?_
    obtain ⟨h17, e18, hF⟩ := bn hF
    obtain ⟨b19, e18⟩ := sa_s e18
    refine r_iast X hW hS (gq gj40 al13) rfl b19 dX11_tone_64 (fun H locs hW hS => ?_)
    have hW := nmW e18 hW
    have g20 : h17.2.2 = h.2.2 := by rw [e18]; exact gj40
    refine lv_iload hx hb dX11_tone_65 (lv_at hl 0 rfl) ?_
    obtain ⟨rfl, rfl⟩ := sj2 hF
    exact hfin _ _ _ _ (wdW g20 hW) hS dX11_tone_67
  refine lv_aload_n hx hb dX11_tone_0 rfl (lv_at hl 0 rfl) ?_
  obtain ⟨o21, e22, hF⟩ := bn hF
  refine r_getr X hW al_0 fl_11_16 e22 dX11_tone_1 (fun al23 => ?_)
  refine lv_iload_n hx hb dX11_tone_4 rfl (lv_at hl 1 rfl) ?_
  obtain ⟨x25, e24, hF⟩ := bn hF
  refine rc_i (Af := fun φ => [.ref (φ 2 o21), .int a1]) X hW hS ⟨Nat.zero_le _, Nat.zero_le _⟩ (rn_V (As := [.int a1]) (rest := []) X hW hS cw_11_137 al23 rfl rfl rfl ⟨Nat.le_of_ble_eq_true rfl, Nat.le_of_ble_eq_true rfl⟩ rfl hl.1 rfl (Nat.le_of_ble_eq_true rfl) dX11_tone_5) (ok_X2_has o21 a1 al23 e24) (fun H locs hW hS => ?_)
  refine lv_if_eq (tgt := 36) hx hb dX11_tone_8 (by decide) (fun c33 => ?_) (fun c33 => ?_)
  · have hF := it c33 hF
    refine lv_sipush (v := (-1000)) hx hb dX11_tone_36 (by decide) ?_
    obtain ⟨rfl, rfl⟩ := sj2 hF
    exact hfin _ _ _ _ (wdW rfl hW) hS dX11_tone_39
  · have hF := ie c33 hF
    refine lv_iload_n hx hb dX11_tone_11 rfl (lv_at hl 2 rfl) ?_
    refine lv_iconst (v := 0) hx hb dX11_tone_12 (by decide) ?_
    refine lv_iconst (v := 4) hx hb dX11_tone_13 (by decide) ?_
    obtain ⟨x27, e26, hF⟩ := bn hF
    refine rc_i (Af := fun φ => [.int a2, .int 0, .int 4]) X hW hS ⟨Nat.zero_le _, Nat.zero_le _⟩ (rn_S (As := [.int a2, .int 0, .int 4]) (rest := []) X hW hS cw_11_81 ⟨Nat.le_of_ble_eq_true rfl, Nat.le_of_ble_eq_true rfl⟩ rfl hl.1 rfl (Nat.le_of_ble_eq_true rfl) dX11_tone_14) (ok_X11_isFrom a2 0 4 e26) (fun H locs hW hS => ?_)
    refine lv_if_eq (tgt := 36) hx hb dX11_tone_17 (by decide) (fun c32 => ?_) (fun c32 => ?_)
    · have hF := it c32 hF
      refine lv_sipush (v := (-1000)) hx hb dX11_tone_36 (by decide) ?_
      obtain ⟨rfl, rfl⟩ := sj2 hF
      exact hfin _ _ _ _ (wdW rfl hW) hS dX11_tone_39
    · have hF := ie c32 hF
      refine lv_iload_n hx hb dX11_tone_20 rfl (lv_at hl 3 rfl) ?_
      refine lv_iconst (v := 0) hx hb dX11_tone_21 (by decide) ?_
      refine lv_sipush (v := 9999) hx hb dX11_tone_22 (by decide) ?_
      obtain ⟨x29, e28, hF⟩ := bn hF
      refine rc_i (Af := fun φ => [.int a3, .int 0, .int 9999]) X hW hS ⟨Nat.zero_le _, Nat.zero_le _⟩ (rn_S (As := [.int a3, .int 0, .int 9999]) (rest := []) X hW hS cw_11_81 ⟨Nat.le_of_ble_eq_true rfl, Nat.le_of_ble_eq_true rfl⟩ rfl hl.1 rfl (Nat.le_of_ble_eq_true rfl) dX11_tone_25) (ok_X11_isFrom a3 0 9999 e28) (fun H locs hW hS => ?_)
      refine lv_if_ne (tgt := 40) hx hb dX11_tone_28 (by decide) (fun c31 => ?_) (fun c31 => ?_)
      · have hF := ie c31 hF
        exact j_40 h _ _ _ rfl hF hW hS (lv_sub hl [0, 1, 2, 3] rfl)
      · have hF := it c31 hF
        refine lv_iload_n hx hb dX11_tone_31 rfl (lv_at hl 3 rfl) ?_
        refine lv_iconst (v := (-1)) hx hb dX11_tone_32 (by decide) ?_
        refine lv_icmp_eq (tgt := 40) hx hb dX11_tone_33 (by decide) (fun c30 => ?_) (fun c30 => ?_)
        · have hF := it c30 hF
          exact j_40 h _ _ _ rfl hF hW hS (lv_sub hl [0, 1, 2, 3] rfl)
        · have hF := ie c30 hF
          refine lv_sipush (v := (-1000)) hx hb dX11_tone_36 (by decide) ?_
          obtain ⟨rfl, rfl⟩ := sj2 hF
          exact hfin _ _ _ _ (wdW rfl hW) hS dX11_tone_39
def F_X1_stateNow (i0 : Nat) (h : HP) : Option (Int32) :=
  (if (gi h 1 i0 7) = 0 then
  some 0
  else
  (gr h 1 i0 6).bind fun o1 =>
  (ga h 22 o1 16 ((gi h 1 i0 7) - 1)).bind fun x4 =>
  some x4)
set_option maxHeartbeats 4000000 in
set_option maxRecDepth 100000 in
theorem ok_X1_stateNow {l : Launch} {D : va_G} {cA : Nat → ClassId} {h : HP} {r : Int32}  (i0 : Nat) (al_0 : i0 < gn h 1) (hF : F_X1_stateNow i0 h = some r) : MI l D cA yX1_stateNow cX1_stateNow 1 (some .int) 0 0 (fun φ => [.ref (φ 1 i0)]) h r h := by
  refine mk_I (plainFor_of_name (by decide)) (fun φ => Nat.le_of_ble_eq_true rfl) ?_
  intro p e s m args below meth c ls φ A Q X hW hS hl hfin
  have hx := X.1
  have hb := X.2.1
  have hl : lv_has ls 1 [(0, .ref (φ 1 i0))] := hl
  unfold F_X1_stateNow at hF
  refine lv_aload_n hx hb dX1_stateNow_0 rfl (lv_at hl 0 rfl) ?_
  refine r_geti X hW al_0 fl_1_43 dX1_stateNow_1 ?_
  refine lv_if_ne (tgt := 11) hx hb dX1_stateNow_4 (by decide) (fun c7 => ?_) (fun c7 => ?_)
  · have hF := ie c7 hF
    refine lv_aload_n hx hb dX1_stateNow_11 rfl (lv_at hl 0 rfl) ?_
    obtain ⟨o1, e2, hF⟩ := bn hF
    refine r_getr X hW al_0 fl_1_18 e2 dX1_stateNow_12 (fun al3 => ?_)
    refine lv_aload_n hx hb dX1_stateNow_15 rfl (lv_at hl 0 rfl) ?_
    refine r_geti X hW al_0 fl_1_43 dX1_stateNow_16 ?_
    refine lv_iconst (v := 1) hx hb dX1_stateNow_19 (by decide) ?_
    refine lv_isub hx hb dX1_stateNow_20 ?_
    obtain ⟨x4, e5, hF⟩ := bn hF
    obtain ⟨b6, e5⟩ := ga_s e5
    refine r_iald X hW al3 rfl b6 dX1_stateNow_21 ?_
    refine nmi e5 ?_
    obtain rfl := sj hF
    exact hfin _ _ _ _ hW hS dX1_stateNow_22
  · have hF := it c7 hF
    refine lv_iconst (v := 0) hx hb dX1_stateNow_7 (by decide) ?_
    refine lv_goto (tgt := 22) hx hb dX1_stateNow_8 (by decide) ?_
    obtain rfl := sj hF
    exact hfin _ _ _ _ hW hS dX1_stateNow_22
def F_X11_about (i0 : Nat) (a1 : Int32) (a2 : Int32) (h : HP) : Option (Int32) :=
  (gr h 11 i0 3).bind fun o1 =>
  (F_X2_has o1 a1 h).bind fun x5 =>
  (if x5 = 0 then
  some (-1000)
  else
  (gr h 11 i0 3).bind fun o6 =>
  (gr h 2 o6 0).bind fun o9 =>
  (gar h 23 o9 20 a1).bind fun o12 =>
  (if a2 = 0 then
  some (gi h 1 o12 0)
  else
  (if a2 = 1 then
  some (gi h 1 o12 1)
  else
  (if a2 = 2 then
  some (gi h 1 o12 2)
  else
  (if a2 = 3 then
  some (gi h 1 o12 3)
  else
  (if a2 = 4 then
  (F_X1_stateNow o12 h).bind fun x22 =>
  some x22
  else
  (if a2 = 5 then
  some (gi h 1 o12 8)
  else
  (if a2 = 6 then
  some (gi h 1 o12 7)
  else
  (if a2 = 7 then
  some (gi h 1 o12 9)
  else
  (if a2 = 8 then
  some (gi h 1 o12 10)
  else
  some (-1000)))))))))))
set_option maxHeartbeats 4000000 in
set_option maxRecDepth 100000 in
theorem ok_X11_about {l : Launch} {D : va_G} {cA : Nat → ClassId} {h : HP} {r : Int32}  (i0 : Nat) (a1 : Int32) (a2 : Int32) (al_0 : i0 < gn h 11) (hF : F_X11_about i0 a1 a2 h = some r) : MI l D cA yX11_about cX11_about 4 (some .int) 2 43 (fun φ => [.ref (φ 11 i0), .int a1, .int a2]) h r h := by
  refine mk_I (plainFor_of_name (by decide)) (fun φ => Nat.le_of_ble_eq_true rfl) ?_
  intro p e s m args below meth c ls φ A Q X hW hS hl hfin
  have hx := X.1
  have hb := X.2.1
  have hl : lv_has ls 4 [(0, .ref (φ 11 i0)), (1, .int a1), (2, .int a2)] := hl
  unfold F_X11_about at hF
  refine lv_aload_n hx hb dX11_about_0 rfl (lv_at hl 0 rfl) ?_
  obtain ⟨o1, e2, hF⟩ := bn hF
  refine r_getr X hW al_0 fl_11_16 e2 dX11_about_1 (fun al3 => ?_)
  refine lv_iload_n hx hb dX11_about_4 rfl (lv_at hl 1 rfl) ?_
  obtain ⟨x5, e4, hF⟩ := bn hF
  refine rc_i (Af := fun φ => [.ref (φ 2 o1), .int a1]) X hW hS ⟨Nat.zero_le _, Nat.zero_le _⟩ (rn_V (As := [.int a1]) (rest := []) X hW hS cw_11_137 al3 rfl rfl rfl ⟨Nat.le_of_ble_eq_true rfl, Nat.le_of_ble_eq_true rfl⟩ rfl hl.1 rfl (Nat.le_of_ble_eq_true rfl) dX11_about_5) (ok_X2_has o1 a1 al3 e4) (fun H locs hW hS => ?_)
  refine lv_if_ne (tgt := 15) hx hb dX11_about_8 (by decide) (fun c27 => ?_) (fun c27 => ?_)
  · have hF := ie c27 hF
    refine lv_aload_n hx hb dX11_about_15 rfl (lv_at hl 0 rfl) ?_
    obtain ⟨o6, e7, hF⟩ := bn hF
    refine r_getr X hW al_0 fl_11_16 e7 dX11_about_16 (fun al8 => ?_)
    obtain ⟨o9, e10, hF⟩ := bn hF
    refine r_getr X hW al8 fl_11_140 e10 dX11_about_19 (fun al11 => ?_)
    refine lv_iload_n hx hb dX11_about_22 rfl (lv_at hl 1 rfl) ?_
    obtain ⟨o12, e13, hF⟩ := bn hF
    obtain ⟨b14, e13⟩ := gar_s e13
    refine r_aald (t0 := 3) X hW al11 rfl rfl b14 e13 dX11_about_23 (fun al15 => ?_)
    refine lv_astore_n (lv' := [(3, .ref (φ 1 o12)), (0, .ref (φ 11 i0)), (1, .int a1), (2, .int a2)]) hx hb dX11_about_24 rfl hl (by decide) rfl (fun ls hl => ?_)
    refine lv_iload_n hx hb dX11_about_25 rfl (lv_at hl 3 rfl) ?_
    by_cases c16 : a2 = 0
    · have hF := it c16 hF
      refine lv_tableIn (tgt := 76) hx hb dX11_about_26 (by rw [c16]; decide) (by rw [c16]; decide) (off := 50) (by rw [c16]; rfl) (by decide) ?_
      refine lv_aload_n hx hb dX11_about_76 rfl (lv_at hl 0 rfl) ?_
      refine r_geti X hW al15 fl_11_147 dX11_about_77 ?_
      obtain rfl := sj hF
      exact hfin _ _ _ _ hW hS dX11_about_80
    have hF := ie c16 hF
    by_cases c17 : a2 = 1
    · have hF := it c17 hF
      refine lv_tableIn (tgt := 81) hx hb dX11_about_26 (by rw [c17]; decide) (by rw [c17]; decide) (off := 55) (by rw [c17]; rfl) (by decide) ?_
      refine lv_aload_n hx hb dX11_about_81 rfl (lv_at hl 0 rfl) ?_
      refine r_geti X hW al15 fl_11_150 dX11_about_82 ?_
      obtain rfl := sj hF
      exact hfin _ _ _ _ hW hS dX11_about_85
    have hF := ie c17 hF
    by_cases c18 : a2 = 2
    · have hF := it c18 hF
      refine lv_tableIn (tgt := 86) hx hb dX11_about_26 (by rw [c18]; decide) (by rw [c18]; decide) (off := 60) (by rw [c18]; rfl) (by decide) ?_
      refine lv_aload_n hx hb dX11_about_86 rfl (lv_at hl 0 rfl) ?_
      refine r_geti X hW al15 fl_11_153 dX11_about_87 ?_
      obtain rfl := sj hF
      exact hfin _ _ _ _ hW hS dX11_about_90
    have hF := ie c18 hF
    by_cases c19 : a2 = 3
    · have hF := it c19 hF
      refine lv_tableIn (tgt := 91) hx hb dX11_about_26 (by rw [c19]; decide) (by rw [c19]; decide) (off := 65) (by rw [c19]; rfl) (by decide) ?_
      refine lv_aload_n hx hb dX11_about_91 rfl (lv_at hl 0 rfl) ?_
      refine r_geti X hW al15 fl_11_156 dX11_about_92 ?_
      obtain rfl := sj hF
      exact hfin _ _ _ _ hW hS dX11_about_95
    have hF := ie c19 hF
    by_cases c20 : a2 = 4
    · have hF := it c20 hF
      refine lv_tableIn (tgt := 96) hx hb dX11_about_26 (by rw [c20]; decide) (by rw [c20]; decide) (off := 70) (by rw [c20]; rfl) (by decide) ?_
      refine lv_aload_n hx hb dX11_about_96 rfl (lv_at hl 0 rfl) ?_
      obtain ⟨x22, e21, hF⟩ := bn hF
      refine rc_i (Af := fun φ => [.ref (φ 1 o12)]) X hW hS ⟨Nat.zero_le _, Nat.zero_le _⟩ (rn_V (As := []) (rest := []) X hW hS cw_11_159 al15 rfl rfl rfl ⟨Nat.le_of_ble_eq_true rfl, Nat.le_of_ble_eq_true rfl⟩ rfl hl.1 rfl (Nat.le_of_ble_eq_true rfl) dX11_about_97) (ok_X1_stateNow o12 al15 e21) (fun H locs hW hS => ?_)
      obtain rfl := sj hF
      exact hfin _ _ _ _ hW hS dX11_about_100
    have hF := ie c20 hF
    by_cases c23 : a2 = 5
    · have hF := it c23 hF
      refine lv_tableIn (tgt := 101) hx hb dX11_about_26 (by rw [c23]; decide) (by rw [c23]; decide) (off := 75) (by rw [c23]; rfl) (by decide) ?_
      refine lv_aload_n hx hb dX11_about_101 rfl (lv_at hl 0 rfl) ?_
      refine r_geti X hW al15 fl_11_163 dX11_about_102 ?_
      obtain rfl := sj hF
      exact hfin _ _ _ _ hW hS dX11_about_105
    have hF := ie c23 hF
    by_cases c24 : a2 = 6
    · have hF := it c24 hF
      refine lv_tableIn (tgt := 106) hx hb dX11_about_26 (by rw [c24]; decide) (by rw [c24]; decide) (off := 80) (by rw [c24]; rfl) (by decide) ?_
      refine lv_aload_n hx hb dX11_about_106 rfl (lv_at hl 0 rfl) ?_
      refine r_geti X hW al15 fl_11_166 dX11_about_107 ?_
      obtain rfl := sj hF
      exact hfin _ _ _ _ hW hS dX11_about_110
    have hF := ie c24 hF
    by_cases c25 : a2 = 7
    · have hF := it c25 hF
      refine lv_tableIn (tgt := 111) hx hb dX11_about_26 (by rw [c25]; decide) (by rw [c25]; decide) (off := 85) (by rw [c25]; rfl) (by decide) ?_
      refine lv_aload_n hx hb dX11_about_111 rfl (lv_at hl 0 rfl) ?_
      refine r_geti X hW al15 fl_11_169 dX11_about_112 ?_
      obtain rfl := sj hF
      exact hfin _ _ _ _ hW hS dX11_about_115
    have hF := ie c25 hF
    by_cases c26 : a2 = 8
    · have hF := it c26 hF
      refine lv_tableIn (tgt := 116) hx hb dX11_about_26 (by rw [c26]; decide) (by rw [c26]; decide) (off := 90) (by rw [c26]; rfl) (by decide) ?_
      refine lv_aload_n hx hb dX11_about_116 rfl (lv_at hl 0 rfl) ?_
      refine r_geti X hW al15 fl_11_172 dX11_about_117 ?_
      obtain rfl := sj hF
      exact hfin _ _ _ _ hW hS dX11_about_120
    have hF := ie c26 hF
    refine lv_tableOut (tgt := 121) hx hb dX11_about_26 (by have n0 := lv_neT (a := 0) c16 (by decide); have n1 := lv_neT (a := 1) c17 (by decide); have n2 := lv_neT (a := 2) c18 (by decide); have n3 := lv_neT (a := 3) c19 (by decide); have n4 := lv_neT (a := 4) c20 (by decide); have n5 := lv_neT (a := 5) c23 (by decide); have n6 := lv_neT (a := 6) c24 (by decide); have n7 := lv_neT (a := 7) c25 (by decide); have n8 := lv_neT (a := 8) c26 (by decide); omega) (by decide) ?_
    refine lv_sipush (v := (-1000)) hx hb dX11_about_121 (by decide) ?_
    obtain rfl := sj hF
    exact hfin _ _ _ _ hW hS dX11_about_124
  · have hF := it c27 hF
    refine lv_sipush (v := (-1000)) hx hb dX11_about_11 (by decide) ?_
    obtain rfl := sj hF
    exact hfin _ _ _ _ hW hS dX11_about_14
def F_X11_mayFollow (a0 : Int32) (a1 : Int32) : Option (Int32) :=
  (if a1 = 0 then
  (if a0 = 1 then
  some 1
  else
  some 0)
  else
  (if a1 = 1 then
  (if a0 = 0 then
  some 1
  else
  (if a0 = 5 then
  some 1
  else
  some 0))
  else
  (if a1 = 2 then
  (if a0 = 0 then
  some 1
  else
  (if a0 = 5 then
  some 1
  else
  (if a0 = 1 then
  some 1
  else
  some 0)))
  else
  (if a1 = 3 then
  (if a0 = 2 then
  some 1
  else
  some 0)
  else
  (if a1 = 4 then
  (if a0 = 3 then
  some 1
  else
  some 0)
  else
  (if a1 = 5 then
  (if a0 = 3 then
  some 1
  else
  some 0)
  else
  some 0))))))
set_option maxHeartbeats 4000000 in
set_option maxRecDepth 100000 in
theorem ok_X11_mayFollow {l : Launch} {D : va_G} {cA : Nat → ClassId} {h : HP} {r : Int32}  (a0 : Int32) (a1 : Int32)  (hF : F_X11_mayFollow a0 a1 = some r) : MI l D cA yX11_mayFollow cX11_mayFollow 2 (some .boolean) 0 0 (fun φ => [.int a0, .int a1]) h r h := by
  refine mk_Z (plainFor_of_name (by decide)) (fun φ => Nat.le_of_ble_eq_true rfl) ?_
  intro p e s m args below meth c ls φ A Q X hW hS hl hfin
  have hx := X.1
  have hb := X.2.1
  have hl : lv_has ls 2 [(0, .int a0), (1, .int a1)] := hl
  unfold F_X11_mayFollow at hF
  refine lv_iload_n hx hb dX11_mayFollow_0 rfl (lv_at hl 1 rfl) ?_
  by_cases c1 : a1 = 0
  · have hF := it c1 hF
    refine lv_tableIn (tgt := 40) hx hb dX11_mayFollow_1 (by rw [c1]; decide) (by rw [c1]; decide) (off := 39) (by rw [c1]; rfl) (by decide) ?_
    refine lv_iload_n hx hb dX11_mayFollow_40 rfl (lv_at hl 0 rfl) ?_
    refine lv_iconst (v := 1) hx hb dX11_mayFollow_41 (by decide) ?_
    refine lv_icmp_ne (tgt := 49) hx hb dX11_mayFollow_42 (by decide) (fun c2 => ?_) (fun c2 => ?_)
    · have hF := ie c2 hF
      refine lv_iconst (v := 0) hx hb dX11_mayFollow_49 (by decide) ?_
      obtain rfl := sj hF
      exact hfin _ _ _ _ hW hS (Or.inl rfl) dX11_mayFollow_50
    · have hF := it c2 hF
      refine lv_iconst (v := 1) hx hb dX11_mayFollow_45 (by decide) ?_
      refine lv_goto (tgt := 50) hx hb dX11_mayFollow_46 (by decide) ?_
      obtain rfl := sj hF
      exact hfin _ _ _ _ hW hS (Or.inr rfl) dX11_mayFollow_50
  have hF := ie c1 hF
  by_cases c3 : a1 = 1
  · have hF := it c3 hF
    refine lv_tableIn (tgt := 51) hx hb dX11_mayFollow_1 (by rw [c3]; decide) (by rw [c3]; decide) (off := 50) (by rw [c3]; rfl) (by decide) ?_
    refine lv_iload_n hx hb dX11_mayFollow_51 rfl (lv_at hl 0 rfl) ?_
    refine lv_if_eq (tgt := 60) hx hb dX11_mayFollow_52 (by decide) (fun c5 => ?_) (fun c5 => ?_)
    · have hF := it c5 hF
      refine lv_iconst (v := 1) hx hb dX11_mayFollow_60 (by decide) ?_
      refine lv_goto (tgt := 65) hx hb dX11_mayFollow_61 (by decide) ?_
      obtain rfl := sj hF
      exact hfin _ _ _ _ hW hS (Or.inr rfl) dX11_mayFollow_65
    · have hF := ie c5 hF
      refine lv_iload_n hx hb dX11_mayFollow_55 rfl (lv_at hl 0 rfl) ?_
      refine lv_iconst (v := 5) hx hb dX11_mayFollow_56 (by decide) ?_
      refine lv_icmp_ne (tgt := 64) hx hb dX11_mayFollow_57 (by decide) (fun c4 => ?_) (fun c4 => ?_)
      · have hF := ie c4 hF
        refine lv_iconst (v := 0) hx hb dX11_mayFollow_64 (by decide) ?_
        obtain rfl := sj hF
        exact hfin _ _ _ _ hW hS (Or.inl rfl) dX11_mayFollow_65
      · have hF := it c4 hF
        refine lv_iconst (v := 1) hx hb dX11_mayFollow_60 (by decide) ?_
        refine lv_goto (tgt := 65) hx hb dX11_mayFollow_61 (by decide) ?_
        obtain rfl := sj hF
        exact hfin _ _ _ _ hW hS (Or.inr rfl) dX11_mayFollow_65
  have hF := ie c3 hF
  by_cases c6 : a1 = 2
  · have hF := it c6 hF
    refine lv_tableIn (tgt := 66) hx hb dX11_mayFollow_1 (by rw [c6]; decide) (by rw [c6]; decide) (off := 65) (by rw [c6]; rfl) (by decide) ?_
    refine lv_iload_n hx hb dX11_mayFollow_66 rfl (lv_at hl 0 rfl) ?_
    refine lv_if_eq (tgt := 80) hx hb dX11_mayFollow_67 (by decide) (fun c9 => ?_) (fun c9 => ?_)
    · have hF := it c9 hF
      refine lv_iconst (v := 1) hx hb dX11_mayFollow_80 (by decide) ?_
      refine lv_goto (tgt := 85) hx hb dX11_mayFollow_81 (by decide) ?_
      obtain rfl := sj hF
      exact hfin _ _ _ _ hW hS (Or.inr rfl) dX11_mayFollow_85
    · have hF := ie c9 hF
      refine lv_iload_n hx hb dX11_mayFollow_70 rfl (lv_at hl 0 rfl) ?_
      refine lv_iconst (v := 5) hx hb dX11_mayFollow_71 (by decide) ?_
      refine lv_icmp_eq (tgt := 80) hx hb dX11_mayFollow_72 (by decide) (fun c8 => ?_) (fun c8 => ?_)
      · have hF := it c8 hF
        refine lv_iconst (v := 1) hx hb dX11_mayFollow_80 (by decide) ?_
        refine lv_goto (tgt := 85) hx hb dX11_mayFollow_81 (by decide) ?_
        obtain rfl := sj hF
        exact hfin _ _ _ _ hW hS (Or.inr rfl) dX11_mayFollow_85
      · have hF := ie c8 hF
        refine lv_iload_n hx hb dX11_mayFollow_75 rfl (lv_at hl 0 rfl) ?_
        refine lv_iconst (v := 1) hx hb dX11_mayFollow_76 (by decide) ?_
        refine lv_icmp_ne (tgt := 84) hx hb dX11_mayFollow_77 (by decide) (fun c7 => ?_) (fun c7 => ?_)
        · have hF := ie c7 hF
          refine lv_iconst (v := 0) hx hb dX11_mayFollow_84 (by decide) ?_
          obtain rfl := sj hF
          exact hfin _ _ _ _ hW hS (Or.inl rfl) dX11_mayFollow_85
        · have hF := it c7 hF
          refine lv_iconst (v := 1) hx hb dX11_mayFollow_80 (by decide) ?_
          refine lv_goto (tgt := 85) hx hb dX11_mayFollow_81 (by decide) ?_
          obtain rfl := sj hF
          exact hfin _ _ _ _ hW hS (Or.inr rfl) dX11_mayFollow_85
  have hF := ie c6 hF
  by_cases c10 : a1 = 3
  · have hF := it c10 hF
    refine lv_tableIn (tgt := 86) hx hb dX11_mayFollow_1 (by rw [c10]; decide) (by rw [c10]; decide) (off := 85) (by rw [c10]; rfl) (by decide) ?_
    refine lv_iload_n hx hb dX11_mayFollow_86 rfl (lv_at hl 0 rfl) ?_
    refine lv_iconst (v := 2) hx hb dX11_mayFollow_87 (by decide) ?_
    refine lv_icmp_ne (tgt := 95) hx hb dX11_mayFollow_88 (by decide) (fun c11 => ?_) (fun c11 => ?_)
    · have hF := ie c11 hF
      refine lv_iconst (v := 0) hx hb dX11_mayFollow_95 (by decide) ?_
      obtain rfl := sj hF
      exact hfin _ _ _ _ hW hS (Or.inl rfl) dX11_mayFollow_96
    · have hF := it c11 hF
      refine lv_iconst (v := 1) hx hb dX11_mayFollow_91 (by decide) ?_
      refine lv_goto (tgt := 96) hx hb dX11_mayFollow_92 (by decide) ?_
      obtain rfl := sj hF
      exact hfin _ _ _ _ hW hS (Or.inr rfl) dX11_mayFollow_96
  have hF := ie c10 hF
  by_cases c12 : a1 = 4
  · have hF := it c12 hF
    refine lv_tableIn (tgt := 97) hx hb dX11_mayFollow_1 (by rw [c12]; decide) (by rw [c12]; decide) (off := 96) (by rw [c12]; rfl) (by decide) ?_
    refine lv_iload_n hx hb dX11_mayFollow_97 rfl (lv_at hl 0 rfl) ?_
    refine lv_iconst (v := 3) hx hb dX11_mayFollow_98 (by decide) ?_
    refine lv_icmp_ne (tgt := 106) hx hb dX11_mayFollow_99 (by decide) (fun c13 => ?_) (fun c13 => ?_)
    · have hF := ie c13 hF
      refine lv_iconst (v := 0) hx hb dX11_mayFollow_106 (by decide) ?_
      obtain rfl := sj hF
      exact hfin _ _ _ _ hW hS (Or.inl rfl) dX11_mayFollow_107
    · have hF := it c13 hF
      refine lv_iconst (v := 1) hx hb dX11_mayFollow_102 (by decide) ?_
      refine lv_goto (tgt := 107) hx hb dX11_mayFollow_103 (by decide) ?_
      obtain rfl := sj hF
      exact hfin _ _ _ _ hW hS (Or.inr rfl) dX11_mayFollow_107
  have hF := ie c12 hF
  by_cases c14 : a1 = 5
  · have hF := it c14 hF
    refine lv_tableIn (tgt := 108) hx hb dX11_mayFollow_1 (by rw [c14]; decide) (by rw [c14]; decide) (off := 107) (by rw [c14]; rfl) (by decide) ?_
    refine lv_iload_n hx hb dX11_mayFollow_108 rfl (lv_at hl 0 rfl) ?_
    refine lv_iconst (v := 3) hx hb dX11_mayFollow_109 (by decide) ?_
    refine lv_icmp_ne (tgt := 117) hx hb dX11_mayFollow_110 (by decide) (fun c15 => ?_) (fun c15 => ?_)
    · have hF := ie c15 hF
      refine lv_iconst (v := 0) hx hb dX11_mayFollow_117 (by decide) ?_
      obtain rfl := sj hF
      exact hfin _ _ _ _ hW hS (Or.inl rfl) dX11_mayFollow_118
    · have hF := it c15 hF
      refine lv_iconst (v := 1) hx hb dX11_mayFollow_113 (by decide) ?_
      refine lv_goto (tgt := 118) hx hb dX11_mayFollow_114 (by decide) ?_
      obtain rfl := sj hF
      exact hfin _ _ _ _ hW hS (Or.inr rfl) dX11_mayFollow_118
  have hF := ie c14 hF
  refine lv_tableOut (tgt := 119) hx hb dX11_mayFollow_1 (by have n0 := lv_neT (a := 0) c1 (by decide); have n1 := lv_neT (a := 1) c3 (by decide); have n2 := lv_neT (a := 2) c6 (by decide); have n3 := lv_neT (a := 3) c10 (by decide); have n4 := lv_neT (a := 4) c12 (by decide); have n5 := lv_neT (a := 5) c14 (by decide); omega) (by decide) ?_
  refine lv_iconst (v := 0) hx hb dX11_mayFollow_119 (by decide) ?_
  obtain rfl := sj hF
  exact hfin _ _ _ _ hW hS (Or.inl rfl) dX11_mayFollow_120
def F_X1_change (i0 : Nat) (a1 : Int32) (a2 : Int32) (h : HP) : Option (DP) :=
  (if 16 ≤ (gi h 1 i0 7) then
  some (dp h)
  else
  (gr h 1 i0 5).bind fun o1 =>
  (sa h 21 o1 16 (gi h 1 i0 7) a2).bind fun h4 =>
  (gr h4 1 i0 6).bind fun o8 =>
  (sa h4 22 o8 16 (gi h4 1 i0 7) a1).bind fun h11 =>
  nm (si h11 1 i0 7 ((gi h11 1 i0 7) + 1)) fun h15 =>
  some (dp h15))
set_option maxHeartbeats 4000000 in
set_option maxRecDepth 100000 in
theorem ok_X1_change {l : Launch} {D : va_G} {cA : Nat → ClassId} {h : HP}  {d : DP} (i0 : Nat) (a1 : Int32) (a2 : Int32) (al_0 : i0 < gn h 1) (hF : F_X1_change i0 a1 a2 h = some d) : MV l D cA yX1_change cX1_change 3 none 0 0 (fun φ => [.ref (φ 1 i0), .int a1, .int a2]) h (wd h d) := by
  refine mk_V (plainFor_of_name (by decide)) (fun φ => Nat.le_of_ble_eq_true rfl) ?_
  intro p e s m args below meth c ls φ A Q X hW hS hl hfin
  have hx := X.1
  have hb := X.2.1
  have hl : lv_has ls 3 [(0, .ref (φ 1 i0)), (1, .int a1), (2, .int a2)] := hl
  unfold F_X1_change at hF
  refine lv_aload_n hx hb dX1_change_0 rfl (lv_at hl 0 rfl) ?_
  refine r_geti X hW al_0 fl_1_43 dX1_change_1 ?_
  refine lv_bipush (v := 16) hx hb dX1_change_4 (by decide) ?_
  refine lv_icmp_ge (tgt := 39) hx hb dX1_change_6 (by decide) (fun c18 => ?_) (fun c18 => ?_)
  · have hF := it c18 hF
    obtain rfl := sj hF
    exact hfin _ _ _ _ (wdW rfl hW) hS dX1_change_39
  · have hF := ie c18 hF
    refine lv_aload_n hx hb dX1_change_9 rfl (lv_at hl 0 rfl) ?_
    obtain ⟨o1, e2, hF⟩ := bn hF
    refine r_getr X hW al_0 fl_1_15 e2 dX1_change_10 (fun al3 => ?_)
    refine lv_aload_n hx hb dX1_change_13 rfl (lv_at hl 0 rfl) ?_
    refine r_geti X hW al_0 fl_1_43 dX1_change_14 ?_
    refine lv_iload_n hx hb dX1_change_17 rfl (lv_at hl 2 rfl) ?_
    obtain ⟨h4, e5, hF⟩ := bn hF
    obtain ⟨b6, e5⟩ := sa_s e5
    refine r_iast X hW hS al3 rfl b6 dX1_change_18 (fun H locs hW hS => ?_)
    have hW := nmW e5 hW
    have g7 : h4.2.2 = h.2.2 := by rw [e5]; exact rfl
    refine lv_aload_n hx hb dX1_change_19 rfl (lv_at hl 0 rfl) ?_
    obtain ⟨o8, e9, hF⟩ := bn hF
    refine r_getr X hW (gq g7 al_0) fl_1_18 e9 dX1_change_20 (fun al10 => ?_)
    have al10 := qg g7 al10
    refine lv_aload_n hx hb dX1_change_23 rfl (lv_at hl 0 rfl) ?_
    refine r_geti X hW (gq g7 al_0) fl_1_43 dX1_change_24 ?_
    refine lv_iload_n hx hb dX1_change_27 rfl (lv_at hl 1 rfl) ?_
    obtain ⟨h11, e12, hF⟩ := bn hF
    obtain ⟨b13, e12⟩ := sa_s e12
    refine r_iast X hW hS (gq g7 al10) rfl b13 dX1_change_28 (fun H locs hW hS => ?_)
    have hW := nmW e12 hW
    have g14 : h11.2.2 = h.2.2 := by rw [e12]; exact g7
    refine lv_aload_n hx hb dX1_change_29 rfl (lv_at hl 0 rfl) ?_
    refine lv_dup hx hb dX1_change_30 rfl ?_
    refine r_geti X hW (gq g14 al_0) fl_1_43 dX1_change_31 ?_
    refine lv_iconst (v := 1) hx hb dX1_change_34 (by decide) ?_
    refine lv_iadd hx hb dX1_change_35 ?_
    refine r_puti X hW hS (gq g14 al_0) fp_1_43 rfl rfl dX1_change_36 (fun H locs hW hS => ?_)
    obtain ⟨h15, e16, hF⟩ := nmx hF
    have hW := nmW e16 hW
    have g17 : h15.2.2 = h.2.2 := by rw [e16]; exact g14
    obtain rfl := sj hF
    exact hfin _ _ _ _ (wdW g17 hW) hS dX1_change_39
def F_X11_become (i0 : Nat) (a1 : Int32) (a2 : Int32) (h : HP) : Option (Int32 × DP) :=
  (gr h 11 i0 3).bind fun o1 =>
  (F_X2_has o1 a1 h).bind fun x5 =>
  (if x5 = 0 then
  some ((-2), dp h)
  else
  (F_X11_isFrom a2 0 5).bind fun x7 =>
  (if x7 = 0 then
  some ((-2), dp h)
  else
  (gr h 11 i0 3).bind fun o8 =>
  (gr h 2 o8 0).bind fun o11 =>
  (gar h 23 o11 20 a1).bind fun o14 =>
  (F_X1_stateNow o14 h).bind fun x19 =>
  (F_X11_mayFollow x19 a2).bind fun x21 =>
  (if x21 = 0 then
  some ((-3), dp h)
  else
  (if (gi h 1 o14 7) < 16 then
  (F_X1_change o14 a2 (gi h 11 i0 0) h).bind fun d26 => nm (wd h d26) fun h23 =>
  some (x19, dp h23)
  else
  some ((-4), dp h)))))
set_option maxHeartbeats 4000000 in
set_option maxRecDepth 100000 in
theorem ok_X11_become {l : Launch} {D : va_G} {cA : Nat → ClassId} {h : HP} {r : Int32} {d : DP} (i0 : Nat) (a1 : Int32) (a2 : Int32) (al_0 : i0 < gn h 11) (hF : F_X11_become i0 a1 a2 h = some (r, d)) : MI l D cA yX11_become cX11_become 5 (some .int) 2 43 (fun φ => [.ref (φ 11 i0), .int a1, .int a2]) h r (wd h d) := by
  refine mk_I (plainFor_of_name (by decide)) (fun φ => Nat.le_of_ble_eq_true rfl) ?_
  intro p e s m args below meth c ls φ A Q X hW hS hl hfin
  have hx := X.1
  have hb := X.2.1
  have hl : lv_has ls 5 [(0, .ref (φ 11 i0)), (1, .int a1), (2, .int a2)] := hl
  unfold F_X11_become at hF
  refine lv_aload_n hx hb dX11_become_0 rfl (lv_at hl 0 rfl) ?_
  obtain ⟨o1, e2, hF⟩ := bn hF
  refine r_getr X hW al_0 fl_11_16 e2 dX11_become_1 (fun al3 => ?_)
  refine lv_iload_n hx hb dX11_become_4 rfl (lv_at hl 1 rfl) ?_
  obtain ⟨x5, e4, hF⟩ := bn hF
  refine rc_i (Af := fun φ => [.ref (φ 2 o1), .int a1]) X hW hS ⟨Nat.zero_le _, Nat.zero_le _⟩ (rn_V (As := [.int a1]) (rest := []) X hW hS cw_11_137 al3 rfl rfl rfl ⟨Nat.le_of_ble_eq_true rfl, Nat.le_of_ble_eq_true rfl⟩ rfl hl.1 rfl (Nat.le_of_ble_eq_true rfl) dX11_become_5) (ok_X2_has o1 a1 al3 e4) (fun H locs hW hS => ?_)
  refine lv_if_eq (tgt := 20) hx hb dX11_become_8 (by decide) (fun c30 => ?_) (fun c30 => ?_)
  · have hF := it c30 hF
    refine lv_bipush (v := (-2)) hx hb dX11_become_20 (by decide) ?_
    obtain ⟨rfl, rfl⟩ := sj2 hF
    exact hfin _ _ _ _ (wdW rfl hW) hS dX11_become_22
  · have hF := ie c30 hF
    refine lv_iload_n hx hb dX11_become_11 rfl (lv_at hl 2 rfl) ?_
    refine lv_iconst (v := 0) hx hb dX11_become_12 (by decide) ?_
    refine lv_iconst (v := 5) hx hb dX11_become_13 (by decide) ?_
    obtain ⟨x7, e6, hF⟩ := bn hF
    refine rc_i (Af := fun φ => [.int a2, .int 0, .int 5]) X hW hS ⟨Nat.zero_le _, Nat.zero_le _⟩ (rn_S (As := [.int a2, .int 0, .int 5]) (rest := []) X hW hS cw_11_81 ⟨Nat.le_of_ble_eq_true rfl, Nat.le_of_ble_eq_true rfl⟩ rfl hl.1 rfl (Nat.le_of_ble_eq_true rfl) dX11_become_14) (ok_X11_isFrom a2 0 5 e6) (fun H locs hW hS => ?_)
    refine lv_if_ne (tgt := 23) hx hb dX11_become_17 (by decide) (fun c29 => ?_) (fun c29 => ?_)
    · have hF := ie c29 hF
      refine lv_aload_n hx hb dX11_become_23 rfl (lv_at hl 0 rfl) ?_
      obtain ⟨o8, e9, hF⟩ := bn hF
      refine r_getr X hW al_0 fl_11_16 e9 dX11_become_24 (fun al10 => ?_)
      obtain ⟨o11, e12, hF⟩ := bn hF
      refine r_getr X hW al10 fl_11_140 e12 dX11_become_27 (fun al13 => ?_)
      refine lv_iload_n hx hb dX11_become_30 rfl (lv_at hl 1 rfl) ?_
      obtain ⟨o14, e15, hF⟩ := bn hF
      obtain ⟨b16, e15⟩ := gar_s e15
      refine r_aald (t0 := 3) X hW al13 rfl rfl b16 e15 dX11_become_31 (fun al17 => ?_)
      refine lv_astore_n (lv' := [(3, .ref (φ 1 o14)), (0, .ref (φ 11 i0)), (1, .int a1), (2, .int a2)]) hx hb dX11_become_32 rfl hl (by decide) rfl (fun ls hl => ?_)
      refine lv_aload_n hx hb dX11_become_33 rfl (lv_at hl 0 rfl) ?_
      obtain ⟨x19, e18, hF⟩ := bn hF
      refine rc_i (Af := fun φ => [.ref (φ 1 o14)]) X hW hS ⟨Nat.zero_le _, Nat.zero_le _⟩ (rn_V (As := []) (rest := []) X hW hS cw_11_159 al17 rfl rfl rfl ⟨Nat.le_of_ble_eq_true rfl, Nat.le_of_ble_eq_true rfl⟩ rfl hl.1 rfl (Nat.le_of_ble_eq_true rfl) dX11_become_34) (ok_X1_stateNow o14 al17 e18) (fun H locs hW hS => ?_)
      refine lv_istore (lv' := [(4, .int x19), (3, .ref (φ 1 o14)), (0, .ref (φ 11 i0)), (1, .int a1), (2, .int a2)]) hx hb dX11_become_37 hl (by decide) rfl (fun ls hl => ?_)
      refine lv_iload hx hb dX11_become_39 (lv_at hl 0 rfl) ?_
      refine lv_iload_n hx hb dX11_become_41 rfl (lv_at hl 4 rfl) ?_
      obtain ⟨x21, e20, hF⟩ := bn hF
      refine rc_i (Af := fun φ => [.int x19, .int a2]) X hW hS ⟨Nat.zero_le _, Nat.zero_le _⟩ (rn_S (As := [.int x19, .int a2]) (rest := []) X hW hS cw_11_175 ⟨Nat.le_of_ble_eq_true rfl, Nat.le_of_ble_eq_true rfl⟩ rfl hl.1 rfl (Nat.le_of_ble_eq_true rfl) dX11_become_42) (ok_X11_mayFollow x19 a2 e20) (fun H locs hW hS => ?_)
      refine lv_if_ne (tgt := 51) hx hb dX11_become_45 (by decide) (fun c28 => ?_) (fun c28 => ?_)
      · have hF := ie c28 hF
        refine lv_aload_n hx hb dX11_become_51 rfl (lv_at hl 1 rfl) ?_
        refine r_geti X hW al17 fl_11_166 dX11_become_52 ?_
        refine lv_bipush (v := 16) hx hb dX11_become_55 (by decide) ?_
        refine lv_icmp_lt (tgt := 63) hx hb dX11_become_57 (by decide) (fun c27 => ?_) (fun c27 => ?_)
        · have hF := it c27 hF
          refine lv_aload_n hx hb dX11_become_63 rfl (lv_at hl 1 rfl) ?_
          refine lv_iload_n hx hb dX11_become_64 rfl (lv_at hl 4 rfl) ?_
          refine lv_aload_n hx hb dX11_become_65 rfl (lv_at hl 2 rfl) ?_
          refine r_geti X hW al_0 fl_11_85 dX11_become_66 ?_
          obtain ⟨d26, e22, hF⟩ := bn hF
          refine rc_v (Af := fun φ => [.ref (φ 1 o14), .int a2, .int (gi h 11 i0 0)]) X hW hS ⟨Nat.zero_le _, Nat.zero_le _⟩ (rn_V (As := [.int a2, .int (gi h 11 i0 0)]) (rest := []) X hW hS cw_11_179 al17 rfl rfl rfl ⟨Nat.le_of_ble_eq_true rfl, Nat.le_of_ble_eq_true rfl⟩ rfl hl.1 rfl (Nat.le_of_ble_eq_true rfl) dX11_become_69) (ok_X1_change o14 a2 (gi h 11 i0 0) al17 e22) (fun H locs hW hS => ?_)
          obtain ⟨h23, e25, hF⟩ := nmx hF
          have hW := nmW e25 hW
          have g24 : h23.2.2 = h.2.2 := by rw [e25]; exact rfl
          refine lv_iload hx hb dX11_become_72 (lv_at hl 0 rfl) ?_
          obtain ⟨rfl, rfl⟩ := sj2 hF
          exact hfin _ _ _ _ (wdW g24 hW) hS dX11_become_74
        · have hF := ie c27 hF
          refine lv_bipush (v := (-4)) hx hb dX11_become_60 (by decide) ?_
          obtain ⟨rfl, rfl⟩ := sj2 hF
          exact hfin _ _ _ _ (wdW rfl hW) hS dX11_become_62
      · have hF := it c28 hF
        refine lv_bipush (v := (-3)) hx hb dX11_become_48 (by decide) ?_
        obtain ⟨rfl, rfl⟩ := sj2 hF
        exact hfin _ _ _ _ (wdW rfl hW) hS dX11_become_50
    · have hF := it c29 hF
      refine lv_bipush (v := (-2)) hx hb dX11_become_20 (by decide) ?_
      obtain ⟨rfl, rfl⟩ := sj2 hF
      exact hfin _ _ _ _ (wdW rfl hW) hS dX11_become_22
def B_X1_stateIn_7 (i0 : Nat) (a1 : Int32) (h : HP) (x3 : Int32) : Option ((Int32) ⊕ (Int32 ⊕ Unit)) :=
  (if x3 < 0 then
  some (.inr (.inr ()))
  else
  (gr h 1 i0 5).bind fun o4 =>
  (ga h 21 o4 16 x3).bind fun x7 =>
  (if a1 < x7 then
  nm (x3 + (-1)) fun x10 =>
  some (.inl x10)
  else
  some (.inr (.inl x3))))
def F_X1_stateIn (i0 : Nat) (a1 : Int32) (h : HP) : Option (Int32) :=
  nm (((gi h 1 i0 7) - 1)) fun x1 =>
  (loopN LF (B_X1_stateIn_7 i0 a1 h) x1).bind (fun q14 => match q14 with
  | .inl q14 => (fun x16 =>
  (gr h 1 i0 6).bind fun o17 =>
  (ga h 22 o17 16 x16).bind fun x20 =>
  some x20) q14
  | .inr q14 => (fun _ =>
  some 0) q14)
set_option maxHeartbeats 4000000 in
set_option maxRecDepth 100000 in
theorem ok_X1_stateIn {l : Launch} {D : va_G} {cA : Nat → ClassId} {h : HP} {r : Int32}  (i0 : Nat) (a1 : Int32) (al_0 : i0 < gn h 1) (hF : F_X1_stateIn i0 a1 h = some r) : MI l D cA yX1_stateIn cX1_stateIn 3 (some .int) 0 0 (fun φ => [.ref (φ 1 i0), .int a1]) h r h := by
  refine mk_I (plainFor_of_name (by decide)) (fun φ => Nat.le_of_ble_eq_true rfl) ?_
  intro p e s m args below meth c ls φ A Q X hW hS hl hfin
  have hx := X.1
  have hb := X.2.1
  have hl : lv_has ls 3 [(0, .ref (φ 1 i0)), (1, .int a1)] := hl
  unfold F_X1_stateIn at hF
  refine lv_aload_n hx hb dX1_stateIn_0 rfl (lv_at hl 0 rfl) ?_
  refine r_geti X hW al_0 fl_1_43 dX1_stateIn_1 ?_
  refine lv_iconst (v := 1) hx hb dX1_stateIn_4 (by decide) ?_
  refine lv_isub hx hb dX1_stateIn_5 ?_
  obtain ⟨x1, e2, hF⟩ := nmx hF
  refine nmi e2 ?_
  refine lv_istore_n (lv' := [(2, .int x1), (0, .ref (φ 1 i0)), (1, .int a1)]) hx hb dX1_stateIn_6 rfl hl (by decide) rfl (fun ls hl => ?_)
  obtain ⟨q14, e15, hF⟩ := bn hF
  refine loop_w (f := B_X1_stateIn_7 i0 a1 h) (Z := fun q => ∀ (H : Heap) (locs : List Loc) (ls : Array Slot), HW D cA A φ h H → va_S A s.heap H locs → lv_has ls 3 [(0, .ref (φ 1 i0)), (1, .int a1), (2, .int q)] → W p l e (rmo 0 0 0 0) s m args below meth c H locs 0 0 Q (F0 m 7 ls [])) (K := fun q => match q with | .inl q => (∀ (H : Heap) (locs : List Loc) (ls : Array Slot), HW D cA A φ h H → va_S A s.heap H locs → lv_has ls 3 [(0, .ref (φ 1 i0)), (2, .int q)] → W p l e (rmo 0 0 0 0) s m args below meth c H locs 0 0 Q (F0 m 21 ls [])) | .inr q => (∀ (H : Heap) (locs : List Loc) (ls : Array Slot), HW D cA A φ h H → va_S A s.heap H locs → lv_has ls 3 [] → W p l e (rmo 0 0 0 0) s m args below meth c H locs 0 0 Q (F0 m 34 ls []))) ?_ LF _ q14 e15 ?_ _ _ _ hW hS (lv_sub hl [1, 2, 0] rfl)
  · intro x3 v hF hK H locs ls hW hS hl
    unfold B_X1_stateIn_7 at hF
    have hl : lv_has ls 3 [(0, .ref (φ 1 i0)), (1, .int a1), (2, .int x3)] := hl
    refine lv_iload_n hx hb dX1_stateIn_7 rfl (lv_at hl 2 rfl) ?_
    refine lv_if_lt (tgt := 34) hx hb dX1_stateIn_8 (by decide) (fun c13 => ?_) (fun c13 => ?_)
    · have hF := it c13 hF
      obtain rfl := sj hF
      exact hK _ _ _ hW hS (lv_sub hl [] rfl)
    · have hF := ie c13 hF
      refine lv_aload_n hx hb dX1_stateIn_11 rfl (lv_at hl 0 rfl) ?_
      obtain ⟨o4, e5, hF⟩ := bn hF
      refine r_getr X hW al_0 fl_1_15 e5 dX1_stateIn_12 (fun al6 => ?_)
      refine lv_iload_n hx hb dX1_stateIn_15 rfl (lv_at hl 2 rfl) ?_
      obtain ⟨x7, e8, hF⟩ := bn hF
      obtain ⟨b9, e8⟩ := ga_s e8
      refine r_iald X hW al6 rfl b9 dX1_stateIn_16 ?_
      refine nmi e8 ?_
      refine lv_iload_n hx hb dX1_stateIn_17 rfl (lv_at hl 1 rfl) ?_
      refine lv_icmp_gt (tgt := 28) hx hb dX1_stateIn_18 (by decide) (fun c12 => ?_) (fun c12 => ?_)
      · have hF := it c12 hF
        obtain ⟨x10, e11, hF⟩ := nmx hF
        refine lv_iinc (v := x10) (lv' := [(2, .int x10), (0, .ref (φ 1 i0)), (1, .int a1)]) hx hb dX1_stateIn_28 hl (k := 2) rfl (by rw [e11]; rfl) (by decide) rfl (fun ls hl => ?_)
        refine lv_goto (tgt := 7) hx hb dX1_stateIn_31 (by decide) ?_
        obtain rfl := sj hF
        exact hK _ _ _ hW hS (lv_sub hl [1, 2, 0] rfl)
      · have hF := ie c12 hF
        obtain rfl := sj hF
        exact hK _ _ _ hW hS (lv_sub hl [0, 2] rfl)
  · cases q14 with
    | inl q14 =>
      intro H locs ls hW hS hl
      obtain ⟨x16, rfl⟩ : ∃ z, z = q14 := ⟨_, rfl⟩
      have hl : lv_has ls 3 [(0, .ref (φ 1 i0)), (2, .int x16)] := hl
      refine lv_aload_n hx hb dX1_stateIn_21 rfl (lv_at hl 0 rfl) ?_
      obtain ⟨o17, e18, hF⟩ := bn hF
      refine r_getr X hW al_0 fl_1_18 e18 dX1_stateIn_22 (fun al19 => ?_)
      refine lv_iload_n hx hb dX1_stateIn_25 rfl (lv_at hl 1 rfl) ?_
      obtain ⟨x20, e21, hF⟩ := bn hF
      obtain ⟨b22, e21⟩ := ga_s e21
      refine r_iald X hW al19 rfl b22 dX1_stateIn_26 ?_
      refine nmi e21 ?_
      obtain rfl := sj hF
      exact hfin _ _ _ _ hW hS dX1_stateIn_27
    | inr q14 =>
      intro H locs ls hW hS hl
      have hl : lv_has ls 3 [] := hl
      refine lv_iconst (v := 0) hx hb dX1_stateIn_34 (by decide) ?_
      obtain rfl := sj hF
      exact hfin _ _ _ _ hW hS dX1_stateIn_35
def F_X11_was (i0 : Nat) (a1 : Int32) (a2 : Int32) (h : HP) : Option (Int32) :=
  (gr h 11 i0 3).bind fun o1 =>
  (F_X2_has o1 a1 h).bind fun x5 =>
  (if x5 = 0 then
  some (-2)
  else
  (F_X11_isFrom a2 0 (gi h 11 i0 0)).bind fun x7 =>
  (if x7 = 0 then
  some (-2)
  else
  (gr h 11 i0 3).bind fun o8 =>
  (gr h 2 o8 0).bind fun o11 =>
  (gar h 23 o11 20 a1).bind fun o14 =>
  (F_X1_stateIn o14 a2 h).bind fun x19 =>
  some x19))
set_option maxHeartbeats 4000000 in
set_option maxRecDepth 100000 in
theorem ok_X11_was {l : Launch} {D : va_G} {cA : Nat → ClassId} {h : HP} {r : Int32}  (i0 : Nat) (a1 : Int32) (a2 : Int32) (al_0 : i0 < gn h 11) (hF : F_X11_was i0 a1 a2 h = some r) : MI l D cA yX11_was cX11_was 3 (some .int) 2 43 (fun φ => [.ref (φ 11 i0), .int a1, .int a2]) h r h := by
  refine mk_I (plainFor_of_name (by decide)) (fun φ => Nat.le_of_ble_eq_true rfl) ?_
  intro p e s m args below meth c ls φ A Q X hW hS hl hfin
  have hx := X.1
  have hb := X.2.1
  have hl : lv_has ls 3 [(0, .ref (φ 11 i0)), (1, .int a1), (2, .int a2)] := hl
  unfold F_X11_was at hF
  refine lv_aload_n hx hb dX11_was_0 rfl (lv_at hl 0 rfl) ?_
  obtain ⟨o1, e2, hF⟩ := bn hF
  refine r_getr X hW al_0 fl_11_16 e2 dX11_was_1 (fun al3 => ?_)
  refine lv_iload_n hx hb dX11_was_4 rfl (lv_at hl 1 rfl) ?_
  obtain ⟨x5, e4, hF⟩ := bn hF
  refine rc_i (Af := fun φ => [.ref (φ 2 o1), .int a1]) X hW hS ⟨Nat.zero_le _, Nat.zero_le _⟩ (rn_V (As := [.int a1]) (rest := []) X hW hS cw_11_137 al3 rfl rfl rfl ⟨Nat.le_of_ble_eq_true rfl, Nat.le_of_ble_eq_true rfl⟩ rfl hl.1 rfl (Nat.le_of_ble_eq_true rfl) dX11_was_5) (ok_X2_has o1 a1 al3 e4) (fun H locs hW hS => ?_)
  refine lv_if_eq (tgt := 23) hx hb dX11_was_8 (by decide) (fun c21 => ?_) (fun c21 => ?_)
  · have hF := it c21 hF
    refine lv_bipush (v := (-2)) hx hb dX11_was_23 (by decide) ?_
    obtain rfl := sj hF
    exact hfin _ _ _ _ hW hS dX11_was_25
  · have hF := ie c21 hF
    refine lv_iload_n hx hb dX11_was_11 rfl (lv_at hl 2 rfl) ?_
    refine lv_iconst (v := 0) hx hb dX11_was_12 (by decide) ?_
    refine lv_aload_n hx hb dX11_was_13 rfl (lv_at hl 0 rfl) ?_
    refine r_geti X hW al_0 fl_11_85 dX11_was_14 ?_
    obtain ⟨x7, e6, hF⟩ := bn hF
    refine rc_i (Af := fun φ => [.int a2, .int 0, .int (gi h 11 i0 0)]) X hW hS ⟨Nat.zero_le _, Nat.zero_le _⟩ (rn_S (As := [.int a2, .int 0, .int (gi h 11 i0 0)]) (rest := []) X hW hS cw_11_81 ⟨Nat.le_of_ble_eq_true rfl, Nat.le_of_ble_eq_true rfl⟩ rfl hl.1 rfl (Nat.le_of_ble_eq_true rfl) dX11_was_17) (ok_X11_isFrom a2 0 (gi h 11 i0 0) e6) (fun H locs hW hS => ?_)
    refine lv_if_ne (tgt := 26) hx hb dX11_was_20 (by decide) (fun c20 => ?_) (fun c20 => ?_)
    · have hF := ie c20 hF
      refine lv_aload_n hx hb dX11_was_26 rfl (lv_at hl 0 rfl) ?_
      obtain ⟨o8, e9, hF⟩ := bn hF
      refine r_getr X hW al_0 fl_11_16 e9 dX11_was_27 (fun al10 => ?_)
      obtain ⟨o11, e12, hF⟩ := bn hF
      refine r_getr X hW al10 fl_11_140 e12 dX11_was_30 (fun al13 => ?_)
      refine lv_iload_n hx hb dX11_was_33 rfl (lv_at hl 1 rfl) ?_
      obtain ⟨o14, e15, hF⟩ := bn hF
      obtain ⟨b16, e15⟩ := gar_s e15
      refine r_aald (t0 := 3) X hW al13 rfl rfl b16 e15 dX11_was_34 (fun al17 => ?_)
      refine lv_iload_n hx hb dX11_was_35 rfl (lv_at hl 2 rfl) ?_
      obtain ⟨x19, e18, hF⟩ := bn hF
      refine rc_i (Af := fun φ => [.ref (φ 1 o14), .int a2]) X hW hS ⟨Nat.zero_le _, Nat.zero_le _⟩ (rn_V (As := [.int a2]) (rest := []) X hW hS cw_11_183 al17 rfl rfl rfl ⟨Nat.le_of_ble_eq_true rfl, Nat.le_of_ble_eq_true rfl⟩ rfl hl.1 rfl (Nat.le_of_ble_eq_true rfl) dX11_was_36) (ok_X1_stateIn o14 a2 al17 e18) (fun H locs hW hS => ?_)
      obtain rfl := sj hF
      exact hfin _ _ _ _ hW hS dX11_was_39
    · have hF := it c20 hF
      refine lv_bipush (v := (-2)) hx hb dX11_was_23 (by decide) ?_
      obtain rfl := sj hF
      exact hfin _ _ _ _ hW hS dX11_was_25
