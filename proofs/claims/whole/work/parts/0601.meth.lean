def F_X4_signAt (i0 : Nat) (a1 : Int32) (h : HP) : Option (Int32) :=
  (F_X11_isFrom a1 0 ((gi h 4 i0 1) - 1)).bind fun x2 =>
  (if x2 = 0 then
  some (-1)
  else
  (gr h 4 i0 0).bind fun o3 =>
  (ga h 29 o3 100 a1).bind fun x6 =>
  some x6)
set_option maxHeartbeats 4000000 in
set_option maxRecDepth 100000 in
theorem ok_X4_signAt {l : Launch} {D : va_G} {cA : Nat → ClassId} {h : HP} {r : Int32}  (i0 : Nat) (a1 : Int32) (al_0 : i0 < gn h 4) (hF : F_X4_signAt i0 a1 h = some r) : MI l D cA yX4_signAt cX4_signAt 2 (some .int) 1 22 (fun φ => [.ref (φ 4 i0), .int a1]) h r h := by
  refine mk_I (plainFor_of_name (by decide)) (fun φ => Nat.le_of_ble_eq_true rfl) ?_
  intro p e s m args below meth c ls φ A Q X hW hS hl hfin
  have hx := X.1
  have hb := X.2.1
  have hl : lv_has ls 2 [(0, .ref (φ 4 i0)), (1, .int a1)] := hl
  unfold F_X4_signAt at hF
  refine lv_iload_n hx hb dX4_signAt_0 rfl (lv_at hl 1 rfl) ?_
  refine lv_iconst (v := 0) hx hb dX4_signAt_1 (by decide) ?_
  refine lv_aload_n hx hb dX4_signAt_2 rfl (lv_at hl 0 rfl) ?_
  refine r_geti X hW al_0 fl_4_35 dX4_signAt_3 ?_
  refine lv_iconst (v := 1) hx hb dX4_signAt_6 (by decide) ?_
  refine lv_isub hx hb dX4_signAt_7 ?_
  obtain ⟨x2, e1, hF⟩ := bn hF
  refine rc_i (Af := fun φ => [.int a1, .int 0, .int ((gi h 4 i0 1) - 1)]) X hW hS ⟨Nat.zero_le _, Nat.zero_le _⟩ (rn_N (As := [.int a1, .int 0, .int ((gi h 4 i0 1) - 1)]) (rest := []) X hW hS cw_4_95 ⟨Nat.le_of_ble_eq_true rfl, Nat.le_of_ble_eq_true rfl⟩ rfl hl.1 rfl (Nat.le_of_ble_eq_true rfl) dX4_signAt_8) (ok_X11_isFrom a1 0 ((gi h 4 i0 1) - 1) e1) (fun H locs hW hS => ?_)
  refine lv_if_eq (tgt := 23) hx hb dX4_signAt_11 (by decide) (fun c9 => ?_) (fun c9 => ?_)
  · have hF := it c9 hF
    refine lv_iconst (v := (-1)) hx hb dX4_signAt_23 (by decide) ?_
    obtain rfl := sj hF
    exact hfin _ _ _ _ hW hS dX4_signAt_24
  · have hF := ie c9 hF
    refine lv_aload_n hx hb dX4_signAt_14 rfl (lv_at hl 0 rfl) ?_
    obtain ⟨o3, e4, hF⟩ := bn hF
    refine r_getr X hW al_0 fl_4_9 e4 dX4_signAt_15 (fun al5 => ?_)
    refine lv_iload_n hx hb dX4_signAt_18 rfl (lv_at hl 1 rfl) ?_
    obtain ⟨x6, e7, hF⟩ := bn hF
    obtain ⟨b8, e7⟩ := ga_s e7
    refine r_cald X hW al5 rfl b8 dX4_signAt_19 ?_
    refine nmi e7 ?_
    refine lv_goto (tgt := 24) hx hb dX4_signAt_20 (by decide) ?_
    obtain rfl := sj hF
    exact hfin _ _ _ _ hW hS dX4_signAt_24
def F_X4_kindOf (a0 : Int32) : Option (Int32) :=
  (if a0 = 107 then
  some 3
  else
  (F_X11_isFrom a0 97 99).bind fun x2 =>
  (if x2 = 0 then
  some (-1)
  else
  some (a0 - 97)))
set_option maxHeartbeats 4000000 in
set_option maxRecDepth 100000 in
theorem ok_X4_kindOf {l : Launch} {D : va_G} {cA : Nat → ClassId} {h : HP} {r : Int32}  (a0 : Int32)  (hF : F_X4_kindOf a0 = some r) : MI l D cA yX4_kindOf cX4_kindOf 1 (some .int) 1 22 (fun φ => [.int a0]) h r h := by
  refine mk_I (plainFor_of_name (by decide)) (fun φ => Nat.le_of_ble_eq_true rfl) ?_
  intro p e s m args below meth c ls φ A Q X hW hS hl hfin
  have hx := X.1
  have hb := X.2.1
  have hl : lv_has ls 1 [(0, .int a0)] := hl
  unfold F_X4_kindOf at hF
  refine lv_iload_n hx hb dX4_kindOf_0 rfl (lv_at hl 0 rfl) ?_
  refine lv_bipush (v := 107) hx hb dX4_kindOf_1 (by decide) ?_
  refine lv_icmp_ne (tgt := 10) hx hb dX4_kindOf_3 (by decide) (fun c4 => ?_) (fun c4 => ?_)
  · have hF := ie c4 hF
    refine lv_iload_n hx hb dX4_kindOf_10 rfl (lv_at hl 0 rfl) ?_
    refine lv_bipush (v := 97) hx hb dX4_kindOf_11 (by decide) ?_
    refine lv_bipush (v := 99) hx hb dX4_kindOf_13 (by decide) ?_
    obtain ⟨x2, e1, hF⟩ := bn hF
    refine rc_i (Af := fun φ => [.int a0, .int 97, .int 99]) X hW hS ⟨Nat.zero_le _, Nat.zero_le _⟩ (rn_N (As := [.int a0, .int 97, .int 99]) (rest := []) X hW hS cw_4_95 ⟨Nat.le_of_ble_eq_true rfl, Nat.le_of_ble_eq_true rfl⟩ rfl hl.1 rfl (Nat.le_of_ble_eq_true rfl) dX4_kindOf_15) (ok_X11_isFrom a0 97 99 e1) (fun H locs hW hS => ?_)
    refine lv_if_eq (tgt := 28) hx hb dX4_kindOf_18 (by decide) (fun c3 => ?_) (fun c3 => ?_)
    · have hF := it c3 hF
      refine lv_iconst (v := (-1)) hx hb dX4_kindOf_28 (by decide) ?_
      obtain rfl := sj hF
      exact hfin _ _ _ _ hW hS dX4_kindOf_29
    · have hF := ie c3 hF
      refine lv_iload_n hx hb dX4_kindOf_21 rfl (lv_at hl 0 rfl) ?_
      refine lv_bipush (v := 97) hx hb dX4_kindOf_22 (by decide) ?_
      refine lv_isub hx hb dX4_kindOf_24 ?_
      refine lv_goto (tgt := 29) hx hb dX4_kindOf_25 (by decide) ?_
      obtain rfl := sj hF
      exact hfin _ _ _ _ hW hS dX4_kindOf_29
  · have hF := it c4 hF
    refine lv_iconst (v := 3) hx hb dX4_kindOf_6 (by decide) ?_
    refine lv_goto (tgt := 29) hx hb dX4_kindOf_7 (by decide) ?_
    obtain rfl := sj hF
    exact hfin _ _ _ _ hW hS dX4_kindOf_29
def F_X4_failAt (i0 : Nat) (a1 : Int32) (h : HP) : Option (Int32 × DP) :=
  nm (si h 4 i0 2 a1) fun h1 =>
  some (0, dp h1)
set_option maxHeartbeats 4000000 in
set_option maxRecDepth 100000 in
theorem ok_X4_failAt {l : Launch} {D : va_G} {cA : Nat → ClassId} {h : HP} {r : Int32} {d : DP} (i0 : Nat) (a1 : Int32) (al_0 : i0 < gn h 4) (hF : F_X4_failAt i0 a1 h = some (r, d)) : MI l D cA yX4_failAt cX4_failAt 2 (some .boolean) 0 0 (fun φ => [.ref (φ 4 i0), .int a1]) h r (wd h d) := by
  refine mk_Z (plainFor_of_name (by decide)) (fun φ => Nat.le_of_ble_eq_true rfl) ?_
  intro p e s m args below meth c ls φ A Q X hW hS hl hfin
  have hx := X.1
  have hb := X.2.1
  have hl : lv_has ls 2 [(0, .ref (φ 4 i0)), (1, .int a1)] := hl
  unfold F_X4_failAt at hF
  refine lv_aload_n hx hb dX4_failAt_0 rfl (lv_at hl 0 rfl) ?_
  refine lv_iload_n hx hb dX4_failAt_1 rfl (lv_at hl 1 rfl) ?_
  refine r_puti X hW hS al_0 fp_4_15 rfl rfl dX4_failAt_2 (fun H locs hW hS => ?_)
  obtain ⟨h1, e2, hF⟩ := nmx hF
  have hW := nmW e2 hW
  have g3 : h1.2.2 = h.2.2 := by rw [e2]; exact rfl
  refine lv_iconst (v := 0) hx hb dX4_failAt_5 (by decide) ?_
  obtain ⟨rfl, rfl⟩ := sj2 hF
  exact hfin _ _ _ _ (wdW g3 hW) hS (Or.inl rfl) dX4_failAt_6
def F_X4_readSign (i0 : Nat) (a1 : Int32) (h : HP) : Option (Int32 × DP) :=
  (F_X4_signAt i0 (gi h 4 i0 9) h).bind fun x2 =>
  (if x2 = a1 then
  nm (si h 4 i0 9 ((gi h 4 i0 9) + 1)) fun h3 =>
  some (1, dp h3)
  else
  (F_X4_failAt i0 (gi h 4 i0 9) h).bind fun q11 => u2 q11 fun x12 d10 => nm (wd h d10) fun h7 =>
  (bz x12).bind fun x13 => some (x13, dp h7))
set_option maxHeartbeats 4000000 in
set_option maxRecDepth 100000 in
theorem ok_X4_readSign {l : Launch} {D : va_G} {cA : Nat → ClassId} {h : HP} {r : Int32} {d : DP} (i0 : Nat) (a1 : Int32) (al_0 : i0 < gn h 4) (hF : F_X4_readSign i0 a1 h = some (r, d)) : MI l D cA yX4_readSign cX4_readSign 2 (some .boolean) 2 43 (fun φ => [.ref (φ 4 i0), .int a1]) h r (wd h d) := by
  refine mk_Z (plainFor_of_name (by decide)) (fun φ => Nat.le_of_ble_eq_true rfl) ?_
  intro p e s m args below meth c ls φ A Q X hW hS hl hfin
  have hx := X.1
  have hb := X.2.1
  have hl : lv_has ls 2 [(0, .ref (φ 4 i0)), (1, .int a1)] := hl
  unfold F_X4_readSign at hF
  refine lv_aload_n hx hb dX4_readSign_0 rfl (lv_at hl 0 rfl) ?_
  refine lv_aload_n hx hb dX4_readSign_1 rfl (lv_at hl 0 rfl) ?_
  refine r_geti X hW al_0 fl_4_62 dX4_readSign_2 ?_
  obtain ⟨x2, e1, hF⟩ := bn hF
  refine rc_i (Af := fun φ => [.ref (φ 4 i0), .int (gi h 4 i0 9)]) X hW hS ⟨Nat.zero_le _, Nat.zero_le _⟩ (rn_V (As := [.int (gi h 4 i0 9)]) (rest := []) X hW hS cw_4_73 al_0 rfl rfl rfl ⟨Nat.le_of_ble_eq_true rfl, Nat.le_of_ble_eq_true rfl⟩ rfl hl.1 rfl (Nat.le_of_ble_eq_true rfl) dX4_readSign_5) (ok_X4_signAt i0 (gi h 4 i0 9) al_0 e1) (fun H locs hW hS => ?_)
  refine lv_iload_n hx hb dX4_readSign_8 rfl (lv_at hl 1 rfl) ?_
  refine lv_icmp_eq (tgt := 21) hx hb dX4_readSign_9 (by decide) (fun c16 => ?_) (fun c16 => ?_)
  · have hF := it c16 hF
    refine lv_aload_n hx hb dX4_readSign_21 rfl (lv_at hl 0 rfl) ?_
    refine lv_dup hx hb dX4_readSign_22 rfl ?_
    refine r_geti X hW al_0 fl_4_62 dX4_readSign_23 ?_
    refine lv_iconst (v := 1) hx hb dX4_readSign_26 (by decide) ?_
    refine lv_iadd hx hb dX4_readSign_27 ?_
    refine r_puti X hW hS al_0 fp_4_62 rfl rfl dX4_readSign_28 (fun H locs hW hS => ?_)
    obtain ⟨h3, e4, hF⟩ := nmx hF
    have hW := nmW e4 hW
    have g5 : h3.2.2 = h.2.2 := by rw [e4]; exact rfl
    refine lv_iconst (v := 1) hx hb dX4_readSign_31 (by decide) ?_
    obtain ⟨rfl, rfl⟩ := sj2 hF
    exact hfin _ _ _ _ (wdW g5 hW) hS (Or.inr rfl) dX4_readSign_32
  · have hF := ie c16 hF
    refine lv_aload_n hx hb dX4_readSign_12 rfl (lv_at hl 0 rfl) ?_
    refine lv_aload_n hx hb dX4_readSign_13 rfl (lv_at hl 0 rfl) ?_
    refine r_geti X hW al_0 fl_4_62 dX4_readSign_14 ?_
    obtain ⟨q11, e6, hF⟩ := bn hF
    obtain ⟨x12, d10⟩ := q11
    have hF := u2d hF
    refine rc_i (Af := fun φ => [.ref (φ 4 i0), .int (gi h 4 i0 9)]) X hW hS ⟨Nat.zero_le _, Nat.zero_le _⟩ (rn_V (As := [.int (gi h 4 i0 9)]) (rest := []) X hW hS cw_4_80 al_0 rfl rfl rfl ⟨Nat.le_of_ble_eq_true rfl, Nat.le_of_ble_eq_true rfl⟩ rfl hl.1 rfl (Nat.le_of_ble_eq_true rfl) dX4_readSign_17) (ok_X4_failAt i0 (gi h 4 i0 9) al_0 e6) (fun H locs hW hS => ?_)
    obtain ⟨h7, e9, hF⟩ := nmx hF
    have hW := nmW e9 hW
    have g8 : h7.2.2 = h.2.2 := by rw [e9]; exact rfl
    obtain ⟨x13, e14, hF⟩ := bn hF
    obtain ⟨b15, e14⟩ := bz_s e14
    refine nmi e14 ?_
    rw [← e14] at b15
    obtain ⟨rfl, rfl⟩ := sj2 hF
    exact hfin _ _ _ _ (wdW g8 hW) hS b15 dX4_readSign_20
def B_X4_readNumber_12 (i0 : Nat) (a1 : Int32) (a2 : Int32) (a3 : Int32) (a4 : Int32) (x1 : Int32) (h : HP) (q : Int32 × Int32 × DP) : Option ((Int32 × Int32 × DP) ⊕ ((Int32 × DP))) :=
  u3 q fun x3 x4 d7 =>
  nm (wd h d7) fun h5 =>
  (if a2 ≤ x4 then
  some (.inr (x3, (dp h5)))
  else
  (F_X4_signAt i0 (gi h5 4 i0 9) h5).bind fun x9 =>
  (F_X11_isFrom x9 48 57).bind fun x11 =>
  (if x11 = 0 then
  some (.inr (x3, (dp h5)))
  else
  (F_X4_signAt i0 (gi h5 4 i0 9) h5).bind fun x13 =>
  nm ((((10 * x3) + x13) - 48)) fun x14 =>
  nm (si h5 4 i0 9 ((gi h5 4 i0 9) + 1)) fun h16 =>
  nm (x4 + 1) fun x19 =>
  some (.inl (x14, x19, (dp h16)))))
def F_X4_readNumber (i0 : Nat) (a1 : Int32) (a2 : Int32) (a3 : Int32) (a4 : Int32) (h : HP) : Option (Int32 × DP) :=
  nm ((gi h 4 i0 9)) fun x1 =>
  (loopN LF (B_X4_readNumber_12 i0 a1 a2 a3 a4 x1 h) (0, 0, (dp h))).bind fun q23 => u2 q23 fun x26 d27 =>
  nm (wd h d27) fun h28 =>
  (if a1 ≤ ((gi h28 4 i0 9) - x1) then
  (F_X11_isFrom x26 a3 a4).bind fun x31 =>
  (if x31 = 0 then
  (F_X4_failAt i0 x1 h28).bind fun q40 => u2 q40 fun x41 d39 => nm (wd h28 d39) fun h36 =>
  (bz x41).bind fun x42 => some (x42, dp h36)
  else
  nm (si h28 4 i0 10 x26) fun h32 =>
  some (1, dp h32))
  else
  (F_X4_failAt i0 (gi h28 4 i0 9) h28).bind fun q51 => u2 q51 fun x52 d50 => nm (wd h28 d50) fun h47 =>
  (bz x52).bind fun x53 => some (x53, dp h47))
set_option maxHeartbeats 4000000 in
set_option maxRecDepth 100000 in
theorem ok_X4_readNumber {l : Launch} {D : va_G} {cA : Nat → ClassId} {h : HP} {r : Int32} {d : DP} (i0 : Nat) (a1 : Int32) (a2 : Int32) (a3 : Int32) (a4 : Int32) (al_0 : i0 < gn h 4) (hF : F_X4_readNumber i0 a1 a2 a3 a4 h = some (r, d)) : MI l D cA yX4_readNumber cX4_readNumber 8 (some .boolean) 2 43 (fun φ => [.ref (φ 4 i0), .int a1, .int a2, .int a3, .int a4]) h r (wd h d) := by
  refine mk_Z (plainFor_of_name (by decide)) (fun φ => Nat.le_of_ble_eq_true rfl) ?_
  intro p e s m args below meth c ls φ A Q X hW hS hl hfin
  have hx := X.1
  have hb := X.2.1
  have hl : lv_has ls 8 [(0, .ref (φ 4 i0)), (1, .int a1), (2, .int a2), (3, .int a3), (4, .int a4)] := hl
  unfold F_X4_readNumber at hF
  refine lv_aload_n hx hb dX4_readNumber_0 rfl (lv_at hl 0 rfl) ?_
  refine r_geti X hW al_0 fl_4_62 dX4_readNumber_1 ?_
  obtain ⟨x1, e2, hF⟩ := nmx hF
  refine nmi e2 ?_
  refine lv_istore (lv' := [(5, .int x1), (0, .ref (φ 4 i0)), (1, .int a1), (2, .int a2), (3, .int a3), (4, .int a4)]) hx hb dX4_readNumber_4 hl (by decide) rfl (fun ls hl => ?_)
  refine lv_iconst (v := 0) hx hb dX4_readNumber_6 (by decide) ?_
  refine lv_istore (lv' := [(6, .int 0), (5, .int x1), (0, .ref (φ 4 i0)), (1, .int a1), (2, .int a2), (3, .int a3), (4, .int a4)]) hx hb dX4_readNumber_7 hl (by decide) rfl (fun ls hl => ?_)
  refine lv_iconst (v := 0) hx hb dX4_readNumber_9 (by decide) ?_
  refine lv_istore (lv' := [(7, .int 0), (6, .int 0), (5, .int x1), (0, .ref (φ 4 i0)), (1, .int a1), (2, .int a2), (3, .int a3), (4, .int a4)]) hx hb dX4_readNumber_10 hl (by decide) rfl (fun ls hl => ?_)
  obtain ⟨q23, e24, hF⟩ := bn hF
  refine loop_w (f := B_X4_readNumber_12 i0 a1 a2 a3 a4 x1 h) (Z := fun q => ∀ (H : Heap) (locs : List Loc) (ls : Array Slot), HW D cA A φ (wd h q.2.2) H → va_S A s.heap H locs → lv_has ls 8 [(0, .ref (φ 4 i0)), (1, .int a1), (2, .int a2), (3, .int a3), (4, .int a4), (5, .int x1), (6, .int (q.1)), (7, .int (q.2.1))] → W p l e (rmo 2 43 0 0) s m args below meth c H locs 0 0 Q (F0 m 12 ls [])) (K := fun q => ∀ (H : Heap) (locs : List Loc) (ls : Array Slot), HW D cA A φ (wd h q.2) H → va_S A s.heap H locs → lv_has ls 8 [(0, .ref (φ 4 i0)), (1, .int a1), (3, .int a3), (4, .int a4), (5, .int x1), (6, .int (q.1))] → W p l e (rmo 2 43 0 0) s m args below meth c H locs 0 0 Q (F0 m 71 ls [])) ?_ LF _ q23 e24 ?_ _ _ _ (wdW rfl hW) hS (lv_sub hl [3, 4, 5, 6, 7, 2, 1, 0] rfl)
  · intro q v hF hK H locs ls hW hS hl
    obtain ⟨x3, x4, d7⟩ := q
    unfold B_X4_readNumber_12 at hF
    have hF := u3d hF
    obtain ⟨h5, e25, hF⟩ := nmx hF
    have hW := nmW e25 hW
    have g6 : h5.2.2 = h.2.2 := by rw [e25]; exact rfl
    have hl : lv_has ls 8 [(0, .ref (φ 4 i0)), (1, .int a1), (2, .int a2), (3, .int a3), (4, .int a4), (5, .int x1), (6, .int x3), (7, .int x4)] := hl
    refine lv_iload hx hb dX4_readNumber_12 (lv_at hl 7 rfl) ?_
    refine lv_iload_n hx hb dX4_readNumber_14 rfl (lv_at hl 2 rfl) ?_
    refine lv_icmp_ge (tgt := 71) hx hb dX4_readNumber_15 (by decide) (fun c22 => ?_) (fun c22 => ?_)
    · have hF := it c22 hF
      obtain rfl := sj hF
      exact hK _ _ _ (wdW (sq g6 rfl) hW) hS (lv_sub hl [0, 1, 3, 4, 5, 6] rfl)
    · have hF := ie c22 hF
      refine lv_aload_n hx hb dX4_readNumber_18 rfl (lv_at hl 0 rfl) ?_
      refine lv_aload_n hx hb dX4_readNumber_19 rfl (lv_at hl 0 rfl) ?_
      refine r_geti X hW (gq g6 al_0) fl_4_62 dX4_readNumber_20 ?_
      obtain ⟨x9, e8, hF⟩ := bn hF
      refine rc_i (Af := fun φ => [.ref (φ 4 i0), .int (gi h5 4 i0 9)]) X hW hS ⟨Nat.zero_le _, Nat.zero_le _⟩ (rn_V (As := [.int (gi h5 4 i0 9)]) (rest := []) X hW hS cw_4_73 (gq g6 al_0) rfl rfl rfl ⟨Nat.le_of_ble_eq_true rfl, Nat.le_of_ble_eq_true rfl⟩ rfl hl.1 rfl (Nat.le_of_ble_eq_true rfl) dX4_readNumber_23) (ok_X4_signAt i0 (gi h5 4 i0 9) (gq g6 al_0) e8) (fun H locs hW hS => ?_)
      refine lv_bipush (v := 48) hx hb dX4_readNumber_26 (by decide) ?_
      refine lv_bipush (v := 57) hx hb dX4_readNumber_28 (by decide) ?_
      obtain ⟨x11, e10, hF⟩ := bn hF
      refine rc_i (Af := fun φ => [.int x9, .int 48, .int 57]) X hW hS ⟨Nat.zero_le _, Nat.zero_le _⟩ (rn_N (As := [.int x9, .int 48, .int 57]) (rest := []) X hW hS cw_4_95 ⟨Nat.le_of_ble_eq_true rfl, Nat.le_of_ble_eq_true rfl⟩ rfl hl.1 rfl (Nat.le_of_ble_eq_true rfl) dX4_readNumber_30) (ok_X11_isFrom x9 48 57 e10) (fun H locs hW hS => ?_)
      refine lv_if_eq (tgt := 71) hx hb dX4_readNumber_33 (by decide) (fun c21 => ?_) (fun c21 => ?_)
      · have hF := it c21 hF
        obtain rfl := sj hF
        exact hK _ _ _ (wdW (sq g6 rfl) hW) hS (lv_sub hl [0, 1, 3, 4, 5, 6] rfl)
      · have hF := ie c21 hF
        refine lv_bipush (v := 10) hx hb dX4_readNumber_36 (by decide) ?_
        refine lv_iload hx hb dX4_readNumber_38 (lv_at hl 6 rfl) ?_
        refine lv_imul hx hb dX4_readNumber_40 ?_
        refine lv_aload_n hx hb dX4_readNumber_41 rfl (lv_at hl 0 rfl) ?_
        refine lv_aload_n hx hb dX4_readNumber_42 rfl (lv_at hl 0 rfl) ?_
        refine r_geti X hW (gq g6 al_0) fl_4_62 dX4_readNumber_43 ?_
        obtain ⟨x13, e12, hF⟩ := bn hF
        refine rc_i (Af := fun φ => [.ref (φ 4 i0), .int (gi h5 4 i0 9)]) X hW hS ⟨Nat.zero_le _, Nat.zero_le _⟩ (rn_V (As := [.int (gi h5 4 i0 9)]) (rest := [.int (10 * x3)]) X hW hS cw_4_73 (gq g6 al_0) rfl rfl rfl ⟨Nat.le_of_ble_eq_true rfl, Nat.le_of_ble_eq_true rfl⟩ rfl hl.1 rfl (Nat.le_of_ble_eq_true rfl) dX4_readNumber_46) (ok_X4_signAt i0 (gi h5 4 i0 9) (gq g6 al_0) e12) (fun H locs hW hS => ?_)
        refine lv_iadd hx hb dX4_readNumber_49 ?_
        refine lv_bipush (v := 48) hx hb dX4_readNumber_50 (by decide) ?_
        refine lv_isub hx hb dX4_readNumber_52 ?_
        obtain ⟨x14, e15, hF⟩ := nmx hF
        refine nmi e15 ?_
        refine lv_istore (lv' := [(6, .int x14), (0, .ref (φ 4 i0)), (1, .int a1), (2, .int a2), (3, .int a3), (4, .int a4), (5, .int x1), (7, .int x4)]) hx hb dX4_readNumber_53 hl (by decide) rfl (fun ls hl => ?_)
        refine lv_aload_n hx hb dX4_readNumber_55 rfl (lv_at hl 1 rfl) ?_
        refine lv_dup hx hb dX4_readNumber_56 rfl ?_
        refine r_geti X hW (gq g6 al_0) fl_4_62 dX4_readNumber_57 ?_
        refine lv_iconst (v := 1) hx hb dX4_readNumber_60 (by decide) ?_
        refine lv_iadd hx hb dX4_readNumber_61 ?_
        refine r_puti X hW hS (gq g6 al_0) fp_4_62 rfl rfl dX4_readNumber_62 (fun H locs hW hS => ?_)
        obtain ⟨h16, e17, hF⟩ := nmx hF
        have hW := nmW e17 hW
        have g18 : h16.2.2 = h.2.2 := by rw [e17]; exact g6
        obtain ⟨x19, e20, hF⟩ := nmx hF
        refine lv_iinc (v := x19) (lv' := [(7, .int x19), (6, .int x14), (0, .ref (φ 4 i0)), (1, .int a1), (2, .int a2), (3, .int a3), (4, .int a4), (5, .int x1)]) hx hb dX4_readNumber_65 hl (k := 7) rfl (by rw [e20]; rfl) (by decide) rfl (fun ls hl => ?_)
        refine lv_goto (tgt := 12) hx hb dX4_readNumber_68 (by decide) ?_
        obtain rfl := sj hF
        exact hK _ _ _ (wdW (sq g18 rfl) hW) hS (lv_sub hl [2, 3, 4, 5, 6, 7, 1, 0] rfl)
  · intro H locs ls hW hS hl
    obtain ⟨x26, d27⟩ := q23
    have hF := u2d hF
    obtain ⟨h28, e57, hF⟩ := nmx hF
    have hW := nmW e57 hW
    have g29 : h28.2.2 = h.2.2 := by rw [e57]; exact rfl
    have hl : lv_has ls 8 [(0, .ref (φ 4 i0)), (1, .int a1), (3, .int a3), (4, .int a4), (5, .int x1), (6, .int x26)] := hl
    refine lv_aload_n hx hb dX4_readNumber_71 rfl (lv_at hl 0 rfl) ?_
    refine r_geti X hW (gq g29 al_0) fl_4_62 dX4_readNumber_72 ?_
    refine lv_iload hx hb dX4_readNumber_75 (lv_at hl 4 rfl) ?_
    refine lv_isub hx hb dX4_readNumber_77 ?_
    refine lv_iload_n hx hb dX4_readNumber_78 rfl (lv_at hl 1 rfl) ?_
    refine lv_icmp_ge (tgt := 91) hx hb dX4_readNumber_79 (by decide) (fun c56 => ?_) (fun c56 => ?_)
    · have hF := it c56 hF
      refine lv_iload hx hb dX4_readNumber_91 (lv_at hl 5 rfl) ?_
      refine lv_iload_n hx hb dX4_readNumber_93 rfl (lv_at hl 2 rfl) ?_
      refine lv_iload hx hb dX4_readNumber_94 (lv_at hl 3 rfl) ?_
      obtain ⟨x31, e30, hF⟩ := bn hF
      refine rc_i (Af := fun φ => [.int x26, .int a3, .int a4]) X hW hS ⟨Nat.zero_le _, Nat.zero_le _⟩ (rn_N (As := [.int x26, .int a3, .int a4]) (rest := []) X hW hS cw_4_95 ⟨Nat.le_of_ble_eq_true rfl, Nat.le_of_ble_eq_true rfl⟩ rfl hl.1 rfl (Nat.le_of_ble_eq_true rfl) dX4_readNumber_96) (ok_X11_isFrom x26 a3 a4 e30) (fun H locs hW hS => ?_)
      refine lv_if_ne (tgt := 109) hx hb dX4_readNumber_99 (by decide) (fun c45 => ?_) (fun c45 => ?_)
      · have hF := ie c45 hF
        refine lv_aload_n hx hb dX4_readNumber_109 rfl (lv_at hl 0 rfl) ?_
        refine lv_iload hx hb dX4_readNumber_110 (lv_at hl 5 rfl) ?_
        refine r_puti X hW hS (gq g29 al_0) fp_4_88 rfl rfl dX4_readNumber_112 (fun H locs hW hS => ?_)
        obtain ⟨h32, e33, hF⟩ := nmx hF
        have hW := nmW e33 hW
        have g34 : h32.2.2 = h.2.2 := by rw [e33]; exact g29
        refine lv_iconst (v := 1) hx hb dX4_readNumber_115 (by decide) ?_
        obtain ⟨rfl, rfl⟩ := sj2 hF
        exact hfin _ _ _ _ (wdW g34 hW) hS (Or.inr rfl) dX4_readNumber_116
      · have hF := it c45 hF
        refine lv_aload_n hx hb dX4_readNumber_102 rfl (lv_at hl 0 rfl) ?_
        refine lv_iload hx hb dX4_readNumber_103 (lv_at hl 4 rfl) ?_
        obtain ⟨q40, e35, hF⟩ := bn hF
        obtain ⟨x41, d39⟩ := q40
        have hF := u2d hF
        refine rc_i (Af := fun φ => [.ref (φ 4 i0), .int x1]) X hW hS ⟨Nat.zero_le _, Nat.zero_le _⟩ (rn_V (As := [.int x1]) (rest := []) X hW hS cw_4_80 (gq g29 al_0) rfl rfl rfl ⟨Nat.le_of_ble_eq_true rfl, Nat.le_of_ble_eq_true rfl⟩ rfl hl.1 rfl (Nat.le_of_ble_eq_true rfl) dX4_readNumber_105) (ok_X4_failAt i0 x1 (gq g29 al_0) e35) (fun H locs hW hS => ?_)
        obtain ⟨h36, e38, hF⟩ := nmx hF
        have hW := nmW e38 hW
        have g37 : h36.2.2 = h.2.2 := by rw [e38]; exact g29
        obtain ⟨x42, e43, hF⟩ := bn hF
        obtain ⟨b44, e43⟩ := bz_s e43
        refine nmi e43 ?_
        rw [← e43] at b44
        obtain ⟨rfl, rfl⟩ := sj2 hF
        exact hfin _ _ _ _ (wdW g37 hW) hS b44 dX4_readNumber_108
    · have hF := ie c56 hF
      refine lv_aload_n hx hb dX4_readNumber_82 rfl (lv_at hl 0 rfl) ?_
      refine lv_aload_n hx hb dX4_readNumber_83 rfl (lv_at hl 0 rfl) ?_
      refine r_geti X hW (gq g29 al_0) fl_4_62 dX4_readNumber_84 ?_
      obtain ⟨q51, e46, hF⟩ := bn hF
      obtain ⟨x52, d50⟩ := q51
      have hF := u2d hF
      refine rc_i (Af := fun φ => [.ref (φ 4 i0), .int (gi h28 4 i0 9)]) X hW hS ⟨Nat.zero_le _, Nat.zero_le _⟩ (rn_V (As := [.int (gi h28 4 i0 9)]) (rest := []) X hW hS cw_4_80 (gq g29 al_0) rfl rfl rfl ⟨Nat.le_of_ble_eq_true rfl, Nat.le_of_ble_eq_true rfl⟩ rfl hl.1 rfl (Nat.le_of_ble_eq_true rfl) dX4_readNumber_87) (ok_X4_failAt i0 (gi h28 4 i0 9) (gq g29 al_0) e46) (fun H locs hW hS => ?_)
      obtain ⟨h47, e49, hF⟩ := nmx hF
      have hW := nmW e49 hW
      have g48 : h47.2.2 = h.2.2 := by rw [e49]; exact g29
      obtain ⟨x53, e54, hF⟩ := bn hF
      obtain ⟨b55, e54⟩ := bz_s e54
      refine nmi e54 ?_
      rw [← e54] at b55
      obtain ⟨rfl, rfl⟩ := sj2 hF
      exact hfin _ _ _ _ (wdW g48 hW) hS b55 dX4_readNumber_90
def F_X4_addPart (i0 : Nat) (a1 : Int32) (a2 : Int32) (a3 : Int32) (a4 : Int32) (h : HP) : Option (DP) :=
  (gr h 4 i0 3).bind fun o1 =>
  (sa h 30 o1 26 (gi h 4 i0 7) a1).bind fun h4 =>
  (gr h4 4 i0 4).bind fun o8 =>
  (sa h4 31 o8 26 (gi h4 4 i0 7) a2).bind fun h11 =>
  (gr h11 4 i0 5).bind fun o15 =>
  (sa h11 32 o15 26 (gi h11 4 i0 7) a3).bind fun h18 =>
  (gr h18 4 i0 6).bind fun o22 =>
  (sa h18 33 o22 26 (gi h18 4 i0 7) a4).bind fun h25 =>
  nm (si h25 4 i0 7 ((gi h25 4 i0 7) + 1)) fun h29 =>
  some (dp h29)
set_option maxHeartbeats 4000000 in
set_option maxRecDepth 100000 in
theorem ok_X4_addPart {l : Launch} {D : va_G} {cA : Nat → ClassId} {h : HP}  {d : DP} (i0 : Nat) (a1 : Int32) (a2 : Int32) (a3 : Int32) (a4 : Int32) (al_0 : i0 < gn h 4) (hF : F_X4_addPart i0 a1 a2 a3 a4 h = some d) : MV l D cA yX4_addPart cX4_addPart 5 none 0 0 (fun φ => [.ref (φ 4 i0), .int a1, .int a2, .int a3, .int a4]) h (wd h d) := by
  refine mk_V (plainFor_of_name (by decide)) (fun φ => Nat.le_of_ble_eq_true rfl) ?_
  intro p e s m args below meth c ls φ A Q X hW hS hl hfin
  have hx := X.1
  have hb := X.2.1
  have hl : lv_has ls 5 [(0, .ref (φ 4 i0)), (1, .int a1), (2, .int a2), (3, .int a3), (4, .int a4)] := hl
  unfold F_X4_addPart at hF
  refine lv_aload_n hx hb dX4_addPart_0 rfl (lv_at hl 0 rfl) ?_
  obtain ⟨o1, e2, hF⟩ := bn hF
  refine r_getr X hW al_0 fl_4_19 e2 dX4_addPart_1 (fun al3 => ?_)
  refine lv_aload_n hx hb dX4_addPart_4 rfl (lv_at hl 0 rfl) ?_
  refine r_geti X hW al_0 fl_4_47 dX4_addPart_5 ?_
  refine lv_iload_n hx hb dX4_addPart_8 rfl (lv_at hl 1 rfl) ?_
  obtain ⟨h4, e5, hF⟩ := bn hF
  obtain ⟨b6, e5⟩ := sa_s e5
  refine r_iast X hW hS al3 rfl b6 dX4_addPart_9 (fun H locs hW hS => ?_)
  have hW := nmW e5 hW
  have g7 : h4.2.2 = h.2.2 := by rw [e5]; exact rfl
  refine lv_aload_n hx hb dX4_addPart_10 rfl (lv_at hl 0 rfl) ?_
  obtain ⟨o8, e9, hF⟩ := bn hF
  refine r_getr X hW (gq g7 al_0) fl_4_23 e9 dX4_addPart_11 (fun al10 => ?_)
  have al10 := qg g7 al10
  refine lv_aload_n hx hb dX4_addPart_14 rfl (lv_at hl 0 rfl) ?_
  refine r_geti X hW (gq g7 al_0) fl_4_47 dX4_addPart_15 ?_
  refine lv_iload_n hx hb dX4_addPart_18 rfl (lv_at hl 2 rfl) ?_
  obtain ⟨h11, e12, hF⟩ := bn hF
  obtain ⟨b13, e12⟩ := sa_s e12
  refine r_iast X hW hS (gq g7 al10) rfl b13 dX4_addPart_19 (fun H locs hW hS => ?_)
  have hW := nmW e12 hW
  have g14 : h11.2.2 = h.2.2 := by rw [e12]; exact g7
  refine lv_aload_n hx hb dX4_addPart_20 rfl (lv_at hl 0 rfl) ?_
  obtain ⟨o15, e16, hF⟩ := bn hF
  refine r_getr X hW (gq g14 al_0) fl_4_26 e16 dX4_addPart_21 (fun al17 => ?_)
  have al17 := qg g14 al17
  refine lv_aload_n hx hb dX4_addPart_24 rfl (lv_at hl 0 rfl) ?_
  refine r_geti X hW (gq g14 al_0) fl_4_47 dX4_addPart_25 ?_
  refine lv_iload_n hx hb dX4_addPart_28 rfl (lv_at hl 3 rfl) ?_
  obtain ⟨h18, e19, hF⟩ := bn hF
  obtain ⟨b20, e19⟩ := sa_s e19
  refine r_iast X hW hS (gq g14 al17) rfl b20 dX4_addPart_29 (fun H locs hW hS => ?_)
  have hW := nmW e19 hW
  have g21 : h18.2.2 = h.2.2 := by rw [e19]; exact g14
  refine lv_aload_n hx hb dX4_addPart_30 rfl (lv_at hl 0 rfl) ?_
  obtain ⟨o22, e23, hF⟩ := bn hF
  refine r_getr X hW (gq g21 al_0) fl_4_29 e23 dX4_addPart_31 (fun al24 => ?_)
  have al24 := qg g21 al24
  refine lv_aload_n hx hb dX4_addPart_34 rfl (lv_at hl 0 rfl) ?_
  refine r_geti X hW (gq g21 al_0) fl_4_47 dX4_addPart_35 ?_
  refine lv_iload hx hb dX4_addPart_38 (lv_at hl 4 rfl) ?_
  obtain ⟨h25, e26, hF⟩ := bn hF
  obtain ⟨b27, e26⟩ := sa_s e26
  refine r_iast X hW hS (gq g21 al24) rfl b27 dX4_addPart_40 (fun H locs hW hS => ?_)
  have hW := nmW e26 hW
  have g28 : h25.2.2 = h.2.2 := by rw [e26]; exact g21
  refine lv_aload_n hx hb dX4_addPart_41 rfl (lv_at hl 0 rfl) ?_
  refine lv_dup hx hb dX4_addPart_42 rfl ?_
  refine r_geti X hW (gq g28 al_0) fl_4_47 dX4_addPart_43 ?_
  refine lv_iconst (v := 1) hx hb dX4_addPart_46 (by decide) ?_
  refine lv_iadd hx hb dX4_addPart_47 ?_
  refine r_puti X hW hS (gq g28 al_0) fp_4_47 rfl rfl dX4_addPart_48 (fun H locs hW hS => ?_)
  obtain ⟨h29, e30, hF⟩ := nmx hF
  have hW := nmW e30 hW
  have g31 : h29.2.2 = h.2.2 := by rw [e30]; exact g28
  obtain rfl := sj hF
  exact hfin _ _ _ _ (wdW g31 hW) hS dX4_addPart_51
def J_X4_readPart_181 (i0 : Nat) (v1_181 : Int32) (v2_181 : Int32) (v4_181 : Int32) (v5_181 : Int32) (hj181 : HP) : Option (Int32 × DP) :=
  (F_X4_addPart i0 v1_181 v2_181 v4_181 v5_181 hj181).bind fun d5 => nm (wd hj181 d5) fun h2 =>
  some (1, dp h2)
def J_X4_readPart_121 (i0 : Nat) (v1_121 : Int32) (v2_121 : Int32) (t0_121 : Int32) (hj121 : HP) : Option (Int32 × DP) :=
  (if t0_121 = 0 then
  some (0, dp hj121)
  else
  nm ((gi hj121 4 i0 10)) fun x6 =>
  (F_X4_signAt i0 (gi hj121 4 i0 9) hj121).bind fun x9 =>
  (if x9 = 64 then
  nm (si hj121 4 i0 9 ((gi hj121 4 i0 9) + 1)) fun h10 =>
  (F_X4_readNumber i0 1 3 0 199 h10).bind fun q18 => u2 q18 fun x19 d17 => nm (wd h10 d17) fun h14 =>
  (if x19 = 0 then
  some (0, dp h14)
  else
  nm ((gi h14 4 i0 10)) fun x20 =>
  J_X4_readPart_181 i0 v1_121 v2_121 x6 x20 h14)
  else
  J_X4_readPart_181 i0 v1_121 v2_121 x6 0 hj121))
def J_X4_readPart_94 (i0 : Nat) (v1_94 : Int32) (v2_94 : Int32) (hj94 : HP) : Option (Int32 × DP) :=
  (if v1_94 = 3 then
  (F_X4_readNumber i0 1 1 0 9 hj94).bind fun q37 => u2 q37 fun x38 d36 => nm (wd hj94 d36) fun h33 =>
  J_X4_readPart_121 i0 v1_94 v2_94 x38 h33
  else
  (F_X4_readNumber i0 1 4 1 9999 hj94).bind fun q30 => u2 q30 fun x31 d29 => nm (wd hj94 d29) fun h26 =>
  J_X4_readPart_121 i0 v1_94 v2_94 x31 h26)
def J_X4_readPart_26 (i0 : Nat) (hj26 : HP) : Option (Int32 × DP) :=
  (F_X4_failAt i0 (gi hj26 4 i0 9) hj26).bind fun q45 => u2 q45 fun x46 d44 => nm (wd hj26 d44) fun h41 =>
  (bz x46).bind fun x47 => some (x47, dp h41)
def F_X4_readPart (i0 : Nat) (h : HP) : Option (Int32 × DP) :=
  (F_X4_signAt i0 (gi h 4 i0 9) h).bind fun x51 =>
  (F_X4_kindOf x51).bind fun x53 =>
  (if x53 = (-1) then
  J_X4_readPart_26 i0 h
  else
  (if (gi h 4 i0 7) < 26 then
  nm (si h 4 i0 9 ((gi h 4 i0 9) + 1)) fun h54 =>
  (F_X4_readSign i0 61 h54).bind fun q62 => u2 q62 fun x63 d61 => nm (wd h54 d61) fun h58 =>
  (if x63 = 0 then
  some (0, dp h58)
  else
  (if x53 = 3 then
  J_X4_readPart_94 i0 x53 0 h58
  else
  (F_X4_readNumber i0 4 4 1000 1939 h58).bind fun q69 => u2 q69 fun x70 d68 => nm (wd h58 d68) fun h65 =>
  (if x70 = 0 then
  some (0, dp h65)
  else
  (F_X4_readSign i0 44 h65).bind fun q76 => u2 q76 fun x77 d75 => nm (wd h65 d75) fun h72 =>
  (if x77 = 0 then
  some (0, dp h72)
  else
  nm ((gi h72 4 i0 10)) fun x78 =>
  J_X4_readPart_94 i0 x53 x78 h72))))
  else
  J_X4_readPart_26 i0 h))
set_option maxHeartbeats 4000000 in
set_option maxRecDepth 100000 in
theorem ok_X4_readPart {l : Launch} {D : va_G} {cA : Nat → ClassId} {h : HP} {r : Int32} {d : DP} (i0 : Nat) (al_0 : i0 < gn h 4) (hF : F_X4_readPart i0 h = some (r, d)) : MI l D cA yX4_readPart cX4_readPart 6 (some .boolean) 3 70 (fun φ => [.ref (φ 4 i0)]) h r (wd h d) := by
  refine mk_Z (plainFor_of_name (by decide)) (fun φ => Nat.le_of_ble_eq_true rfl) ?_
  intro p e s m args below meth c ls φ A Q X hW hS hl hfin
  have hx := X.1
  have hb := X.2.1
  have hl : lv_has ls 6 [(0, .ref (φ 4 i0))] := hl
  unfold F_X4_readPart at hF
  have j_181 : ∀ (v1_181 : Int32) (v2_181 : Int32) (v4_181 : Int32) (v5_181 : Int32) (hj181 : HP) (H : Heap) (locs : List Loc) (ls : Array Slot), hj181.2.2 = h.2.2 → J_X4_readPart_181 i0 v1_181 v2_181 v4_181 v5_181 hj181 = some (r, d) → HW D cA A φ hj181 H → va_S A s.heap H locs → lv_has ls 6 [(0, .ref (φ 4 i0)), (1, .int v1_181), (2, .int v2_181), (4, .int v4_181), (5, .int v5_181)] → W p l e (rmo 3 70 0 0) s m args below meth c H locs 0 0 Q (F0 m 181 ls []) := by
    intro v1_181 v2_181 v4_181 v5_181 hj181 H locs ls gj181 hF hW hS hl
    unfold J_X4_readPart_181 at hF
    refine lv_aload_n hx hb dX4_readPart_181 rfl (lv_at hl 0 rfl) ?_
    refine lv_iload_n hx hb dX4_readPart_182 rfl (lv_at hl 1 rfl) ?_
    refine lv_iload_n hx hb dX4_readPart_183 rfl (lv_at hl 2 rfl) ?_
    refine lv_iload hx hb dX4_readPart_184 (lv_at hl 3 rfl) ?_
    refine lv_iload hx hb dX4_readPart_186 (lv_at hl 4 rfl) ?_
    obtain ⟨d5, e1, hF⟩ := bn hF
    refine rc_v (Af := fun φ => [.ref (φ 4 i0), .int v1_181, .int v2_181, .int v4_181, .int v5_181]) X hW hS ⟨Nat.zero_le _, Nat.zero_le _⟩ (rn_V (As := [.int v1_181, .int v2_181, .int v4_181, .int v5_181]) (rest := []) X hW hS cw_4_91 (gq gj181 al_0) rfl rfl rfl ⟨Nat.le_of_ble_eq_true rfl, Nat.le_of_ble_eq_true rfl⟩ rfl hl.1 rfl (Nat.le_of_ble_eq_true rfl) dX4_readPart_188) (ok_X4_addPart i0 v1_181 v2_181 v4_181 v5_181 (gq gj181 al_0) e1) (fun H locs hW hS => ?_)
    obtain ⟨h2, e4, hF⟩ := nmx hF
    have hW := nmW e4 hW
    have g3 : h2.2.2 = h.2.2 := by rw [e4]; exact gj181
    refine lv_iconst (v := 1) hx hb dX4_readPart_191 (by decide) ?_
    obtain ⟨rfl, rfl⟩ := sj2 hF
    exact hfin _ _ _ _ (wdW g3 hW) hS (Or.inr rfl) dX4_readPart_192
  have j_121 : ∀ (v1_121 : Int32) (v2_121 : Int32) (t0_121 : Int32) (hj121 : HP) (H : Heap) (locs : List Loc) (ls : Array Slot), hj121.2.2 = h.2.2 → J_X4_readPart_121 i0 v1_121 v2_121 t0_121 hj121 = some (r, d) → HW D cA A φ hj121 H → va_S A s.heap H locs → lv_has ls 6 [(0, .ref (φ 4 i0)), (1, .int v1_121), (2, .int v2_121)] → W p l e (rmo 3 70 0 0) s m args below meth c H locs 0 0 Q (F0 m 121 ls [.int t0_121]) := by
    intro v1_121 v2_121 t0_121 hj121 H locs ls gj121 hF hW hS hl
    unfold J_X4_readPart_121 at hF
    refine lv_istore_n (lv' := [(3, .int t0_121), (0, .ref (φ 4 i0)), (1, .int v1_121), (2, .int v2_121)]) hx hb dX4_readPart_121 rfl hl (by decide) rfl (fun ls hl => ?_)
    refine lv_iload_n hx hb dX4_readPart_122 rfl (lv_at hl 0 rfl) ?_
    refine lv_if_ne (tgt := 128) hx hb dX4_readPart_123 (by decide) (fun c24 => ?_) (fun c24 => ?_)
    · have hF := ie c24 hF
      refine lv_aload_n hx hb dX4_readPart_128 rfl (lv_at hl 1 rfl) ?_
      refine r_geti X hW (gq gj121 al_0) fl_4_88 dX4_readPart_129 ?_
      obtain ⟨x6, e7, hF⟩ := nmx hF
      refine nmi e7 ?_
      refine lv_istore (lv' := [(4, .int x6), (3, .int t0_121), (0, .ref (φ 4 i0)), (1, .int v1_121), (2, .int v2_121)]) hx hb dX4_readPart_132 hl (by decide) rfl (fun ls hl => ?_)
      refine lv_iconst (v := 0) hx hb dX4_readPart_134 (by decide) ?_
      refine lv_istore (lv' := [(5, .int 0), (4, .int x6), (3, .int t0_121), (0, .ref (φ 4 i0)), (1, .int v1_121), (2, .int v2_121)]) hx hb dX4_readPart_135 hl (by decide) rfl (fun ls hl => ?_)
      refine lv_aload_n hx hb dX4_readPart_137 rfl (lv_at hl 3 rfl) ?_
      refine lv_aload_n hx hb dX4_readPart_138 rfl (lv_at hl 3 rfl) ?_
      refine r_geti X hW (gq gj121 al_0) fl_4_62 dX4_readPart_139 ?_
      obtain ⟨x9, e8, hF⟩ := bn hF
      refine rc_i (Af := fun φ => [.ref (φ 4 i0), .int (gi hj121 4 i0 9)]) X hW hS ⟨Nat.zero_le _, Nat.zero_le _⟩ (rn_V (As := [.int (gi hj121 4 i0 9)]) (rest := []) X hW hS cw_4_73 (gq gj121 al_0) rfl rfl rfl ⟨Nat.le_of_ble_eq_true rfl, Nat.le_of_ble_eq_true rfl⟩ rfl hl.1 rfl (Nat.le_of_ble_eq_true rfl) dX4_readPart_142) (ok_X4_signAt i0 (gi hj121 4 i0 9) (gq gj121 al_0) e8) (fun H locs hW hS => ?_)
      refine lv_bipush (v := 64) hx hb dX4_readPart_145 (by decide) ?_
      refine lv_icmp_ne (tgt := 181) hx hb dX4_readPart_147 (by decide) (fun c23 => ?_) (fun c23 => ?_)
      · have hF := ie c23 hF
        exact j_181 v1_121 v2_121 x6 0 hj121 _ _ _ gj121 hF hW hS (lv_sub hl [3, 4, 5, 1, 0] rfl)
      · have hF := it c23 hF
        refine lv_aload_n hx hb dX4_readPart_150 rfl (lv_at hl 3 rfl) ?_
        refine lv_dup hx hb dX4_readPart_151 rfl ?_
        refine r_geti X hW (gq gj121 al_0) fl_4_62 dX4_readPart_152 ?_
        refine lv_iconst (v := 1) hx hb dX4_readPart_155 (by decide) ?_
        refine lv_iadd hx hb dX4_readPart_156 ?_
        refine r_puti X hW hS (gq gj121 al_0) fp_4_62 rfl rfl dX4_readPart_157 (fun H locs hW hS => ?_)
        obtain ⟨h10, e11, hF⟩ := nmx hF
        have hW := nmW e11 hW
        have g12 : h10.2.2 = h.2.2 := by rw [e11]; exact gj121
        refine lv_aload_n hx hb dX4_readPart_160 rfl (lv_at hl 3 rfl) ?_
        refine lv_iconst (v := 1) hx hb dX4_readPart_161 (by decide) ?_
        refine lv_iconst (v := 3) hx hb dX4_readPart_162 (by decide) ?_
        refine lv_iconst (v := 0) hx hb dX4_readPart_163 (by decide) ?_
        refine lv_sipush (v := 199) hx hb dX4_readPart_164 (by decide) ?_
        obtain ⟨q18, e13, hF⟩ := bn hF
        obtain ⟨x19, d17⟩ := q18
        have hF := u2d hF
        refine rc_i (Af := fun φ => [.ref (φ 4 i0), .int 1, .int 3, .int 0, .int 199]) X hW hS ⟨Nat.zero_le _, Nat.zero_le _⟩ (rn_V (As := [.int 1, .int 3, .int 0, .int 199]) (rest := []) X hW hS cw_4_84 (gq g12 al_0) rfl rfl rfl ⟨Nat.le_of_ble_eq_true rfl, Nat.le_of_ble_eq_true rfl⟩ rfl hl.1 rfl (Nat.le_of_ble_eq_true rfl) dX4_readPart_167) (ok_X4_readNumber i0 1 3 0 199 (gq g12 al_0) e13) (fun H locs hW hS => ?_)
        obtain ⟨h14, e16, hF⟩ := nmx hF
        have hW := nmW e16 hW
        have g15 : h14.2.2 = h.2.2 := by rw [e16]; exact g12
        refine lv_if_ne (tgt := 175) hx hb dX4_readPart_170 (by decide) (fun c22 => ?_) (fun c22 => ?_)
        · have hF := ie c22 hF
          refine lv_aload_n hx hb dX4_readPart_175 rfl (lv_at hl 3 rfl) ?_
          refine r_geti X hW (gq g15 al_0) fl_4_88 dX4_readPart_176 ?_
          obtain ⟨x20, e21, hF⟩ := nmx hF
          refine nmi e21 ?_
          refine lv_istore (lv' := [(5, .int x20), (4, .int x6), (3, .int t0_121), (0, .ref (φ 4 i0)), (1, .int v1_121), (2, .int v2_121)]) hx hb dX4_readPart_179 hl (by decide) rfl (fun ls hl => ?_)
          exact j_181 v1_121 v2_121 x6 x20 h14 _ _ _ g15 hF hW hS (lv_sub hl [3, 4, 5, 1, 0] rfl)
        · have hF := it c22 hF
          refine lv_iconst (v := 0) hx hb dX4_readPart_173 (by decide) ?_
          obtain ⟨rfl, rfl⟩ := sj2 hF
          exact hfin _ _ _ _ (wdW g15 hW) hS (Or.inl rfl) dX4_readPart_174
    · have hF := it c24 hF
      refine lv_iconst (v := 0) hx hb dX4_readPart_126 (by decide) ?_
      obtain ⟨rfl, rfl⟩ := sj2 hF
      exact hfin _ _ _ _ (wdW gj121 hW) hS (Or.inl rfl) dX4_readPart_127
  have j_94 : ∀ (v1_94 : Int32) (v2_94 : Int32) (hj94 : HP) (H : Heap) (locs : List Loc) (ls : Array Slot), hj94.2.2 = h.2.2 → J_X4_readPart_94 i0 v1_94 v2_94 hj94 = some (r, d) → HW D cA A φ hj94 H → va_S A s.heap H locs → lv_has ls 6 [(0, .ref (φ 4 i0)), (1, .int v1_94), (2, .int v2_94)] → W p l e (rmo 3 70 0 0) s m args below meth c H locs 0 0 Q (F0 m 94 ls []) := by
    intro v1_94 v2_94 hj94 H locs ls gj94 hF hW hS hl
    unfold J_X4_readPart_94 at hF
    refine lv_iload_n hx hb dX4_readPart_94 rfl (lv_at hl 1 rfl) ?_
    refine lv_iconst (v := 3) hx hb dX4_readPart_95 (by decide) ?_
    refine lv_icmp_ne (tgt := 111) hx hb dX4_readPart_96 (by decide) (fun c39 => ?_) (fun c39 => ?_)
    · have hF := ie c39 hF
      refine lv_aload_n hx hb dX4_readPart_111 rfl (lv_at hl 0 rfl) ?_
      refine lv_iconst (v := 1) hx hb dX4_readPart_112 (by decide) ?_
      refine lv_iconst (v := 4) hx hb dX4_readPart_113 (by decide) ?_
      refine lv_iconst (v := 1) hx hb dX4_readPart_114 (by decide) ?_
      refine lv_sipush (v := 9999) hx hb dX4_readPart_115 (by decide) ?_
      obtain ⟨q30, e25, hF⟩ := bn hF
      obtain ⟨x31, d29⟩ := q30
      have hF := u2d hF
      refine rc_i (Af := fun φ => [.ref (φ 4 i0), .int 1, .int 4, .int 1, .int 9999]) X hW hS ⟨Nat.zero_le _, Nat.zero_le _⟩ (rn_V (As := [.int 1, .int 4, .int 1, .int 9999]) (rest := []) X hW hS cw_4_84 (gq gj94 al_0) rfl rfl rfl ⟨Nat.le_of_ble_eq_true rfl, Nat.le_of_ble_eq_true rfl⟩ rfl hl.1 rfl (Nat.le_of_ble_eq_true rfl) dX4_readPart_118) (ok_X4_readNumber i0 1 4 1 9999 (gq gj94 al_0) e25) (fun H locs hW hS => ?_)
      obtain ⟨h26, e28, hF⟩ := nmx hF
      have hW := nmW e28 hW
      have g27 : h26.2.2 = h.2.2 := by rw [e28]; exact gj94
      exact j_121 v1_94 v2_94 x31 h26 _ _ _ g27 hF hW hS (lv_sub hl [0, 1, 2] rfl)
    · have hF := it c39 hF
      refine lv_aload_n hx hb dX4_readPart_99 rfl (lv_at hl 0 rfl) ?_
      refine lv_iconst (v := 1) hx hb dX4_readPart_100 (by decide) ?_
      refine lv_iconst (v := 1) hx hb dX4_readPart_101 (by decide) ?_
      refine lv_iconst (v := 0) hx hb dX4_readPart_102 (by decide) ?_
      refine lv_bipush (v := 9) hx hb dX4_readPart_103 (by decide) ?_
      obtain ⟨q37, e32, hF⟩ := bn hF
      obtain ⟨x38, d36⟩ := q37
      have hF := u2d hF
      refine rc_i (Af := fun φ => [.ref (φ 4 i0), .int 1, .int 1, .int 0, .int 9]) X hW hS ⟨Nat.zero_le _, Nat.zero_le _⟩ (rn_V (As := [.int 1, .int 1, .int 0, .int 9]) (rest := []) X hW hS cw_4_84 (gq gj94 al_0) rfl rfl rfl ⟨Nat.le_of_ble_eq_true rfl, Nat.le_of_ble_eq_true rfl⟩ rfl hl.1 rfl (Nat.le_of_ble_eq_true rfl) dX4_readPart_105) (ok_X4_readNumber i0 1 1 0 9 (gq gj94 al_0) e32) (fun H locs hW hS => ?_)
      obtain ⟨h33, e35, hF⟩ := nmx hF
      have hW := nmW e35 hW
      have g34 : h33.2.2 = h.2.2 := by rw [e35]; exact gj94
      refine lv_goto (tgt := 121) hx hb dX4_readPart_108 (by decide) ?_
      exact j_121 v1_94 v2_94 x38 h33 _ _ _ g34 hF hW hS (lv_sub hl [0, 1, 2] rfl)
  have j_26 : ∀ (hj26 : HP) (H : Heap) (locs : List Loc) (ls : Array Slot), hj26.2.2 = h.2.2 → J_X4_readPart_26 i0 hj26 = some (r, d) → HW D cA A φ hj26 H → va_S A s.heap H locs → lv_has ls 6 [(0, .ref (φ 4 i0))] → W p l e (rmo 3 70 0 0) s m args below meth c H locs 0 0 Q (F0 m 26 ls []) := by
    intro hj26 H locs ls gj26 hF hW hS hl
    unfold J_X4_readPart_26 at hF
    refine lv_aload_n hx hb dX4_readPart_26 rfl (lv_at hl 0 rfl) ?_
    refine lv_aload_n hx hb dX4_readPart_27 rfl (lv_at hl 0 rfl) ?_
    refine r_geti X hW (gq gj26 al_0) fl_4_62 dX4_readPart_28 ?_
    obtain ⟨q45, e40, hF⟩ := bn hF
    obtain ⟨x46, d44⟩ := q45
    have hF := u2d hF
    refine rc_i (Af := fun φ => [.ref (φ 4 i0), .int (gi hj26 4 i0 9)]) X hW hS ⟨Nat.zero_le _, Nat.zero_le _⟩ (rn_V (As := [.int (gi hj26 4 i0 9)]) (rest := []) X hW hS cw_4_80 (gq gj26 al_0) rfl rfl rfl ⟨Nat.le_of_ble_eq_true rfl, Nat.le_of_ble_eq_true rfl⟩ rfl hl.1 rfl (Nat.le_of_ble_eq_true rfl) dX4_readPart_31) (ok_X4_failAt i0 (gi hj26 4 i0 9) (gq gj26 al_0) e40) (fun H locs hW hS => ?_)
    obtain ⟨h41, e43, hF⟩ := nmx hF
    have hW := nmW e43 hW
    have g42 : h41.2.2 = h.2.2 := by rw [e43]; exact gj26
    obtain ⟨x47, e48, hF⟩ := bn hF
    obtain ⟨b49, e48⟩ := bz_s e48
    refine nmi e48 ?_
    rw [← e48] at b49
    obtain ⟨rfl, rfl⟩ := sj2 hF
    exact hfin _ _ _ _ (wdW g42 hW) hS b49 dX4_readPart_34
  refine lv_aload_n hx hb dX4_readPart_0 rfl (lv_at hl 0 rfl) ?_
  refine lv_aload_n hx hb dX4_readPart_1 rfl (lv_at hl 0 rfl) ?_
  refine r_geti X hW al_0 fl_4_62 dX4_readPart_2 ?_
  obtain ⟨x51, e50, hF⟩ := bn hF
  refine rc_i (Af := fun φ => [.ref (φ 4 i0), .int (gi h 4 i0 9)]) X hW hS ⟨Nat.zero_le _, Nat.zero_le _⟩ (rn_V (As := [.int (gi h 4 i0 9)]) (rest := []) X hW hS cw_4_73 al_0 rfl rfl rfl ⟨Nat.le_of_ble_eq_true rfl, Nat.le_of_ble_eq_true rfl⟩ rfl hl.1 rfl (Nat.le_of_ble_eq_true rfl) dX4_readPart_5) (ok_X4_signAt i0 (gi h 4 i0 9) al_0 e50) (fun H locs hW hS => ?_)
  obtain ⟨x53, e52, hF⟩ := bn hF
  refine rc_i (Af := fun φ => [.int x51]) X hW hS ⟨Nat.zero_le _, Nat.zero_le _⟩ (rn_S (As := [.int x51]) (rest := []) X hW hS cw_4_77 ⟨Nat.le_of_ble_eq_true rfl, Nat.le_of_ble_eq_true rfl⟩ rfl hl.1 rfl (Nat.le_of_ble_eq_true rfl) dX4_readPart_8) (ok_X4_kindOf x51 e52) (fun H locs hW hS => ?_)
  refine lv_istore_n (lv' := [(1, .int x53), (0, .ref (φ 4 i0))]) hx hb dX4_readPart_11 rfl hl (by decide) rfl (fun ls hl => ?_)
  refine lv_iload_n hx hb dX4_readPart_12 rfl (lv_at hl 0 rfl) ?_
  refine lv_iconst (v := (-1)) hx hb dX4_readPart_13 (by decide) ?_
  refine lv_icmp_eq (tgt := 26) hx hb dX4_readPart_14 (by decide) (fun c85 => ?_) (fun c85 => ?_)
  · have hF := it c85 hF
    exact j_26 h _ _ _ rfl hF hW hS (lv_sub hl [1] rfl)
  · have hF := ie c85 hF
    refine lv_aload_n hx hb dX4_readPart_17 rfl (lv_at hl 1 rfl) ?_
    refine r_geti X hW al_0 fl_4_47 dX4_readPart_18 ?_
    refine lv_bipush (v := 26) hx hb dX4_readPart_21 (by decide) ?_
    refine lv_icmp_lt (tgt := 35) hx hb dX4_readPart_23 (by decide) (fun c84 => ?_) (fun c84 => ?_)
    · have hF := it c84 hF
      refine lv_aload_n hx hb dX4_readPart_35 rfl (lv_at hl 1 rfl) ?_
      refine lv_dup hx hb dX4_readPart_36 rfl ?_
      refine r_geti X hW al_0 fl_4_62 dX4_readPart_37 ?_
      refine lv_iconst (v := 1) hx hb dX4_readPart_40 (by decide) ?_
      refine lv_iadd hx hb dX4_readPart_41 ?_
      refine r_puti X hW hS al_0 fp_4_62 rfl rfl dX4_readPart_42 (fun H locs hW hS => ?_)
      obtain ⟨h54, e55, hF⟩ := nmx hF
      have hW := nmW e55 hW
      have g56 : h54.2.2 = h.2.2 := by rw [e55]; exact rfl
      refine lv_aload_n hx hb dX4_readPart_45 rfl (lv_at hl 1 rfl) ?_
      refine lv_bipush (v := 61) hx hb dX4_readPart_46 (by decide) ?_
      obtain ⟨q62, e57, hF⟩ := bn hF
      obtain ⟨x63, d61⟩ := q62
      have hF := u2d hF
      refine rc_i (Af := fun φ => [.ref (φ 4 i0), .int 61]) X hW hS ⟨Nat.zero_le _, Nat.zero_le _⟩ (rn_V (As := [.int 61]) (rest := []) X hW hS cw_4_69 (gq g56 al_0) rfl rfl rfl ⟨Nat.le_of_ble_eq_true rfl, Nat.le_of_ble_eq_true rfl⟩ rfl hl.1 rfl (Nat.le_of_ble_eq_true rfl) dX4_readPart_48) (ok_X4_readSign i0 61 (gq g56 al_0) e57) (fun H locs hW hS => ?_)
      obtain ⟨h58, e60, hF⟩ := nmx hF
      have hW := nmW e60 hW
      have g59 : h58.2.2 = h.2.2 := by rw [e60]; exact g56
      refine lv_if_ne (tgt := 56) hx hb dX4_readPart_51 (by decide) (fun c83 => ?_) (fun c83 => ?_)
      · have hF := ie c83 hF
        refine lv_iconst (v := 0) hx hb dX4_readPart_56 (by decide) ?_
        refine lv_istore_n (lv' := [(2, .int 0), (1, .int x53), (0, .ref (φ 4 i0))]) hx hb dX4_readPart_57 rfl hl (by decide) rfl (fun ls hl => ?_)
        refine lv_iload_n hx hb dX4_readPart_58 rfl (lv_at hl 1 rfl) ?_
        refine lv_iconst (v := 3) hx hb dX4_readPart_59 (by decide) ?_
        refine lv_icmp_eq (tgt := 94) hx hb dX4_readPart_60 (by decide) (fun c82 => ?_) (fun c82 => ?_)
        · have hF := it c82 hF
          exact j_94 x53 0 h58 _ _ _ g59 hF hW hS (lv_sub hl [2, 1, 0] rfl)
        · have hF := ie c82 hF
          refine lv_aload_n hx hb dX4_readPart_63 rfl (lv_at hl 2 rfl) ?_
          refine lv_iconst (v := 4) hx hb dX4_readPart_64 (by decide) ?_
          refine lv_iconst (v := 4) hx hb dX4_readPart_65 (by decide) ?_
          refine lv_sipush (v := 1000) hx hb dX4_readPart_66 (by decide) ?_
          refine lv_sipush (v := 1939) hx hb dX4_readPart_69 (by decide) ?_
          obtain ⟨q69, e64, hF⟩ := bn hF
          obtain ⟨x70, d68⟩ := q69
          have hF := u2d hF
          refine rc_i (Af := fun φ => [.ref (φ 4 i0), .int 4, .int 4, .int 1000, .int 1939]) X hW hS ⟨Nat.zero_le _, Nat.zero_le _⟩ (rn_V (As := [.int 4, .int 4, .int 1000, .int 1939]) (rest := []) X hW hS cw_4_84 (gq g59 al_0) rfl rfl rfl ⟨Nat.le_of_ble_eq_true rfl, Nat.le_of_ble_eq_true rfl⟩ rfl hl.1 rfl (Nat.le_of_ble_eq_true rfl) dX4_readPart_72) (ok_X4_readNumber i0 4 4 1000 1939 (gq g59 al_0) e64) (fun H locs hW hS => ?_)
          obtain ⟨h65, e67, hF⟩ := nmx hF
          have hW := nmW e67 hW
          have g66 : h65.2.2 = h.2.2 := by rw [e67]; exact g59
          refine lv_if_eq (tgt := 87) hx hb dX4_readPart_75 (by decide) (fun c81 => ?_) (fun c81 => ?_)
          · have hF := it c81 hF
            refine lv_iconst (v := 0) hx hb dX4_readPart_87 (by decide) ?_
            obtain ⟨rfl, rfl⟩ := sj2 hF
            exact hfin _ _ _ _ (wdW g66 hW) hS (Or.inl rfl) dX4_readPart_88
          · have hF := ie c81 hF
            refine lv_aload_n hx hb dX4_readPart_78 rfl (lv_at hl 2 rfl) ?_
            refine lv_bipush (v := 44) hx hb dX4_readPart_79 (by decide) ?_
            obtain ⟨q76, e71, hF⟩ := bn hF
            obtain ⟨x77, d75⟩ := q76
            have hF := u2d hF
            refine rc_i (Af := fun φ => [.ref (φ 4 i0), .int 44]) X hW hS ⟨Nat.zero_le _, Nat.zero_le _⟩ (rn_V (As := [.int 44]) (rest := []) X hW hS cw_4_69 (gq g66 al_0) rfl rfl rfl ⟨Nat.le_of_ble_eq_true rfl, Nat.le_of_ble_eq_true rfl⟩ rfl hl.1 rfl (Nat.le_of_ble_eq_true rfl) dX4_readPart_81) (ok_X4_readSign i0 44 (gq g66 al_0) e71) (fun H locs hW hS => ?_)
            obtain ⟨h72, e74, hF⟩ := nmx hF
            have hW := nmW e74 hW
            have g73 : h72.2.2 = h.2.2 := by rw [e74]; exact g66
            refine lv_if_ne (tgt := 89) hx hb dX4_readPart_84 (by decide) (fun c80 => ?_) (fun c80 => ?_)
            · have hF := ie c80 hF
              refine lv_aload_n hx hb dX4_readPart_89 rfl (lv_at hl 2 rfl) ?_
              refine r_geti X hW (gq g73 al_0) fl_4_88 dX4_readPart_90 ?_
              obtain ⟨x78, e79, hF⟩ := nmx hF
              refine nmi e79 ?_
              refine lv_istore_n (lv' := [(2, .int x78), (1, .int x53), (0, .ref (φ 4 i0))]) hx hb dX4_readPart_93 rfl hl (by decide) rfl (fun ls hl => ?_)
              exact j_94 x53 x78 h72 _ _ _ g73 hF hW hS (lv_sub hl [2, 1, 0] rfl)
            · have hF := it c80 hF
              refine lv_iconst (v := 0) hx hb dX4_readPart_87 (by decide) ?_
              obtain ⟨rfl, rfl⟩ := sj2 hF
              exact hfin _ _ _ _ (wdW g73 hW) hS (Or.inl rfl) dX4_readPart_88
      · have hF := it c83 hF
        refine lv_iconst (v := 0) hx hb dX4_readPart_54 (by decide) ?_
        obtain ⟨rfl, rfl⟩ := sj2 hF
        exact hfin _ _ _ _ (wdW g59 hW) hS (Or.inl rfl) dX4_readPart_55
    · have hF := ie c84 hF
      exact j_26 h _ _ _ rfl hF hW hS (lv_sub hl [1] rfl)
def B_X4_readAll_37 (i0 : Nat) (hj34 : HP) (q : Int32 × Int32 × DP) : Option ((Int32 × Int32 × DP) ⊕ ((Int32 × DP))) :=
  u3 q fun x1 x2 d5 =>
  nm (wd hj34 d5) fun h3 =>
  (if 100 ≤ x2 then
  some (.inr (x1, (dp h3)))
  else
  (if x1 = 0 then
  some (.inr (x1, (dp h3)))
  else
  (if (gi h3 4 i0 1) ≤ (gi h3 4 i0 9) then
  some (.inr (x1, (dp h3)))
  else
  (F_X4_readSign i0 59 h3).bind fun q11 => u2 q11 fun x12 d10 => nm (wd h3 d10) fun h7 =>
  (if x12 = 0 then
  nm (x2 + 1) fun x13 =>
  some (.inl (0, x13, (dp h7)))
  else
  (F_X4_readPart i0 h7).bind fun q20 => u2 q20 fun x21 d19 => nm (wd h7 d19) fun h16 =>
  (if x21 = 0 then
  nm (x2 + 1) fun x22 =>
  some (.inl (0, x22, (dp h16)))
  else
  nm (x2 + 1) fun x24 =>
  some (.inl (1, x24, (dp h16))))))))
def J_X4_readAll_34 (i0 : Nat) (t0_34 : Int32) (hj34 : HP) : Option (DP) :=
  (loopN LF (B_X4_readAll_37 i0 hj34) (t0_34, 0, (dp hj34))).bind fun q31 => u2 q31 fun x34 d35 =>
  nm (wd hj34 d35) fun h36 =>
  (if x34 = 0 then
  nm (si h36 4 i0 7 0) fun h38 =>
  some (dp h38)
  else
  some (dp h36))
def F_X4_readAll (i0 : Nat) (h : HP) : Option (DP) :=
  nm (si h 4 i0 9 0) fun h43 =>
  nm (si h43 4 i0 7 0) fun h46 =>
  nm (si h46 4 i0 2 (-1)) fun h49 =>
  (if (gi h49 4 i0 1) = 0 then
  J_X4_readAll_34 i0 1 h49
  else
  (F_X4_readPart i0 h49).bind fun q57 => u2 q57 fun x58 d56 => nm (wd h49 d56) fun h53 =>
  (if x58 = 0 then
  J_X4_readAll_34 i0 0 h53
  else
  J_X4_readAll_34 i0 1 h53))
set_option maxHeartbeats 4000000 in
set_option maxRecDepth 100000 in
theorem ok_X4_readAll {l : Launch} {D : va_G} {cA : Nat → ClassId} {h : HP}  {d : DP} (i0 : Nat) (al_0 : i0 < gn h 4) (hF : F_X4_readAll i0 h = some d) : MV l D cA yX4_readAll cX4_readAll 3 none 4 95 (fun φ => [.ref (φ 4 i0)]) h (wd h d) := by
  refine mk_V (plainFor_of_name (by decide)) (fun φ => Nat.le_of_ble_eq_true rfl) ?_
  intro p e s m args below meth c ls φ A Q X hW hS hl hfin
  have hx := X.1
  have hb := X.2.1
  have hl : lv_has ls 3 [(0, .ref (φ 4 i0))] := hl
  unfold F_X4_readAll at hF
  have j_34 : ∀ (t0_34 : Int32) (hj34 : HP) (H : Heap) (locs : List Loc) (ls : Array Slot), hj34.2.2 = h.2.2 → J_X4_readAll_34 i0 t0_34 hj34 = some d → HW D cA A φ hj34 H → va_S A s.heap H locs → lv_has ls 3 [(0, .ref (φ 4 i0))] → W p l e (rmo 4 95 0 0) s m args below meth c H locs 0 0 Q (F0 m 34 ls [.int t0_34]) := by
    intro t0_34 hj34 H locs ls gj34 hF hW hS hl
    unfold J_X4_readAll_34 at hF
    refine lv_istore_n (lv' := [(1, .int t0_34), (0, .ref (φ 4 i0))]) hx hb dX4_readAll_34 rfl hl (by decide) rfl (fun ls hl => ?_)
    refine lv_iconst (v := 0) hx hb dX4_readAll_35 (by decide) ?_
    refine lv_istore_n (lv' := [(2, .int 0), (1, .int t0_34), (0, .ref (φ 4 i0))]) hx hb dX4_readAll_36 rfl hl (by decide) rfl (fun ls hl => ?_)
    obtain ⟨q31, e32, hF⟩ := bn hF
    refine loop_w (f := B_X4_readAll_37 i0 hj34) (Z := fun q => ∀ (H : Heap) (locs : List Loc) (ls : Array Slot), HW D cA A φ (wd hj34 q.2.2) H → va_S A s.heap H locs → lv_has ls 3 [(0, .ref (φ 4 i0)), (1, .int (q.1)), (2, .int (q.2.1))] → W p l e (rmo 4 95 0 0) s m args below meth c H locs 0 0 Q (F0 m 37 ls [])) (K := fun q => ∀ (H : Heap) (locs : List Loc) (ls : Array Slot), HW D cA A φ (wd hj34 q.2) H → va_S A s.heap H locs → lv_has ls 3 [(0, .ref (φ 4 i0)), (1, .int (q.1))] → W p l e (rmo 4 95 0 0) s m args below meth c H locs 0 0 Q (F0 m 86 ls [])) ?_ LF _ q31 e32 ?_ _ _ _ (wdW rfl hW) hS (lv_sub hl [2, 1, 0] rfl)
    · intro q v hF hK H locs ls hW hS hl
      obtain ⟨x1, x2, d5⟩ := q
      unfold B_X4_readAll_37 at hF
      have hF := u3d hF
      obtain ⟨h3, e33, hF⟩ := nmx hF
      have hW := nmW e33 hW
      have g4 : h3.2.2 = h.2.2 := by rw [e33]; exact gj34
      have hl : lv_has ls 3 [(0, .ref (φ 4 i0)), (1, .int x1), (2, .int x2)] := hl
      refine lv_iload_n hx hb dX4_readAll_37 rfl (lv_at hl 2 rfl) ?_
      refine lv_bipush (v := 100) hx hb dX4_readAll_38 (by decide) ?_
      refine lv_icmp_ge (tgt := 86) hx hb dX4_readAll_40 (by decide) (fun c30 => ?_) (fun c30 => ?_)
      · have hF := it c30 hF
        obtain rfl := sj hF
        exact hK _ _ _ (wdW (sq g4 gj34) hW) hS (lv_sub hl [0, 1] rfl)
      · have hF := ie c30 hF
        refine lv_iload_n hx hb dX4_readAll_43 rfl (lv_at hl 1 rfl) ?_
        refine lv_if_eq (tgt := 86) hx hb dX4_readAll_44 (by decide) (fun c29 => ?_) (fun c29 => ?_)
        · have hF := it c29 hF
          obtain rfl := sj hF
          exact hK _ _ _ (wdW (sq g4 gj34) hW) hS (lv_sub hl [0, 1] rfl)
        · have hF := ie c29 hF
          refine lv_aload_n hx hb dX4_readAll_47 rfl (lv_at hl 0 rfl) ?_
          refine r_geti X hW (gq g4 al_0) fl_4_62 dX4_readAll_48 ?_
          refine lv_aload_n hx hb dX4_readAll_51 rfl (lv_at hl 0 rfl) ?_
          refine r_geti X hW (gq g4 al_0) fl_4_35 dX4_readAll_52 ?_
          refine lv_icmp_ge (tgt := 86) hx hb dX4_readAll_55 (by decide) (fun c28 => ?_) (fun c28 => ?_)
          · have hF := it c28 hF
            obtain rfl := sj hF
            exact hK _ _ _ (wdW (sq g4 gj34) hW) hS (lv_sub hl [0, 1] rfl)
          · have hF := ie c28 hF
            refine lv_aload_n hx hb dX4_readAll_58 rfl (lv_at hl 0 rfl) ?_
            refine lv_bipush (v := 59) hx hb dX4_readAll_59 (by decide) ?_
            obtain ⟨q11, e6, hF⟩ := bn hF
            obtain ⟨x12, d10⟩ := q11
            have hF := u2d hF
            refine rc_i (Af := fun φ => [.ref (φ 4 i0), .int 59]) X hW hS ⟨Nat.zero_le _, Nat.zero_le _⟩ (rn_V (As := [.int 59]) (rest := []) X hW hS cw_4_69 (gq g4 al_0) rfl rfl rfl ⟨Nat.le_of_ble_eq_true rfl, Nat.le_of_ble_eq_true rfl⟩ rfl hl.1 rfl (Nat.le_of_ble_eq_true rfl) dX4_readAll_61) (ok_X4_readSign i0 59 (gq g4 al_0) e6) (fun H locs hW hS => ?_)
            obtain ⟨h7, e9, hF⟩ := nmx hF
            have hW := nmW e9 hW
            have g8 : h7.2.2 = h.2.2 := by rw [e9]; exact g4
            refine lv_if_eq (tgt := 78) hx hb dX4_readAll_64 (by decide) (fun c27 => ?_) (fun c27 => ?_)
            · have hF := it c27 hF
              refine lv_iconst (v := 0) hx hb dX4_readAll_78 (by decide) ?_
              refine lv_istore_n (lv' := [(1, .int 0), (0, .ref (φ 4 i0)), (2, .int x2)]) hx hb dX4_readAll_79 rfl hl (by decide) rfl (fun ls hl => ?_)
              obtain ⟨x13, e14, hF⟩ := nmx hF
              refine lv_iinc (v := x13) (lv' := [(2, .int x13), (1, .int 0), (0, .ref (φ 4 i0))]) hx hb dX4_readAll_80 hl (k := 2) rfl (by rw [e14]; rfl) (by decide) rfl (fun ls hl => ?_)
              refine lv_goto (tgt := 37) hx hb dX4_readAll_83 (by decide) ?_
              obtain rfl := sj hF
              exact hK _ _ _ (wdW (sq g8 gj34) hW) hS (lv_sub hl [2, 1, 0] rfl)
            · have hF := ie c27 hF
              refine lv_aload_n hx hb dX4_readAll_67 rfl (lv_at hl 0 rfl) ?_
              obtain ⟨q20, e15, hF⟩ := bn hF
              obtain ⟨x21, d19⟩ := q20
              have hF := u2d hF
              refine rc_i (Af := fun φ => [.ref (φ 4 i0)]) X hW hS ⟨Nat.zero_le _, Nat.zero_le _⟩ (rn_V (As := []) (rest := []) X hW hS cw_4_65 (gq g8 al_0) rfl rfl rfl ⟨Nat.le_of_ble_eq_true rfl, Nat.le_of_ble_eq_true rfl⟩ rfl hl.1 rfl (Nat.le_of_ble_eq_true rfl) dX4_readAll_68) (ok_X4_readPart i0 (gq g8 al_0) e15) (fun H locs hW hS => ?_)
              obtain ⟨h16, e18, hF⟩ := nmx hF
              have hW := nmW e18 hW
              have g17 : h16.2.2 = h.2.2 := by rw [e18]; exact g8
              refine lv_if_eq (tgt := 78) hx hb dX4_readAll_71 (by decide) (fun c26 => ?_) (fun c26 => ?_)
              · have hF := it c26 hF
                refine lv_iconst (v := 0) hx hb dX4_readAll_78 (by decide) ?_
                refine lv_istore_n (lv' := [(1, .int 0), (0, .ref (φ 4 i0)), (2, .int x2)]) hx hb dX4_readAll_79 rfl hl (by decide) rfl (fun ls hl => ?_)
                obtain ⟨x22, e23, hF⟩ := nmx hF
                refine lv_iinc (v := x22) (lv' := [(2, .int x22), (1, .int 0), (0, .ref (φ 4 i0))]) hx hb dX4_readAll_80 hl (k := 2) rfl (by rw [e23]; rfl) (by decide) rfl (fun ls hl => ?_)
                refine lv_goto (tgt := 37) hx hb dX4_readAll_83 (by decide) ?_
                obtain rfl := sj hF
                exact hK _ _ _ (wdW (sq g17 gj34) hW) hS (lv_sub hl [2, 1, 0] rfl)
              · have hF := ie c26 hF
                refine lv_iconst (v := 1) hx hb dX4_readAll_74 (by decide) ?_
                refine lv_goto (tgt := 79) hx hb dX4_readAll_75 (by decide) ?_
                refine lv_istore_n (lv' := [(1, .int 1), (0, .ref (φ 4 i0)), (2, .int x2)]) hx hb dX4_readAll_79 rfl hl (by decide) rfl (fun ls hl => ?_)
                obtain ⟨x24, e25, hF⟩ := nmx hF
                refine lv_iinc (v := x24) (lv' := [(2, .int x24), (1, .int 1), (0, .ref (φ 4 i0))]) hx hb dX4_readAll_80 hl (k := 2) rfl (by rw [e25]; rfl) (by decide) rfl (fun ls hl => ?_)
                refine lv_goto (tgt := 37) hx hb dX4_readAll_83 (by decide) ?_
                obtain rfl := sj hF
                exact hK _ _ _ (wdW (sq g17 gj34) hW) hS (lv_sub hl [2, 1, 0] rfl)
    · intro H locs ls hW hS hl
      obtain ⟨x34, d35⟩ := q31
      have hF := u2d hF
      obtain ⟨h36, e42, hF⟩ := nmx hF
      have hW := nmW e42 hW
      have g37 : h36.2.2 = h.2.2 := by rw [e42]; exact gj34
      have hl : lv_has ls 3 [(0, .ref (φ 4 i0)), (1, .int x34)] := hl
      refine lv_iload_n hx hb dX4_readAll_86 rfl (lv_at hl 1 rfl) ?_
      refine lv_if_ne (tgt := 95) hx hb dX4_readAll_87 (by decide) (fun c41 => ?_) (fun c41 => ?_)
      · have hF := ie c41 hF
        obtain rfl := sj hF
        exact hfin _ _ _ _ (wdW g37 hW) hS dX4_readAll_95
      · have hF := it c41 hF
        refine lv_aload_n hx hb dX4_readAll_90 rfl (lv_at hl 0 rfl) ?_
        refine lv_iconst (v := 0) hx hb dX4_readAll_91 (by decide) ?_
        refine r_puti X hW hS (gq g37 al_0) fp_4_47 rfl rfl dX4_readAll_92 (fun H locs hW hS => ?_)
        obtain ⟨h38, e39, hF⟩ := nmx hF
        have hW := nmW e39 hW
        have g40 : h38.2.2 = h.2.2 := by rw [e39]; exact g37
        obtain rfl := sj hF
        exact hfin _ _ _ _ (wdW g40 hW) hS dX4_readAll_95
  refine lv_aload_n hx hb dX4_readAll_0 rfl (lv_at hl 0 rfl) ?_
  refine lv_iconst (v := 0) hx hb dX4_readAll_1 (by decide) ?_
  refine r_puti X hW hS al_0 fp_4_62 rfl rfl dX4_readAll_2 (fun H locs hW hS => ?_)
  obtain ⟨h43, e44, hF⟩ := nmx hF
  have hW := nmW e44 hW
  have g45 : h43.2.2 = h.2.2 := by rw [e44]; exact rfl
  refine lv_aload_n hx hb dX4_readAll_5 rfl (lv_at hl 0 rfl) ?_
  refine lv_iconst (v := 0) hx hb dX4_readAll_6 (by decide) ?_
  refine r_puti X hW hS (gq g45 al_0) fp_4_47 rfl rfl dX4_readAll_7 (fun H locs hW hS => ?_)
  obtain ⟨h46, e47, hF⟩ := nmx hF
  have hW := nmW e47 hW
  have g48 : h46.2.2 = h.2.2 := by rw [e47]; exact g45
  refine lv_aload_n hx hb dX4_readAll_10 rfl (lv_at hl 0 rfl) ?_
  refine lv_iconst (v := (-1)) hx hb dX4_readAll_11 (by decide) ?_
  refine r_puti X hW hS (gq g48 al_0) fp_4_15 rfl rfl dX4_readAll_12 (fun H locs hW hS => ?_)
  obtain ⟨h49, e50, hF⟩ := nmx hF
  have hW := nmW e50 hW
  have g51 : h49.2.2 = h.2.2 := by rw [e50]; exact g48
  refine lv_aload_n hx hb dX4_readAll_15 rfl (lv_at hl 0 rfl) ?_
  refine r_geti X hW (gq g51 al_0) fl_4_35 dX4_readAll_16 ?_
  refine lv_if_eq (tgt := 29) hx hb dX4_readAll_19 (by decide) (fun c60 => ?_) (fun c60 => ?_)
  · have hF := it c60 hF
    refine lv_iconst (v := 1) hx hb dX4_readAll_29 (by decide) ?_
    refine lv_goto (tgt := 34) hx hb dX4_readAll_30 (by decide) ?_
    exact j_34 1 h49 _ _ _ g51 hF hW hS (lv_sub hl [0] rfl)
  · have hF := ie c60 hF
    refine lv_aload_n hx hb dX4_readAll_22 rfl (lv_at hl 0 rfl) ?_
    obtain ⟨q57, e52, hF⟩ := bn hF
    obtain ⟨x58, d56⟩ := q57
    have hF := u2d hF
    refine rc_i (Af := fun φ => [.ref (φ 4 i0)]) X hW hS ⟨Nat.zero_le _, Nat.zero_le _⟩ (rn_V (As := []) (rest := []) X hW hS cw_4_65 (gq g51 al_0) rfl rfl rfl ⟨Nat.le_of_ble_eq_true rfl, Nat.le_of_ble_eq_true rfl⟩ rfl hl.1 rfl (Nat.le_of_ble_eq_true rfl) dX4_readAll_23) (ok_X4_readPart i0 (gq g51 al_0) e52) (fun H locs hW hS => ?_)
    obtain ⟨h53, e55, hF⟩ := nmx hF
    have hW := nmW e55 hW
    have g54 : h53.2.2 = h.2.2 := by rw [e55]; exact g51
    refine lv_if_eq (tgt := 33) hx hb dX4_readAll_26 (by decide) (fun c59 => ?_) (fun c59 => ?_)
    · have hF := it c59 hF
      refine lv_iconst (v := 0) hx hb dX4_readAll_33 (by decide) ?_
      exact j_34 0 h53 _ _ _ g54 hF hW hS (lv_sub hl [0] rfl)
    · have hF := ie c59 hF
      refine lv_iconst (v := 1) hx hb dX4_readAll_29 (by decide) ?_
      refine lv_goto (tgt := 34) hx hb dX4_readAll_30 (by decide) ?_
      exact j_34 1 h53 _ _ _ g54 hF hW hS (lv_sub hl [0] rfl)
def F_X4_append (i0 : Nat) (a1 : Int32) (h : HP) : Option (DP) :=
  (if 100 ≤ (gi h 4 i0 1) then
  some (dp h)
  else
  (gr h 4 i0 0).bind fun o1 =>
  (sa h 29 o1 100 (gi h 4 i0 1) (vp_nar .char (((a1).toUInt32 % 65536).toInt32))).bind fun h4 =>
  nm (si h4 4 i0 1 ((gi h4 4 i0 1) + 1)) fun h8 =>
  (F_X4_readAll i0 h8).bind fun d15 => nm (wd h8 d15) fun h12 =>
  some (dp h12))
set_option maxHeartbeats 4000000 in
set_option maxRecDepth 100000 in
theorem ok_X4_append {l : Launch} {D : va_G} {cA : Nat → ClassId} {h : HP}  {d : DP} (i0 : Nat) (a1 : Int32) (al_0 : i0 < gn h 4) (hF : F_X4_append i0 a1 h = some d) : MV l D cA yX4_append cX4_append 2 none 5 117 (fun φ => [.ref (φ 4 i0), .int a1]) h (wd h d) := by
  refine mk_V (plainFor_of_name (by decide)) (fun φ => Nat.le_of_ble_eq_true rfl) ?_
  intro p e s m args below meth c ls φ A Q X hW hS hl hfin
  have hx := X.1
  have hb := X.2.1
  have hl : lv_has ls 2 [(0, .ref (φ 4 i0)), (1, .int a1)] := hl
  unfold F_X4_append at hF
  refine lv_aload_n hx hb dX4_append_0 rfl (lv_at hl 0 rfl) ?_
  refine r_geti X hW al_0 fl_4_35 dX4_append_1 ?_
  refine lv_bipush (v := 100) hx hb dX4_append_4 (by decide) ?_
  refine lv_icmp_ge (tgt := 34) hx hb dX4_append_6 (by decide) (fun c16 => ?_) (fun c16 => ?_)
  · have hF := it c16 hF
    obtain rfl := sj hF
    exact hfin _ _ _ _ (wdW rfl hW) hS dX4_append_34
  · have hF := ie c16 hF
    refine lv_aload_n hx hb dX4_append_9 rfl (lv_at hl 0 rfl) ?_
    obtain ⟨o1, e2, hF⟩ := bn hF
    refine r_getr X hW al_0 fl_4_9 e2 dX4_append_10 (fun al3 => ?_)
    refine lv_aload_n hx hb dX4_append_13 rfl (lv_at hl 0 rfl) ?_
    refine r_geti X hW al_0 fl_4_35 dX4_append_14 ?_
    refine lv_iload_n hx hb dX4_append_17 rfl (lv_at hl 1 rfl) ?_
    refine lv_i2c (v := ((a1).toUInt32 % 65536).toInt32) hx hb dX4_append_18 rfl ?_
    obtain ⟨h4, e5, hF⟩ := bn hF
    obtain ⟨b6, e5⟩ := sa_s e5
    refine r_cast X hW hS al3 rfl b6 dX4_append_19 (fun H locs hW hS => ?_)
    have hW := nmW e5 hW
    have g7 : h4.2.2 = h.2.2 := by rw [e5]; exact rfl
    refine lv_aload_n hx hb dX4_append_20 rfl (lv_at hl 0 rfl) ?_
    refine lv_dup hx hb dX4_append_21 rfl ?_
    refine r_geti X hW (gq g7 al_0) fl_4_35 dX4_append_22 ?_
    refine lv_iconst (v := 1) hx hb dX4_append_25 (by decide) ?_
    refine lv_iadd hx hb dX4_append_26 ?_
    refine r_puti X hW hS (gq g7 al_0) fp_4_35 rfl rfl dX4_append_27 (fun H locs hW hS => ?_)
    obtain ⟨h8, e9, hF⟩ := nmx hF
    have hW := nmW e9 hW
    have g10 : h8.2.2 = h.2.2 := by rw [e9]; exact g7
    refine lv_aload_n hx hb dX4_append_30 rfl (lv_at hl 0 rfl) ?_
    obtain ⟨d15, e11, hF⟩ := bn hF
    refine rc_v (Af := fun φ => [.ref (φ 4 i0)]) X hW hS ⟨Nat.zero_le _, Nat.zero_le _⟩ (rn_V (As := []) (rest := []) X hW hS cw_4_38 (gq g10 al_0) rfl rfl rfl ⟨Nat.le_of_ble_eq_true rfl, Nat.le_of_ble_eq_true rfl⟩ rfl hl.1 rfl (Nat.le_of_ble_eq_true rfl) dX4_append_31) (ok_X4_readAll i0 (gq g10 al_0) e11) (fun H locs hW hS => ?_)
    obtain ⟨h12, e14, hF⟩ := nmx hF
    have hW := nmW e14 hW
    have g13 : h12.2.2 = h.2.2 := by rw [e14]; exact g10
    obtain rfl := sj hF
    exact hfin _ _ _ _ (wdW g13 hW) hS dX4_append_34
def F_X11_type (i0 : Nat) (a1 : Int32) (h : HP) : Option (Int32 × DP) :=
  (F_X11_isFrom a1 0 255).bind fun x2 =>
  (if x2 = 0 then
  some ((-2), dp h)
  else
  (gr h 11 i0 4).bind fun o3 =>
  (if (gi h 4 o3 1) < 100 then
  (gr h 11 i0 4).bind fun o6 =>
  (F_X4_append o6 a1 h).bind fun d13 => nm (wd h d13) fun h10 =>
  (gr h10 11 i0 4).bind fun o14 =>
  some ((gi h10 4 o14 1), dp h10)
  else
  some ((-4), dp h)))
set_option maxHeartbeats 4000000 in
set_option maxRecDepth 100000 in
theorem ok_X11_type {l : Launch} {D : va_G} {cA : Nat → ClassId} {h : HP} {r : Int32} {d : DP} (i0 : Nat) (a1 : Int32) (al_0 : i0 < gn h 11) (hF : F_X11_type i0 a1 h = some (r, d)) : MI l D cA yX11_type cX11_type 2 (some .int) 6 138 (fun φ => [.ref (φ 11 i0), .int a1]) h r (wd h d) := by
  refine mk_I (plainFor_of_name (by decide)) (fun φ => Nat.le_of_ble_eq_true rfl) ?_
  intro p e s m args below meth c ls φ A Q X hW hS hl hfin
  have hx := X.1
  have hb := X.2.1
  have hl : lv_has ls 2 [(0, .ref (φ 11 i0)), (1, .int a1)] := hl
  unfold F_X11_type at hF
  refine lv_iload_n hx hb dX11_type_0 rfl (lv_at hl 1 rfl) ?_
  refine lv_iconst (v := 0) hx hb dX11_type_1 (by decide) ?_
  refine lv_sipush (v := 255) hx hb dX11_type_2 (by decide) ?_
  obtain ⟨x2, e1, hF⟩ := bn hF
  refine rc_i (Af := fun φ => [.int a1, .int 0, .int 255]) X hW hS ⟨Nat.zero_le _, Nat.zero_le _⟩ (rn_S (As := [.int a1, .int 0, .int 255]) (rest := []) X hW hS cw_11_81 ⟨Nat.le_of_ble_eq_true rfl, Nat.le_of_ble_eq_true rfl⟩ rfl hl.1 rfl (Nat.le_of_ble_eq_true rfl) dX11_type_5) (ok_X11_isFrom a1 0 255 e1) (fun H locs hW hS => ?_)
  refine lv_if_ne (tgt := 14) hx hb dX11_type_8 (by decide) (fun c18 => ?_) (fun c18 => ?_)
  · have hF := ie c18 hF
    refine lv_aload_n hx hb dX11_type_14 rfl (lv_at hl 0 rfl) ?_
    obtain ⟨o3, e4, hF⟩ := bn hF
    refine r_getr X hW al_0 fl_11_23 e4 dX11_type_15 (fun al5 => ?_)
    refine r_geti X hW al5 fl_11_186 dX11_type_18 ?_
    refine lv_bipush (v := 100) hx hb dX11_type_21 (by decide) ?_
    refine lv_icmp_lt (tgt := 29) hx hb dX11_type_23 (by decide) (fun c17 => ?_) (fun c17 => ?_)
    · have hF := it c17 hF
      refine lv_aload_n hx hb dX11_type_29 rfl (lv_at hl 0 rfl) ?_
      obtain ⟨o6, e7, hF⟩ := bn hF
      refine r_getr X hW al_0 fl_11_23 e7 dX11_type_30 (fun al8 => ?_)
      refine lv_iload_n hx hb dX11_type_33 rfl (lv_at hl 1 rfl) ?_
      obtain ⟨d13, e9, hF⟩ := bn hF
      refine rc_v (Af := fun φ => [.ref (φ 4 o6), .int a1]) X hW hS ⟨Nat.zero_le _, Nat.zero_le _⟩ (rn_V (As := [.int a1]) (rest := []) X hW hS cw_11_189 al8 rfl rfl rfl ⟨Nat.le_of_ble_eq_true rfl, Nat.le_of_ble_eq_true rfl⟩ rfl hl.1 rfl (Nat.le_of_ble_eq_true rfl) dX11_type_34) (ok_X4_append o6 a1 al8 e9) (fun H locs hW hS => ?_)
      obtain ⟨h10, e12, hF⟩ := nmx hF
      have hW := nmW e12 hW
      have g11 : h10.2.2 = h.2.2 := by rw [e12]; exact rfl
      refine lv_aload_n hx hb dX11_type_37 rfl (lv_at hl 0 rfl) ?_
      obtain ⟨o14, e15, hF⟩ := bn hF
      refine r_getr X hW (gq g11 al_0) fl_11_23 e15 dX11_type_38 (fun al16 => ?_)
      have al16 := qg g11 al16
      refine r_geti X hW (gq g11 al16) fl_11_186 dX11_type_41 ?_
      obtain ⟨rfl, rfl⟩ := sj2 hF
      exact hfin _ _ _ _ (wdW g11 hW) hS dX11_type_44
    · have hF := ie c17 hF
      refine lv_bipush (v := (-4)) hx hb dX11_type_26 (by decide) ?_
      obtain ⟨rfl, rfl⟩ := sj2 hF
      exact hfin _ _ _ _ (wdW rfl hW) hS dX11_type_28
  · have hF := it c18 hF
    refine lv_bipush (v := (-2)) hx hb dX11_type_11 (by decide) ?_
    obtain ⟨rfl, rfl⟩ := sj2 hF
    exact hfin _ _ _ _ (wdW rfl hW) hS dX11_type_13
def F_X4_clear (i0 : Nat) (h : HP) : Option (DP) :=
  nm (si h 4 i0 1 0) fun h1 =>
  (F_X4_readAll i0 h1).bind fun d8 => nm (wd h1 d8) fun h5 =>
  some (dp h5)
set_option maxHeartbeats 4000000 in
set_option maxRecDepth 100000 in
theorem ok_X4_clear {l : Launch} {D : va_G} {cA : Nat → ClassId} {h : HP}  {d : DP} (i0 : Nat) (al_0 : i0 < gn h 4) (hF : F_X4_clear i0 h = some d) : MV l D cA yX4_clear cX4_clear 1 none 5 117 (fun φ => [.ref (φ 4 i0)]) h (wd h d) := by
  refine mk_V (plainFor_of_name (by decide)) (fun φ => Nat.le_of_ble_eq_true rfl) ?_
  intro p e s m args below meth c ls φ A Q X hW hS hl hfin
  have hx := X.1
  have hb := X.2.1
  have hl : lv_has ls 1 [(0, .ref (φ 4 i0))] := hl
  unfold F_X4_clear at hF
  refine lv_aload_n hx hb dX4_clear_0 rfl (lv_at hl 0 rfl) ?_
  refine lv_iconst (v := 0) hx hb dX4_clear_1 (by decide) ?_
  refine r_puti X hW hS al_0 fp_4_35 rfl rfl dX4_clear_2 (fun H locs hW hS => ?_)
  obtain ⟨h1, e2, hF⟩ := nmx hF
  have hW := nmW e2 hW
  have g3 : h1.2.2 = h.2.2 := by rw [e2]; exact rfl
  refine lv_aload_n hx hb dX4_clear_5 rfl (lv_at hl 0 rfl) ?_
  obtain ⟨d8, e4, hF⟩ := bn hF
  refine rc_v (Af := fun φ => [.ref (φ 4 i0)]) X hW hS ⟨Nat.zero_le _, Nat.zero_le _⟩ (rn_V (As := []) (rest := []) X hW hS cw_4_38 (gq g3 al_0) rfl rfl rfl ⟨Nat.le_of_ble_eq_true rfl, Nat.le_of_ble_eq_true rfl⟩ rfl hl.1 rfl (Nat.le_of_ble_eq_true rfl) dX4_clear_6) (ok_X4_readAll i0 (gq g3 al_0) e4) (fun H locs hW hS => ?_)
  obtain ⟨h5, e7, hF⟩ := nmx hF
  have hW := nmW e7 hW
  have g6 : h5.2.2 = h.2.2 := by rw [e7]; exact g3
  obtain rfl := sj hF
  exact hfin _ _ _ _ (wdW g6 hW) hS dX4_clear_9
def F_X11_wipe (i0 : Nat) (h : HP) : Option (Int32 × DP) :=
  (gr h 11 i0 4).bind fun o1 =>
  nm ((gi h 4 o1 1)) fun x4 =>
  (gr h 11 i0 4).bind fun o6 =>
  (F_X4_clear o6 h).bind fun d13 => nm (wd h d13) fun h10 =>
  some (x4, dp h10)
set_option maxHeartbeats 4000000 in
set_option maxRecDepth 100000 in
theorem ok_X11_wipe {l : Launch} {D : va_G} {cA : Nat → ClassId} {h : HP} {r : Int32} {d : DP} (i0 : Nat) (al_0 : i0 < gn h 11) (hF : F_X11_wipe i0 h = some (r, d)) : MI l D cA yX11_wipe cX11_wipe 2 (some .int) 6 137 (fun φ => [.ref (φ 11 i0)]) h r (wd h d) := by
  refine mk_I (plainFor_of_name (by decide)) (fun φ => Nat.le_of_ble_eq_true rfl) ?_
  intro p e s m args below meth c ls φ A Q X hW hS hl hfin
  have hx := X.1
  have hb := X.2.1
  have hl : lv_has ls 2 [(0, .ref (φ 11 i0))] := hl
  unfold F_X11_wipe at hF
  refine lv_aload_n hx hb dX11_wipe_0 rfl (lv_at hl 0 rfl) ?_
  obtain ⟨o1, e2, hF⟩ := bn hF
  refine r_getr X hW al_0 fl_11_23 e2 dX11_wipe_1 (fun al3 => ?_)
  refine r_geti X hW al3 fl_11_186 dX11_wipe_4 ?_
  obtain ⟨x4, e5, hF⟩ := nmx hF
  refine nmi e5 ?_
  refine lv_istore_n (lv' := [(1, .int x4), (0, .ref (φ 11 i0))]) hx hb dX11_wipe_7 rfl hl (by decide) rfl (fun ls hl => ?_)
  refine lv_aload_n hx hb dX11_wipe_8 rfl (lv_at hl 1 rfl) ?_
  obtain ⟨o6, e7, hF⟩ := bn hF
  refine r_getr X hW al_0 fl_11_23 e7 dX11_wipe_9 (fun al8 => ?_)
  obtain ⟨d13, e9, hF⟩ := bn hF
  refine rc_v (Af := fun φ => [.ref (φ 4 o6)]) X hW hS ⟨Nat.zero_le _, Nat.zero_le _⟩ (rn_V (As := []) (rest := []) X hW hS cw_11_193 al8 rfl rfl rfl ⟨Nat.le_of_ble_eq_true rfl, Nat.le_of_ble_eq_true rfl⟩ rfl hl.1 rfl (Nat.le_of_ble_eq_true rfl) dX11_wipe_12) (ok_X4_clear o6 al8 e9) (fun H locs hW hS => ?_)
  obtain ⟨h10, e12, hF⟩ := nmx hF
  have hW := nmW e12 hW
  have g11 : h10.2.2 = h.2.2 := by rw [e12]; exact rfl
  refine lv_iload_n hx hb dX11_wipe_15 rfl (lv_at hl 0 rfl) ?_
  obtain ⟨rfl, rfl⟩ := sj2 hF
  exact hfin _ _ _ _ (wdW g11 hW) hS dX11_wipe_16
