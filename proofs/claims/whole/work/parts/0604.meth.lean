def B_X10_difference_4 (i0 : Nat) (i1 : Nat) (h : HP) (q : Int32 × Int32) : Option ((Int32 × Int32) ⊕ (Int32)) :=
  u2 q fun x1 x2 =>
  (if 5 ≤ x2 then
  some (.inr x1)
  else
  (F_X10_apart i0 i1 x2 h).bind fun x4 =>
  nm ((x1 + x4)) fun x5 =>
  nm (x2 + 1) fun x7 =>
  some (.inl (x5, x7)))
def F_X10_difference (i0 : Nat) (i1 : Nat) (h : HP) : Option (Int32) :=
  (loopN LF (B_X10_difference_4 i0 i1 h) (0, 0)).bind fun x12 =>
  some x12
set_option maxHeartbeats 4000000 in
set_option maxRecDepth 100000 in
theorem ok_X10_difference {l : Launch} {D : va_G} {cA : Nat → ClassId} {h : HP} {r : Int32}  (i0 : Nat) (i1 : Nat) (al_0 : i0 < gn h 10) (al_1 : i1 < gn h 1) (hF : F_X10_difference i0 i1 h = some r) : MI l D cA yX10_difference cX10_difference 4 (some .int) 2 42 (fun φ => [.ref (φ 10 i0), .ref (φ 1 i1)]) h r h := by
  refine mk_I (plainFor_of_name (by decide)) (fun φ => Nat.le_of_ble_eq_true rfl) ?_
  intro p e s m args below meth c ls φ A Q X hW hS hl hfin
  have hx := X.1
  have hb := X.2.1
  have hl : lv_has ls 4 [(0, .ref (φ 10 i0)), (1, .ref (φ 1 i1))] := hl
  unfold F_X10_difference at hF
  refine lv_iconst (v := 0) hx hb dX10_difference_0 (by decide) ?_
  refine lv_istore_n (lv' := [(2, .int 0), (0, .ref (φ 10 i0)), (1, .ref (φ 1 i1))]) hx hb dX10_difference_1 rfl hl (by decide) rfl (fun ls hl => ?_)
  refine lv_iconst (v := 0) hx hb dX10_difference_2 (by decide) ?_
  refine lv_istore_n (lv' := [(3, .int 0), (2, .int 0), (0, .ref (φ 10 i0)), (1, .ref (φ 1 i1))]) hx hb dX10_difference_3 rfl hl (by decide) rfl (fun ls hl => ?_)
  obtain ⟨q10, e11, hF⟩ := bn hF
  refine loop_w (f := B_X10_difference_4 i0 i1 h) (Z := fun q => ∀ (H : Heap) (locs : List Loc) (ls : Array Slot), HW D cA A φ h H → va_S A s.heap H locs → lv_has ls 4 [(0, .ref (φ 10 i0)), (1, .ref (φ 1 i1)), (2, .int (q.1)), (3, .int (q.2))] → W p l e (rmo 2 42 0 0) s m args below meth c H locs 0 0 Q (F0 m 4 ls [])) (K := fun q => ∀ (H : Heap) (locs : List Loc) (ls : Array Slot), HW D cA A φ h H → va_S A s.heap H locs → lv_has ls 4 [(2, .int q)] → W p l e (rmo 2 42 0 0) s m args below meth c H locs 0 0 Q (F0 m 24 ls [])) ?_ LF _ q10 e11 ?_ _ _ _ hW hS (lv_sub hl [2, 3, 1, 0] rfl)
  · intro q v hF hK H locs ls hW hS hl
    obtain ⟨x1, x2⟩ := q
    unfold B_X10_difference_4 at hF
    have hF := u2d hF
    have hl : lv_has ls 4 [(0, .ref (φ 10 i0)), (1, .ref (φ 1 i1)), (2, .int x1), (3, .int x2)] := hl
    refine lv_iload_n hx hb dX10_difference_4 rfl (lv_at hl 3 rfl) ?_
    refine lv_iconst (v := 5) hx hb dX10_difference_5 (by decide) ?_
    refine lv_icmp_ge (tgt := 24) hx hb dX10_difference_6 (by decide) (fun c9 => ?_) (fun c9 => ?_)
    · have hF := it c9 hF
      obtain rfl := sj hF
      exact hK _ _ _ hW hS (lv_sub hl [2] rfl)
    · have hF := ie c9 hF
      refine lv_iload_n hx hb dX10_difference_9 rfl (lv_at hl 2 rfl) ?_
      refine lv_aload_n hx hb dX10_difference_10 rfl (lv_at hl 0 rfl) ?_
      refine lv_aload_n hx hb dX10_difference_11 rfl (lv_at hl 1 rfl) ?_
      refine lv_iload_n hx hb dX10_difference_12 rfl (lv_at hl 3 rfl) ?_
      obtain ⟨x4, e3, hF⟩ := bn hF
      refine rc_i (Af := fun φ => [.ref (φ 10 i0), .ref (φ 1 i1), .int x2]) X hW hS ⟨Nat.zero_le _, Nat.zero_le _⟩ (rn_V (As := [.ref (φ 1 i1), .int x2]) (rest := [.int x1]) X hW hS cw_10_38 al_0 rfl rfl rfl ⟨Nat.le_of_ble_eq_true rfl, Nat.le_of_ble_eq_true rfl⟩ rfl hl.1 rfl (Nat.le_of_ble_eq_true rfl) dX10_difference_13) (ok_X10_apart i0 i1 x2 al_0 al_1 e3) (fun H locs hW hS => ?_)
      refine lv_iadd hx hb dX10_difference_16 ?_
      obtain ⟨x5, e6, hF⟩ := nmx hF
      refine nmi e6 ?_
      refine lv_istore_n (lv' := [(2, .int x5), (0, .ref (φ 10 i0)), (1, .ref (φ 1 i1)), (3, .int x2)]) hx hb dX10_difference_17 rfl hl (by decide) rfl (fun ls hl => ?_)
      obtain ⟨x7, e8, hF⟩ := nmx hF
      refine lv_iinc (v := x7) (lv' := [(3, .int x7), (2, .int x5), (0, .ref (φ 10 i0)), (1, .ref (φ 1 i1))]) hx hb dX10_difference_18 hl (k := 3) rfl (by rw [e8]; rfl) (by decide) rfl (fun ls hl => ?_)
      refine lv_goto (tgt := 4) hx hb dX10_difference_21 (by decide) ?_
      obtain rfl := sj hF
      exact hK _ _ _ hW hS (lv_sub hl [2, 3, 1, 0] rfl)
  · intro H locs ls hW hS hl
    obtain ⟨x12, rfl⟩ : ∃ z, z = q10 := ⟨_, rfl⟩
    have hl : lv_has ls 4 [(2, .int x12)] := hl
    refine lv_iload_n hx hb dX10_difference_24 rfl (lv_at hl 0 rfl) ?_
    obtain rfl := sj hF
    exact hfin _ _ _ _ hW hS dX10_difference_25
def F_J_minl (a0 : Int64) (a2 : Int64) : Option (Int64) :=
  (if 0 < (lg_cmp a0 a2) then
  some a2
  else
  some a0)
set_option maxHeartbeats 4000000 in
set_option maxRecDepth 100000 in
theorem ok_J_minl {l : Launch} {D : va_G} {cA : Nat → ClassId} {h : HP} {r : Int64}  (a0 : Int64) (a2 : Int64)  (hF : F_J_minl a0 a2 = some r) : ML l D cA yJ_minl cJ_minl 4 (some .long) 0 0 (fun φ => [.long a0, .long a2]) h r h := by
  refine mk_L (by decide +kernel) (fun φ => Nat.le_of_ble_eq_true rfl) ?_
  intro p e s m args below meth c ls φ A Q X hW hS hl hfin
  have hx := X.1
  have hb := X.2.1
  have hl : lv_has ls 4 [(0, .long a0), (2, .long a2)] := hl
  unfold F_J_minl at hF
  refine lv_lload_n hx hb dJ_minl_0 rfl (lv_at hl 0 rfl) ?_
  refine lv_lload_n hx hb dJ_minl_1 rfl (lv_at hl 1 rfl) ?_
  refine W.lcmp hx hb dJ_minl_2 ?_
  refine lv_if_gt (tgt := 10) hx hb dJ_minl_3 (by decide) (fun c1 => ?_) (fun c1 => ?_)
  · have hF := it c1 hF
    refine lv_lload_n hx hb dJ_minl_10 rfl (lv_at hl 1 rfl) ?_
    obtain rfl := sj hF
    exact hfin _ _ _ _ hW hS dJ_minl_11
  · have hF := ie c1 hF
    refine lv_lload_n hx hb dJ_minl_6 rfl (lv_at hl 0 rfl) ?_
    refine lv_goto (tgt := 11) hx hb dJ_minl_7 (by decide) ?_
    obtain rfl := sj hF
    exact hfin _ _ _ _ hW hS dJ_minl_11
def B_X5_layBell_3 (i0 : Nat) (i1 : Nat) (i2 : Nat) (a3 : Int32) (a4 : Int32) (h : HP) (q : Int32 × DP) : Option ((Int32 × DP) ⊕ (DP)) :=
  u2 q fun x1 d4 =>
  nm (wd h d4) fun h2 =>
  (if (gi h2 5 i0 2) ≤ x1 then
  some (.inr (dp h2))
  else
  (gr h2 5 i0 1).bind fun o5 =>
  (gar h2 42 i1 8 x1).bind fun o8 =>
  (F_X10_difference o8 i2 h2).bind fun x13 =>
  (fg x1).bind fun x16 =>
  (F_X5_notLaid x1 h2).bind fun x20 =>
  (sal h2 36 o5 8 x1 ((((x13).toInt64 * 37822859361) + ((a3).toInt64 * x16)) - x20)).bind fun h21 =>
  nm (x1 + 1) fun x25 =>
  some (.inl (x25, (dp h21))))
def B_X5_layBell_95 (i0 : Nat) (a4 : Int32) (x36 : Int32) (x48 : Int32) (h37 : HP) (q : Int32 × DP) : Option ((Int32 × DP) ⊕ (DP)) :=
  u2 q fun x50 d53 =>
  nm (wd h37 d53) fun h51 =>
  (if (gi h51 5 i0 2) ≤ x50 then
  some (.inr (dp h51))
  else
  (if ((x48 >>> (x50 &&& 31)) &&& 1) = 1 then
  nm ((x36 ||| (1 <<< (x50 &&& 31)))) fun x56 =>
  (gr h51 5 i0 0).bind fun o58 =>
  (gr h51 5 i0 0).bind fun o61 =>
  (gal h51 35 o61 256 x56).bind fun x64 =>
  (gr h51 5 i0 0).bind fun o67 =>
  (gal h51 35 o67 256 x36).bind fun x70 =>
  (gr h51 5 i0 1).bind fun o73 =>
  (gal h51 36 o73 8 x50).bind fun x76 =>
  (F_J_minl x64 (x70 + x76)).bind fun x80 =>
  (sal h51 35 o58 256 x56 x80).bind fun h81 =>
  nm (x50 + 1) fun x85 =>
  some (.inl (x85, (dp h81)))
  else
  nm (x50 + 1) fun x54 =>
  some (.inl (x54, (dp h51)))))
def B_X5_layBell_64 (i0 : Nat) (a4 : Int32) (h32 : HP) (q : Int32 × DP) : Option ((Int32 × DP) ⊕ (DP)) :=
  u2 q fun x36 d39 =>
  nm (wd h32 d39) fun h37 =>
  (if x36 < 0 then
  some (.inr (dp h37))
  else
  (gr h37 5 i0 0).bind fun o40 =>
  (gal h37 35 o40 256 x36).bind fun x43 =>
  (if (lg_cmp x43 4611686018427387904) = 0 then
  nm (x36 + (-1)) fun x46 =>
  some (.inl (x46, (dp h37)))
  else
  nm ((a4 &&& (x36 ^^^ (-1)))) fun x48 =>
  (loopN LF (B_X5_layBell_95 i0 a4 x36 x48 h37) (0, (dp h37))).bind fun d92 =>
  nm (wd h37 d92) fun h93 =>
  nm (x36 + (-1)) fun x95 =>
  some (.inl (x95, (dp h93)))))
def F_X5_layBell (i0 : Nat) (i1 : Nat) (i2 : Nat) (a3 : Int32) (a4 : Int32) (h : HP) : Option (DP) :=
  (loopN LF (B_X5_layBell_3 i0 i1 i2 a3 a4 h) (0, (dp h))).bind fun d31 =>
  nm (wd h d31) fun h32 =>
  nm (((1 <<< ((gi h32 5 i0 2) &&& 31)) - 1)) fun x34 =>
  (loopN LF (B_X5_layBell_64 i0 a4 h32) (x34, (dp h32))).bind fun d103 =>
  nm (wd h32 d103) fun h104 =>
  some (dp h104)
set_option maxHeartbeats 4000000 in
set_option maxRecDepth 100000 in
theorem ok_X5_layBell {l : Launch} {D : va_G} {cA : Nat → ClassId} {h : HP}  {d : DP} (i0 : Nat) (i1 : Nat) (i2 : Nat) (a3 : Int32) (a4 : Int32) (al_0 : i0 < gn h 5) (al_1 : i1 < gn h 42) (al_2 : i2 < gn h 1) (hF : F_X5_layBell i0 i1 i2 a3 a4 h = some d) : MV l D cA yX5_layBell cX5_layBell 9 none 3 65 (fun φ => [.ref (φ 5 i0), .ref (φ 42 i1), .ref (φ 1 i2), .int a3, .int a4]) h (wd h d) := by
  refine mk_V (plainFor_of_name (by decide)) (fun φ => Nat.le_of_ble_eq_true rfl) ?_
  intro p e s m args below meth c ls φ A Q X hW hS hl hfin
  have hx := X.1
  have hb := X.2.1
  have hl : lv_has ls 9 [(0, .ref (φ 5 i0)), (1, .ref (φ 42 i1)), (2, .ref (φ 1 i2)), (3, .int a3), (4, .int a4)] := hl
  unfold F_X5_layBell at hF
  refine lv_iconst (v := 0) hx hb dX5_layBell_0 (by decide) ?_
  refine lv_istore (lv' := [(5, .int 0), (0, .ref (φ 5 i0)), (1, .ref (φ 42 i1)), (2, .ref (φ 1 i2)), (3, .int a3), (4, .int a4)]) hx hb dX5_layBell_1 hl (by decide) rfl (fun ls hl => ?_)
  obtain ⟨q28, e29, hF⟩ := bn hF
  refine loop_w (f := B_X5_layBell_3 i0 i1 i2 a3 a4 h) (Z := fun q => ∀ (H : Heap) (locs : List Loc) (ls : Array Slot), HW D cA A φ (wd h q.2) H → va_S A s.heap H locs → lv_has ls 9 [(0, .ref (φ 5 i0)), (1, .ref (φ 42 i1)), (2, .ref (φ 1 i2)), (3, .int a3), (4, .int a4), (5, .int (q.1))] → W p l e (rmo 3 65 0 0) s m args below meth c H locs 0 0 Q (F0 m 3 ls [])) (K := fun q => ∀ (H : Heap) (locs : List Loc) (ls : Array Slot), HW D cA A φ (wd h q) H → va_S A s.heap H locs → lv_has ls 9 [(0, .ref (φ 5 i0)), (4, .int a4)] → W p l e (rmo 3 65 0 0) s m args below meth c H locs 0 0 Q (F0 m 54 ls [])) ?_ LF _ q28 e29 ?_ _ _ _ (wdW rfl hW) hS (lv_sub hl [1, 2, 3, 4, 5, 0] rfl)
  · intro q v hF hK H locs ls hW hS hl
    obtain ⟨x1, d4⟩ := q
    unfold B_X5_layBell_3 at hF
    have hF := u2d hF
    obtain ⟨h2, e30, hF⟩ := nmx hF
    have hW := nmW e30 hW
    have g3 : h2.2.2 = h.2.2 := by rw [e30]; exact rfl
    have hl : lv_has ls 9 [(0, .ref (φ 5 i0)), (1, .ref (φ 42 i1)), (2, .ref (φ 1 i2)), (3, .int a3), (4, .int a4), (5, .int x1)] := hl
    refine lv_iload hx hb dX5_layBell_3 (lv_at hl 5 rfl) ?_
    refine lv_aload_n hx hb dX5_layBell_5 rfl (lv_at hl 0 rfl) ?_
    refine r_geti X hW (gq g3 al_0) fl_5_24 dX5_layBell_6 ?_
    refine lv_icmp_ge (tgt := 54) hx hb dX5_layBell_9 (by decide) (fun c27 => ?_) (fun c27 => ?_)
    · have hF := it c27 hF
      obtain rfl := sj hF
      exact hK _ _ _ (wdW (sq g3 rfl) hW) hS (lv_sub hl [0, 4] rfl)
    · have hF := ie c27 hF
      refine lv_aload_n hx hb dX5_layBell_12 rfl (lv_at hl 0 rfl) ?_
      obtain ⟨o5, e6, hF⟩ := bn hF
      refine r_getr X hW (gq g3 al_0) fl_5_15 e6 dX5_layBell_13 (fun al7 => ?_)
      have al7 := qg g3 al7
      refine lv_iload hx hb dX5_layBell_16 (lv_at hl 5 rfl) ?_
      refine lv_aload_n hx hb dX5_layBell_18 rfl (lv_at hl 1 rfl) ?_
      refine lv_iload hx hb dX5_layBell_19 (lv_at hl 5 rfl) ?_
      obtain ⟨o8, e9, hF⟩ := bn hF
      obtain ⟨b10, e9⟩ := gar_s e9
      refine r_aald (t0 := 4) X hW (gq g3 al_1) rfl rfl b10 e9 dX5_layBell_21 (fun al11 => ?_)
      have al11 := qg g3 al11
      refine lv_aload_n hx hb dX5_layBell_22 rfl (lv_at hl 2 rfl) ?_
      obtain ⟨x13, e12, hF⟩ := bn hF
      refine rc_i (Af := fun φ => [.ref (φ 10 o8), .ref (φ 1 i2)]) X hW hS ⟨Nat.zero_le _, Nat.zero_le _⟩ (rn_V (As := [.ref (φ 1 i2)]) (rest := [.int x1, .ref (φ 36 o5)]) X hW hS cw_5_68 (gq g3 al11) rfl rfl rfl ⟨Nat.le_of_ble_eq_true rfl, Nat.le_of_ble_eq_true rfl⟩ rfl hl.1 rfl (Nat.le_of_ble_eq_true rfl) dX5_layBell_23) (ok_X10_difference o8 i2 (gq g3 al11) (gq g3 al_2) e12) (fun H locs hW hS => ?_)
      refine lv_i2l (v := (x13).toInt64) hx hb dX5_layBell_26 rfl ?_
      refine lv_ldc2 (v := 37822859361) hx hb X.2.2.2.1 (X.2.2.2.2.1 _ (AL_of 670 (by decide +kernel) rfl)) dX5_layBell_27 ?_
      refine lv_lmul hx hb dX5_layBell_30 ?_
      refine lv_iload_n hx hb dX5_layBell_31 rfl (lv_at hl 3 rfl) ?_
      refine lv_i2l (v := (a3).toInt64) hx hb dX5_layBell_32 rfl ?_
      refine r_fig X hS (AL_of 655 (by decide +kernel) rfl) dX5_layBell_33 (fun ta14 hT15 => ?_)
      refine lv_iload hx hb dX5_layBell_36 (lv_at hl 5 rfl) ?_
      obtain ⟨x16, e17, hF⟩ := bn hF
      obtain ⟨b18, e17⟩ := fg_s e17
      refine r_figld X hS hT15 b18 dX5_layBell_38 ?_
      refine nml e17 ?_
      refine lv_lmul hx hb dX5_layBell_39 ?_
      refine lv_ladd hx hb dX5_layBell_40 ?_
      refine lv_iload hx hb dX5_layBell_41 (lv_at hl 5 rfl) ?_
      obtain ⟨x20, e19, hF⟩ := bn hF
      refine rc_l (Af := fun φ => [.int x1]) X hW hS ⟨Nat.zero_le _, Nat.zero_le _⟩ (rn_S (As := [.int x1]) (rest := [.long (((x13).toInt64 * 37822859361) + ((a3).toInt64 * x16)), .int x1, .ref (φ 36 o5)]) X hW hS cw_5_36 ⟨Nat.le_of_ble_eq_true rfl, Nat.le_of_ble_eq_true rfl⟩ rfl hl.1 rfl (Nat.le_of_ble_eq_true rfl) dX5_layBell_43) (ok_X5_notLaid x1 e19) (fun H locs hW hS => ?_)
      refine lv_lsub hx hb dX5_layBell_46 ?_
      obtain ⟨h21, e22, hF⟩ := bn hF
      obtain ⟨b23, e22⟩ := sal_s e22
      refine r_last X hW hS (gq g3 al7) rfl b23 dX5_layBell_47 (fun H locs hW hS => ?_)
      have hW := nmW e22 hW
      have g24 : h21.2.2 = h.2.2 := by rw [e22]; exact g3
      obtain ⟨x25, e26, hF⟩ := nmx hF
      refine lv_iinc (v := x25) (lv' := [(5, .int x25), (0, .ref (φ 5 i0)), (1, .ref (φ 42 i1)), (2, .ref (φ 1 i2)), (3, .int a3), (4, .int a4)]) hx hb dX5_layBell_48 hl (k := 5) rfl (by rw [e26]; rfl) (by decide) rfl (fun ls hl => ?_)
      refine lv_goto (tgt := 3) hx hb dX5_layBell_51 (by decide) ?_
      obtain rfl := sj hF
      exact hK _ _ _ (wdW (sq g24 rfl) hW) hS (lv_sub hl [1, 2, 3, 4, 5, 0] rfl)
  · intro H locs ls hW hS hl
    obtain ⟨d31, rfl⟩ : ∃ z, z = q28 := ⟨_, rfl⟩
    obtain ⟨h32, e107, hF⟩ := nmx hF
    have hW := nmW e107 hW
    have g33 : h32.2.2 = h.2.2 := by rw [e107]; exact rfl
    have hl : lv_has ls 9 [(0, .ref (φ 5 i0)), (4, .int a4)] := hl
    refine lv_iconst (v := 1) hx hb dX5_layBell_54 (by decide) ?_
    refine lv_aload_n hx hb dX5_layBell_55 rfl (lv_at hl 0 rfl) ?_
    refine r_geti X hW (gq g33 al_0) fl_5_24 dX5_layBell_56 ?_
    refine lv_ishl hx hb dX5_layBell_59 ?_
    refine lv_iconst (v := 1) hx hb dX5_layBell_60 (by decide) ?_
    refine lv_isub hx hb dX5_layBell_61 ?_
    obtain ⟨x34, e35, hF⟩ := nmx hF
    refine nmi e35 ?_
    refine lv_istore (lv' := [(5, .int x34), (0, .ref (φ 5 i0)), (4, .int a4)]) hx hb dX5_layBell_62 hl (by decide) rfl (fun ls hl => ?_)
    obtain ⟨q100, e101, hF⟩ := bn hF
    refine loop_w (f := B_X5_layBell_64 i0 a4 h32) (Z := fun q => ∀ (H : Heap) (locs : List Loc) (ls : Array Slot), HW D cA A φ (wd h32 q.2) H → va_S A s.heap H locs → lv_has ls 9 [(0, .ref (φ 5 i0)), (4, .int a4), (5, .int (q.1))] → W p l e (rmo 3 65 0 0) s m args below meth c H locs 0 0 Q (F0 m 64 ls [])) (K := fun q => ∀ (H : Heap) (locs : List Loc) (ls : Array Slot), HW D cA A φ (wd h32 q) H → va_S A s.heap H locs → lv_has ls 9 [] → W p l e (rmo 3 65 0 0) s m args below meth c H locs 0 0 Q (F0 m 168 ls [])) ?_ LF _ q100 e101 ?_ _ _ _ (wdW rfl hW) hS (lv_sub hl [1, 2, 0] rfl)
    · intro q v hF hK H locs ls hW hS hl
      obtain ⟨x36, d39⟩ := q
      unfold B_X5_layBell_64 at hF
      have hF := u2d hF
      obtain ⟨h37, e102, hF⟩ := nmx hF
      have hW := nmW e102 hW
      have g38 : h37.2.2 = h.2.2 := by rw [e102]; exact g33
      have hl : lv_has ls 9 [(0, .ref (φ 5 i0)), (4, .int a4), (5, .int x36)] := hl
      refine lv_iload hx hb dX5_layBell_64 (lv_at hl 2 rfl) ?_
      refine lv_if_lt (tgt := 168) hx hb dX5_layBell_66 (by decide) (fun c99 => ?_) (fun c99 => ?_)
      · have hF := it c99 hF
        obtain rfl := sj hF
        exact hK _ _ _ (wdW (sq g38 g33) hW) hS (lv_sub hl [] rfl)
      · have hF := ie c99 hF
        refine lv_aload_n hx hb dX5_layBell_69 rfl (lv_at hl 0 rfl) ?_
        obtain ⟨o40, e41, hF⟩ := bn hF
        refine r_getr X hW (gq g38 al_0) fl_5_11 e41 dX5_layBell_70 (fun al42 => ?_)
        have al42 := qg g38 al42
        refine lv_iload hx hb dX5_layBell_73 (lv_at hl 2 rfl) ?_
        obtain ⟨x43, e44, hF⟩ := bn hF
        obtain ⟨b45, e44⟩ := gal_s e44
        refine r_lald X hW (gq g38 al42) rfl b45 dX5_layBell_75 ?_
        refine nml e44 ?_
        refine lv_ldc2 (v := 4611686018427387904) hx hb X.2.2.2.1 (X.2.2.2.2.1 _ (AL_of 646 (by decide +kernel) rfl)) dX5_layBell_76 ?_
        refine W.lcmp hx hb dX5_layBell_79 ?_
        refine lv_if_eq (tgt := 162) hx hb dX5_layBell_80 (by decide) (fun c98 => ?_) (fun c98 => ?_)
        · have hF := it c98 hF
          obtain ⟨x46, e47, hF⟩ := nmx hF
          refine lv_iinc (v := x46) (lv' := [(5, .int x46), (0, .ref (φ 5 i0)), (4, .int a4)]) hx hb dX5_layBell_162 hl (k := 2) rfl (by rw [e47]; rfl) (by decide) rfl (fun ls hl => ?_)
          refine lv_goto (tgt := 64) hx hb dX5_layBell_165 (by decide) ?_
          obtain rfl := sj hF
          exact hK _ _ _ (wdW (sq g38 g33) hW) hS (lv_sub hl [1, 2, 0] rfl)
        · have hF := ie c98 hF
          refine lv_iload hx hb dX5_layBell_83 (lv_at hl 1 rfl) ?_
          refine lv_iload hx hb dX5_layBell_85 (lv_at hl 2 rfl) ?_
          refine lv_iconst (v := (-1)) hx hb dX5_layBell_87 (by decide) ?_
          refine lv_ixor hx hb dX5_layBell_88 ?_
          refine lv_iand hx hb dX5_layBell_89 ?_
          obtain ⟨x48, e49, hF⟩ := nmx hF
          refine nmi e49 ?_
          refine lv_istore (lv' := [(6, .int x48), (0, .ref (φ 5 i0)), (4, .int a4), (5, .int x36)]) hx hb dX5_layBell_90 hl (by decide) rfl (fun ls hl => ?_)
          refine lv_iconst (v := 0) hx hb dX5_layBell_92 (by decide) ?_
          refine lv_istore (lv' := [(7, .int 0), (6, .int x48), (0, .ref (φ 5 i0)), (4, .int a4), (5, .int x36)]) hx hb dX5_layBell_93 hl (by decide) rfl (fun ls hl => ?_)
          obtain ⟨q89, e90, hF⟩ := bn hF
          refine loop_w (f := B_X5_layBell_95 i0 a4 x36 x48 h37) (Z := fun q => ∀ (H : Heap) (locs : List Loc) (ls : Array Slot), HW D cA A φ (wd h37 q.2) H → va_S A s.heap H locs → lv_has ls 9 [(0, .ref (φ 5 i0)), (4, .int a4), (5, .int x36), (6, .int x48), (7, .int (q.1))] → W p l e (rmo 3 65 0 0) s m args below meth c H locs 0 0 Q (F0 m 95 ls [])) (K := fun q => ∀ (H : Heap) (locs : List Loc) (ls : Array Slot), HW D cA A φ (wd h37 q) H → va_S A s.heap H locs → lv_has ls 9 [(0, .ref (φ 5 i0)), (4, .int a4), (5, .int x36)] → W p l e (rmo 3 65 0 0) s m args below meth c H locs 0 0 Q (F0 m 162 ls [])) ?_ LF _ q89 e90 ?_ _ _ _ (wdW rfl hW) hS (lv_sub hl [2, 3, 4, 1, 0] rfl)
          · intro q v hF hK H locs ls hW hS hl
            obtain ⟨x50, d53⟩ := q
            unfold B_X5_layBell_95 at hF
            have hF := u2d hF
            obtain ⟨h51, e91, hF⟩ := nmx hF
            have hW := nmW e91 hW
            have g52 : h51.2.2 = h.2.2 := by rw [e91]; exact g38
            have hl : lv_has ls 9 [(0, .ref (φ 5 i0)), (4, .int a4), (5, .int x36), (6, .int x48), (7, .int x50)] := hl
            refine lv_iload hx hb dX5_layBell_95 (lv_at hl 4 rfl) ?_
            refine lv_aload_n hx hb dX5_layBell_97 rfl (lv_at hl 0 rfl) ?_
            refine r_geti X hW (gq g52 al_0) fl_5_24 dX5_layBell_98 ?_
            refine lv_icmp_ge (tgt := 162) hx hb dX5_layBell_101 (by decide) (fun c88 => ?_) (fun c88 => ?_)
            · have hF := it c88 hF
              obtain rfl := sj hF
              exact hK _ _ _ (wdW (sq g52 g38) hW) hS (lv_sub hl [0, 1, 2] rfl)
            · have hF := ie c88 hF
              refine lv_iload hx hb dX5_layBell_104 (lv_at hl 3 rfl) ?_
              refine lv_iload hx hb dX5_layBell_106 (lv_at hl 4 rfl) ?_
              refine lv_ishr hx hb dX5_layBell_108 ?_
              refine lv_iconst (v := 1) hx hb dX5_layBell_109 (by decide) ?_
              refine lv_iand hx hb dX5_layBell_110 ?_
              refine lv_iconst (v := 1) hx hb dX5_layBell_111 (by decide) ?_
              refine lv_icmp_ne (tgt := 156) hx hb dX5_layBell_112 (by decide) (fun c87 => ?_) (fun c87 => ?_)
              · have hF := ie c87 hF
                obtain ⟨x54, e55, hF⟩ := nmx hF
                refine lv_iinc (v := x54) (lv' := [(7, .int x54), (0, .ref (φ 5 i0)), (4, .int a4), (5, .int x36), (6, .int x48)]) hx hb dX5_layBell_156 hl (k := 4) rfl (by rw [e55]; rfl) (by decide) rfl (fun ls hl => ?_)
                refine lv_goto (tgt := 95) hx hb dX5_layBell_159 (by decide) ?_
                obtain rfl := sj hF
                exact hK _ _ _ (wdW (sq g52 g38) hW) hS (lv_sub hl [1, 2, 3, 4, 0] rfl)
              · have hF := it c87 hF
                refine lv_iload hx hb dX5_layBell_115 (lv_at hl 2 rfl) ?_
                refine lv_iconst (v := 1) hx hb dX5_layBell_117 (by decide) ?_
                refine lv_iload hx hb dX5_layBell_118 (lv_at hl 4 rfl) ?_
                refine lv_ishl hx hb dX5_layBell_120 ?_
                refine lv_ior hx hb dX5_layBell_121 ?_
                obtain ⟨x56, e57, hF⟩ := nmx hF
                refine nmi e57 ?_
                refine lv_istore (lv' := [(8, .int x56), (0, .ref (φ 5 i0)), (4, .int a4), (5, .int x36), (6, .int x48), (7, .int x50)]) hx hb dX5_layBell_122 hl (by decide) rfl (fun ls hl => ?_)
                refine lv_aload_n hx hb dX5_layBell_124 rfl (lv_at hl 1 rfl) ?_
                obtain ⟨o58, e59, hF⟩ := bn hF
                refine r_getr X hW (gq g52 al_0) fl_5_11 e59 dX5_layBell_125 (fun al60 => ?_)
                have al60 := qg g52 al60
                refine lv_iload hx hb dX5_layBell_128 (lv_at hl 0 rfl) ?_
                refine lv_aload_n hx hb dX5_layBell_130 rfl (lv_at hl 1 rfl) ?_
                obtain ⟨o61, e62, hF⟩ := bn hF
                refine r_getr X hW (gq g52 al_0) fl_5_11 e62 dX5_layBell_131 (fun al63 => ?_)
                have al63 := qg g52 al63
                refine lv_iload hx hb dX5_layBell_134 (lv_at hl 0 rfl) ?_
                obtain ⟨x64, e65, hF⟩ := bn hF
                obtain ⟨b66, e65⟩ := gal_s e65
                refine r_lald X hW (gq g52 al63) rfl b66 dX5_layBell_136 ?_
                refine nml e65 ?_
                refine lv_aload_n hx hb dX5_layBell_137 rfl (lv_at hl 1 rfl) ?_
                obtain ⟨o67, e68, hF⟩ := bn hF
                refine r_getr X hW (gq g52 al_0) fl_5_11 e68 dX5_layBell_138 (fun al69 => ?_)
                have al69 := qg g52 al69
                refine lv_iload hx hb dX5_layBell_141 (lv_at hl 3 rfl) ?_
                obtain ⟨x70, e71, hF⟩ := bn hF
                obtain ⟨b72, e71⟩ := gal_s e71
                refine r_lald X hW (gq g52 al69) rfl b72 dX5_layBell_143 ?_
                refine nml e71 ?_
                refine lv_aload_n hx hb dX5_layBell_144 rfl (lv_at hl 1 rfl) ?_
                obtain ⟨o73, e74, hF⟩ := bn hF
                refine r_getr X hW (gq g52 al_0) fl_5_15 e74 dX5_layBell_145 (fun al75 => ?_)
                have al75 := qg g52 al75
                refine lv_iload hx hb dX5_layBell_148 (lv_at hl 5 rfl) ?_
                obtain ⟨x76, e77, hF⟩ := bn hF
                obtain ⟨b78, e77⟩ := gal_s e77
                refine r_lald X hW (gq g52 al75) rfl b78 dX5_layBell_150 ?_
                refine nml e77 ?_
                refine lv_ladd hx hb dX5_layBell_151 ?_
                obtain ⟨x80, e79, hF⟩ := bn hF
                refine rc_l (Af := fun φ => [.long x64, .long (x70 + x76)]) X hW hS ⟨Nat.zero_le _, Nat.zero_le _⟩ (rn_S (As := [.long x64, .long (x70 + x76)]) (rest := [.int x56, .ref (φ 35 o58)]) X hW hS cw_5_59 ⟨Nat.le_of_ble_eq_true rfl, Nat.le_of_ble_eq_true rfl⟩ rfl hl.1 rfl (Nat.le_of_ble_eq_true rfl) dX5_layBell_152) (ok_J_minl x64 (x70 + x76) e79) (fun H locs hW hS => ?_)
                obtain ⟨h81, e82, hF⟩ := bn hF
                obtain ⟨b83, e82⟩ := sal_s e82
                refine r_last X hW hS (gq g52 al60) rfl b83 dX5_layBell_155 (fun H locs hW hS => ?_)
                have hW := nmW e82 hW
                have g84 : h81.2.2 = h.2.2 := by rw [e82]; exact g52
                obtain ⟨x85, e86, hF⟩ := nmx hF
                refine lv_iinc (v := x85) (lv' := [(7, .int x85), (8, .int x56), (0, .ref (φ 5 i0)), (4, .int a4), (5, .int x36), (6, .int x48)]) hx hb dX5_layBell_156 hl (k := 5) rfl (by rw [e86]; rfl) (by decide) rfl (fun ls hl => ?_)
                refine lv_goto (tgt := 95) hx hb dX5_layBell_159 (by decide) ?_
                obtain rfl := sj hF
                exact hK _ _ _ (wdW (sq g84 g38) hW) hS (lv_sub hl [2, 3, 4, 5, 0] rfl)
          · intro H locs ls hW hS hl
            obtain ⟨d92, rfl⟩ : ∃ z, z = q89 := ⟨_, rfl⟩
            obtain ⟨h93, e97, hF⟩ := nmx hF
            have hW := nmW e97 hW
            have g94 : h93.2.2 = h.2.2 := by rw [e97]; exact g38
            have hl : lv_has ls 9 [(0, .ref (φ 5 i0)), (4, .int a4), (5, .int x36)] := hl
            obtain ⟨x95, e96, hF⟩ := nmx hF
            refine lv_iinc (v := x95) (lv' := [(5, .int x95), (0, .ref (φ 5 i0)), (4, .int a4)]) hx hb dX5_layBell_162 hl (k := 2) rfl (by rw [e96]; rfl) (by decide) rfl (fun ls hl => ?_)
            refine lv_goto (tgt := 64) hx hb dX5_layBell_165 (by decide) ?_
            obtain rfl := sj hF
            exact hK _ _ _ (wdW (sq g94 g33) hW) hS (lv_sub hl [1, 2, 0] rfl)
    · intro H locs ls hW hS hl
      obtain ⟨d103, rfl⟩ : ∃ z, z = q100 := ⟨_, rfl⟩
      obtain ⟨h104, e106, hF⟩ := nmx hF
      have hW := nmW e106 hW
      have g105 : h104.2.2 = h.2.2 := by rw [e106]; exact g33
      have hl : lv_has ls 9 [] := hl
      obtain rfl := sj hF
      exact hfin _ _ _ _ (wdW g105 hW) hS dX5_layBell_168
def B_X5_layAll_43 (i0 : Nat) (i1 : Nat) (i3 : Nat) (x8 : Int32) (h21 : HP) (q : Int32 × DP) : Option ((Int32 × DP) ⊕ (DP)) :=
  u2 q fun x25 d28 =>
  nm (wd h21 d28) fun h26 =>
  (if (gi h26 5 i0 2) ≤ x25 then
  some (.inr (dp h26))
  else
  (gr h26 5 i0 0).bind fun o29 =>
  (gal h26 35 o29 256 0).bind fun x32 =>
  (F_X5_notLaid x25 h26).bind fun x36 =>
  (sal h26 35 o29 256 0 (x32 + x36)).bind fun h37 =>
  nm (x25 + 1) fun x41 =>
  some (.inl (x41, (dp h37))))
def B_X5_layAll_75 (i0 : Nat) (i1 : Nat) (i3 : Nat) (x8 : Int32) (h48 : HP) (q : Int32 × DP) : Option ((Int32 × DP) ⊕ (DP)) :=
  u2 q fun x50 d53 =>
  nm (wd h48 d53) fun h51 =>
  (if (gi h51 2 i3 1) ≤ x50 then
  some (.inr (dp h51))
  else
  (gr h51 2 i3 0).bind fun o54 =>
  (gar h51 23 o54 20 x50).bind fun o57 =>
  (F_X5_takersOf i0 i1 o57 h51).bind fun x62 =>
  (if x62 = 0 then
  nm (x50 + 1) fun x63 =>
  some (.inl (x63, (dp h51)))
  else
  (gr h51 2 i3 0).bind fun o65 =>
  (gar h51 23 o65 20 x50).bind fun o68 =>
  (F_X5_layBell i0 i1 o68 x50 x62 h51).bind fun d76 => nm (wd h51 d76) fun h73 =>
  nm (x50 + 1) fun x77 =>
  some (.inl (x77, (dp h73)))))
def B_X5_layAll_138 (i0 : Nat) (x8 : Int32) (h93 : HP) (q : Int32 × DP) : Option ((Int32 × DP) ⊕ (DP)) :=
  u2 q fun x96 d99 =>
  nm (wd h93 d99) fun h97 =>
  (if x8 ≤ x96 then
  some (.inr (dp h97))
  else
  (gr h97 5 i0 0).bind fun o100 =>
  (gal h97 35 o100 256 x96).bind fun x103 =>
  (F_J_minl (gl h97 5 i0 3) x103).bind fun x107 =>
  nm (sL h97 5 i0 3 x107) fun h108 =>
  nm (x96 + 1) fun x111 =>
  some (.inl (x111, (dp h108))))
def F_X5_layAll (i0 : Nat) (i1 : Nat) (a2 : Int32) (i3 : Nat) (h : HP) : Option (DP) :=
  (F_J_min 8 8).bind fun x2 =>
  (F_J_min a2 x2).bind fun x4 =>
  nm (si h 5 i0 2 x4) fun h5 =>
  nm ((1 <<< ((gi h5 5 i0 2) &&& 31))) fun x8 =>
  (gr h5 5 i0 0).bind fun o10 =>
  (F_J_filll_35 o10 4611686018427387904 h5).bind fun d17 => nm (wd h5 d17) fun h14 =>
  (gr h14 5 i0 0).bind fun o18 =>
  (sal h14 35 o18 256 0 0).bind fun h21 =>
  (loopN LF (B_X5_layAll_43 i0 i1 i3 x8 h21) (0, (dp h21))).bind fun d47 =>
  nm (wd h21 d47) fun h48 =>
  (loopN LF (B_X5_layAll_75 i0 i1 i3 x8 h48) (0, (dp h48))).bind fun d84 =>
  nm (wd h48 d84) fun h85 =>
  (gr h85 5 i0 0).bind fun o87 =>
  (gal h85 35 o87 256 0).bind fun x90 =>
  nm (sL h85 5 i0 3 x90) fun h93 =>
  (loopN LF (B_X5_layAll_138 i0 x8 h93) (1, (dp h93))).bind fun d117 =>
  nm (wd h93 d117) fun h118 =>
  some (dp h118)
set_option maxHeartbeats 4000000 in
set_option maxRecDepth 100000 in
theorem ok_X5_layAll {l : Launch} {D : va_G} {cA : Nat → ClassId} {h : HP}  {d : DP} (i0 : Nat) (i1 : Nat) (a2 : Int32) (i3 : Nat) (al_0 : i0 < gn h 5) (al_1 : i1 < gn h 42) (al_3 : i3 < gn h 2) (hF : F_X5_layAll i0 i1 a2 i3 h = some d) : MV l D cA yX5_layAll cX5_layAll 7 none 4 93 (fun φ => [.ref (φ 5 i0), .ref (φ 42 i1), .int a2, .ref (φ 2 i3)]) h (wd h d) := by
  refine mk_V (plainFor_of_name (by decide)) (fun φ => Nat.le_of_ble_eq_true rfl) ?_
  intro p e s m args below meth c ls φ A Q X hW hS hl hfin
  have hx := X.1
  have hb := X.2.1
  have hl : lv_has ls 7 [(0, .ref (φ 5 i0)), (1, .ref (φ 42 i1)), (2, .int a2), (3, .ref (φ 2 i3))] := hl
  unfold F_X5_layAll at hF
  refine lv_aload_n hx hb dX5_layAll_0 rfl (lv_at hl 0 rfl) ?_
  refine lv_iload_n hx hb dX5_layAll_1 rfl (lv_at hl 2 rfl) ?_
  refine lv_aload_n hx hb dX5_layAll_2 rfl (lv_at hl 1 rfl) ?_
  refine r_alen (t0 := 4) (v := 8) X hW al_1 rfl rfl rfl dX5_layAll_3 ?_
  refine lv_bipush (v := 8) hx hb dX5_layAll_4 (by decide) ?_
  obtain ⟨x2, e1, hF⟩ := bn hF
  refine rc_i (Af := fun φ => [.int 8, .int 8]) X hW hS ⟨Nat.zero_le _, Nat.zero_le _⟩ (rn_S (As := [.int 8, .int 8]) (rest := [.int a2, .ref (φ 5 i0)]) X hW hS cw_5_18 ⟨Nat.le_of_ble_eq_true rfl, Nat.le_of_ble_eq_true rfl⟩ rfl hl.1 rfl (Nat.le_of_ble_eq_true rfl) dX5_layAll_6) (ok_J_min 8 8 e1) (fun H locs hW hS => ?_)
  obtain ⟨x4, e3, hF⟩ := bn hF
  refine rc_i (Af := fun φ => [.int a2, .int x2]) X hW hS ⟨Nat.zero_le _, Nat.zero_le _⟩ (rn_S (As := [.int a2, .int x2]) (rest := [.ref (φ 5 i0)]) X hW hS cw_5_18 ⟨Nat.le_of_ble_eq_true rfl, Nat.le_of_ble_eq_true rfl⟩ rfl hl.1 rfl (Nat.le_of_ble_eq_true rfl) dX5_layAll_9) (ok_J_min a2 x2 e3) (fun H locs hW hS => ?_)
  refine r_puti X hW hS al_0 fp_5_24 rfl rfl dX5_layAll_12 (fun H locs hW hS => ?_)
  obtain ⟨h5, e6, hF⟩ := nmx hF
  have hW := nmW e6 hW
  have g7 : h5.2.2 = h.2.2 := by rw [e6]; exact rfl
  refine lv_iconst (v := 1) hx hb dX5_layAll_15 (by decide) ?_
  refine lv_aload_n hx hb dX5_layAll_16 rfl (lv_at hl 0 rfl) ?_
  refine r_geti X hW (gq g7 al_0) fl_5_24 dX5_layAll_17 ?_
  refine lv_ishl hx hb dX5_layAll_20 ?_
  obtain ⟨x8, e9, hF⟩ := nmx hF
  refine nmi e9 ?_
  refine lv_istore (lv' := [(4, .int x8), (0, .ref (φ 5 i0)), (1, .ref (φ 42 i1)), (2, .int a2), (3, .ref (φ 2 i3))]) hx hb dX5_layAll_21 hl (by decide) rfl (fun ls hl => ?_)
  refine lv_aload_n hx hb dX5_layAll_23 rfl (lv_at hl 1 rfl) ?_
  obtain ⟨o10, e11, hF⟩ := bn hF
  refine r_getr X hW (gq g7 al_0) fl_5_11 e11 dX5_layAll_24 (fun al12 => ?_)
  have al12 := qg g7 al12
  refine lv_ldc2 (v := 4611686018427387904) hx hb X.2.2.2.1 (X.2.2.2.2.1 _ (AL_of 646 (by decide +kernel) rfl)) dX5_layAll_27 ?_
  obtain ⟨d17, e13, hF⟩ := bn hF
  refine rc_v (Af := fun φ => [.ref (φ 35 o10), .long 4611686018427387904]) X hW hS ⟨Nat.zero_le _, Nat.zero_le _⟩ (rn_S (As := [.ref (φ 35 o10), .long 4611686018427387904]) (rest := []) X hW hS cw_5_30 ⟨Nat.le_of_ble_eq_true rfl, Nat.le_of_ble_eq_true rfl⟩ rfl hl.1 rfl (Nat.le_of_ble_eq_true rfl) dX5_layAll_30) (ok_J_filll_35 o10 4611686018427387904 (gq g7 al12) e13) (fun H locs hW hS => ?_)
  obtain ⟨h14, e16, hF⟩ := nmx hF
  have hW := nmW e16 hW
  have g15 : h14.2.2 = h.2.2 := by rw [e16]; exact g7
  refine lv_aload_n hx hb dX5_layAll_33 rfl (lv_at hl 1 rfl) ?_
  obtain ⟨o18, e19, hF⟩ := bn hF
  refine r_getr X hW (gq g15 al_0) fl_5_11 e19 dX5_layAll_34 (fun al20 => ?_)
  have al20 := qg g15 al20
  refine lv_iconst (v := 0) hx hb dX5_layAll_37 (by decide) ?_
  refine lv_lconst (v := 0) hx hb dX5_layAll_38 (by decide) ?_
  obtain ⟨h21, e22, hF⟩ := bn hF
  obtain ⟨b23, e22⟩ := sal_s e22
  refine r_last X hW hS (gq g15 al20) rfl b23 dX5_layAll_39 (fun H locs hW hS => ?_)
  have hW := nmW e22 hW
  have g24 : h21.2.2 = h.2.2 := by rw [e22]; exact g15
  refine lv_iconst (v := 0) hx hb dX5_layAll_40 (by decide) ?_
  refine lv_istore (lv' := [(5, .int 0), (4, .int x8), (0, .ref (φ 5 i0)), (1, .ref (φ 42 i1)), (2, .int a2), (3, .ref (φ 2 i3))]) hx hb dX5_layAll_41 hl (by decide) rfl (fun ls hl => ?_)
  obtain ⟨q44, e45, hF⟩ := bn hF
  refine loop_w (f := B_X5_layAll_43 i0 i1 i3 x8 h21) (Z := fun q => ∀ (H : Heap) (locs : List Loc) (ls : Array Slot), HW D cA A φ (wd h21 q.2) H → va_S A s.heap H locs → lv_has ls 7 [(0, .ref (φ 5 i0)), (1, .ref (φ 42 i1)), (3, .ref (φ 2 i3)), (4, .int x8), (5, .int (q.1))] → W p l e (rmo 4 93 0 0) s m args below meth c H locs 0 0 Q (F0 m 43 ls [])) (K := fun q => ∀ (H : Heap) (locs : List Loc) (ls : Array Slot), HW D cA A φ (wd h21 q) H → va_S A s.heap H locs → lv_has ls 7 [(0, .ref (φ 5 i0)), (1, .ref (φ 42 i1)), (3, .ref (φ 2 i3)), (4, .int x8)] → W p l e (rmo 4 93 0 0) s m args below meth c H locs 0 0 Q (F0 m 72 ls [])) ?_ LF _ q44 e45 ?_ _ _ _ (wdW rfl hW) hS (lv_sub hl [2, 3, 5, 1, 0] rfl)
  · intro q v hF hK H locs ls hW hS hl
    obtain ⟨x25, d28⟩ := q
    unfold B_X5_layAll_43 at hF
    have hF := u2d hF
    obtain ⟨h26, e46, hF⟩ := nmx hF
    have hW := nmW e46 hW
    have g27 : h26.2.2 = h.2.2 := by rw [e46]; exact g24
    have hl : lv_has ls 7 [(0, .ref (φ 5 i0)), (1, .ref (φ 42 i1)), (3, .ref (φ 2 i3)), (4, .int x8), (5, .int x25)] := hl
    refine lv_iload hx hb dX5_layAll_43 (lv_at hl 4 rfl) ?_
    refine lv_aload_n hx hb dX5_layAll_45 rfl (lv_at hl 0 rfl) ?_
    refine r_geti X hW (gq g27 al_0) fl_5_24 dX5_layAll_46 ?_
    refine lv_icmp_ge (tgt := 72) hx hb dX5_layAll_49 (by decide) (fun c43 => ?_) (fun c43 => ?_)
    · have hF := it c43 hF
      obtain rfl := sj hF
      exact hK _ _ _ (wdW (sq g27 g24) hW) hS (lv_sub hl [0, 1, 2, 3] rfl)
    · have hF := ie c43 hF
      refine lv_aload_n hx hb dX5_layAll_52 rfl (lv_at hl 0 rfl) ?_
      obtain ⟨o29, e30, hF⟩ := bn hF
      refine r_getr X hW (gq g27 al_0) fl_5_11 e30 dX5_layAll_53 (fun al31 => ?_)
      have al31 := qg g27 al31
      refine lv_iconst (v := 0) hx hb dX5_layAll_56 (by decide) ?_
      refine lv_dup2_11 hx hb dX5_layAll_57 rfl rfl ?_
      obtain ⟨x32, e33, hF⟩ := bn hF
      obtain ⟨b34, e33⟩ := gal_s e33
      refine r_lald X hW (gq g27 al31) rfl b34 dX5_layAll_58 ?_
      refine nml e33 ?_
      refine lv_iload hx hb dX5_layAll_59 (lv_at hl 4 rfl) ?_
      obtain ⟨x36, e35, hF⟩ := bn hF
      refine rc_l (Af := fun φ => [.int x25]) X hW hS ⟨Nat.zero_le _, Nat.zero_le _⟩ (rn_S (As := [.int x25]) (rest := [.long x32, .int 0, .ref (φ 35 o29)]) X hW hS cw_5_36 ⟨Nat.le_of_ble_eq_true rfl, Nat.le_of_ble_eq_true rfl⟩ rfl hl.1 rfl (Nat.le_of_ble_eq_true rfl) dX5_layAll_61) (ok_X5_notLaid x25 e35) (fun H locs hW hS => ?_)
      refine lv_ladd hx hb dX5_layAll_64 ?_
      obtain ⟨h37, e38, hF⟩ := bn hF
      obtain ⟨b39, e38⟩ := sal_s e38
      refine r_last X hW hS (gq g27 al31) rfl b39 dX5_layAll_65 (fun H locs hW hS => ?_)
      have hW := nmW e38 hW
      have g40 : h37.2.2 = h.2.2 := by rw [e38]; exact g27
      obtain ⟨x41, e42, hF⟩ := nmx hF
      refine lv_iinc (v := x41) (lv' := [(5, .int x41), (0, .ref (φ 5 i0)), (1, .ref (φ 42 i1)), (3, .ref (φ 2 i3)), (4, .int x8)]) hx hb dX5_layAll_66 hl (k := 4) rfl (by rw [e42]; rfl) (by decide) rfl (fun ls hl => ?_)
      refine lv_goto (tgt := 43) hx hb dX5_layAll_69 (by decide) ?_
      obtain rfl := sj hF
      exact hK _ _ _ (wdW (sq g40 g24) hW) hS (lv_sub hl [1, 2, 3, 4, 0] rfl)
  · intro H locs ls hW hS hl
    obtain ⟨d47, rfl⟩ : ∃ z, z = q44 := ⟨_, rfl⟩
    obtain ⟨h48, e122, hF⟩ := nmx hF
    have hW := nmW e122 hW
    have g49 : h48.2.2 = h.2.2 := by rw [e122]; exact g24
    have hl : lv_has ls 7 [(0, .ref (φ 5 i0)), (1, .ref (φ 42 i1)), (3, .ref (φ 2 i3)), (4, .int x8)] := hl
    refine lv_iconst (v := 0) hx hb dX5_layAll_72 (by decide) ?_
    refine lv_istore (lv' := [(5, .int 0), (0, .ref (φ 5 i0)), (1, .ref (φ 42 i1)), (3, .ref (φ 2 i3)), (4, .int x8)]) hx hb dX5_layAll_73 hl (by decide) rfl (fun ls hl => ?_)
    obtain ⟨q81, e82, hF⟩ := bn hF
    refine loop_w (f := B_X5_layAll_75 i0 i1 i3 x8 h48) (Z := fun q => ∀ (H : Heap) (locs : List Loc) (ls : Array Slot), HW D cA A φ (wd h48 q.2) H → va_S A s.heap H locs → lv_has ls 7 [(0, .ref (φ 5 i0)), (1, .ref (φ 42 i1)), (3, .ref (φ 2 i3)), (4, .int x8), (5, .int (q.1))] → W p l e (rmo 4 93 0 0) s m args below meth c H locs 0 0 Q (F0 m 75 ls [])) (K := fun q => ∀ (H : Heap) (locs : List Loc) (ls : Array Slot), HW D cA A φ (wd h48 q) H → va_S A s.heap H locs → lv_has ls 7 [(0, .ref (φ 5 i0)), (4, .int x8)] → W p l e (rmo 4 93 0 0) s m args below meth c H locs 0 0 Q (F0 m 125 ls [])) ?_ LF _ q81 e82 ?_ _ _ _ (wdW rfl hW) hS (lv_sub hl [1, 2, 3, 4, 0] rfl)
    · intro q v hF hK H locs ls hW hS hl
      obtain ⟨x50, d53⟩ := q
      unfold B_X5_layAll_75 at hF
      have hF := u2d hF
      obtain ⟨h51, e83, hF⟩ := nmx hF
      have hW := nmW e83 hW
      have g52 : h51.2.2 = h.2.2 := by rw [e83]; exact g49
      have hl : lv_has ls 7 [(0, .ref (φ 5 i0)), (1, .ref (φ 42 i1)), (3, .ref (φ 2 i3)), (4, .int x8), (5, .int x50)] := hl
      refine lv_iload hx hb dX5_layAll_75 (lv_at hl 4 rfl) ?_
      refine lv_aload_n hx hb dX5_layAll_77 rfl (lv_at hl 2 rfl) ?_
      refine r_geti X hW (gq g52 al_3) fl_5_40 dX5_layAll_78 ?_
      refine lv_icmp_ge (tgt := 125) hx hb dX5_layAll_81 (by decide) (fun c80 => ?_) (fun c80 => ?_)
      · have hF := it c80 hF
        obtain rfl := sj hF
        exact hK _ _ _ (wdW (sq g52 g49) hW) hS (lv_sub hl [0, 3] rfl)
      · have hF := ie c80 hF
        refine lv_aload_n hx hb dX5_layAll_84 rfl (lv_at hl 0 rfl) ?_
        refine lv_aload_n hx hb dX5_layAll_85 rfl (lv_at hl 1 rfl) ?_
        refine lv_aload_n hx hb dX5_layAll_86 rfl (lv_at hl 2 rfl) ?_
        obtain ⟨o54, e55, hF⟩ := bn hF
        refine r_getr X hW (gq g52 al_3) fl_5_43 e55 dX5_layAll_87 (fun al56 => ?_)
        have al56 := qg g52 al56
        refine lv_iload hx hb dX5_layAll_90 (lv_at hl 4 rfl) ?_
        obtain ⟨o57, e58, hF⟩ := bn hF
        obtain ⟨b59, e58⟩ := gar_s e58
        refine r_aald (t0 := 3) X hW (gq g52 al56) rfl rfl b59 e58 dX5_layAll_92 (fun al60 => ?_)
        have al60 := qg g52 al60
        obtain ⟨x62, e61, hF⟩ := bn hF
        refine rc_i (Af := fun φ => [.ref (φ 5 i0), .ref (φ 42 i1), .ref (φ 1 o57)]) X hW hS ⟨Nat.zero_le _, Nat.zero_le _⟩ (rn_V (As := [.ref (φ 42 i1), .ref (φ 1 o57)]) (rest := []) X hW hS cw_5_47 (gq g52 al_0) rfl rfl rfl ⟨Nat.le_of_ble_eq_true rfl, Nat.le_of_ble_eq_true rfl⟩ rfl hl.1 rfl (Nat.le_of_ble_eq_true rfl) dX5_layAll_93) (ok_X5_takersOf i0 i1 o57 (gq g52 al_0) (gq g52 al_1) (gq g52 al60) e61) (fun H locs hW hS => ?_)
        refine lv_istore (lv' := [(6, .int x62), (0, .ref (φ 5 i0)), (1, .ref (φ 42 i1)), (3, .ref (φ 2 i3)), (4, .int x8), (5, .int x50)]) hx hb dX5_layAll_96 hl (by decide) rfl (fun ls hl => ?_)
        refine lv_iload hx hb dX5_layAll_98 (lv_at hl 0 rfl) ?_
        refine lv_if_eq (tgt := 119) hx hb dX5_layAll_100 (by decide) (fun c79 => ?_) (fun c79 => ?_)
        · have hF := it c79 hF
          obtain ⟨x63, e64, hF⟩ := nmx hF
          refine lv_iinc (v := x63) (lv' := [(5, .int x63), (6, .int x62), (0, .ref (φ 5 i0)), (1, .ref (φ 42 i1)), (3, .ref (φ 2 i3)), (4, .int x8)]) hx hb dX5_layAll_119 hl (k := 5) rfl (by rw [e64]; rfl) (by decide) rfl (fun ls hl => ?_)
          refine lv_goto (tgt := 75) hx hb dX5_layAll_122 (by decide) ?_
          obtain rfl := sj hF
          exact hK _ _ _ (wdW (sq g52 g49) hW) hS (lv_sub hl [2, 3, 4, 5, 0] rfl)
        · have hF := ie c79 hF
          refine lv_aload_n hx hb dX5_layAll_103 rfl (lv_at hl 1 rfl) ?_
          refine lv_aload_n hx hb dX5_layAll_104 rfl (lv_at hl 2 rfl) ?_
          refine lv_aload_n hx hb dX5_layAll_105 rfl (lv_at hl 3 rfl) ?_
          obtain ⟨o65, e66, hF⟩ := bn hF
          refine r_getr X hW (gq g52 al_3) fl_5_43 e66 dX5_layAll_106 (fun al67 => ?_)
          have al67 := qg g52 al67
          refine lv_iload hx hb dX5_layAll_109 (lv_at hl 5 rfl) ?_
          obtain ⟨o68, e69, hF⟩ := bn hF
          obtain ⟨b70, e69⟩ := gar_s e69
          refine r_aald (t0 := 3) X hW (gq g52 al67) rfl rfl b70 e69 dX5_layAll_111 (fun al71 => ?_)
          have al71 := qg g52 al71
          refine lv_iload hx hb dX5_layAll_112 (lv_at hl 5 rfl) ?_
          refine lv_iload hx hb dX5_layAll_114 (lv_at hl 0 rfl) ?_
          obtain ⟨d76, e72, hF⟩ := bn hF
          refine rc_v (Af := fun φ => [.ref (φ 5 i0), .ref (φ 42 i1), .ref (φ 1 o68), .int x50, .int x62]) X hW hS ⟨Nat.zero_le _, Nat.zero_le _⟩ (rn_V (As := [.ref (φ 42 i1), .ref (φ 1 o68), .int x50, .int x62]) (rest := []) X hW hS cw_5_51 (gq g52 al_0) rfl rfl rfl ⟨Nat.le_of_ble_eq_true rfl, Nat.le_of_ble_eq_true rfl⟩ rfl hl.1 rfl (Nat.le_of_ble_eq_true rfl) dX5_layAll_116) (ok_X5_layBell i0 i1 o68 x50 x62 (gq g52 al_0) (gq g52 al_1) (gq g52 al71) e72) (fun H locs hW hS => ?_)
          obtain ⟨h73, e75, hF⟩ := nmx hF
          have hW := nmW e75 hW
          have g74 : h73.2.2 = h.2.2 := by rw [e75]; exact g52
          obtain ⟨x77, e78, hF⟩ := nmx hF
          refine lv_iinc (v := x77) (lv' := [(5, .int x77), (6, .int x62), (0, .ref (φ 5 i0)), (1, .ref (φ 42 i1)), (3, .ref (φ 2 i3)), (4, .int x8)]) hx hb dX5_layAll_119 hl (k := 5) rfl (by rw [e78]; rfl) (by decide) rfl (fun ls hl => ?_)
          refine lv_goto (tgt := 75) hx hb dX5_layAll_122 (by decide) ?_
          obtain rfl := sj hF
          exact hK _ _ _ (wdW (sq g74 g49) hW) hS (lv_sub hl [2, 3, 4, 5, 0] rfl)
    · intro H locs ls hW hS hl
      obtain ⟨d84, rfl⟩ : ∃ z, z = q81 := ⟨_, rfl⟩
      obtain ⟨h85, e121, hF⟩ := nmx hF
      have hW := nmW e121 hW
      have g86 : h85.2.2 = h.2.2 := by rw [e121]; exact g49
      have hl : lv_has ls 7 [(0, .ref (φ 5 i0)), (4, .int x8)] := hl
      refine lv_aload_n hx hb dX5_layAll_125 rfl (lv_at hl 0 rfl) ?_
      refine lv_aload_n hx hb dX5_layAll_126 rfl (lv_at hl 0 rfl) ?_
      obtain ⟨o87, e88, hF⟩ := bn hF
      refine r_getr X hW (gq g86 al_0) fl_5_11 e88 dX5_layAll_127 (fun al89 => ?_)
      have al89 := qg g86 al89
      refine lv_iconst (v := 0) hx hb dX5_layAll_130 (by decide) ?_
      obtain ⟨x90, e91, hF⟩ := bn hF
      obtain ⟨b92, e91⟩ := gal_s e91
      refine r_lald X hW (gq g86 al89) rfl b92 dX5_layAll_131 ?_
      refine nml e91 ?_
      refine r_putl X hW hS (gq g86 al_0) fp_5_55 dX5_layAll_132 (fun H locs hW hS => ?_)
      obtain ⟨h93, e94, hF⟩ := nmx hF
      have hW := nmW e94 hW
      have g95 : h93.2.2 = h.2.2 := by rw [e94]; exact g86
      refine lv_iconst (v := 1) hx hb dX5_layAll_135 (by decide) ?_
      refine lv_istore (lv' := [(5, .int 1), (0, .ref (φ 5 i0)), (4, .int x8)]) hx hb dX5_layAll_136 hl (by decide) rfl (fun ls hl => ?_)
      obtain ⟨q114, e115, hF⟩ := bn hF
      refine loop_w (f := B_X5_layAll_138 i0 x8 h93) (Z := fun q => ∀ (H : Heap) (locs : List Loc) (ls : Array Slot), HW D cA A φ (wd h93 q.2) H → va_S A s.heap H locs → lv_has ls 7 [(0, .ref (φ 5 i0)), (4, .int x8), (5, .int (q.1))] → W p l e (rmo 4 93 0 0) s m args below meth c H locs 0 0 Q (F0 m 138 ls [])) (K := fun q => ∀ (H : Heap) (locs : List Loc) (ls : Array Slot), HW D cA A φ (wd h93 q) H → va_S A s.heap H locs → lv_has ls 7 [] → W p l e (rmo 4 93 0 0) s m args below meth c H locs 0 0 Q (F0 m 169 ls [])) ?_ LF _ q114 e115 ?_ _ _ _ (wdW rfl hW) hS (lv_sub hl [1, 2, 0] rfl)
      · intro q v hF hK H locs ls hW hS hl
        obtain ⟨x96, d99⟩ := q
        unfold B_X5_layAll_138 at hF
        have hF := u2d hF
        obtain ⟨h97, e116, hF⟩ := nmx hF
        have hW := nmW e116 hW
        have g98 : h97.2.2 = h.2.2 := by rw [e116]; exact g95
        have hl : lv_has ls 7 [(0, .ref (φ 5 i0)), (4, .int x8), (5, .int x96)] := hl
        refine lv_iload hx hb dX5_layAll_138 (lv_at hl 2 rfl) ?_
        refine lv_iload hx hb dX5_layAll_140 (lv_at hl 1 rfl) ?_
        refine lv_icmp_ge (tgt := 169) hx hb dX5_layAll_142 (by decide) (fun c113 => ?_) (fun c113 => ?_)
        · have hF := it c113 hF
          obtain rfl := sj hF
          exact hK _ _ _ (wdW (sq g98 g95) hW) hS (lv_sub hl [] rfl)
        · have hF := ie c113 hF
          refine lv_aload_n hx hb dX5_layAll_145 rfl (lv_at hl 0 rfl) ?_
          refine lv_aload_n hx hb dX5_layAll_146 rfl (lv_at hl 0 rfl) ?_
          refine r_getl X hW (gq g98 al_0) fl_5_55 dX5_layAll_147 ?_
          refine lv_aload_n hx hb dX5_layAll_150 rfl (lv_at hl 0 rfl) ?_
          obtain ⟨o100, e101, hF⟩ := bn hF
          refine r_getr X hW (gq g98 al_0) fl_5_11 e101 dX5_layAll_151 (fun al102 => ?_)
          have al102 := qg g98 al102
          refine lv_iload hx hb dX5_layAll_154 (lv_at hl 2 rfl) ?_
          obtain ⟨x103, e104, hF⟩ := bn hF
          obtain ⟨b105, e104⟩ := gal_s e104
          refine r_lald X hW (gq g98 al102) rfl b105 dX5_layAll_156 ?_
          refine nml e104 ?_
          obtain ⟨x107, e106, hF⟩ := bn hF
          refine rc_l (Af := fun φ => [.long (gl h97 5 i0 3), .long x103]) X hW hS ⟨Nat.zero_le _, Nat.zero_le _⟩ (rn_S (As := [.long (gl h97 5 i0 3), .long x103]) (rest := [.ref (φ 5 i0)]) X hW hS cw_5_59 ⟨Nat.le_of_ble_eq_true rfl, Nat.le_of_ble_eq_true rfl⟩ rfl hl.1 rfl (Nat.le_of_ble_eq_true rfl) dX5_layAll_157) (ok_J_minl (gl h97 5 i0 3) x103 e106) (fun H locs hW hS => ?_)
          refine r_putl X hW hS (gq g98 al_0) fp_5_55 dX5_layAll_160 (fun H locs hW hS => ?_)
          obtain ⟨h108, e109, hF⟩ := nmx hF
          have hW := nmW e109 hW
          have g110 : h108.2.2 = h.2.2 := by rw [e109]; exact g98
          obtain ⟨x111, e112, hF⟩ := nmx hF
          refine lv_iinc (v := x111) (lv' := [(5, .int x111), (0, .ref (φ 5 i0)), (4, .int x8)]) hx hb dX5_layAll_163 hl (k := 2) rfl (by rw [e112]; rfl) (by decide) rfl (fun ls hl => ?_)
          refine lv_goto (tgt := 138) hx hb dX5_layAll_166 (by decide) ?_
          obtain rfl := sj hF
          exact hK _ _ _ (wdW (sq g110 g95) hW) hS (lv_sub hl [1, 2, 0] rfl)
      · intro H locs ls hW hS hl
        obtain ⟨d117, rfl⟩ : ∃ z, z = q114 := ⟨_, rfl⟩
        obtain ⟨h118, e120, hF⟩ := nmx hF
        have hW := nmW e120 hW
        have g119 : h118.2.2 = h.2.2 := by rw [e120]; exact g95
        have hl : lv_has ls 7 [] := hl
        obtain rfl := sj hF
        exact hfin _ _ _ _ (wdW g119 hW) hS dX5_layAll_169
def F_X5_laidCount (i0 : Nat) (h : HP) : Option (Int32) :=
  (dzl (gl h 5 i0 3) 154922431942656).bind fun x1 =>
  some ((gi h 5 i0 2) - (x1).toInt32)
set_option maxHeartbeats 4000000 in
set_option maxRecDepth 100000 in
theorem ok_X5_laidCount {l : Launch} {D : va_G} {cA : Nat → ClassId} {h : HP} {r : Int32}  (i0 : Nat) (al_0 : i0 < gn h 5) (hF : F_X5_laidCount i0 h = some r) : MI l D cA yX5_laidCount cX5_laidCount 1 (some .int) 0 0 (fun φ => [.ref (φ 5 i0)]) h r h := by
  refine mk_I (plainFor_of_name (by decide)) (fun φ => Nat.le_of_ble_eq_true rfl) ?_
  intro p e s m args below meth c ls φ A Q X hW hS hl hfin
  have hx := X.1
  have hb := X.2.1
  have hl : lv_has ls 1 [(0, .ref (φ 5 i0))] := hl
  unfold F_X5_laidCount at hF
  refine lv_aload_n hx hb dX5_laidCount_0 rfl (lv_at hl 0 rfl) ?_
  refine r_geti X hW al_0 fl_5_24 dX5_laidCount_1 ?_
  refine lv_aload_n hx hb dX5_laidCount_4 rfl (lv_at hl 0 rfl) ?_
  refine r_getl X hW al_0 fl_5_55 dX5_laidCount_5 ?_
  refine lv_ldc2 (v := 154922431942656) hx hb X.2.2.2.1 (X.2.2.2.2.1 _ (AL_of 653 (by decide +kernel) rfl)) dX5_laidCount_8 ?_
  obtain ⟨x1, e2, hF⟩ := bn hF
  obtain ⟨b3, e2⟩ := dzl_s e2
  refine lv_ldiv hx hb dX5_laidCount_11 b3 ?_
  refine nml e2 ?_
  refine lv_l2i (v := (x1).toInt32) hx hb dX5_laidCount_12 rfl ?_
  refine lv_isub hx hb dX5_laidCount_13 ?_
  obtain rfl := sj hF
  exact hfin _ _ _ _ hW hS dX5_laidCount_14
def F_X5_differences (i0 : Nat) (h : HP) : Option (Int32) :=
  (rzl (gl h 5 i0 3) 154922431942656).bind fun x1 =>
  (dzl x1 37822859361).bind fun x4 =>
  some ((x4).toInt32)
set_option maxHeartbeats 4000000 in
set_option maxRecDepth 100000 in
theorem ok_X5_differences {l : Launch} {D : va_G} {cA : Nat → ClassId} {h : HP} {r : Int32}  (i0 : Nat) (al_0 : i0 < gn h 5) (hF : F_X5_differences i0 h = some r) : MI l D cA yX5_differences cX5_differences 1 (some .int) 0 0 (fun φ => [.ref (φ 5 i0)]) h r h := by
  refine mk_I (plainFor_of_name (by decide)) (fun φ => Nat.le_of_ble_eq_true rfl) ?_
  intro p e s m args below meth c ls φ A Q X hW hS hl hfin
  have hx := X.1
  have hb := X.2.1
  have hl : lv_has ls 1 [(0, .ref (φ 5 i0))] := hl
  unfold F_X5_differences at hF
  refine lv_aload_n hx hb dX5_differences_0 rfl (lv_at hl 0 rfl) ?_
  refine r_getl X hW al_0 fl_5_55 dX5_differences_1 ?_
  refine lv_ldc2 (v := 154922431942656) hx hb X.2.2.2.1 (X.2.2.2.2.1 _ (AL_of 653 (by decide +kernel) rfl)) dX5_differences_4 ?_
  obtain ⟨x1, e2, hF⟩ := bn hF
  obtain ⟨b3, e2⟩ := rzl_s e2
  refine lv_lrem hx hb dX5_differences_7 b3 ?_
  refine nml e2 ?_
  refine lv_ldc2 (v := 37822859361) hx hb X.2.2.2.1 (X.2.2.2.2.1 _ (AL_of 670 (by decide +kernel) rfl)) dX5_differences_8 ?_
  obtain ⟨x4, e5, hF⟩ := bn hF
  obtain ⟨b6, e5⟩ := dzl_s e5
  refine lv_ldiv hx hb dX5_differences_11 b6 ?_
  refine nml e5 ?_
  refine lv_l2i (v := (x4).toInt32) hx hb dX5_differences_12 rfl ?_
  obtain rfl := sj hF
  exact hfin _ _ _ _ hW hS dX5_differences_13
def F_X11_laying (i0 : Nat) (a1 : Int32) (h : HP) : Option (Int32 × DP) :=
  (F_X11_isFrom a1 0 1).bind fun x2 =>
  (if x2 = 0 then
  some ((-2), dp h)
  else
  (gr h 11 i0 7).bind fun o3 =>
  (gr h 11 i0 5).bind fun o6 =>
  (gr h 11 i0 3).bind fun o9 =>
  (F_X5_layAll o3 o6 (gi h 11 i0 6) o9 h).bind fun d16 => nm (wd h d16) fun h13 =>
  (if a1 = 0 then
  (gr h13 11 i0 7).bind fun o22 =>
  (F_X5_laidCount o22 h13).bind fun x26 =>
  some (x26, dp h13)
  else
  (gr h13 11 i0 7).bind fun o17 =>
  (F_X5_differences o17 h13).bind fun x21 =>
  some (x21, dp h13)))
set_option maxHeartbeats 4000000 in
set_option maxRecDepth 100000 in
theorem ok_X11_laying {l : Launch} {D : va_G} {cA : Nat → ClassId} {h : HP} {r : Int32} {d : DP} (i0 : Nat) (a1 : Int32) (al_0 : i0 < gn h 11) (hF : F_X11_laying i0 a1 h = some (r, d)) : MI l D cA yX11_laying cX11_laying 2 (some .int) 5 119 (fun φ => [.ref (φ 11 i0), .int a1]) h r (wd h d) := by
  refine mk_I (plainFor_of_name (by decide)) (fun φ => Nat.le_of_ble_eq_true rfl) ?_
  intro p e s m args below meth c ls φ A Q X hW hS hl hfin
  have hx := X.1
  have hb := X.2.1
  have hl : lv_has ls 2 [(0, .ref (φ 11 i0)), (1, .int a1)] := hl
  unfold F_X11_laying at hF
  refine lv_iload_n hx hb dX11_laying_0 rfl (lv_at hl 1 rfl) ?_
  refine lv_iconst (v := 0) hx hb dX11_laying_1 (by decide) ?_
  refine lv_iconst (v := 1) hx hb dX11_laying_2 (by decide) ?_
  obtain ⟨x2, e1, hF⟩ := bn hF
  refine rc_i (Af := fun φ => [.int a1, .int 0, .int 1]) X hW hS ⟨Nat.zero_le _, Nat.zero_le _⟩ (rn_S (As := [.int a1, .int 0, .int 1]) (rest := []) X hW hS cw_11_81 ⟨Nat.le_of_ble_eq_true rfl, Nat.le_of_ble_eq_true rfl⟩ rfl hl.1 rfl (Nat.le_of_ble_eq_true rfl) dX11_laying_3) (ok_X11_isFrom a1 0 1 e1) (fun H locs hW hS => ?_)
  refine lv_if_ne (tgt := 12) hx hb dX11_laying_6 (by decide) (fun c28 => ?_) (fun c28 => ?_)
  · have hF := ie c28 hF
    refine lv_aload_n hx hb dX11_laying_12 rfl (lv_at hl 0 rfl) ?_
    obtain ⟨o3, e4, hF⟩ := bn hF
    refine r_getr X hW al_0 fl_11_36 e4 dX11_laying_13 (fun al5 => ?_)
    refine lv_aload_n hx hb dX11_laying_16 rfl (lv_at hl 0 rfl) ?_
    obtain ⟨o6, e7, hF⟩ := bn hF
    refine r_getr X hW al_0 fl_11_29 e7 dX11_laying_17 (fun al8 => ?_)
    refine lv_aload_n hx hb dX11_laying_20 rfl (lv_at hl 0 rfl) ?_
    refine r_geti X hW al_0 fl_11_223 dX11_laying_21 ?_
    refine lv_aload_n hx hb dX11_laying_24 rfl (lv_at hl 0 rfl) ?_
    obtain ⟨o9, e10, hF⟩ := bn hF
    refine r_getr X hW al_0 fl_11_16 e10 dX11_laying_25 (fun al11 => ?_)
    obtain ⟨d16, e12, hF⟩ := bn hF
    refine rc_v (Af := fun φ => [.ref (φ 5 o3), .ref (φ 42 o6), .int (gi h 11 i0 6), .ref (φ 2 o9)]) X hW hS ⟨Nat.zero_le _, Nat.zero_le _⟩ (rn_V (As := [.ref (φ 42 o6), .int (gi h 11 i0 6), .ref (φ 2 o9)]) (rest := []) X hW hS cw_11_240 al5 rfl rfl rfl ⟨Nat.le_of_ble_eq_true rfl, Nat.le_of_ble_eq_true rfl⟩ rfl hl.1 rfl (Nat.le_of_ble_eq_true rfl) dX11_laying_28) (ok_X5_layAll o3 o6 (gi h 11 i0 6) o9 al5 al8 al11 e12) (fun H locs hW hS => ?_)
    obtain ⟨h13, e15, hF⟩ := nmx hF
    have hW := nmW e15 hW
    have g14 : h13.2.2 = h.2.2 := by rw [e15]; exact rfl
    refine lv_iload_n hx hb dX11_laying_31 rfl (lv_at hl 1 rfl) ?_
    refine lv_if_ne (tgt := 45) hx hb dX11_laying_32 (by decide) (fun c27 => ?_) (fun c27 => ?_)
    · have hF := ie c27 hF
      refine lv_aload_n hx hb dX11_laying_45 rfl (lv_at hl 0 rfl) ?_
      obtain ⟨o17, e18, hF⟩ := bn hF
      refine r_getr X hW (gq g14 al_0) fl_11_36 e18 dX11_laying_46 (fun al19 => ?_)
      have al19 := qg g14 al19
      obtain ⟨x21, e20, hF⟩ := bn hF
      refine rc_i (Af := fun φ => [.ref (φ 5 o17)]) X hW hS ⟨Nat.zero_le _, Nat.zero_le _⟩ (rn_V (As := []) (rest := []) X hW hS cw_11_247 (gq g14 al19) rfl rfl rfl ⟨Nat.le_of_ble_eq_true rfl, Nat.le_of_ble_eq_true rfl⟩ rfl hl.1 rfl (Nat.le_of_ble_eq_true rfl) dX11_laying_49) (ok_X5_differences o17 (gq g14 al19) e20) (fun H locs hW hS => ?_)
      obtain ⟨rfl, rfl⟩ := sj2 hF
      exact hfin _ _ _ _ (wdW g14 hW) hS dX11_laying_52
    · have hF := it c27 hF
      refine lv_aload_n hx hb dX11_laying_35 rfl (lv_at hl 0 rfl) ?_
      obtain ⟨o22, e23, hF⟩ := bn hF
      refine r_getr X hW (gq g14 al_0) fl_11_36 e23 dX11_laying_36 (fun al24 => ?_)
      have al24 := qg g14 al24
      obtain ⟨x26, e25, hF⟩ := bn hF
      refine rc_i (Af := fun φ => [.ref (φ 5 o22)]) X hW hS ⟨Nat.zero_le _, Nat.zero_le _⟩ (rn_V (As := []) (rest := []) X hW hS cw_11_244 (gq g14 al24) rfl rfl rfl ⟨Nat.le_of_ble_eq_true rfl, Nat.le_of_ble_eq_true rfl⟩ rfl hl.1 rfl (Nat.le_of_ble_eq_true rfl) dX11_laying_39) (ok_X5_laidCount o22 (gq g14 al24) e25) (fun H locs hW hS => ?_)
      refine lv_goto (tgt := 52) hx hb dX11_laying_42 (by decide) ?_
      obtain ⟨rfl, rfl⟩ := sj2 hF
      exact hfin _ _ _ _ (wdW g14 hW) hS dX11_laying_52
  · have hF := it c28 hF
    refine lv_bipush (v := (-2)) hx hb dX11_laying_9 (by decide) ?_
    obtain ⟨rfl, rfl⟩ := sj2 hF
    exact hfin _ _ _ _ (wdW rfl hW) hS dX11_laying_11
def B_X5_bellOf_9 (a1 : Int32) (h : HP) (q : Int64 × Int32) : Option ((Int64 × Int32) ⊕ (Int64)) :=
  u2 q fun x3 x4 =>
  (if x4 ≤ a1 then
  some (.inr x3)
  else
  (dzl x3 21).bind fun x5 =>
  nm (x4 + (-1)) fun x8 =>
  some (.inl (x5, x8)))
def F_X5_bellOf (i0 : Nat) (a1 : Int32) (h : HP) : Option (Int32) :=
  nm ((gl h 5 i0 3)) fun x1 =>
  (loopN LF (B_X5_bellOf_9 a1 h) (x1, 7)).bind fun x13 =>
  (rzl x13 21).bind fun x14 =>
  nm ((x14).toInt32) fun x17 =>
  (if x17 = 20 then
  some (-1)
  else
  some x17)
set_option maxHeartbeats 4000000 in
set_option maxRecDepth 100000 in
theorem ok_X5_bellOf {l : Launch} {D : va_G} {cA : Nat → ClassId} {h : HP} {r : Int32}  (i0 : Nat) (a1 : Int32) (al_0 : i0 < gn h 5) (hF : F_X5_bellOf i0 a1 h = some r) : MI l D cA yX5_bellOf cX5_bellOf 5 (some .int) 0 0 (fun φ => [.ref (φ 5 i0), .int a1]) h r h := by
  refine mk_I (plainFor_of_name (by decide)) (fun φ => Nat.le_of_ble_eq_true rfl) ?_
  intro p e s m args below meth c ls φ A Q X hW hS hl hfin
  have hx := X.1
  have hb := X.2.1
  have hl : lv_has ls 5 [(0, .ref (φ 5 i0)), (1, .int a1)] := hl
  unfold F_X5_bellOf at hF
  refine lv_aload_n hx hb dX5_bellOf_0 rfl (lv_at hl 0 rfl) ?_
  refine r_getl X hW al_0 fl_5_55 dX5_bellOf_1 ?_
  obtain ⟨x1, e2, hF⟩ := nmx hF
  refine nml e2 ?_
  refine lv_lstore_n (lv' := [(2, .long x1), (0, .ref (φ 5 i0)), (1, .int a1)]) hx hb dX5_bellOf_4 rfl hl (by decide) rfl (fun ls hl => ?_)
  refine lv_bipush (v := 7) hx hb dX5_bellOf_5 (by decide) ?_
  refine lv_istore (lv' := [(4, .int 7), (2, .long x1), (0, .ref (φ 5 i0)), (1, .int a1)]) hx hb dX5_bellOf_7 hl (by decide) rfl (fun ls hl => ?_)
  obtain ⟨q11, e12, hF⟩ := bn hF
  refine loop_w (f := B_X5_bellOf_9 a1 h) (Z := fun q => ∀ (H : Heap) (locs : List Loc) (ls : Array Slot), HW D cA A φ h H → va_S A s.heap H locs → lv_has ls 5 [(1, .int a1), (2, .long (q.1)), (4, .int (q.2))] → W p l e (rmo 0 0 0 0) s m args below meth c H locs 0 0 Q (F0 m 9 ls [])) (K := fun q => ∀ (H : Heap) (locs : List Loc) (ls : Array Slot), HW D cA A φ h H → va_S A s.heap H locs → lv_has ls 5 [(2, .long q)] → W p l e (rmo 0 0 0 0) s m args below meth c H locs 0 0 Q (F0 m 27 ls [])) ?_ LF _ q11 e12 ?_ _ _ _ hW hS (lv_sub hl [3, 1, 0] rfl)
  · intro q v hF hK H locs ls hW hS hl
    obtain ⟨x3, x4⟩ := q
    unfold B_X5_bellOf_9 at hF
    have hF := u2d hF
    have hl : lv_has ls 5 [(1, .int a1), (2, .long x3), (4, .int x4)] := hl
    refine lv_iload hx hb dX5_bellOf_9 (lv_at hl 2 rfl) ?_
    refine lv_iload_n hx hb dX5_bellOf_11 rfl (lv_at hl 0 rfl) ?_
    refine lv_icmp_le (tgt := 27) hx hb dX5_bellOf_12 (by decide) (fun c10 => ?_) (fun c10 => ?_)
    · have hF := it c10 hF
      obtain rfl := sj hF
      exact hK _ _ _ hW hS (lv_sub hl [1] rfl)
    · have hF := ie c10 hF
      refine lv_lload_n hx hb dX5_bellOf_15 rfl (lv_at hl 1 rfl) ?_
      refine lv_ldc2 (v := 21) hx hb X.2.2.2.1 (X.2.2.2.2.1 _ (AL_of 690 (by decide +kernel) rfl)) dX5_bellOf_16 ?_
      obtain ⟨x5, e6, hF⟩ := bn hF
      obtain ⟨b7, e6⟩ := dzl_s e6
      refine lv_ldiv hx hb dX5_bellOf_19 b7 ?_
      refine nml e6 ?_
      refine lv_lstore_n (lv' := [(2, .long x5), (1, .int a1), (4, .int x4)]) hx hb dX5_bellOf_20 rfl hl (by decide) rfl (fun ls hl => ?_)
      obtain ⟨x8, e9, hF⟩ := nmx hF
      refine lv_iinc (v := x8) (lv' := [(4, .int x8), (2, .long x5), (1, .int a1)]) hx hb dX5_bellOf_21 hl (k := 2) rfl (by rw [e9]; rfl) (by decide) rfl (fun ls hl => ?_)
      refine lv_goto (tgt := 9) hx hb dX5_bellOf_24 (by decide) ?_
      obtain rfl := sj hF
      exact hK _ _ _ hW hS (lv_sub hl [2, 1, 0] rfl)
  · intro H locs ls hW hS hl
    obtain ⟨x13, rfl⟩ : ∃ z, z = q11 := ⟨_, rfl⟩
    have hl : lv_has ls 5 [(2, .long x13)] := hl
    refine lv_lload_n hx hb dX5_bellOf_27 rfl (lv_at hl 0 rfl) ?_
    refine lv_ldc2 (v := 21) hx hb X.2.2.2.1 (X.2.2.2.2.1 _ (AL_of 690 (by decide +kernel) rfl)) dX5_bellOf_28 ?_
    obtain ⟨x14, e15, hF⟩ := bn hF
    obtain ⟨b16, e15⟩ := rzl_s e15
    refine lv_lrem hx hb dX5_bellOf_31 b16 ?_
    refine nml e15 ?_
    refine lv_l2i (v := (x14).toInt32) hx hb dX5_bellOf_32 rfl ?_
    obtain ⟨x17, e18, hF⟩ := nmx hF
    refine nmi e18 ?_
    refine lv_istore (lv' := [(4, .int x17), (2, .long x13)]) hx hb dX5_bellOf_33 hl (by decide) rfl (fun ls hl => ?_)
    refine lv_iload hx hb dX5_bellOf_35 (lv_at hl 0 rfl) ?_
    refine lv_bipush (v := 20) hx hb dX5_bellOf_37 (by decide) ?_
    refine lv_icmp_ne (tgt := 46) hx hb dX5_bellOf_39 (by decide) (fun c19 => ?_) (fun c19 => ?_)
    · have hF := ie c19 hF
      refine lv_iload hx hb dX5_bellOf_46 (lv_at hl 0 rfl) ?_
      obtain rfl := sj hF
      exact hfin _ _ _ _ hW hS dX5_bellOf_48
    · have hF := it c19 hF
      refine lv_iconst (v := (-1)) hx hb dX5_bellOf_42 (by decide) ?_
      refine lv_goto (tgt := 48) hx hb dX5_bellOf_43 (by decide) ?_
      obtain rfl := sj hF
      exact hfin _ _ _ _ hW hS dX5_bellOf_48
def F_X11_laid (i0 : Nat) (a1 : Int32) (h : HP) : Option (Int32 × DP) :=
  (F_X11_isUnnamed i0 a1 h).bind fun x2 =>
  (if x2 = 0 then
  some ((-2), dp h)
  else
  (gr h 11 i0 7).bind fun o3 =>
  (gr h 11 i0 5).bind fun o6 =>
  (gr h 11 i0 3).bind fun o9 =>
  (F_X5_layAll o3 o6 (gi h 11 i0 6) o9 h).bind fun d16 => nm (wd h d16) fun h13 =>
  (gr h13 11 i0 7).bind fun o17 =>
  (F_X5_bellOf o17 a1 h13).bind fun x21 =>
  some (x21, dp h13))
set_option maxHeartbeats 4000000 in
set_option maxRecDepth 100000 in
theorem ok_X11_laid {l : Launch} {D : va_G} {cA : Nat → ClassId} {h : HP} {r : Int32} {d : DP} (i0 : Nat) (a1 : Int32) (al_0 : i0 < gn h 11) (hF : F_X11_laid i0 a1 h = some (r, d)) : MI l D cA yX11_laid cX11_laid 2 (some .int) 5 119 (fun φ => [.ref (φ 11 i0), .int a1]) h r (wd h d) := by
  refine mk_I (plainFor_of_name (by decide)) (fun φ => Nat.le_of_ble_eq_true rfl) ?_
  intro p e s m args below meth c ls φ A Q X hW hS hl hfin
  have hx := X.1
  have hb := X.2.1
  have hl : lv_has ls 2 [(0, .ref (φ 11 i0)), (1, .int a1)] := hl
  unfold F_X11_laid at hF
  refine lv_aload_n hx hb dX11_laid_0 rfl (lv_at hl 0 rfl) ?_
  refine lv_iload_n hx hb dX11_laid_1 rfl (lv_at hl 1 rfl) ?_
  obtain ⟨x2, e1, hF⟩ := bn hF
  refine rc_i (Af := fun φ => [.ref (φ 11 i0), .int a1]) X hW hS ⟨Nat.zero_le _, Nat.zero_le _⟩ (rn_V (As := [.int a1]) (rest := []) X hW hS cw_11_230 al_0 rfl rfl rfl ⟨Nat.le_of_ble_eq_true rfl, Nat.le_of_ble_eq_true rfl⟩ rfl hl.1 rfl (Nat.le_of_ble_eq_true rfl) dX11_laid_2) (ok_X11_isUnnamed i0 a1 al_0 e1) (fun H locs hW hS => ?_)
  refine lv_if_ne (tgt := 11) hx hb dX11_laid_5 (by decide) (fun c22 => ?_) (fun c22 => ?_)
  · have hF := ie c22 hF
    refine lv_aload_n hx hb dX11_laid_11 rfl (lv_at hl 0 rfl) ?_
    obtain ⟨o3, e4, hF⟩ := bn hF
    refine r_getr X hW al_0 fl_11_36 e4 dX11_laid_12 (fun al5 => ?_)
    refine lv_aload_n hx hb dX11_laid_15 rfl (lv_at hl 0 rfl) ?_
    obtain ⟨o6, e7, hF⟩ := bn hF
    refine r_getr X hW al_0 fl_11_29 e7 dX11_laid_16 (fun al8 => ?_)
    refine lv_aload_n hx hb dX11_laid_19 rfl (lv_at hl 0 rfl) ?_
    refine r_geti X hW al_0 fl_11_223 dX11_laid_20 ?_
    refine lv_aload_n hx hb dX11_laid_23 rfl (lv_at hl 0 rfl) ?_
    obtain ⟨o9, e10, hF⟩ := bn hF
    refine r_getr X hW al_0 fl_11_16 e10 dX11_laid_24 (fun al11 => ?_)
    obtain ⟨d16, e12, hF⟩ := bn hF
    refine rc_v (Af := fun φ => [.ref (φ 5 o3), .ref (φ 42 o6), .int (gi h 11 i0 6), .ref (φ 2 o9)]) X hW hS ⟨Nat.zero_le _, Nat.zero_le _⟩ (rn_V (As := [.ref (φ 42 o6), .int (gi h 11 i0 6), .ref (φ 2 o9)]) (rest := []) X hW hS cw_11_240 al5 rfl rfl rfl ⟨Nat.le_of_ble_eq_true rfl, Nat.le_of_ble_eq_true rfl⟩ rfl hl.1 rfl (Nat.le_of_ble_eq_true rfl) dX11_laid_27) (ok_X5_layAll o3 o6 (gi h 11 i0 6) o9 al5 al8 al11 e12) (fun H locs hW hS => ?_)
    obtain ⟨h13, e15, hF⟩ := nmx hF
    have hW := nmW e15 hW
    have g14 : h13.2.2 = h.2.2 := by rw [e15]; exact rfl
    refine lv_aload_n hx hb dX11_laid_30 rfl (lv_at hl 0 rfl) ?_
    obtain ⟨o17, e18, hF⟩ := bn hF
    refine r_getr X hW (gq g14 al_0) fl_11_36 e18 dX11_laid_31 (fun al19 => ?_)
    have al19 := qg g14 al19
    refine lv_iload_n hx hb dX11_laid_34 rfl (lv_at hl 1 rfl) ?_
    obtain ⟨x21, e20, hF⟩ := bn hF
    refine rc_i (Af := fun φ => [.ref (φ 5 o17), .int a1]) X hW hS ⟨Nat.zero_le _, Nat.zero_le _⟩ (rn_V (As := [.int a1]) (rest := []) X hW hS cw_11_250 (gq g14 al19) rfl rfl rfl ⟨Nat.le_of_ble_eq_true rfl, Nat.le_of_ble_eq_true rfl⟩ rfl hl.1 rfl (Nat.le_of_ble_eq_true rfl) dX11_laid_35) (ok_X5_bellOf o17 a1 (gq g14 al19) e20) (fun H locs hW hS => ?_)
    obtain ⟨rfl, rfl⟩ := sj2 hF
    exact hfin _ _ _ _ (wdW g14 hW) hS dX11_laid_38
  · have hF := it c22 hF
    refine lv_bipush (v := (-2)) hx hb dX11_laid_8 (by decide) ?_
    obtain ⟨rfl, rfl⟩ := sj2 hF
    exact hfin _ _ _ _ (wdW rfl hW) hS dX11_laid_10
def J_X11_tune_32 (i0 : Nat) (a1 : Int32) (a2 : Int32) (hj32 : HP) : Option (Int32 × DP) :=
  (if a1 = 1 then
  (F_X11_isFrom a2 0 4095).bind fun x2 =>
  (if x2 = 0 then
  some ((-2), dp hj32)
  else
  (gr hj32 11 i0 8).bind fun o3 =>
  nm ((gi hj32 7 o3 1)) fun x6 =>
  (gr hj32 11 i0 8).bind fun o8 =>
  nm (si hj32 7 o8 1 a2) fun h11 =>
  some (x6, dp h11))
  else
  some ((-2), dp hj32))
def F_X11_tune (i0 : Nat) (a1 : Int32) (a2 : Int32) (h : HP) : Option (Int32 × DP) :=
  (if a1 = 0 then
  (F_X11_isFrom a2 0 49).bind fun x17 =>
  (if x17 = 0 then
  J_X11_tune_32 i0 a1 a2 h
  else
  (gr h 11 i0 8).bind fun o18 =>
  nm ((gi h 7 o18 0)) fun x21 =>
  (gr h 11 i0 8).bind fun o23 =>
  nm (si h 7 o23 0 a2) fun h26 =>
  some (x21, dp h26))
  else
  J_X11_tune_32 i0 a1 a2 h)
set_option maxHeartbeats 4000000 in
set_option maxRecDepth 100000 in
theorem ok_X11_tune {l : Launch} {D : va_G} {cA : Nat → ClassId} {h : HP} {r : Int32} {d : DP} (i0 : Nat) (a1 : Int32) (a2 : Int32) (al_0 : i0 < gn h 11) (hF : F_X11_tune i0 a1 a2 h = some (r, d)) : MI l D cA yX11_tune cX11_tune 4 (some .int) 1 22 (fun φ => [.ref (φ 11 i0), .int a1, .int a2]) h r (wd h d) := by
  refine mk_I (plainFor_of_name (by decide)) (fun φ => Nat.le_of_ble_eq_true rfl) ?_
  intro p e s m args below meth c ls φ A Q X hW hS hl hfin
  have hx := X.1
  have hb := X.2.1
  have hl : lv_has ls 4 [(0, .ref (φ 11 i0)), (1, .int a1), (2, .int a2)] := hl
  unfold F_X11_tune at hF
  have j_32 : ∀ (hj32 : HP) (H : Heap) (locs : List Loc) (ls : Array Slot), hj32.2.2 = h.2.2 → J_X11_tune_32 i0 a1 a2 hj32 = some (r, d) → HW D cA A φ hj32 H → va_S A s.heap H locs → lv_has ls 4 [(0, .ref (φ 11 i0)), (1, .int a1), (2, .int a2)] → W p l e (rmo 1 22 0 0) s m args below meth c H locs 0 0 Q (F0 m 32 ls []) := by
    intro hj32 H locs ls gj32 hF hW hS hl
    unfold J_X11_tune_32 at hF
    refine lv_iload_n hx hb dX11_tune_32 rfl (lv_at hl 1 rfl) ?_
    refine lv_iconst (v := 1) hx hb dX11_tune_33 (by decide) ?_
    refine lv_icmp_ne (tgt := 66) hx hb dX11_tune_34 (by decide) (fun c15 => ?_) (fun c15 => ?_)
    · have hF := ie c15 hF
      refine lv_bipush (v := (-2)) hx hb dX11_tune_66 (by decide) ?_
      obtain ⟨rfl, rfl⟩ := sj2 hF
      exact hfin _ _ _ _ (wdW gj32 hW) hS dX11_tune_68
    · have hF := it c15 hF
      refine lv_iload_n hx hb dX11_tune_37 rfl (lv_at hl 2 rfl) ?_
      refine lv_iconst (v := 0) hx hb dX11_tune_38 (by decide) ?_
      refine lv_sipush (v := 4095) hx hb dX11_tune_39 (by decide) ?_
      obtain ⟨x2, e1, hF⟩ := bn hF
      refine rc_i (Af := fun φ => [.int a2, .int 0, .int 4095]) X hW hS ⟨Nat.zero_le _, Nat.zero_le _⟩ (rn_S (As := [.int a2, .int 0, .int 4095]) (rest := []) X hW hS cw_11_81 ⟨Nat.le_of_ble_eq_true rfl, Nat.le_of_ble_eq_true rfl⟩ rfl hl.1 rfl (Nat.le_of_ble_eq_true rfl) dX11_tune_42) (ok_X11_isFrom a2 0 4095 e1) (fun H locs hW hS => ?_)
      refine lv_if_eq (tgt := 66) hx hb dX11_tune_45 (by decide) (fun c14 => ?_) (fun c14 => ?_)
      · have hF := it c14 hF
        refine lv_bipush (v := (-2)) hx hb dX11_tune_66 (by decide) ?_
        obtain ⟨rfl, rfl⟩ := sj2 hF
        exact hfin _ _ _ _ (wdW gj32 hW) hS dX11_tune_68
      · have hF := ie c14 hF
        refine lv_aload_n hx hb dX11_tune_48 rfl (lv_at hl 0 rfl) ?_
        obtain ⟨o3, e4, hF⟩ := bn hF
        refine r_getr X hW (gq gj32 al_0) fl_11_43 e4 dX11_tune_49 (fun al5 => ?_)
        have al5 := qg gj32 al5
        refine r_geti X hW (gq gj32 al5) fl_11_256 dX11_tune_52 ?_
        obtain ⟨x6, e7, hF⟩ := nmx hF
        refine nmi e7 ?_
        refine lv_istore_n (lv' := [(3, .int x6), (0, .ref (φ 11 i0)), (1, .int a1), (2, .int a2)]) hx hb dX11_tune_55 rfl hl (by decide) rfl (fun ls hl => ?_)
        refine lv_aload_n hx hb dX11_tune_56 rfl (lv_at hl 1 rfl) ?_
        obtain ⟨o8, e9, hF⟩ := bn hF
        refine r_getr X hW (gq gj32 al_0) fl_11_43 e9 dX11_tune_57 (fun al10 => ?_)
        have al10 := qg gj32 al10
        refine lv_iload_n hx hb dX11_tune_60 rfl (lv_at hl 3 rfl) ?_
        refine r_puti X hW hS (gq gj32 al10) fp_11_256 rfl rfl dX11_tune_61 (fun H locs hW hS => ?_)
        obtain ⟨h11, e12, hF⟩ := nmx hF
        have hW := nmW e12 hW
        have g13 : h11.2.2 = h.2.2 := by rw [e12]; exact gj32
        refine lv_iload_n hx hb dX11_tune_64 rfl (lv_at hl 0 rfl) ?_
        obtain ⟨rfl, rfl⟩ := sj2 hF
        exact hfin _ _ _ _ (wdW g13 hW) hS dX11_tune_65
  refine lv_iload_n hx hb dX11_tune_0 rfl (lv_at hl 1 rfl) ?_
  refine lv_if_ne (tgt := 32) hx hb dX11_tune_1 (by decide) (fun c30 => ?_) (fun c30 => ?_)
  · have hF := ie c30 hF
    exact j_32 h _ _ _ rfl hF hW hS (lv_sub hl [0, 1, 2] rfl)
  · have hF := it c30 hF
    refine lv_iload_n hx hb dX11_tune_4 rfl (lv_at hl 2 rfl) ?_
    refine lv_iconst (v := 0) hx hb dX11_tune_5 (by decide) ?_
    refine lv_bipush (v := 49) hx hb dX11_tune_6 (by decide) ?_
    obtain ⟨x17, e16, hF⟩ := bn hF
    refine rc_i (Af := fun φ => [.int a2, .int 0, .int 49]) X hW hS ⟨Nat.zero_le _, Nat.zero_le _⟩ (rn_S (As := [.int a2, .int 0, .int 49]) (rest := []) X hW hS cw_11_81 ⟨Nat.le_of_ble_eq_true rfl, Nat.le_of_ble_eq_true rfl⟩ rfl hl.1 rfl (Nat.le_of_ble_eq_true rfl) dX11_tune_8) (ok_X11_isFrom a2 0 49 e16) (fun H locs hW hS => ?_)
    refine lv_if_eq (tgt := 32) hx hb dX11_tune_11 (by decide) (fun c29 => ?_) (fun c29 => ?_)
    · have hF := it c29 hF
      exact j_32 h _ _ _ rfl hF hW hS (lv_sub hl [0, 1, 2] rfl)
    · have hF := ie c29 hF
      refine lv_aload_n hx hb dX11_tune_14 rfl (lv_at hl 0 rfl) ?_
      obtain ⟨o18, e19, hF⟩ := bn hF
      refine r_getr X hW al_0 fl_11_43 e19 dX11_tune_15 (fun al20 => ?_)
      refine r_geti X hW al20 fl_11_253 dX11_tune_18 ?_
      obtain ⟨x21, e22, hF⟩ := nmx hF
      refine nmi e22 ?_
      refine lv_istore_n (lv' := [(3, .int x21), (0, .ref (φ 11 i0)), (1, .int a1), (2, .int a2)]) hx hb dX11_tune_21 rfl hl (by decide) rfl (fun ls hl => ?_)
      refine lv_aload_n hx hb dX11_tune_22 rfl (lv_at hl 1 rfl) ?_
      obtain ⟨o23, e24, hF⟩ := bn hF
      refine r_getr X hW al_0 fl_11_43 e24 dX11_tune_23 (fun al25 => ?_)
      refine lv_iload_n hx hb dX11_tune_26 rfl (lv_at hl 3 rfl) ?_
      refine r_puti X hW hS al25 fp_11_253 rfl rfl dX11_tune_27 (fun H locs hW hS => ?_)
      obtain ⟨h26, e27, hF⟩ := nmx hF
      have hW := nmW e27 hW
      have g28 : h26.2.2 = h.2.2 := by rw [e27]; exact rfl
      refine lv_iload_n hx hb dX11_tune_30 rfl (lv_at hl 0 rfl) ?_
      obtain ⟨rfl, rfl⟩ := sj2 hF
      exact hfin _ _ _ _ (wdW g28 hW) hS dX11_tune_31
def J_X1_rings_14 (i0 : Nat) (h : HP) : Option (Int32) :=
  (gr h 1 i0 4).bind fun o1 =>
  (ga h 20 o1 5 4).bind fun x4 =>
  (if x4 = (-1) then
  some 0
  else
  some 1)
def F_X1_rings (i0 : Nat) (h : HP) : Option (Int32) :=
  (F_X1_stateNow i0 h).bind fun x9 =>
  (if x9 = 0 then
  J_X1_rings_14 i0 h
  else
  (if x9 = 5 then
  J_X1_rings_14 i0 h
  else
  some 0))
set_option maxHeartbeats 4000000 in
set_option maxRecDepth 100000 in
theorem ok_X1_rings {l : Launch} {D : va_G} {cA : Nat → ClassId} {h : HP} {r : Int32}  (i0 : Nat) (al_0 : i0 < gn h 1) (hF : F_X1_rings i0 h = some r) : MI l D cA yX1_rings cX1_rings 2 (some .boolean) 1 20 (fun φ => [.ref (φ 1 i0)]) h r h := by
  refine mk_Z (plainFor_of_name (by decide)) (fun φ => Nat.le_of_ble_eq_true rfl) ?_
  intro p e s m args below meth c ls φ A Q X hW hS hl hfin
  have hx := X.1
  have hb := X.2.1
  have hl : lv_has ls 2 [(0, .ref (φ 1 i0))] := hl
  unfold F_X1_rings at hF
  have j_14 : ∀  (H : Heap) (locs : List Loc) (ls : Array Slot), J_X1_rings_14 i0 h = some r → HW D cA A φ h H → va_S A s.heap H locs → lv_has ls 2 [(0, .ref (φ 1 i0))] → W p l e (rmo 1 20 0 0) s m args below meth c H locs 0 0 Q (F0 m 14 ls []) := by
    intro H locs ls hF hW hS hl
    unfold J_X1_rings_14 at hF
    refine lv_aload_n hx hb dX1_rings_14 rfl (lv_at hl 0 rfl) ?_
    obtain ⟨o1, e2, hF⟩ := bn hF
    refine r_getr X hW al_0 fl_1_9 e2 dX1_rings_15 (fun al3 => ?_)
    refine lv_iconst (v := 4) hx hb dX1_rings_18 (by decide) ?_
    obtain ⟨x4, e5, hF⟩ := bn hF
    obtain ⟨b6, e5⟩ := ga_s e5
    refine r_iald X hW al3 rfl b6 dX1_rings_19 ?_
    refine nmi e5 ?_
    refine lv_iconst (v := (-1)) hx hb dX1_rings_20 (by decide) ?_
    refine lv_icmp_eq (tgt := 28) hx hb dX1_rings_21 (by decide) (fun c7 => ?_) (fun c7 => ?_)
    · have hF := it c7 hF
      refine lv_iconst (v := 0) hx hb dX1_rings_28 (by decide) ?_
      obtain rfl := sj hF
      exact hfin _ _ _ _ hW hS (Or.inl rfl) dX1_rings_29
    · have hF := ie c7 hF
      refine lv_iconst (v := 1) hx hb dX1_rings_24 (by decide) ?_
      refine lv_goto (tgt := 29) hx hb dX1_rings_25 (by decide) ?_
      obtain rfl := sj hF
      exact hfin _ _ _ _ hW hS (Or.inr rfl) dX1_rings_29
  refine lv_aload_n hx hb dX1_rings_0 rfl (lv_at hl 0 rfl) ?_
  obtain ⟨x9, e8, hF⟩ := bn hF
  refine rc_i (Af := fun φ => [.ref (φ 1 i0)]) X hW hS ⟨Nat.zero_le _, Nat.zero_le _⟩ (rn_V (As := []) (rest := []) X hW hS cw_1_46 al_0 rfl rfl rfl ⟨Nat.le_of_ble_eq_true rfl, Nat.le_of_ble_eq_true rfl⟩ rfl hl.1 rfl (Nat.le_of_ble_eq_true rfl) dX1_rings_1) (ok_X1_stateNow i0 al_0 e8) (fun H locs hW hS => ?_)
  refine lv_istore_n (lv' := [(1, .int x9), (0, .ref (φ 1 i0))]) hx hb dX1_rings_4 rfl hl (by decide) rfl (fun ls hl => ?_)
  refine lv_iload_n hx hb dX1_rings_5 rfl (lv_at hl 0 rfl) ?_
  refine lv_if_eq (tgt := 14) hx hb dX1_rings_6 (by decide) (fun c11 => ?_) (fun c11 => ?_)
  · have hF := it c11 hF
    exact j_14 _ _ _ hF hW hS (lv_sub hl [1] rfl)
  · have hF := ie c11 hF
    refine lv_iload_n hx hb dX1_rings_9 rfl (lv_at hl 0 rfl) ?_
    refine lv_iconst (v := 5) hx hb dX1_rings_10 (by decide) ?_
    refine lv_icmp_ne (tgt := 28) hx hb dX1_rings_11 (by decide) (fun c10 => ?_) (fun c10 => ?_)
    · have hF := ie c10 hF
      refine lv_iconst (v := 0) hx hb dX1_rings_28 (by decide) ?_
      obtain rfl := sj hF
      exact hfin _ _ _ _ hW hS (Or.inl rfl) dX1_rings_29
    · have hF := it c10 hF
      exact j_14 _ _ _ hF hW hS (lv_sub hl [1] rfl)
