def J_J_ntz_74 (v0_74 : Int32) (v1_74 : Int32) : Option (Int32) :=
  some (v1_74 + (ushr v0_74 1))
def J_J_ntz_62 (v0_62 : Int32) (v1_62 : Int32) : Option (Int32) :=
  (if v0_62 ≤ 4 then
  J_J_ntz_74 v0_62 v1_62
  else
  nm (v1_62 + 2) fun x1 =>
  nm ((ushr v0_62 2)) fun x3 =>
  J_J_ntz_74 x3 x1)
def J_J_ntz_49 (v0_49 : Int32) (v1_49 : Int32) : Option (Int32) :=
  (if v0_49 ≤ 16 then
  J_J_ntz_62 v0_49 v1_49
  else
  nm (v1_49 + 4) fun x6 =>
  nm ((ushr v0_49 4)) fun x8 =>
  J_J_ntz_62 x8 x6)
def J_J_ntz_34 (v0_34 : Int32) (v1_34 : Int32) : Option (Int32) :=
  (if v0_34 ≤ 256 then
  J_J_ntz_49 v0_34 v1_34
  else
  nm (v1_34 + 8) fun x11 =>
  nm ((ushr v0_34 8)) fun x13 =>
  J_J_ntz_49 x13 x11)
def F_J_ntz (a0 : Int32) : Option (Int32) :=
  nm (((a0 ^^^ (-1)) &&& (a0 - 1))) fun x16 =>
  (if 0 < x16 then
  (if x16 ≤ 65536 then
  J_J_ntz_34 x16 1
  else
  nm (1 + 16) fun x18 =>
  nm ((ushr x16 16)) fun x20 =>
  J_J_ntz_34 x20 x18)
  else
  some (x16 &&& 32))
set_option maxHeartbeats 4000000 in
set_option maxRecDepth 100000 in
theorem ok_J_ntz {l : Launch} {D : va_G} {cA : Nat → ClassId} {h : HP} {r : Int32}  (a0 : Int32)  (hF : F_J_ntz a0 = some r) : MI l D cA yJ_ntz cJ_ntz 2 (some .int) 0 0 (fun φ => [.int a0]) h r h := by
  refine mk_I (by decide +kernel) (fun φ => Nat.le_of_ble_eq_true rfl) ?_
  intro p e s m args below meth c ls φ A Q X hW hS hl hfin
  have hx := X.1
  have hb := X.2.1
  have hl : lv_has ls 2 [(0, .int a0)] := hl
  unfold F_J_ntz at hF
  have j_74 : ∀ (v0_74 : Int32) (v1_74 : Int32) (H : Heap) (locs : List Loc) (ls : Array Slot), J_J_ntz_74 v0_74 v1_74 = some r → HW D cA A φ h H → va_S A s.heap H locs → lv_has ls 2 [(0, .int v0_74), (1, .int v1_74)] → W p l e (rmo 0 0 0 0) s m args below meth c H locs 0 0 Q (F0 m 74 ls []) := by
    intro v0_74 v1_74 H locs ls hF hW hS hl
    unfold J_J_ntz_74 at hF
    refine lv_iload_n hx hb dJ_ntz_74 rfl (lv_at hl 1 rfl) ?_
    refine lv_iload_n hx hb dJ_ntz_75 rfl (lv_at hl 0 rfl) ?_
    refine lv_iconst (v := 1) hx hb dJ_ntz_76 (by decide) ?_
    refine lv_iushr (v := (ushr v0_74 1)) hx hb dJ_ntz_77 rfl ?_
    refine lv_iadd hx hb dJ_ntz_78 ?_
    obtain rfl := sj hF
    exact hfin _ _ _ _ hW hS dJ_ntz_79
  have j_62 : ∀ (v0_62 : Int32) (v1_62 : Int32) (H : Heap) (locs : List Loc) (ls : Array Slot), J_J_ntz_62 v0_62 v1_62 = some r → HW D cA A φ h H → va_S A s.heap H locs → lv_has ls 2 [(0, .int v0_62), (1, .int v1_62)] → W p l e (rmo 0 0 0 0) s m args below meth c H locs 0 0 Q (F0 m 62 ls []) := by
    intro v0_62 v1_62 H locs ls hF hW hS hl
    unfold J_J_ntz_62 at hF
    refine lv_iload_n hx hb dJ_ntz_62 rfl (lv_at hl 0 rfl) ?_
    refine lv_iconst (v := 4) hx hb dJ_ntz_63 (by decide) ?_
    refine lv_icmp_le (tgt := 74) hx hb dJ_ntz_64 (by decide) (fun c5 => ?_) (fun c5 => ?_)
    · have hF := it c5 hF
      exact j_74 v0_62 v1_62 _ _ _ hF hW hS (lv_sub hl [0, 1] rfl)
    · have hF := ie c5 hF
      obtain ⟨x1, e2, hF⟩ := nmx hF
      refine lv_iinc (v := x1) (lv' := [(1, .int x1), (0, .int v0_62)]) hx hb dJ_ntz_67 hl (k := 1) rfl (by rw [e2]; rfl) (by decide) rfl (fun ls hl => ?_)
      refine lv_iload_n hx hb dJ_ntz_70 rfl (lv_at hl 1 rfl) ?_
      refine lv_iconst (v := 2) hx hb dJ_ntz_71 (by decide) ?_
      refine lv_iushr (v := (ushr v0_62 2)) hx hb dJ_ntz_72 rfl ?_
      obtain ⟨x3, e4, hF⟩ := nmx hF
      refine nmi e4 ?_
      refine lv_istore_n (lv' := [(0, .int x3), (1, .int x1)]) hx hb dJ_ntz_73 rfl hl (by decide) rfl (fun ls hl => ?_)
      exact j_74 x3 x1 _ _ _ hF hW hS (lv_sub hl [0, 1] rfl)
  have j_49 : ∀ (v0_49 : Int32) (v1_49 : Int32) (H : Heap) (locs : List Loc) (ls : Array Slot), J_J_ntz_49 v0_49 v1_49 = some r → HW D cA A φ h H → va_S A s.heap H locs → lv_has ls 2 [(0, .int v0_49), (1, .int v1_49)] → W p l e (rmo 0 0 0 0) s m args below meth c H locs 0 0 Q (F0 m 49 ls []) := by
    intro v0_49 v1_49 H locs ls hF hW hS hl
    unfold J_J_ntz_49 at hF
    refine lv_iload_n hx hb dJ_ntz_49 rfl (lv_at hl 0 rfl) ?_
    refine lv_bipush (v := 16) hx hb dJ_ntz_50 (by decide) ?_
    refine lv_icmp_le (tgt := 62) hx hb dJ_ntz_52 (by decide) (fun c10 => ?_) (fun c10 => ?_)
    · have hF := it c10 hF
      exact j_62 v0_49 v1_49 _ _ _ hF hW hS (lv_sub hl [0, 1] rfl)
    · have hF := ie c10 hF
      obtain ⟨x6, e7, hF⟩ := nmx hF
      refine lv_iinc (v := x6) (lv' := [(1, .int x6), (0, .int v0_49)]) hx hb dJ_ntz_55 hl (k := 1) rfl (by rw [e7]; rfl) (by decide) rfl (fun ls hl => ?_)
      refine lv_iload_n hx hb dJ_ntz_58 rfl (lv_at hl 1 rfl) ?_
      refine lv_iconst (v := 4) hx hb dJ_ntz_59 (by decide) ?_
      refine lv_iushr (v := (ushr v0_49 4)) hx hb dJ_ntz_60 rfl ?_
      obtain ⟨x8, e9, hF⟩ := nmx hF
      refine nmi e9 ?_
      refine lv_istore_n (lv' := [(0, .int x8), (1, .int x6)]) hx hb dJ_ntz_61 rfl hl (by decide) rfl (fun ls hl => ?_)
      exact j_62 x8 x6 _ _ _ hF hW hS (lv_sub hl [0, 1] rfl)
  have j_34 : ∀ (v0_34 : Int32) (v1_34 : Int32) (H : Heap) (locs : List Loc) (ls : Array Slot), J_J_ntz_34 v0_34 v1_34 = some r → HW D cA A φ h H → va_S A s.heap H locs → lv_has ls 2 [(0, .int v0_34), (1, .int v1_34)] → W p l e (rmo 0 0 0 0) s m args below meth c H locs 0 0 Q (F0 m 34 ls []) := by
    intro v0_34 v1_34 H locs ls hF hW hS hl
    unfold J_J_ntz_34 at hF
    refine lv_iload_n hx hb dJ_ntz_34 rfl (lv_at hl 0 rfl) ?_
    refine lv_sipush (v := 256) hx hb dJ_ntz_35 (by decide) ?_
    refine lv_icmp_le (tgt := 49) hx hb dJ_ntz_38 (by decide) (fun c15 => ?_) (fun c15 => ?_)
    · have hF := it c15 hF
      exact j_49 v0_34 v1_34 _ _ _ hF hW hS (lv_sub hl [0, 1] rfl)
    · have hF := ie c15 hF
      obtain ⟨x11, e12, hF⟩ := nmx hF
      refine lv_iinc (v := x11) (lv' := [(1, .int x11), (0, .int v0_34)]) hx hb dJ_ntz_41 hl (k := 1) rfl (by rw [e12]; rfl) (by decide) rfl (fun ls hl => ?_)
      refine lv_iload_n hx hb dJ_ntz_44 rfl (lv_at hl 1 rfl) ?_
      refine lv_bipush (v := 8) hx hb dJ_ntz_45 (by decide) ?_
      refine lv_iushr (v := (ushr v0_34 8)) hx hb dJ_ntz_47 rfl ?_
      obtain ⟨x13, e14, hF⟩ := nmx hF
      refine nmi e14 ?_
      refine lv_istore_n (lv' := [(0, .int x13), (1, .int x11)]) hx hb dJ_ntz_48 rfl hl (by decide) rfl (fun ls hl => ?_)
      exact j_49 x13 x11 _ _ _ hF hW hS (lv_sub hl [0, 1] rfl)
  refine lv_iload_n hx hb dJ_ntz_0 rfl (lv_at hl 0 rfl) ?_
  refine lv_iconst (v := (-1)) hx hb dJ_ntz_1 (by decide) ?_
  refine lv_ixor hx hb dJ_ntz_2 ?_
  refine lv_iload_n hx hb dJ_ntz_3 rfl (lv_at hl 0 rfl) ?_
  refine lv_iconst (v := 1) hx hb dJ_ntz_4 (by decide) ?_
  refine lv_isub hx hb dJ_ntz_5 ?_
  refine lv_iand hx hb dJ_ntz_6 ?_
  obtain ⟨x16, e17, hF⟩ := nmx hF
  refine nmi e17 ?_
  refine lv_istore_n (lv' := [(0, .int x16)]) hx hb dJ_ntz_7 rfl hl (by decide) rfl (fun ls hl => ?_)
  refine lv_iload_n hx hb dJ_ntz_8 rfl (lv_at hl 0 rfl) ?_
  refine lv_if_gt (tgt := 17) hx hb dJ_ntz_9 (by decide) (fun c23 => ?_) (fun c23 => ?_)
  · have hF := it c23 hF
    refine lv_iconst (v := 1) hx hb dJ_ntz_17 (by decide) ?_
    refine lv_istore_n (lv' := [(1, .int 1), (0, .int x16)]) hx hb dJ_ntz_18 rfl hl (by decide) rfl (fun ls hl => ?_)
    refine lv_iload_n hx hb dJ_ntz_19 rfl (lv_at hl 1 rfl) ?_
    refine lv_ldcw (v := 65536) hx hb X.2.2.2.1 (X.2.2.2.2.1 _ (AL_of 802 (by decide +kernel) rfl)) dJ_ntz_20 ?_
    refine lv_icmp_le (tgt := 34) hx hb dJ_ntz_23 (by decide) (fun c22 => ?_) (fun c22 => ?_)
    · have hF := it c22 hF
      exact j_34 x16 1 _ _ _ hF hW hS (lv_sub hl [1, 0] rfl)
    · have hF := ie c22 hF
      obtain ⟨x18, e19, hF⟩ := nmx hF
      refine lv_iinc (v := x18) (lv' := [(1, .int x18), (0, .int x16)]) hx hb dJ_ntz_26 hl (k := 0) rfl (by rw [e19]; rfl) (by decide) rfl (fun ls hl => ?_)
      refine lv_iload_n hx hb dJ_ntz_29 rfl (lv_at hl 1 rfl) ?_
      refine lv_bipush (v := 16) hx hb dJ_ntz_30 (by decide) ?_
      refine lv_iushr (v := (ushr x16 16)) hx hb dJ_ntz_32 rfl ?_
      obtain ⟨x20, e21, hF⟩ := nmx hF
      refine nmi e21 ?_
      refine lv_istore_n (lv' := [(0, .int x20), (1, .int x18)]) hx hb dJ_ntz_33 rfl hl (by decide) rfl (fun ls hl => ?_)
      exact j_34 x20 x18 _ _ _ hF hW hS (lv_sub hl [0, 1] rfl)
  · have hF := ie c23 hF
    refine lv_iload_n hx hb dJ_ntz_12 rfl (lv_at hl 0 rfl) ?_
    refine lv_bipush (v := 32) hx hb dJ_ntz_13 (by decide) ?_
    refine lv_iand hx hb dJ_ntz_15 ?_
    obtain rfl := sj hF
    exact hfin _ _ _ _ hW hS dJ_ntz_16
def F_X11_isBatch (i0 : Nat) (a1 : Int32) (h : HP) : Option (Int32) :=
  (F_X11_isFrom a1 0 ((gi h 11 i0 10) - 1)).bind fun x2 =>
  (bz x2).bind fun x3 => some x3
set_option maxHeartbeats 4000000 in
set_option maxRecDepth 100000 in
theorem ok_X11_isBatch {l : Launch} {D : va_G} {cA : Nat → ClassId} {h : HP} {r : Int32}  (i0 : Nat) (a1 : Int32) (al_0 : i0 < gn h 11) (hF : F_X11_isBatch i0 a1 h = some r) : MI l D cA yX11_isBatch cX11_isBatch 2 (some .boolean) 1 22 (fun φ => [.ref (φ 11 i0), .int a1]) h r h := by
  refine mk_Z (plainFor_of_name (by decide)) (fun φ => Nat.le_of_ble_eq_true rfl) ?_
  intro p e s m args below meth c ls φ A Q X hW hS hl hfin
  have hx := X.1
  have hb := X.2.1
  have hl : lv_has ls 2 [(0, .ref (φ 11 i0)), (1, .int a1)] := hl
  unfold F_X11_isBatch at hF
  refine lv_iload_n hx hb dX11_isBatch_0 rfl (lv_at hl 1 rfl) ?_
  refine lv_iconst (v := 0) hx hb dX11_isBatch_1 (by decide) ?_
  refine lv_aload_n hx hb dX11_isBatch_2 rfl (lv_at hl 0 rfl) ?_
  refine r_geti X hW al_0 fl_11_274 dX11_isBatch_3 ?_
  refine lv_iconst (v := 1) hx hb dX11_isBatch_6 (by decide) ?_
  refine lv_isub hx hb dX11_isBatch_7 ?_
  obtain ⟨x2, e1, hF⟩ := bn hF
  refine rc_i (Af := fun φ => [.int a1, .int 0, .int ((gi h 11 i0 10) - 1)]) X hW hS ⟨Nat.zero_le _, Nat.zero_le _⟩ (rn_S (As := [.int a1, .int 0, .int ((gi h 11 i0 10) - 1)]) (rest := []) X hW hS cw_11_81 ⟨Nat.le_of_ble_eq_true rfl, Nat.le_of_ble_eq_true rfl⟩ rfl hl.1 rfl (Nat.le_of_ble_eq_true rfl) dX11_isBatch_8) (ok_X11_isFrom a1 0 ((gi h 11 i0 10) - 1) e1) (fun H locs hW hS => ?_)
  obtain ⟨x3, e4, hF⟩ := bn hF
  obtain ⟨b5, e4⟩ := bz_s e4
  refine nmi e4 ?_
  rw [← e4] at b5
  obtain rfl := sj hF
  exact hfin _ _ _ _ hW hS b5 dX11_isBatch_11
def F_X11_sets (i0 : Nat) (a1 : Int32) (a2 : Int32) (h : HP) : Option (Int32) :=
  (F_X11_isBatch i0 a1 h).bind fun x2 =>
  (if x2 = 0 then
  some (-2)
  else
  (F_X11_isFrom a2 0 1).bind fun x4 =>
  (if x4 = 0 then
  some (-2)
  else
  (if a2 = 0 then
  (gr h 11 i0 9).bind fun o12 =>
  (gar h 43 o12 6 a1).bind fun o15 =>
  some (gi h 0 o15 4)
  else
  (gr h 11 i0 9).bind fun o5 =>
  (gar h 43 o5 6 a1).bind fun o8 =>
  some (gi h 0 o8 5))))
set_option maxHeartbeats 4000000 in
set_option maxRecDepth 100000 in
theorem ok_X11_sets {l : Launch} {D : va_G} {cA : Nat → ClassId} {h : HP} {r : Int32}  (i0 : Nat) (a1 : Int32) (a2 : Int32) (al_0 : i0 < gn h 11) (hF : F_X11_sets i0 a1 a2 h = some r) : MI l D cA yX11_sets cX11_sets 3 (some .int) 2 43 (fun φ => [.ref (φ 11 i0), .int a1, .int a2]) h r h := by
  refine mk_I (plainFor_of_name (by decide)) (fun φ => Nat.le_of_ble_eq_true rfl) ?_
  intro p e s m args below meth c ls φ A Q X hW hS hl hfin
  have hx := X.1
  have hb := X.2.1
  have hl : lv_has ls 3 [(0, .ref (φ 11 i0)), (1, .int a1), (2, .int a2)] := hl
  unfold F_X11_sets at hF
  refine lv_aload_n hx hb dX11_sets_0 rfl (lv_at hl 0 rfl) ?_
  refine lv_iload_n hx hb dX11_sets_1 rfl (lv_at hl 1 rfl) ?_
  obtain ⟨x2, e1, hF⟩ := bn hF
  refine rc_i (Af := fun φ => [.ref (φ 11 i0), .int a1]) X hW hS ⟨Nat.zero_le _, Nat.zero_le _⟩ (rn_V (As := [.int a1]) (rest := []) X hW hS cw_11_281 al_0 rfl rfl rfl ⟨Nat.le_of_ble_eq_true rfl, Nat.le_of_ble_eq_true rfl⟩ rfl hl.1 rfl (Nat.le_of_ble_eq_true rfl) dX11_sets_2) (ok_X11_isBatch i0 a1 al_0 e1) (fun H locs hW hS => ?_)
  refine lv_if_eq (tgt := 17) hx hb dX11_sets_5 (by decide) (fun c21 => ?_) (fun c21 => ?_)
  · have hF := it c21 hF
    refine lv_bipush (v := (-2)) hx hb dX11_sets_17 (by decide) ?_
    obtain rfl := sj hF
    exact hfin _ _ _ _ hW hS dX11_sets_19
  · have hF := ie c21 hF
    refine lv_iload_n hx hb dX11_sets_8 rfl (lv_at hl 2 rfl) ?_
    refine lv_iconst (v := 0) hx hb dX11_sets_9 (by decide) ?_
    refine lv_iconst (v := 1) hx hb dX11_sets_10 (by decide) ?_
    obtain ⟨x4, e3, hF⟩ := bn hF
    refine rc_i (Af := fun φ => [.int a2, .int 0, .int 1]) X hW hS ⟨Nat.zero_le _, Nat.zero_le _⟩ (rn_S (As := [.int a2, .int 0, .int 1]) (rest := []) X hW hS cw_11_81 ⟨Nat.le_of_ble_eq_true rfl, Nat.le_of_ble_eq_true rfl⟩ rfl hl.1 rfl (Nat.le_of_ble_eq_true rfl) dX11_sets_11) (ok_X11_isFrom a2 0 1 e3) (fun H locs hW hS => ?_)
    refine lv_if_ne (tgt := 20) hx hb dX11_sets_14 (by decide) (fun c20 => ?_) (fun c20 => ?_)
    · have hF := ie c20 hF
      refine lv_iload_n hx hb dX11_sets_20 rfl (lv_at hl 2 rfl) ?_
      refine lv_if_ne (tgt := 36) hx hb dX11_sets_21 (by decide) (fun c19 => ?_) (fun c19 => ?_)
      · have hF := ie c19 hF
        refine lv_aload_n hx hb dX11_sets_36 rfl (lv_at hl 0 rfl) ?_
        obtain ⟨o5, e6, hF⟩ := bn hF
        refine r_getr X hW al_0 fl_11_49 e6 dX11_sets_37 (fun al7 => ?_)
        refine lv_iload_n hx hb dX11_sets_40 rfl (lv_at hl 1 rfl) ?_
        obtain ⟨o8, e9, hF⟩ := bn hF
        obtain ⟨b10, e9⟩ := gar_s e9
        refine r_aald (t0 := 5) X hW al7 rfl rfl b10 e9 dX11_sets_41 (fun al11 => ?_)
        refine r_geti X hW al11 fl_11_287 dX11_sets_42 ?_
        obtain rfl := sj hF
        exact hfin _ _ _ _ hW hS dX11_sets_45
      · have hF := it c19 hF
        refine lv_aload_n hx hb dX11_sets_24 rfl (lv_at hl 0 rfl) ?_
        obtain ⟨o12, e13, hF⟩ := bn hF
        refine r_getr X hW al_0 fl_11_49 e13 dX11_sets_25 (fun al14 => ?_)
        refine lv_iload_n hx hb dX11_sets_28 rfl (lv_at hl 1 rfl) ?_
        obtain ⟨o15, e16, hF⟩ := bn hF
        obtain ⟨b17, e16⟩ := gar_s e16
        refine r_aald (t0 := 5) X hW al14 rfl rfl b17 e16 dX11_sets_29 (fun al18 => ?_)
        refine r_geti X hW al18 fl_11_284 dX11_sets_30 ?_
        refine lv_goto (tgt := 45) hx hb dX11_sets_33 (by decide) ?_
        obtain rfl := sj hF
        exact hfin _ _ _ _ hW hS dX11_sets_45
    · have hF := it c20 hF
      refine lv_bipush (v := (-2)) hx hb dX11_sets_17 (by decide) ?_
      obtain rfl := sj hF
      exact hfin _ _ _ _ hW hS dX11_sets_19
def F_X11_held (i0 : Nat) (a1 : Int32) (a2 : Int32) (h : HP) : Option (Int32) :=
  (F_X11_isBatch i0 a1 h).bind fun x2 =>
  (if x2 = 0 then
  some (-2)
  else
  (gr h 11 i0 3).bind fun o3 =>
  (F_X2_has o3 a2 h).bind fun x7 =>
  (if x7 = 0 then
  some (-2)
  else
  (gr h 11 i0 9).bind fun o8 =>
  (gar h 43 o8 6 a1).bind fun o11 =>
  (if (((gi h 0 o11 6) >>> (a2 &&& 31)) &&& 1) = 1 then
  some 2
  else
  (gr h 11 i0 9).bind fun o15 =>
  (gar h 43 o15 6 a1).bind fun o18 =>
  some (((gi h 0 o18 7) >>> (a2 &&& 31)) &&& 1))))
set_option maxHeartbeats 4000000 in
set_option maxRecDepth 100000 in
theorem ok_X11_held {l : Launch} {D : va_G} {cA : Nat → ClassId} {h : HP} {r : Int32}  (i0 : Nat) (a1 : Int32) (a2 : Int32) (al_0 : i0 < gn h 11) (hF : F_X11_held i0 a1 a2 h = some r) : MI l D cA yX11_held cX11_held 3 (some .int) 2 43 (fun φ => [.ref (φ 11 i0), .int a1, .int a2]) h r h := by
  refine mk_I (plainFor_of_name (by decide)) (fun φ => Nat.le_of_ble_eq_true rfl) ?_
  intro p e s m args below meth c ls φ A Q X hW hS hl hfin
  have hx := X.1
  have hb := X.2.1
  have hl : lv_has ls 3 [(0, .ref (φ 11 i0)), (1, .int a1), (2, .int a2)] := hl
  unfold F_X11_held at hF
  refine lv_aload_n hx hb dX11_held_0 rfl (lv_at hl 0 rfl) ?_
  refine lv_iload_n hx hb dX11_held_1 rfl (lv_at hl 1 rfl) ?_
  obtain ⟨x2, e1, hF⟩ := bn hF
  refine rc_i (Af := fun φ => [.ref (φ 11 i0), .int a1]) X hW hS ⟨Nat.zero_le _, Nat.zero_le _⟩ (rn_V (As := [.int a1]) (rest := []) X hW hS cw_11_281 al_0 rfl rfl rfl ⟨Nat.le_of_ble_eq_true rfl, Nat.le_of_ble_eq_true rfl⟩ rfl hl.1 rfl (Nat.le_of_ble_eq_true rfl) dX11_held_2) (ok_X11_isBatch i0 a1 al_0 e1) (fun H locs hW hS => ?_)
  refine lv_if_eq (tgt := 19) hx hb dX11_held_5 (by decide) (fun c24 => ?_) (fun c24 => ?_)
  · have hF := it c24 hF
    refine lv_bipush (v := (-2)) hx hb dX11_held_19 (by decide) ?_
    obtain rfl := sj hF
    exact hfin _ _ _ _ hW hS dX11_held_21
  · have hF := ie c24 hF
    refine lv_aload_n hx hb dX11_held_8 rfl (lv_at hl 0 rfl) ?_
    obtain ⟨o3, e4, hF⟩ := bn hF
    refine r_getr X hW al_0 fl_11_16 e4 dX11_held_9 (fun al5 => ?_)
    refine lv_iload_n hx hb dX11_held_12 rfl (lv_at hl 2 rfl) ?_
    obtain ⟨x7, e6, hF⟩ := bn hF
    refine rc_i (Af := fun φ => [.ref (φ 2 o3), .int a2]) X hW hS ⟨Nat.zero_le _, Nat.zero_le _⟩ (rn_V (As := [.int a2]) (rest := []) X hW hS cw_11_137 al5 rfl rfl rfl ⟨Nat.le_of_ble_eq_true rfl, Nat.le_of_ble_eq_true rfl⟩ rfl hl.1 rfl (Nat.le_of_ble_eq_true rfl) dX11_held_13) (ok_X2_has o3 a2 al5 e6) (fun H locs hW hS => ?_)
    refine lv_if_ne (tgt := 22) hx hb dX11_held_16 (by decide) (fun c23 => ?_) (fun c23 => ?_)
    · have hF := ie c23 hF
      refine lv_aload_n hx hb dX11_held_22 rfl (lv_at hl 0 rfl) ?_
      obtain ⟨o8, e9, hF⟩ := bn hF
      refine r_getr X hW al_0 fl_11_49 e9 dX11_held_23 (fun al10 => ?_)
      refine lv_iload_n hx hb dX11_held_26 rfl (lv_at hl 1 rfl) ?_
      obtain ⟨o11, e12, hF⟩ := bn hF
      obtain ⟨b13, e12⟩ := gar_s e12
      refine r_aald (t0 := 5) X hW al10 rfl rfl b13 e12 dX11_held_27 (fun al14 => ?_)
      refine r_geti X hW al14 fl_11_290 dX11_held_28 ?_
      refine lv_iload_n hx hb dX11_held_31 rfl (lv_at hl 2 rfl) ?_
      refine lv_ishr hx hb dX11_held_32 ?_
      refine lv_iconst (v := 1) hx hb dX11_held_33 (by decide) ?_
      refine lv_iand hx hb dX11_held_34 ?_
      refine lv_iconst (v := 1) hx hb dX11_held_35 (by decide) ?_
      refine lv_icmp_ne (tgt := 41) hx hb dX11_held_36 (by decide) (fun c22 => ?_) (fun c22 => ?_)
      · have hF := ie c22 hF
        refine lv_aload_n hx hb dX11_held_41 rfl (lv_at hl 0 rfl) ?_
        obtain ⟨o15, e16, hF⟩ := bn hF
        refine r_getr X hW al_0 fl_11_49 e16 dX11_held_42 (fun al17 => ?_)
        refine lv_iload_n hx hb dX11_held_45 rfl (lv_at hl 1 rfl) ?_
        obtain ⟨o18, e19, hF⟩ := bn hF
        obtain ⟨b20, e19⟩ := gar_s e19
        refine r_aald (t0 := 5) X hW al17 rfl rfl b20 e19 dX11_held_46 (fun al21 => ?_)
        refine r_geti X hW al21 fl_11_293 dX11_held_47 ?_
        refine lv_iload_n hx hb dX11_held_50 rfl (lv_at hl 2 rfl) ?_
        refine lv_ishr hx hb dX11_held_51 ?_
        refine lv_iconst (v := 1) hx hb dX11_held_52 (by decide) ?_
        refine lv_iand hx hb dX11_held_53 ?_
        obtain rfl := sj hF
        exact hfin _ _ _ _ hW hS dX11_held_54
      · have hF := it c22 hF
        refine lv_iconst (v := 2) hx hb dX11_held_39 (by decide) ?_
        obtain rfl := sj hF
        exact hfin _ _ _ _ hW hS dX11_held_40
    · have hF := it c23 hF
      refine lv_bipush (v := (-2)) hx hb dX11_held_19 (by decide) ?_
      obtain rfl := sj hF
      exact hfin _ _ _ _ hW hS dX11_held_21
def B_J_fill_37_5 (i0 : Nat) (a1 : Int32) (h : HP) (q : Int32 × DP) : Option ((Int32 × DP) ⊕ (DP)) :=
  u2 q fun x1 d4 =>
  nm (wd h d4) fun h2 =>
  (if 20 ≤ x1 then
  some (.inr (dp h2))
  else
  (sa h2 37 i0 20 x1 a1).bind fun h5 =>
  nm (x1 + 1) fun x9 =>
  some (.inl (x9, (dp h5))))
def F_J_fill_37 (i0 : Nat) (a1 : Int32) (h : HP) : Option (DP) :=
  (loopN LF (B_J_fill_37_5 i0 a1 h) (0, (dp h))).bind fun d15 =>
  nm (wd h d15) fun h16 =>
  some (dp h16)
set_option maxHeartbeats 4000000 in
set_option maxRecDepth 100000 in
theorem ok_J_fill_37 {l : Launch} {D : va_G} {cA : Nat → ClassId} {h : HP}  {d : DP} (i0 : Nat) (a1 : Int32) (al_0 : i0 < gn h 37) (hF : F_J_fill_37 i0 a1 h = some d) : MV l D cA yJ_fill cJ_fill 4 none 0 0 (fun φ => [.ref (φ 37 i0), .int a1]) h (wd h d) := by
  refine mk_V (by decide +kernel) (fun φ => Nat.le_of_ble_eq_true rfl) ?_
  intro p e s m args below meth c ls φ A Q X hW hS hl hfin
  have hx := X.1
  have hb := X.2.1
  have hl : lv_has ls 4 [(0, .ref (φ 37 i0)), (1, .int a1)] := hl
  unfold F_J_fill_37 at hF
  refine lv_iconst (v := 0) hx hb dJ_fill_0 (by decide) ?_
  refine lv_istore_n (lv' := [(2, .int 0), (0, .ref (φ 37 i0)), (1, .int a1)]) hx hb dJ_fill_1 rfl hl (by decide) rfl (fun ls hl => ?_)
  refine lv_aload_n hx hb dJ_fill_2 rfl (lv_at hl 1 rfl) ?_
  refine r_alen (t0 := 0) (v := 20) X hW al_0 rfl rfl rfl dJ_fill_3 ?_
  refine lv_istore_n (lv' := [(3, .int 20), (2, .int 0), (0, .ref (φ 37 i0)), (1, .int a1)]) hx hb dJ_fill_4 rfl hl (by decide) rfl (fun ls hl => ?_)
  obtain ⟨q12, e13, hF⟩ := bn hF
  refine loop_w (f := B_J_fill_37_5 i0 a1 h) (Z := fun q => ∀ (H : Heap) (locs : List Loc) (ls : Array Slot), HW D cA A φ (wd h q.2) H → va_S A s.heap H locs → lv_has ls 4 [(0, .ref (φ 37 i0)), (1, .int a1), (2, .int (q.1)), (3, .int 20)] → W p l e (rmo 0 0 0 0) s m args below meth c H locs 0 0 Q (F0 m 5 ls [])) (K := fun q => ∀ (H : Heap) (locs : List Loc) (ls : Array Slot), HW D cA A φ (wd h q) H → va_S A s.heap H locs → lv_has ls 4 [] → W p l e (rmo 0 0 0 0) s m args below meth c H locs 0 0 Q (F0 m 20 ls [])) ?_ LF _ q12 e13 ?_ _ _ _ (wdW rfl hW) hS (lv_sub hl [2, 3, 1, 0] rfl)
  · intro q v hF hK H locs ls hW hS hl
    obtain ⟨x1, d4⟩ := q
    unfold B_J_fill_37_5 at hF
    have hF := u2d hF
    obtain ⟨h2, e14, hF⟩ := nmx hF
    have hW := nmW e14 hW
    have g3 : h2.2.2 = h.2.2 := by rw [e14]; exact rfl
    have hl : lv_has ls 4 [(0, .ref (φ 37 i0)), (1, .int a1), (2, .int x1), (3, .int 20)] := hl
    refine lv_iload_n hx hb dJ_fill_5 rfl (lv_at hl 2 rfl) ?_
    refine lv_iload_n hx hb dJ_fill_6 rfl (lv_at hl 3 rfl) ?_
    refine lv_icmp_ge (tgt := 20) hx hb dJ_fill_7 (by decide) (fun c11 => ?_) (fun c11 => ?_)
    · have hF := it c11 hF
      obtain rfl := sj hF
      exact hK _ _ _ (wdW (sq g3 rfl) hW) hS (lv_sub hl [] rfl)
    · have hF := ie c11 hF
      refine lv_aload_n hx hb dJ_fill_10 rfl (lv_at hl 0 rfl) ?_
      refine lv_iload_n hx hb dJ_fill_11 rfl (lv_at hl 2 rfl) ?_
      refine lv_iload_n hx hb dJ_fill_12 rfl (lv_at hl 1 rfl) ?_
      obtain ⟨h5, e6, hF⟩ := bn hF
      obtain ⟨b7, e6⟩ := sa_s e6
      refine r_iast X hW hS (gq g3 al_0) rfl b7 dJ_fill_13 (fun H locs hW hS => ?_)
      have hW := nmW e6 hW
      have g8 : h5.2.2 = h.2.2 := by rw [e6]; exact g3
      obtain ⟨x9, e10, hF⟩ := nmx hF
      refine lv_iinc (v := x9) (lv' := [(2, .int x9), (0, .ref (φ 37 i0)), (1, .int a1), (3, .int 20)]) hx hb dJ_fill_14 hl (k := 2) rfl (by rw [e10]; rfl) (by decide) rfl (fun ls hl => ?_)
      refine lv_goto (tgt := 5) hx hb dJ_fill_17 (by decide) ?_
      obtain rfl := sj hF
      exact hK _ _ _ (wdW (sq g8 rfl) hW) hS (lv_sub hl [1, 2, 0, 3] rfl)
  · intro H locs ls hW hS hl
    obtain ⟨d15, rfl⟩ : ∃ z, z = q12 := ⟨_, rfl⟩
    obtain ⟨h16, e18, hF⟩ := nmx hF
    have hW := nmW e18 hW
    have g17 : h16.2.2 = h.2.2 := by rw [e18]; exact rfl
    have hl : lv_has ls 4 [] := hl
    obtain rfl := sj hF
    exact hfin _ _ _ _ (wdW g17 hW) hS dJ_fill_20
def J_X6_choose_92 (i0 : Nat) (i1 : Nat) (i2 : Nat) (o7 : Nat) (v5_92 : Int32) (v6_92 : Int32) (v7_92 : Int32) (v9_92 : Int32) (t0_92 : Int32) (h2 : HP) : Option ((Int32 × Int32 × Int32) ⊕ (Int32)) :=
  (if v9_92 < v6_92 then
  nm (v7_92 + 1) fun x12 =>
  some (.inl (v7_92, v9_92, x12))
  else
  (if v9_92 = v6_92 then
  (if t0_92 = 0 then
  nm (v7_92 + 1) fun x16 =>
  some (.inl (v5_92, v6_92, x16))
  else
  nm (v7_92 + 1) fun x18 =>
  some (.inl (v7_92, v9_92, x18)))
  else
  nm (v7_92 + 1) fun x14 =>
  some (.inl (v5_92, v6_92, x14))))
def B_X6_choose_16 (i0 : Nat) (i1 : Nat) (i2 : Nat) (o7 : Nat) (h2 : HP) (q : Int32 × Int32 × Int32) : Option ((Int32 × Int32 × Int32) ⊕ (Int32)) :=
  u3 q fun x9 x10 x11 =>
  (if (gi h2 2 i1 1) ≤ x11 then
  some (.inr x9)
  else
  (gr h2 2 i1 0).bind fun o23 =>
  (gar h2 23 o23 20 x11).bind fun o26 =>
  (gr h2 6 i0 0).bind fun o30 =>
  (ga h2 37 o30 20 x11).bind fun x33 =>
  (if x33 = (-1) then
  (F_X1_isTakenOrInYard o26 h2).bind fun x39 =>
  (if x39 = 0 then
  nm (x11 + 1) fun x40 =>
  some (.inl (x9, x10, x40))
  else
  (F_X4_letterOf i2 o26 o7 h2).bind fun x43 =>
  (if x9 = (-1) then
  J_X6_choose_92 i0 i1 i2 o7 x9 x10 x11 x43 0 h2
  else
  (gr h2 2 i1 0).bind fun o44 =>
  (gar h2 23 o44 20 x9).bind fun o47 =>
  (if (gi h2 1 o26 1) ≤ (gi h2 1 o47 1) then
  J_X6_choose_92 i0 i1 i2 o7 x9 x10 x11 x43 0 h2
  else
  J_X6_choose_92 i0 i1 i2 o7 x9 x10 x11 x43 1 h2)))
  else
  nm (x11 + 1) fun x36 =>
  some (.inl (x9, x10, x36))))
def F_X6_choose (i0 : Nat) (i1 : Nat) (i2 : Nat) (a3 : Int32) (h : HP) : Option (Int32 × DP) :=
  (F_X4_inForceIn i2 a3 h).bind fun q6 => u2 q6 fun o7 d5 => nm (wd h d5) fun h2 =>
  (loopN LF (B_X6_choose_16 i0 i1 i2 o7 h2) ((-1), 4, 0)).bind fun x58 =>
  some (x58, dp h2)
set_option maxHeartbeats 4000000 in
set_option maxRecDepth 100000 in
theorem ok_X6_choose {l : Launch} {D : va_G} {cA : Nat → ClassId} {h : HP} {r : Int32} {d : DP} (i0 : Nat) (i1 : Nat) (i2 : Nat) (a3 : Int32) (al_0 : i0 < gn h 6) (al_1 : i1 < gn h 2) (al_2 : i2 < gn h 4) (hF : F_X6_choose i0 i1 i2 a3 h = some (r, d)) : MI l D cA yX6_choose cX6_choose 11 (some .int) 2 47 (fun φ => [.ref (φ 6 i0), .ref (φ 2 i1), .ref (φ 4 i2), .int a3]) h r (wd h d) := by
  refine mk_I (plainFor_of_name (by decide)) (fun φ => Nat.le_of_ble_eq_true rfl) ?_
  intro p e s m args below meth c ls φ A Q X hW hS hl hfin
  have hx := X.1
  have hb := X.2.1
  have hl : lv_has ls 11 [(0, .ref (φ 6 i0)), (1, .ref (φ 2 i1)), (2, .ref (φ 4 i2)), (3, .int a3)] := hl
  unfold F_X6_choose at hF
  refine lv_aload_n hx hb dX6_choose_0 rfl (lv_at hl 2 rfl) ?_
  refine lv_iload_n hx hb dX6_choose_1 rfl (lv_at hl 3 rfl) ?_
  obtain ⟨q6, e1, hF⟩ := bn hF
  obtain ⟨o7, d5⟩ := q6
  have hF := u2d hF
  refine rc_r (Af := fun φ => [.ref (φ 4 i2), .int a3]) X hW hS ⟨Nat.zero_le _, Nat.zero_le _⟩ (rn_V (As := [.int a3]) (rest := []) X hW hS cw_6_68 al_2 rfl rfl rfl ⟨Nat.le_of_ble_eq_true rfl, Nat.le_of_ble_eq_true rfl⟩ rfl hl.1 rfl (Nat.le_of_ble_eq_true rfl) dX6_choose_2) (ok_X4_inForceIn i2 a3 al_2 e1) (fun H locs hW hS al8 => ?_)
  have al8 := qg (h1 := wd h d5) rfl al8
  obtain ⟨h2, e4, hF⟩ := nmx hF
  have hW := nmW e4 hW
  have g3 : h2.2.2 = h.2.2 := by rw [e4]; exact rfl
  refine lv_astore (lv' := [(4, .ref (φ 34 o7)), (0, .ref (φ 6 i0)), (1, .ref (φ 2 i1)), (2, .ref (φ 4 i2)), (3, .int a3)]) hx hb dX6_choose_5 hl (by decide) rfl (fun ls hl => ?_)
  refine lv_iconst (v := (-1)) hx hb dX6_choose_7 (by decide) ?_
  refine lv_istore (lv' := [(5, .int (-1)), (4, .ref (φ 34 o7)), (0, .ref (φ 6 i0)), (1, .ref (φ 2 i1)), (2, .ref (φ 4 i2)), (3, .int a3)]) hx hb dX6_choose_8 hl (by decide) rfl (fun ls hl => ?_)
  refine lv_iconst (v := 4) hx hb dX6_choose_10 (by decide) ?_
  refine lv_istore (lv' := [(6, .int 4), (5, .int (-1)), (4, .ref (φ 34 o7)), (0, .ref (φ 6 i0)), (1, .ref (φ 2 i1)), (2, .ref (φ 4 i2)), (3, .int a3)]) hx hb dX6_choose_11 hl (by decide) rfl (fun ls hl => ?_)
  refine lv_iconst (v := 0) hx hb dX6_choose_13 (by decide) ?_
  refine lv_istore (lv' := [(7, .int 0), (6, .int 4), (5, .int (-1)), (4, .ref (φ 34 o7)), (0, .ref (φ 6 i0)), (1, .ref (φ 2 i1)), (2, .ref (φ 4 i2)), (3, .int a3)]) hx hb dX6_choose_14 hl (by decide) rfl (fun ls hl => ?_)
  obtain ⟨q56, e57, hF⟩ := bn hF
  refine loop_w (f := B_X6_choose_16 i0 i1 i2 o7 h2) (Z := fun q => ∀ (H : Heap) (locs : List Loc) (ls : Array Slot), HW D cA A φ h2 H → va_S A s.heap H locs → lv_has ls 11 [(0, .ref (φ 6 i0)), (1, .ref (φ 2 i1)), (2, .ref (φ 4 i2)), (4, .ref (φ 34 o7)), (5, .int (q.1)), (6, .int (q.2.1)), (7, .int (q.2.2))] → W p l e (rmo 2 47 0 0) s m args below meth c H locs 0 0 Q (F0 m 16 ls [])) (K := fun q => ∀ (H : Heap) (locs : List Loc) (ls : Array Slot), HW D cA A φ h2 H → va_S A s.heap H locs → lv_has ls 11 [(5, .int q)] → W p l e (rmo 2 47 0 0) s m args below meth c H locs 0 0 Q (F0 m 127 ls [])) ?_ LF _ q56 e57 ?_ _ _ _ hW hS (lv_sub hl [4, 5, 6, 3, 2, 1, 0] rfl)
  · intro q v hF hK H locs ls hW hS hl
    obtain ⟨x9, x10, x11⟩ := q
    unfold B_X6_choose_16 at hF
    have hF := u3d hF
    have hl : lv_has ls 11 [(0, .ref (φ 6 i0)), (1, .ref (φ 2 i1)), (2, .ref (φ 4 i2)), (4, .ref (φ 34 o7)), (5, .int x9), (6, .int x10), (7, .int x11)] := hl
    have j_92 : ∀ (v5_92 : Int32) (v6_92 : Int32) (v7_92 : Int32) (v9_92 : Int32) (t0_92 : Int32) (H : Heap) (locs : List Loc) (ls : Array Slot), J_X6_choose_92 i0 i1 i2 o7 v5_92 v6_92 v7_92 v9_92 t0_92 h2 = some v → HW D cA A φ h2 H → va_S A s.heap H locs → lv_has ls 11 [(0, .ref (φ 6 i0)), (1, .ref (φ 2 i1)), (2, .ref (φ 4 i2)), (4, .ref (φ 34 o7)), (5, .int v5_92), (6, .int v6_92), (7, .int v7_92), (9, .int v9_92)] → W p l e (rmo 2 47 0 0) s m args below meth c H locs 0 0 Q (F0 m 92 ls [.int t0_92]) := by
      intro v5_92 v6_92 v7_92 v9_92 t0_92 H locs ls hF hW hS hl
      unfold J_X6_choose_92 at hF
      refine lv_istore (lv' := [(10, .int t0_92), (0, .ref (φ 6 i0)), (1, .ref (φ 2 i1)), (2, .ref (φ 4 i2)), (4, .ref (φ 34 o7)), (5, .int v5_92), (6, .int v6_92), (7, .int v7_92), (9, .int v9_92)]) hx hb dX6_choose_92 hl (by decide) rfl (fun ls hl => ?_)
      refine lv_iload hx hb dX6_choose_94 (lv_at hl 8 rfl) ?_
      refine lv_iload hx hb dX6_choose_96 (lv_at hl 6 rfl) ?_
      refine lv_icmp_lt (tgt := 113) hx hb dX6_choose_98 (by decide) (fun c22 => ?_) (fun c22 => ?_)
      · have hF := it c22 hF
        refine lv_iload hx hb dX6_choose_113 (lv_at hl 7 rfl) ?_
        refine lv_istore (lv' := [(5, .int v7_92), (10, .int t0_92), (0, .ref (φ 6 i0)), (1, .ref (φ 2 i1)), (2, .ref (φ 4 i2)), (4, .ref (φ 34 o7)), (6, .int v6_92), (7, .int v7_92), (9, .int v9_92)]) hx hb dX6_choose_115 hl (by decide) rfl (fun ls hl => ?_)
        refine lv_iload hx hb dX6_choose_117 (lv_at hl 8 rfl) ?_
        refine lv_istore (lv' := [(6, .int v9_92), (5, .int v7_92), (10, .int t0_92), (0, .ref (φ 6 i0)), (1, .ref (φ 2 i1)), (2, .ref (φ 4 i2)), (4, .ref (φ 34 o7)), (7, .int v7_92), (9, .int v9_92)]) hx hb dX6_choose_119 hl (by decide) rfl (fun ls hl => ?_)
        obtain ⟨x12, e13, hF⟩ := nmx hF
        refine lv_iinc (v := x12) (lv' := [(7, .int x12), (6, .int v9_92), (5, .int v7_92), (10, .int t0_92), (0, .ref (φ 6 i0)), (1, .ref (φ 2 i1)), (2, .ref (φ 4 i2)), (4, .ref (φ 34 o7)), (9, .int v9_92)]) hx hb dX6_choose_121 hl (k := 7) rfl (by rw [e13]; rfl) (by decide) rfl (fun ls hl => ?_)
        refine lv_goto (tgt := 16) hx hb dX6_choose_124 (by decide) ?_
        obtain rfl := sj hF
        exact hK _ _ _ hW hS (lv_sub hl [4, 5, 6, 7, 2, 1, 0] rfl)
      · have hF := ie c22 hF
        refine lv_iload hx hb dX6_choose_101 (lv_at hl 8 rfl) ?_
        refine lv_iload hx hb dX6_choose_103 (lv_at hl 6 rfl) ?_
        refine lv_icmp_ne (tgt := 121) hx hb dX6_choose_105 (by decide) (fun c21 => ?_) (fun c21 => ?_)
        · have hF := ie c21 hF
          obtain ⟨x14, e15, hF⟩ := nmx hF
          refine lv_iinc (v := x14) (lv' := [(7, .int x14), (10, .int t0_92), (0, .ref (φ 6 i0)), (1, .ref (φ 2 i1)), (2, .ref (φ 4 i2)), (4, .ref (φ 34 o7)), (5, .int v5_92), (6, .int v6_92), (9, .int v9_92)]) hx hb dX6_choose_121 hl (k := 7) rfl (by rw [e15]; rfl) (by decide) rfl (fun ls hl => ?_)
          refine lv_goto (tgt := 16) hx hb dX6_choose_124 (by decide) ?_
          obtain rfl := sj hF
          exact hK _ _ _ hW hS (lv_sub hl [2, 3, 4, 5, 6, 7, 0] rfl)
        · have hF := it c21 hF
          refine lv_iload hx hb dX6_choose_108 (lv_at hl 0 rfl) ?_
          refine lv_if_eq (tgt := 121) hx hb dX6_choose_110 (by decide) (fun c20 => ?_) (fun c20 => ?_)
          · have hF := it c20 hF
            obtain ⟨x16, e17, hF⟩ := nmx hF
            refine lv_iinc (v := x16) (lv' := [(7, .int x16), (10, .int t0_92), (0, .ref (φ 6 i0)), (1, .ref (φ 2 i1)), (2, .ref (φ 4 i2)), (4, .ref (φ 34 o7)), (5, .int v5_92), (6, .int v6_92), (9, .int v9_92)]) hx hb dX6_choose_121 hl (k := 7) rfl (by rw [e17]; rfl) (by decide) rfl (fun ls hl => ?_)
            refine lv_goto (tgt := 16) hx hb dX6_choose_124 (by decide) ?_
            obtain rfl := sj hF
            exact hK _ _ _ hW hS (lv_sub hl [2, 3, 4, 5, 6, 7, 0] rfl)
          · have hF := ie c20 hF
            refine lv_iload hx hb dX6_choose_113 (lv_at hl 7 rfl) ?_
            refine lv_istore (lv' := [(5, .int v7_92), (10, .int t0_92), (0, .ref (φ 6 i0)), (1, .ref (φ 2 i1)), (2, .ref (φ 4 i2)), (4, .ref (φ 34 o7)), (6, .int v6_92), (7, .int v7_92), (9, .int v9_92)]) hx hb dX6_choose_115 hl (by decide) rfl (fun ls hl => ?_)
            refine lv_iload hx hb dX6_choose_117 (lv_at hl 8 rfl) ?_
            refine lv_istore (lv' := [(6, .int v9_92), (5, .int v7_92), (10, .int t0_92), (0, .ref (φ 6 i0)), (1, .ref (φ 2 i1)), (2, .ref (φ 4 i2)), (4, .ref (φ 34 o7)), (7, .int v7_92), (9, .int v9_92)]) hx hb dX6_choose_119 hl (by decide) rfl (fun ls hl => ?_)
            obtain ⟨x18, e19, hF⟩ := nmx hF
            refine lv_iinc (v := x18) (lv' := [(7, .int x18), (6, .int v9_92), (5, .int v7_92), (10, .int t0_92), (0, .ref (φ 6 i0)), (1, .ref (φ 2 i1)), (2, .ref (φ 4 i2)), (4, .ref (φ 34 o7)), (9, .int v9_92)]) hx hb dX6_choose_121 hl (k := 7) rfl (by rw [e19]; rfl) (by decide) rfl (fun ls hl => ?_)
            refine lv_goto (tgt := 16) hx hb dX6_choose_124 (by decide) ?_
            obtain rfl := sj hF
            exact hK _ _ _ hW hS (lv_sub hl [4, 5, 6, 7, 2, 1, 0] rfl)
    refine lv_iload hx hb dX6_choose_16 (lv_at hl 6 rfl) ?_
    refine lv_aload_n hx hb dX6_choose_18 rfl (lv_at hl 1 rfl) ?_
    refine r_geti X hW (gq g3 al_1) fl_6_74 dX6_choose_19 ?_
    refine lv_icmp_ge (tgt := 127) hx hb dX6_choose_22 (by decide) (fun c55 => ?_) (fun c55 => ?_)
    · have hF := it c55 hF
      obtain rfl := sj hF
      exact hK _ _ _ hW hS (lv_sub hl [4] rfl)
    · have hF := ie c55 hF
      refine lv_aload_n hx hb dX6_choose_25 rfl (lv_at hl 1 rfl) ?_
      obtain ⟨o23, e24, hF⟩ := bn hF
      refine r_getr X hW (gq g3 al_1) fl_6_57 e24 dX6_choose_26 (fun al25 => ?_)
      have al25 := qg g3 al25
      refine lv_iload hx hb dX6_choose_29 (lv_at hl 6 rfl) ?_
      obtain ⟨o26, e27, hF⟩ := bn hF
      obtain ⟨b28, e27⟩ := gar_s e27
      refine r_aald (t0 := 3) X hW (gq g3 al25) rfl rfl b28 e27 dX6_choose_31 (fun al29 => ?_)
      have al29 := qg g3 al29
      refine lv_astore (lv' := [(8, .ref (φ 1 o26)), (0, .ref (φ 6 i0)), (1, .ref (φ 2 i1)), (2, .ref (φ 4 i2)), (4, .ref (φ 34 o7)), (5, .int x9), (6, .int x10), (7, .int x11)]) hx hb dX6_choose_32 hl (by decide) rfl (fun ls hl => ?_)
      refine lv_aload_n hx hb dX6_choose_34 rfl (lv_at hl 1 rfl) ?_
      obtain ⟨o30, e31, hF⟩ := bn hF
      refine r_getr X hW (gq g3 al_0) fl_6_9 e31 dX6_choose_35 (fun al32 => ?_)
      have al32 := qg g3 al32
      refine lv_iload hx hb dX6_choose_38 (lv_at hl 7 rfl) ?_
      obtain ⟨x33, e34, hF⟩ := bn hF
      obtain ⟨b35, e34⟩ := ga_s e34
      refine r_iald X hW (gq g3 al32) rfl b35 dX6_choose_40 ?_
      refine nmi e34 ?_
      refine lv_iconst (v := (-1)) hx hb dX6_choose_41 (by decide) ?_
      refine lv_icmp_ne (tgt := 121) hx hb dX6_choose_42 (by decide) (fun c54 => ?_) (fun c54 => ?_)
      · have hF := ie c54 hF
        obtain ⟨x36, e37, hF⟩ := nmx hF
        refine lv_iinc (v := x36) (lv' := [(7, .int x36), (8, .ref (φ 1 o26)), (0, .ref (φ 6 i0)), (1, .ref (φ 2 i1)), (2, .ref (φ 4 i2)), (4, .ref (φ 34 o7)), (5, .int x9), (6, .int x10)]) hx hb dX6_choose_121 hl (k := 7) rfl (by rw [e37]; rfl) (by decide) rfl (fun ls hl => ?_)
        refine lv_goto (tgt := 16) hx hb dX6_choose_124 (by decide) ?_
        obtain rfl := sj hF
        exact hK _ _ _ hW hS (lv_sub hl [2, 3, 4, 5, 6, 7, 0] rfl)
      · have hF := it c54 hF
        refine lv_aload hx hb dX6_choose_45 (lv_at hl 0 rfl) ?_
        obtain ⟨x39, e38, hF⟩ := bn hF
        refine rc_i (Af := fun φ => [.ref (φ 1 o26)]) X hW hS ⟨Nat.zero_le _, Nat.zero_le _⟩ (rn_V (As := []) (rest := []) X hW hS cw_6_75 (gq g3 al29) rfl rfl rfl ⟨Nat.le_of_ble_eq_true rfl, Nat.le_of_ble_eq_true rfl⟩ rfl hl.1 rfl (Nat.le_of_ble_eq_true rfl) dX6_choose_47) (ok_X1_isTakenOrInYard o26 (gq g3 al29) e38) (fun H locs hW hS => ?_)
        refine lv_if_eq (tgt := 121) hx hb dX6_choose_50 (by decide) (fun c53 => ?_) (fun c53 => ?_)
        · have hF := it c53 hF
          obtain ⟨x40, e41, hF⟩ := nmx hF
          refine lv_iinc (v := x40) (lv' := [(7, .int x40), (8, .ref (φ 1 o26)), (0, .ref (φ 6 i0)), (1, .ref (φ 2 i1)), (2, .ref (φ 4 i2)), (4, .ref (φ 34 o7)), (5, .int x9), (6, .int x10)]) hx hb dX6_choose_121 hl (k := 7) rfl (by rw [e41]; rfl) (by decide) rfl (fun ls hl => ?_)
          refine lv_goto (tgt := 16) hx hb dX6_choose_124 (by decide) ?_
          obtain rfl := sj hF
          exact hK _ _ _ hW hS (lv_sub hl [2, 3, 4, 5, 6, 7, 0] rfl)
        · have hF := ie c53 hF
          refine lv_aload_n hx hb dX6_choose_53 rfl (lv_at hl 3 rfl) ?_
          refine lv_aload hx hb dX6_choose_54 (lv_at hl 0 rfl) ?_
          refine lv_aload hx hb dX6_choose_56 (lv_at hl 4 rfl) ?_
          obtain ⟨x43, e42, hF⟩ := bn hF
          refine rc_i (Af := fun φ => [.ref (φ 4 i2), .ref (φ 1 o26), .ref (φ 34 o7)]) X hW hS ⟨Nat.zero_le _, Nat.zero_le _⟩ (rn_V (As := [.ref (φ 1 o26), .ref (φ 34 o7)]) (rest := []) X hW hS cw_6_79 (gq g3 al_2) rfl rfl rfl ⟨Nat.le_of_ble_eq_true rfl, Nat.le_of_ble_eq_true rfl⟩ rfl hl.1 rfl (Nat.le_of_ble_eq_true rfl) dX6_choose_58) (ok_X4_letterOf i2 o26 o7 (gq g3 al_2) (gq g3 al29) (gq g3 al8) e42) (fun H locs hW hS => ?_)
          refine lv_istore (lv' := [(9, .int x43), (8, .ref (φ 1 o26)), (0, .ref (φ 6 i0)), (1, .ref (φ 2 i1)), (2, .ref (φ 4 i2)), (4, .ref (φ 34 o7)), (5, .int x9), (6, .int x10), (7, .int x11)]) hx hb dX6_choose_61 hl (by decide) rfl (fun ls hl => ?_)
          refine lv_iload hx hb dX6_choose_63 (lv_at hl 6 rfl) ?_
          refine lv_iconst (v := (-1)) hx hb dX6_choose_65 (by decide) ?_
          refine lv_icmp_eq (tgt := 91) hx hb dX6_choose_66 (by decide) (fun c52 => ?_) (fun c52 => ?_)
          · have hF := it c52 hF
            refine lv_iconst (v := 0) hx hb dX6_choose_91 (by decide) ?_
            exact j_92 x9 x10 x11 x43 0 _ _ _ hF hW hS (lv_sub hl [2, 3, 4, 5, 6, 7, 8, 0] rfl)
          · have hF := ie c52 hF
            refine lv_aload hx hb dX6_choose_69 (lv_at hl 1 rfl) ?_
            refine r_geti X hW (gq g3 al29) fl_6_63 dX6_choose_71 ?_
            refine lv_aload_n hx hb dX6_choose_74 rfl (lv_at hl 3 rfl) ?_
            obtain ⟨o44, e45, hF⟩ := bn hF
            refine r_getr X hW (gq g3 al_1) fl_6_57 e45 dX6_choose_75 (fun al46 => ?_)
            have al46 := qg g3 al46
            refine lv_iload hx hb dX6_choose_78 (lv_at hl 6 rfl) ?_
            obtain ⟨o47, e48, hF⟩ := bn hF
            obtain ⟨b49, e48⟩ := gar_s e48
            refine r_aald (t0 := 3) X hW (gq g3 al46) rfl rfl b49 e48 dX6_choose_80 (fun al50 => ?_)
            have al50 := qg g3 al50
            refine r_geti X hW (gq g3 al50) fl_6_63 dX6_choose_81 ?_
            refine lv_icmp_le (tgt := 91) hx hb dX6_choose_84 (by decide) (fun c51 => ?_) (fun c51 => ?_)
            · have hF := it c51 hF
              refine lv_iconst (v := 0) hx hb dX6_choose_91 (by decide) ?_
              exact j_92 x9 x10 x11 x43 0 _ _ _ hF hW hS (lv_sub hl [2, 3, 4, 5, 6, 7, 8, 0] rfl)
            · have hF := ie c51 hF
              refine lv_iconst (v := 1) hx hb dX6_choose_87 (by decide) ?_
              refine lv_goto (tgt := 92) hx hb dX6_choose_88 (by decide) ?_
              exact j_92 x9 x10 x11 x43 1 _ _ _ hF hW hS (lv_sub hl [2, 3, 4, 5, 6, 7, 8, 0] rfl)
  · intro H locs ls hW hS hl
    obtain ⟨x58, rfl⟩ : ∃ z, z = q56 := ⟨_, rfl⟩
    have hl : lv_has ls 11 [(5, .int x58)] := hl
    refine lv_iload hx hb dX6_choose_127 (lv_at hl 0 rfl) ?_
    obtain ⟨rfl, rfl⟩ := sj2 hF
    exact hfin _ _ _ _ (wdW g3 hW) hS dX6_choose_129
def J_X6_meet_68 (i0 : Nat) (t0_68 : Int32) (t1_68 : Nat) (hj68 : HP) : Option (DP) :=
  nm (si hj68 6 t1_68 3 t0_68) fun h1 =>
  nm (si h1 6 i0 1 0) fun h4 =>
  some (dp h4)
def B_X6_meet_3 (i0 : Nat) (i1 : Nat) (i2 : Nat) (a3 : Int32) (a4 : Int32) (h : HP) (q : Int32 × DP) : Option ((Int32 × DP) ⊕ (DP ⊕ DP)) :=
  u2 q fun x7 d10 =>
  nm (wd h d10) fun h8 =>
  (if 20 < x7 then
  some (.inr (.inr (dp h8)))
  else
  (if a4 ≤ (gi h8 6 i0 1) then
  some (.inr (.inr (dp h8)))
  else
  (F_X6_choose i0 i1 i2 a3 h8).bind fun q16 => u2 q16 fun x17 d15 => nm (wd h8 d15) fun h12 =>
  (if x17 = (-1) then
  some (.inr (.inl (dp h12)))
  else
  (gr h12 6 i0 0).bind fun o18 =>
  (sa h12 37 o18 20 x17 a3).bind fun h21 =>
  nm (si h21 6 i0 4 ((gi h21 6 i0 4) + 1)) fun h25 =>
  (gr h25 2 i1 0).bind fun o28 =>
  (gar h25 23 o28 20 x17).bind fun o31 =>
  nm (si h25 6 i0 1 ((gi h25 6 i0 1) + (gi h25 1 o31 1))) fun h35 =>
  nm (x7 + 1) fun x38 =>
  some (.inl (x38, (dp h35))))))
def F_X6_meet (i0 : Nat) (i1 : Nat) (i2 : Nat) (a3 : Int32) (a4 : Int32) (h : HP) : Option (DP) :=
  (loopN LF (B_X6_meet_3 i0 i1 i2 a3 a4 h) (0, (dp h))).bind (fun q43 => match q43 with
  | .inl q43 => (fun d46 =>
  nm (wd h d46) fun h47 =>
  nm (sL h47 6 i0 2 ((gl h47 6 i0 2) + ((a4 - (gi h47 6 i0 1))).toInt64)) fun h49 =>
  (if (gi h49 6 i0 3) = (-1) then
  J_X6_meet_68 i0 a3 i0 h49
  else
  J_X6_meet_68 i0 (gi h49 6 i0 3) i0 h49)) q43
  | .inr q43 => (fun d54 =>
  nm (wd h d54) fun h55 =>
  nm (si h55 6 i0 1 ((gi h55 6 i0 1) - a4)) fun h57 =>
  some (dp h57)) q43)
set_option maxHeartbeats 4000000 in
set_option maxRecDepth 100000 in
theorem ok_X6_meet {l : Launch} {D : va_G} {cA : Nat → ClassId} {h : HP}  {d : DP} (i0 : Nat) (i1 : Nat) (i2 : Nat) (a3 : Int32) (a4 : Int32) (al_0 : i0 < gn h 6) (al_1 : i1 < gn h 2) (al_2 : i2 < gn h 4) (hF : F_X6_meet i0 i1 i2 a3 a4 h = some d) : MV l D cA yX6_meet cX6_meet 7 none 3 77 (fun φ => [.ref (φ 6 i0), .ref (φ 2 i1), .ref (φ 4 i2), .int a3, .int a4]) h (wd h d) := by
  refine mk_V (plainFor_of_name (by decide)) (fun φ => Nat.le_of_ble_eq_true rfl) ?_
  intro p e s m args below meth c ls φ A Q X hW hS hl hfin
  have hx := X.1
  have hb := X.2.1
  have hl : lv_has ls 7 [(0, .ref (φ 6 i0)), (1, .ref (φ 2 i1)), (2, .ref (φ 4 i2)), (3, .int a3), (4, .int a4)] := hl
  unfold F_X6_meet at hF
  have j_68 : ∀ (t0_68 : Int32) (t1_68 : Nat) (hj68 : HP) (H : Heap) (locs : List Loc) (ls : Array Slot), hj68.2.2 = h.2.2 → t1_68 < gn h 6 → J_X6_meet_68 i0 t0_68 t1_68 hj68 = some d → HW D cA A φ hj68 H → va_S A s.heap H locs → lv_has ls 7 [(0, .ref (φ 6 i0))] → W p l e (rmo 3 77 0 0) s m args below meth c H locs 0 0 Q (F0 m 68 ls [.int t0_68, .ref (φ 6 t1_68)]) := by
    intro t0_68 t1_68 hj68 H locs ls gj68 alt1_68 hF hW hS hl
    unfold J_X6_meet_68 at hF
    refine r_puti X hW hS (gq gj68 alt1_68) fp_6_29 rfl rfl dX6_meet_68 (fun H locs hW hS => ?_)
    obtain ⟨h1, e2, hF⟩ := nmx hF
    have hW := nmW e2 hW
    have g3 : h1.2.2 = h.2.2 := by rw [e2]; exact gj68
    refine lv_aload_n hx hb dX6_meet_71 rfl (lv_at hl 0 rfl) ?_
    refine lv_iconst (v := 0) hx hb dX6_meet_72 (by decide) ?_
    refine r_puti X hW hS (gq g3 al_0) fp_6_21 rfl rfl dX6_meet_73 (fun H locs hW hS => ?_)
    obtain ⟨h4, e5, hF⟩ := nmx hF
    have hW := nmW e5 hW
    have g6 : h4.2.2 = h.2.2 := by rw [e5]; exact g3
    obtain rfl := sj hF
    exact hfin _ _ _ _ (wdW g6 hW) hS dX6_meet_76
  refine lv_iconst (v := 0) hx hb dX6_meet_0 (by decide) ?_
  refine lv_istore (lv' := [(5, .int 0), (0, .ref (φ 6 i0)), (1, .ref (φ 2 i1)), (2, .ref (φ 4 i2)), (3, .int a3), (4, .int a4)]) hx hb dX6_meet_1 hl (by decide) rfl (fun ls hl => ?_)
  obtain ⟨q43, e44, hF⟩ := bn hF
  refine loop_w (f := B_X6_meet_3 i0 i1 i2 a3 a4 h) (Z := fun q => ∀ (H : Heap) (locs : List Loc) (ls : Array Slot), HW D cA A φ (wd h q.2) H → va_S A s.heap H locs → lv_has ls 7 [(0, .ref (φ 6 i0)), (1, .ref (φ 2 i1)), (2, .ref (φ 4 i2)), (3, .int a3), (4, .int a4), (5, .int (q.1))] → W p l e (rmo 3 77 0 0) s m args below meth c H locs 0 0 Q (F0 m 3 ls [])) (K := fun q => match q with | .inl q => (∀ (H : Heap) (locs : List Loc) (ls : Array Slot), HW D cA A φ (wd h q) H → va_S A s.heap H locs → lv_has ls 7 [(0, .ref (φ 6 i0)), (3, .int a3), (4, .int a4)] → W p l e (rmo 3 77 0 0) s m args below meth c H locs 0 0 Q (F0 m 34 ls [])) | .inr q => (∀ (H : Heap) (locs : List Loc) (ls : Array Slot), HW D cA A φ (wd h q) H → va_S A s.heap H locs → lv_has ls 7 [(0, .ref (φ 6 i0)), (4, .int a4)] → W p l e (rmo 3 77 0 0) s m args below meth c H locs 0 0 Q (F0 m 120 ls []))) ?_ LF _ q43 e44 ?_ _ _ _ (wdW rfl hW) hS (lv_sub hl [1, 2, 3, 4, 5, 0] rfl)
  · intro q v hF hK H locs ls hW hS hl
    obtain ⟨x7, d10⟩ := q
    unfold B_X6_meet_3 at hF
    have hF := u2d hF
    obtain ⟨h8, e45, hF⟩ := nmx hF
    have hW := nmW e45 hW
    have g9 : h8.2.2 = h.2.2 := by rw [e45]; exact rfl
    have hl : lv_has ls 7 [(0, .ref (φ 6 i0)), (1, .ref (φ 2 i1)), (2, .ref (φ 4 i2)), (3, .int a3), (4, .int a4), (5, .int x7)] := hl
    refine lv_iload hx hb dX6_meet_3 (lv_at hl 5 rfl) ?_
    refine lv_bipush (v := 20) hx hb dX6_meet_5 (by decide) ?_
    refine lv_icmp_gt (tgt := 120) hx hb dX6_meet_7 (by decide) (fun c42 => ?_) (fun c42 => ?_)
    · have hF := it c42 hF
      obtain rfl := sj hF
      exact hK _ _ _ (wdW (sq g9 rfl) hW) hS (lv_sub hl [0, 4] rfl)
    · have hF := ie c42 hF
      refine lv_aload_n hx hb dX6_meet_10 rfl (lv_at hl 0 rfl) ?_
      refine r_geti X hW (gq g9 al_0) fl_6_21 dX6_meet_11 ?_
      refine lv_iload hx hb dX6_meet_14 (lv_at hl 4 rfl) ?_
      refine lv_icmp_ge (tgt := 120) hx hb dX6_meet_16 (by decide) (fun c41 => ?_) (fun c41 => ?_)
      · have hF := it c41 hF
        obtain rfl := sj hF
        exact hK _ _ _ (wdW (sq g9 rfl) hW) hS (lv_sub hl [0, 4] rfl)
      · have hF := ie c41 hF
        refine lv_aload_n hx hb dX6_meet_19 rfl (lv_at hl 0 rfl) ?_
        refine lv_aload_n hx hb dX6_meet_20 rfl (lv_at hl 1 rfl) ?_
        refine lv_aload_n hx hb dX6_meet_21 rfl (lv_at hl 2 rfl) ?_
        refine lv_iload_n hx hb dX6_meet_22 rfl (lv_at hl 3 rfl) ?_
        obtain ⟨q16, e11, hF⟩ := bn hF
        obtain ⟨x17, d15⟩ := q16
        have hF := u2d hF
        refine rc_i (Af := fun φ => [.ref (φ 6 i0), .ref (φ 2 i1), .ref (φ 4 i2), .int a3]) X hW hS ⟨Nat.zero_le _, Nat.zero_le _⟩ (rn_V (As := [.ref (φ 2 i1), .ref (φ 4 i2), .int a3]) (rest := []) X hW hS cw_6_53 (gq g9 al_0) rfl rfl rfl ⟨Nat.le_of_ble_eq_true rfl, Nat.le_of_ble_eq_true rfl⟩ rfl hl.1 rfl (Nat.le_of_ble_eq_true rfl) dX6_meet_23) (ok_X6_choose i0 i1 i2 a3 (gq g9 al_0) (gq g9 al_1) (gq g9 al_2) e11) (fun H locs hW hS => ?_)
        obtain ⟨h12, e14, hF⟩ := nmx hF
        have hW := nmW e14 hW
        have g13 : h12.2.2 = h.2.2 := by rw [e14]; exact g9
        refine lv_istore (lv' := [(6, .int x17), (0, .ref (φ 6 i0)), (1, .ref (φ 2 i1)), (2, .ref (φ 4 i2)), (3, .int a3), (4, .int a4), (5, .int x7)]) hx hb dX6_meet_26 hl (by decide) rfl (fun ls hl => ?_)
        refine lv_iload hx hb dX6_meet_28 (lv_at hl 0 rfl) ?_
        refine lv_iconst (v := (-1)) hx hb dX6_meet_30 (by decide) ?_
        refine lv_icmp_ne (tgt := 77) hx hb dX6_meet_31 (by decide) (fun c40 => ?_) (fun c40 => ?_)
        · have hF := ie c40 hF
          refine lv_aload_n hx hb dX6_meet_77 rfl (lv_at hl 1 rfl) ?_
          obtain ⟨o18, e19, hF⟩ := bn hF
          refine r_getr X hW (gq g13 al_0) fl_6_9 e19 dX6_meet_78 (fun al20 => ?_)
          have al20 := qg g13 al20
          refine lv_iload hx hb dX6_meet_81 (lv_at hl 0 rfl) ?_
          refine lv_iload_n hx hb dX6_meet_83 rfl (lv_at hl 4 rfl) ?_
          obtain ⟨h21, e22, hF⟩ := bn hF
          obtain ⟨b23, e22⟩ := sa_s e22
          refine r_iast X hW hS (gq g13 al20) rfl b23 dX6_meet_84 (fun H locs hW hS => ?_)
          have hW := nmW e22 hW
          have g24 : h21.2.2 = h.2.2 := by rw [e22]; exact g13
          refine lv_aload_n hx hb dX6_meet_85 rfl (lv_at hl 1 rfl) ?_
          refine lv_dup hx hb dX6_meet_86 rfl ?_
          refine r_geti X hW (gq g24 al_0) fl_6_32 dX6_meet_87 ?_
          refine lv_iconst (v := 1) hx hb dX6_meet_90 (by decide) ?_
          refine lv_iadd hx hb dX6_meet_91 ?_
          refine r_puti X hW hS (gq g24 al_0) fp_6_32 rfl rfl dX6_meet_92 (fun H locs hW hS => ?_)
          obtain ⟨h25, e26, hF⟩ := nmx hF
          have hW := nmW e26 hW
          have g27 : h25.2.2 = h.2.2 := by rw [e26]; exact g24
          refine lv_aload_n hx hb dX6_meet_95 rfl (lv_at hl 1 rfl) ?_
          refine lv_dup hx hb dX6_meet_96 rfl ?_
          refine r_geti X hW (gq g27 al_0) fl_6_21 dX6_meet_97 ?_
          refine lv_aload_n hx hb dX6_meet_100 rfl (lv_at hl 2 rfl) ?_
          obtain ⟨o28, e29, hF⟩ := bn hF
          refine r_getr X hW (gq g27 al_1) fl_6_57 e29 dX6_meet_101 (fun al30 => ?_)
          have al30 := qg g27 al30
          refine lv_iload hx hb dX6_meet_104 (lv_at hl 0 rfl) ?_
          obtain ⟨o31, e32, hF⟩ := bn hF
          obtain ⟨b33, e32⟩ := gar_s e32
          refine r_aald (t0 := 3) X hW (gq g27 al30) rfl rfl b33 e32 dX6_meet_106 (fun al34 => ?_)
          have al34 := qg g27 al34
          refine r_geti X hW (gq g27 al34) fl_6_63 dX6_meet_107 ?_
          refine lv_iadd hx hb dX6_meet_110 ?_
          refine r_puti X hW hS (gq g27 al_0) fp_6_21 rfl rfl dX6_meet_111 (fun H locs hW hS => ?_)
          obtain ⟨h35, e36, hF⟩ := nmx hF
          have hW := nmW e36 hW
          have g37 : h35.2.2 = h.2.2 := by rw [e36]; exact g27
          obtain ⟨x38, e39, hF⟩ := nmx hF
          refine lv_iinc (v := x38) (lv' := [(5, .int x38), (6, .int x17), (0, .ref (φ 6 i0)), (1, .ref (φ 2 i1)), (2, .ref (φ 4 i2)), (3, .int a3), (4, .int a4)]) hx hb dX6_meet_114 hl (k := 6) rfl (by rw [e39]; rfl) (by decide) rfl (fun ls hl => ?_)
          refine lv_goto (tgt := 3) hx hb dX6_meet_117 (by decide) ?_
          obtain rfl := sj hF
          exact hK _ _ _ (wdW (sq g37 rfl) hW) hS (lv_sub hl [2, 3, 4, 5, 6, 0] rfl)
        · have hF := it c40 hF
          obtain rfl := sj hF
          exact hK _ _ _ (wdW (sq g13 rfl) hW) hS (lv_sub hl [1, 4, 5] rfl)
  · cases q43 with
    | inl q43 =>
      intro H locs ls hW hS hl
      obtain ⟨d46, rfl⟩ : ∃ z, z = q43 := ⟨_, rfl⟩
      obtain ⟨h47, e53, hF⟩ := nmx hF
      have hW := nmW e53 hW
      have g48 : h47.2.2 = h.2.2 := by rw [e53]; exact rfl
      have hl : lv_has ls 7 [(0, .ref (φ 6 i0)), (3, .int a3), (4, .int a4)] := hl
      refine lv_aload_n hx hb dX6_meet_34 rfl (lv_at hl 0 rfl) ?_
      refine lv_dup hx hb dX6_meet_35 rfl ?_
      refine r_getl X hW (gq g48 al_0) fl_6_25 dX6_meet_36 ?_
      refine lv_iload hx hb dX6_meet_39 (lv_at hl 2 rfl) ?_
      refine lv_aload_n hx hb dX6_meet_41 rfl (lv_at hl 0 rfl) ?_
      refine r_geti X hW (gq g48 al_0) fl_6_21 dX6_meet_42 ?_
      refine lv_isub hx hb dX6_meet_45 ?_
      refine lv_i2l (v := ((a4 - (gi h47 6 i0 1))).toInt64) hx hb dX6_meet_46 rfl ?_
      refine lv_ladd hx hb dX6_meet_47 ?_
      refine r_putl X hW hS (gq g48 al_0) fp_6_25 dX6_meet_48 (fun H locs hW hS => ?_)
      obtain ⟨h49, e50, hF⟩ := nmx hF
      have hW := nmW e50 hW
      have g51 : h49.2.2 = h.2.2 := by rw [e50]; exact g48
      refine lv_aload_n hx hb dX6_meet_51 rfl (lv_at hl 0 rfl) ?_
      refine lv_aload_n hx hb dX6_meet_52 rfl (lv_at hl 0 rfl) ?_
      refine r_geti X hW (gq g51 al_0) fl_6_29 dX6_meet_53 ?_
      refine lv_iconst (v := (-1)) hx hb dX6_meet_56 (by decide) ?_
      refine lv_icmp_ne (tgt := 64) hx hb dX6_meet_57 (by decide) (fun c52 => ?_) (fun c52 => ?_)
      · have hF := ie c52 hF
        refine lv_aload_n hx hb dX6_meet_64 rfl (lv_at hl 0 rfl) ?_
        refine r_geti X hW (gq g51 al_0) fl_6_29 dX6_meet_65 ?_
        exact j_68 (gi h49 6 i0 3) i0 h49 _ _ _ g51 al_0 hF hW hS (lv_sub hl [0] rfl)
      · have hF := it c52 hF
        refine lv_iload_n hx hb dX6_meet_60 rfl (lv_at hl 1 rfl) ?_
        refine lv_goto (tgt := 68) hx hb dX6_meet_61 (by decide) ?_
        exact j_68 a3 i0 h49 _ _ _ g51 al_0 hF hW hS (lv_sub hl [0] rfl)
    | inr q43 =>
      intro H locs ls hW hS hl
      obtain ⟨d54, rfl⟩ : ∃ z, z = q43 := ⟨_, rfl⟩
      obtain ⟨h55, e60, hF⟩ := nmx hF
      have hW := nmW e60 hW
      have g56 : h55.2.2 = h.2.2 := by rw [e60]; exact rfl
      have hl : lv_has ls 7 [(0, .ref (φ 6 i0)), (4, .int a4)] := hl
      refine lv_aload_n hx hb dX6_meet_120 rfl (lv_at hl 0 rfl) ?_
      refine lv_dup hx hb dX6_meet_121 rfl ?_
      refine r_geti X hW (gq g56 al_0) fl_6_21 dX6_meet_122 ?_
      refine lv_iload hx hb dX6_meet_125 (lv_at hl 1 rfl) ?_
      refine lv_isub hx hb dX6_meet_127 ?_
      refine r_puti X hW hS (gq g56 al_0) fp_6_21 rfl rfl dX6_meet_128 (fun H locs hW hS => ?_)
      obtain ⟨h57, e58, hF⟩ := nmx hF
      have hW := nmW e58 hW
      have g59 : h57.2.2 = h.2.2 := by rw [e58]; exact g56
      obtain rfl := sj hF
      exact hfin _ _ _ _ (wdW g59 hW) hS dX6_meet_131
def B_X6_plan_31 (i0 : Nat) (i1 : Nat) (i2 : Nat) (i3 : Nat) (h18 : HP) (q : Int32 × DP) : Option ((Int32 × DP) ⊕ (DP)) :=
  u2 q fun x21 d24 =>
  nm (wd h18 d24) fun h22 =>
  (if (gi h22 9 i3 2) ≤ x21 then
  some (.inr (dp h22))
  else
  (gr h22 9 i3 3).bind fun o25 =>
  (ga h22 39 o25 60 x21).bind fun x28 =>
  (F_J_max 0 x28).bind fun x32 =>
  (F_X6_meet i0 i1 i2 x21 x32 h22).bind fun d37 => nm (wd h22 d37) fun h34 =>
  nm (x21 + 1) fun x38 =>
  some (.inl (x38, (dp h34))))
def F_X6_plan (i0 : Nat) (i1 : Nat) (i2 : Nat) (i3 : Nat) (h : HP) : Option (DP) :=
  (gr h 6 i0 0).bind fun o1 =>
  (F_J_fill_37 o1 (-1) h).bind fun d8 => nm (wd h d8) fun h5 =>
  nm (si h5 6 i0 1 0) fun h9 =>
  nm (sL h9 6 i0 2 0) fun h12 =>
  nm (si h12 6 i0 3 (-1)) fun h15 =>
  nm (si h15 6 i0 4 0) fun h18 =>
  (loopN LF (B_X6_plan_31 i0 i1 i2 i3 h18) (0, (dp h18))).bind fun d44 =>
  nm (wd h18 d44) fun h45 =>
  some (dp h45)
set_option maxHeartbeats 4000000 in
set_option maxRecDepth 100000 in
theorem ok_X6_plan {l : Launch} {D : va_G} {cA : Nat → ClassId} {h : HP}  {d : DP} (i0 : Nat) (i1 : Nat) (i2 : Nat) (i3 : Nat) (al_0 : i0 < gn h 6) (al_1 : i1 < gn h 2) (al_2 : i2 < gn h 4) (al_3 : i3 < gn h 9) (hF : F_X6_plan i0 i1 i2 i3 h = some d) : MV l D cA yX6_plan cX6_plan 5 none 4 103 (fun φ => [.ref (φ 6 i0), .ref (φ 2 i1), .ref (φ 4 i2), .ref (φ 9 i3)]) h (wd h d) := by
  refine mk_V (plainFor_of_name (by decide)) (fun φ => Nat.le_of_ble_eq_true rfl) ?_
  intro p e s m args below meth c ls φ A Q X hW hS hl hfin
  have hx := X.1
  have hb := X.2.1
  have hl : lv_has ls 5 [(0, .ref (φ 6 i0)), (1, .ref (φ 2 i1)), (2, .ref (φ 4 i2)), (3, .ref (φ 9 i3))] := hl
  unfold F_X6_plan at hF
  refine lv_aload_n hx hb dX6_plan_0 rfl (lv_at hl 0 rfl) ?_
  obtain ⟨o1, e2, hF⟩ := bn hF
  refine r_getr X hW al_0 fl_6_9 e2 dX6_plan_1 (fun al3 => ?_)
  refine lv_iconst (v := (-1)) hx hb dX6_plan_4 (by decide) ?_
  obtain ⟨d8, e4, hF⟩ := bn hF
  refine rc_v (Af := fun φ => [.ref (φ 37 o1), .int (-1)]) X hW hS ⟨Nat.zero_le _, Nat.zero_le _⟩ (rn_S (As := [.ref (φ 37 o1), .int (-1)]) (rest := []) X hW hS cw_6_15 ⟨Nat.le_of_ble_eq_true rfl, Nat.le_of_ble_eq_true rfl⟩ rfl hl.1 rfl (Nat.le_of_ble_eq_true rfl) dX6_plan_5) (ok_J_fill_37 o1 (-1) al3 e4) (fun H locs hW hS => ?_)
  obtain ⟨h5, e7, hF⟩ := nmx hF
  have hW := nmW e7 hW
  have g6 : h5.2.2 = h.2.2 := by rw [e7]; exact rfl
  refine lv_aload_n hx hb dX6_plan_8 rfl (lv_at hl 0 rfl) ?_
  refine lv_iconst (v := 0) hx hb dX6_plan_9 (by decide) ?_
  refine r_puti X hW hS (gq g6 al_0) fp_6_21 rfl rfl dX6_plan_10 (fun H locs hW hS => ?_)
  obtain ⟨h9, e10, hF⟩ := nmx hF
  have hW := nmW e10 hW
  have g11 : h9.2.2 = h.2.2 := by rw [e10]; exact g6
  refine lv_aload_n hx hb dX6_plan_13 rfl (lv_at hl 0 rfl) ?_
  refine lv_lconst (v := 0) hx hb dX6_plan_14 (by decide) ?_
  refine r_putl X hW hS (gq g11 al_0) fp_6_25 dX6_plan_15 (fun H locs hW hS => ?_)
  obtain ⟨h12, e13, hF⟩ := nmx hF
  have hW := nmW e13 hW
  have g14 : h12.2.2 = h.2.2 := by rw [e13]; exact g11
  refine lv_aload_n hx hb dX6_plan_18 rfl (lv_at hl 0 rfl) ?_
  refine lv_iconst (v := (-1)) hx hb dX6_plan_19 (by decide) ?_
  refine r_puti X hW hS (gq g14 al_0) fp_6_29 rfl rfl dX6_plan_20 (fun H locs hW hS => ?_)
  obtain ⟨h15, e16, hF⟩ := nmx hF
  have hW := nmW e16 hW
  have g17 : h15.2.2 = h.2.2 := by rw [e16]; exact g14
  refine lv_aload_n hx hb dX6_plan_23 rfl (lv_at hl 0 rfl) ?_
  refine lv_iconst (v := 0) hx hb dX6_plan_24 (by decide) ?_
  refine r_puti X hW hS (gq g17 al_0) fp_6_32 rfl rfl dX6_plan_25 (fun H locs hW hS => ?_)
  obtain ⟨h18, e19, hF⟩ := nmx hF
  have hW := nmW e19 hW
  have g20 : h18.2.2 = h.2.2 := by rw [e19]; exact g17
  refine lv_iconst (v := 0) hx hb dX6_plan_28 (by decide) ?_
  refine lv_istore (lv' := [(4, .int 0), (0, .ref (φ 6 i0)), (1, .ref (φ 2 i1)), (2, .ref (φ 4 i2)), (3, .ref (φ 9 i3))]) hx hb dX6_plan_29 hl (by decide) rfl (fun ls hl => ?_)
  obtain ⟨q41, e42, hF⟩ := bn hF
  refine loop_w (f := B_X6_plan_31 i0 i1 i2 i3 h18) (Z := fun q => ∀ (H : Heap) (locs : List Loc) (ls : Array Slot), HW D cA A φ (wd h18 q.2) H → va_S A s.heap H locs → lv_has ls 5 [(0, .ref (φ 6 i0)), (1, .ref (φ 2 i1)), (2, .ref (φ 4 i2)), (3, .ref (φ 9 i3)), (4, .int (q.1))] → W p l e (rmo 4 103 0 0) s m args below meth c H locs 0 0 Q (F0 m 31 ls [])) (K := fun q => ∀ (H : Heap) (locs : List Loc) (ls : Array Slot), HW D cA A φ (wd h18 q) H → va_S A s.heap H locs → lv_has ls 5 [] → W p l e (rmo 4 103 0 0) s m args below meth c H locs 0 0 Q (F0 m 65 ls [])) ?_ LF _ q41 e42 ?_ _ _ _ (wdW rfl hW) hS (lv_sub hl [1, 2, 3, 4, 0] rfl)
  · intro q v hF hK H locs ls hW hS hl
    obtain ⟨x21, d24⟩ := q
    unfold B_X6_plan_31 at hF
    have hF := u2d hF
    obtain ⟨h22, e43, hF⟩ := nmx hF
    have hW := nmW e43 hW
    have g23 : h22.2.2 = h.2.2 := by rw [e43]; exact g20
    have hl : lv_has ls 5 [(0, .ref (φ 6 i0)), (1, .ref (φ 2 i1)), (2, .ref (φ 4 i2)), (3, .ref (φ 9 i3)), (4, .int x21)] := hl
    refine lv_iload hx hb dX6_plan_31 (lv_at hl 4 rfl) ?_
    refine lv_aload_n hx hb dX6_plan_33 rfl (lv_at hl 3 rfl) ?_
    refine r_geti X hW (gq g23 al_3) fl_6_35 dX6_plan_34 ?_
    refine lv_icmp_ge (tgt := 65) hx hb dX6_plan_37 (by decide) (fun c40 => ?_) (fun c40 => ?_)
    · have hF := it c40 hF
      obtain rfl := sj hF
      exact hK _ _ _ (wdW (sq g23 g20) hW) hS (lv_sub hl [] rfl)
    · have hF := ie c40 hF
      refine lv_aload_n hx hb dX6_plan_40 rfl (lv_at hl 0 rfl) ?_
      refine lv_aload_n hx hb dX6_plan_41 rfl (lv_at hl 1 rfl) ?_
      refine lv_aload_n hx hb dX6_plan_42 rfl (lv_at hl 2 rfl) ?_
      refine lv_iload hx hb dX6_plan_43 (lv_at hl 4 rfl) ?_
      refine lv_iconst (v := 0) hx hb dX6_plan_45 (by decide) ?_
      refine lv_aload_n hx hb dX6_plan_46 rfl (lv_at hl 3 rfl) ?_
      obtain ⟨o25, e26, hF⟩ := bn hF
      refine r_getr X hW (gq g23 al_3) fl_6_40 e26 dX6_plan_47 (fun al27 => ?_)
      have al27 := qg g23 al27
      refine lv_iload hx hb dX6_plan_50 (lv_at hl 4 rfl) ?_
      obtain ⟨x28, e29, hF⟩ := bn hF
      obtain ⟨b30, e29⟩ := ga_s e29
      refine r_iald X hW (gq g23 al27) rfl b30 dX6_plan_52 ?_
      refine nmi e29 ?_
      obtain ⟨x32, e31, hF⟩ := bn hF
      refine rc_i (Af := fun φ => [.int 0, .int x28]) X hW hS ⟨Nat.zero_le _, Nat.zero_le _⟩ (rn_S (As := [.int 0, .int x28]) (rest := [.int x21, .ref (φ 4 i2), .ref (φ 2 i1), .ref (φ 6 i0)]) X hW hS cw_6_43 ⟨Nat.le_of_ble_eq_true rfl, Nat.le_of_ble_eq_true rfl⟩ rfl hl.1 rfl (Nat.le_of_ble_eq_true rfl) dX6_plan_53) (ok_J_max 0 x28 e31) (fun H locs hW hS => ?_)
      obtain ⟨d37, e33, hF⟩ := bn hF
      refine rc_v (Af := fun φ => [.ref (φ 6 i0), .ref (φ 2 i1), .ref (φ 4 i2), .int x21, .int x32]) X hW hS ⟨Nat.zero_le _, Nat.zero_le _⟩ (rn_V (As := [.ref (φ 2 i1), .ref (φ 4 i2), .int x21, .int x32]) (rest := []) X hW hS cw_6_49 (gq g23 al_0) rfl rfl rfl ⟨Nat.le_of_ble_eq_true rfl, Nat.le_of_ble_eq_true rfl⟩ rfl hl.1 rfl (Nat.le_of_ble_eq_true rfl) dX6_plan_56) (ok_X6_meet i0 i1 i2 x21 x32 (gq g23 al_0) (gq g23 al_1) (gq g23 al_2) e33) (fun H locs hW hS => ?_)
      obtain ⟨h34, e36, hF⟩ := nmx hF
      have hW := nmW e36 hW
      have g35 : h34.2.2 = h.2.2 := by rw [e36]; exact g23
      obtain ⟨x38, e39, hF⟩ := nmx hF
      refine lv_iinc (v := x38) (lv' := [(4, .int x38), (0, .ref (φ 6 i0)), (1, .ref (φ 2 i1)), (2, .ref (φ 4 i2)), (3, .ref (φ 9 i3))]) hx hb dX6_plan_59 hl (k := 4) rfl (by rw [e39]; rfl) (by decide) rfl (fun ls hl => ?_)
      refine lv_goto (tgt := 31) hx hb dX6_plan_62 (by decide) ?_
      obtain rfl := sj hF
      exact hK _ _ _ (wdW (sq g35 g20) hW) hS (lv_sub hl [1, 2, 3, 4, 0] rfl)
  · intro H locs ls hW hS hl
    obtain ⟨d44, rfl⟩ : ∃ z, z = q41 := ⟨_, rfl⟩
    obtain ⟨h45, e47, hF⟩ := nmx hF
    have hW := nmW e47 hW
    have g46 : h45.2.2 = h.2.2 := by rw [e47]; exact g20
    have hl : lv_has ls 5 [] := hl
    obtain rfl := sj hF
    exact hfin _ _ _ _ (wdW g46 hW) hS dX6_plan_65
def F_X11_melts (i0 : Nat) (a1 : Int32) (a2 : Int32) (h : HP) : Option (Int32 × DP) :=
  (F_X11_isSheet a1).bind fun x2 =>
  (if x2 = 0 then
  some ((-2), dp h)
  else
  (gr h 11 i0 3).bind fun o3 =>
  (F_X2_has o3 a2 h).bind fun x7 =>
  (if x7 = 0 then
  some ((-2), dp h)
  else
  (gr h 11 i0 14).bind fun o8 =>
  (gar h 44 o8 4 a1).bind fun o11 =>
  (if (gi h 9 o11 0) = 0 then
  (gr h 11 i0 11).bind fun o15 =>
  (gr h 11 i0 3).bind fun o18 =>
  (gr h 11 i0 4).bind fun o21 =>
  (gr h 11 i0 14).bind fun o24 =>
  (gar h 44 o24 4 a1).bind fun o27 =>
  (F_X6_plan o15 o18 o21 o27 h).bind fun d35 => nm (wd h d35) fun h32 =>
  (gr h32 11 i0 11).bind fun o36 =>
  (gr h32 6 o36 0).bind fun o39 =>
  (ga h32 37 o39 20 a2).bind fun x42 =>
  some (x42, dp h32)
  else
  (F_X11_finding i0 1 h).bind fun q50 => u2 q50 fun x51 d49 => nm (wd h d49) fun h46 =>
  some (x51, dp h46))))
set_option maxHeartbeats 4000000 in
set_option maxRecDepth 100000 in
theorem ok_X11_melts {l : Launch} {D : va_G} {cA : Nat → ClassId} {h : HP} {r : Int32} {d : DP} (i0 : Nat) (a1 : Int32) (a2 : Int32) (al_0 : i0 < gn h 11) (hF : F_X11_melts i0 a1 a2 h = some (r, d)) : MI l D cA yX11_melts cX11_melts 3 (some .int) 5 127 (fun φ => [.ref (φ 11 i0), .int a1, .int a2]) h r (wd h d) := by
  refine mk_I (plainFor_of_name (by decide)) (fun φ => Nat.le_of_ble_eq_true rfl) ?_
  intro p e s m args below meth c ls φ A Q X hW hS hl hfin
  have hx := X.1
  have hb := X.2.1
  have hl : lv_has ls 3 [(0, .ref (φ 11 i0)), (1, .int a1), (2, .int a2)] := hl
  unfold F_X11_melts at hF
  refine lv_iload_n hx hb dX11_melts_0 rfl (lv_at hl 1 rfl) ?_
  obtain ⟨x2, e1, hF⟩ := bn hF
  refine rc_i (Af := fun φ => [.int a1]) X hW hS ⟨Nat.zero_le _, Nat.zero_le _⟩ (rn_S (As := [.int a1]) (rest := []) X hW hS cw_11_116 ⟨Nat.le_of_ble_eq_true rfl, Nat.le_of_ble_eq_true rfl⟩ rfl hl.1 rfl (Nat.le_of_ble_eq_true rfl) dX11_melts_1) (ok_X11_isSheet a1 e1) (fun H locs hW hS => ?_)
  refine lv_if_eq (tgt := 18) hx hb dX11_melts_4 (by decide) (fun c54 => ?_) (fun c54 => ?_)
  · have hF := it c54 hF
    refine lv_bipush (v := (-2)) hx hb dX11_melts_18 (by decide) ?_
    obtain ⟨rfl, rfl⟩ := sj2 hF
    exact hfin _ _ _ _ (wdW rfl hW) hS dX11_melts_20
  · have hF := ie c54 hF
    refine lv_aload_n hx hb dX11_melts_7 rfl (lv_at hl 0 rfl) ?_
    obtain ⟨o3, e4, hF⟩ := bn hF
    refine r_getr X hW al_0 fl_11_16 e4 dX11_melts_8 (fun al5 => ?_)
    refine lv_iload_n hx hb dX11_melts_11 rfl (lv_at hl 2 rfl) ?_
    obtain ⟨x7, e6, hF⟩ := bn hF
    refine rc_i (Af := fun φ => [.ref (φ 2 o3), .int a2]) X hW hS ⟨Nat.zero_le _, Nat.zero_le _⟩ (rn_V (As := [.int a2]) (rest := []) X hW hS cw_11_137 al5 rfl rfl rfl ⟨Nat.le_of_ble_eq_true rfl, Nat.le_of_ble_eq_true rfl⟩ rfl hl.1 rfl (Nat.le_of_ble_eq_true rfl) dX11_melts_12) (ok_X2_has o3 a2 al5 e6) (fun H locs hW hS => ?_)
    refine lv_if_ne (tgt := 21) hx hb dX11_melts_15 (by decide) (fun c53 => ?_) (fun c53 => ?_)
    · have hF := ie c53 hF
      refine lv_aload_n hx hb dX11_melts_21 rfl (lv_at hl 0 rfl) ?_
      obtain ⟨o8, e9, hF⟩ := bn hF
      refine r_getr X hW al_0 fl_11_76 e9 dX11_melts_22 (fun al10 => ?_)
      refine lv_iload_n hx hb dX11_melts_25 rfl (lv_at hl 1 rfl) ?_
      obtain ⟨o11, e12, hF⟩ := bn hF
      obtain ⟨b13, e12⟩ := gar_s e12
      refine r_aald (t0 := 6) X hW al10 rfl rfl b13 e12 dX11_melts_26 (fun al14 => ?_)
      refine r_geti X hW al14 fl_11_119 dX11_melts_27 ?_
      refine lv_if_eq (tgt := 39) hx hb dX11_melts_30 (by decide) (fun c52 => ?_) (fun c52 => ?_)
      · have hF := it c52 hF
        refine lv_aload_n hx hb dX11_melts_39 rfl (lv_at hl 0 rfl) ?_
        obtain ⟨o15, e16, hF⟩ := bn hF
        refine r_getr X hW al_0 fl_11_56 e16 dX11_melts_40 (fun al17 => ?_)
        refine lv_aload_n hx hb dX11_melts_43 rfl (lv_at hl 0 rfl) ?_
        obtain ⟨o18, e19, hF⟩ := bn hF
        refine r_getr X hW al_0 fl_11_16 e19 dX11_melts_44 (fun al20 => ?_)
        refine lv_aload_n hx hb dX11_melts_47 rfl (lv_at hl 0 rfl) ?_
        obtain ⟨o21, e22, hF⟩ := bn hF
        refine r_getr X hW al_0 fl_11_23 e22 dX11_melts_48 (fun al23 => ?_)
        refine lv_aload_n hx hb dX11_melts_51 rfl (lv_at hl 0 rfl) ?_
        obtain ⟨o24, e25, hF⟩ := bn hF
        refine r_getr X hW al_0 fl_11_76 e25 dX11_melts_52 (fun al26 => ?_)
        refine lv_iload_n hx hb dX11_melts_55 rfl (lv_at hl 1 rfl) ?_
        obtain ⟨o27, e28, hF⟩ := bn hF
        obtain ⟨b29, e28⟩ := gar_s e28
        refine r_aald (t0 := 6) X hW al26 rfl rfl b29 e28 dX11_melts_56 (fun al30 => ?_)
        obtain ⟨d35, e31, hF⟩ := bn hF
        refine rc_v (Af := fun φ => [.ref (φ 6 o15), .ref (φ 2 o18), .ref (φ 4 o21), .ref (φ 9 o27)]) X hW hS ⟨Nat.zero_le _, Nat.zero_le _⟩ (rn_V (As := [.ref (φ 2 o18), .ref (φ 4 o21), .ref (φ 9 o27)]) (rest := []) X hW hS cw_11_296 al17 rfl rfl rfl ⟨Nat.le_of_ble_eq_true rfl, Nat.le_of_ble_eq_true rfl⟩ rfl hl.1 rfl (Nat.le_of_ble_eq_true rfl) dX11_melts_57) (ok_X6_plan o15 o18 o21 o27 al17 al20 al23 al30 e31) (fun H locs hW hS => ?_)
        obtain ⟨h32, e34, hF⟩ := nmx hF
        have hW := nmW e34 hW
        have g33 : h32.2.2 = h.2.2 := by rw [e34]; exact rfl
        refine lv_aload_n hx hb dX11_melts_60 rfl (lv_at hl 0 rfl) ?_
        obtain ⟨o36, e37, hF⟩ := bn hF
        refine r_getr X hW (gq g33 al_0) fl_11_56 e37 dX11_melts_61 (fun al38 => ?_)
        have al38 := qg g33 al38
        obtain ⟨o39, e40, hF⟩ := bn hF
        refine r_getr X hW (gq g33 al38) fl_11_300 e40 dX11_melts_64 (fun al41 => ?_)
        have al41 := qg g33 al41
        refine lv_iload_n hx hb dX11_melts_67 rfl (lv_at hl 2 rfl) ?_
        obtain ⟨x42, e43, hF⟩ := bn hF
        obtain ⟨b44, e43⟩ := ga_s e43
        refine r_iald X hW (gq g33 al41) rfl b44 dX11_melts_68 ?_
        refine nmi e43 ?_
        obtain ⟨rfl, rfl⟩ := sj2 hF
        exact hfin _ _ _ _ (wdW g33 hW) hS dX11_melts_69
      · have hF := ie c52 hF
        refine lv_aload_n hx hb dX11_melts_33 rfl (lv_at hl 0 rfl) ?_
        refine lv_iconst (v := 1) hx hb dX11_melts_34 (by decide) ?_
        obtain ⟨q50, e45, hF⟩ := bn hF
        obtain ⟨x51, d49⟩ := q50
        have hF := u2d hF
        refine rc_i (Af := fun φ => [.ref (φ 11 i0), .int 1]) X hW hS ⟨Nat.zero_le _, Nat.zero_le _⟩ (rn_V (As := [.int 1]) (rest := []) X hW hS cw_11_123 al_0 rfl rfl rfl ⟨Nat.le_of_ble_eq_true rfl, Nat.le_of_ble_eq_true rfl⟩ rfl hl.1 rfl (Nat.le_of_ble_eq_true rfl) dX11_melts_35) (ok_X11_finding i0 1 al_0 e45) (fun H locs hW hS => ?_)
        obtain ⟨h46, e48, hF⟩ := nmx hF
        have hW := nmW e48 hW
        have g47 : h46.2.2 = h.2.2 := by rw [e48]; exact rfl
        obtain ⟨rfl, rfl⟩ := sj2 hF
        exact hfin _ _ _ _ (wdW g47 hW) hS dX11_melts_38
    · have hF := it c53 hF
      refine lv_bipush (v := (-2)) hx hb dX11_melts_18 (by decide) ?_
      obtain ⟨rfl, rfl⟩ := sj2 hF
      exact hfin _ _ _ _ (wdW rfl hW) hS dX11_melts_20
def F_X11_shorts (i0 : Nat) (a1 : Int32) (a2 : Int32) (h : HP) : Option (Int32 × DP) :=
  (F_X11_isSheet a1).bind fun x2 =>
  (if x2 = 0 then
  some ((-2), dp h)
  else
  (F_X11_isFrom a2 0 2).bind fun x4 =>
  (if x4 = 0 then
  some ((-2), dp h)
  else
  (gr h 11 i0 14).bind fun o5 =>
  (gar h 44 o5 4 a1).bind fun o8 =>
  (if (gi h 9 o8 0) = 0 then
  (gr h 11 i0 11).bind fun o12 =>
  (gr h 11 i0 3).bind fun o15 =>
  (gr h 11 i0 4).bind fun o18 =>
  (gr h 11 i0 14).bind fun o21 =>
  (gar h 44 o21 4 a1).bind fun o24 =>
  (F_X6_plan o12 o15 o18 o24 h).bind fun d32 => nm (wd h d32) fun h29 =>
  (if a2 = 0 then
  (gr h29 11 i0 11).bind fun o40 =>
  (F_J_minl (gl h29 6 o40 2) 1000000000).bind fun x44 =>
  some ((x44).toInt32, dp h29)
  else
  (if a2 = 1 then
  (gr h29 11 i0 11).bind fun o36 =>
  some ((gi h29 6 o36 3), dp h29)
  else
  (gr h29 11 i0 11).bind fun o33 =>
  some ((gi h29 6 o33 4), dp h29)))
  else
  (F_X11_finding i0 1 h).bind fun q51 => u2 q51 fun x52 d50 => nm (wd h d50) fun h47 =>
  some (x52, dp h47))))
set_option maxHeartbeats 4000000 in
set_option maxRecDepth 100000 in
theorem ok_X11_shorts {l : Launch} {D : va_G} {cA : Nat → ClassId} {h : HP} {r : Int32} {d : DP} (i0 : Nat) (a1 : Int32) (a2 : Int32) (al_0 : i0 < gn h 11) (hF : F_X11_shorts i0 a1 a2 h = some (r, d)) : MI l D cA yX11_shorts cX11_shorts 3 (some .int) 5 127 (fun φ => [.ref (φ 11 i0), .int a1, .int a2]) h r (wd h d) := by
  refine mk_I (plainFor_of_name (by decide)) (fun φ => Nat.le_of_ble_eq_true rfl) ?_
  intro p e s m args below meth c ls φ A Q X hW hS hl hfin
  have hx := X.1
  have hb := X.2.1
  have hl : lv_has ls 3 [(0, .ref (φ 11 i0)), (1, .int a1), (2, .int a2)] := hl
  unfold F_X11_shorts at hF
  refine lv_iload_n hx hb dX11_shorts_0 rfl (lv_at hl 1 rfl) ?_
  obtain ⟨x2, e1, hF⟩ := bn hF
  refine rc_i (Af := fun φ => [.int a1]) X hW hS ⟨Nat.zero_le _, Nat.zero_le _⟩ (rn_S (As := [.int a1]) (rest := []) X hW hS cw_11_116 ⟨Nat.le_of_ble_eq_true rfl, Nat.le_of_ble_eq_true rfl⟩ rfl hl.1 rfl (Nat.le_of_ble_eq_true rfl) dX11_shorts_1) (ok_X11_isSheet a1 e1) (fun H locs hW hS => ?_)
  refine lv_if_eq (tgt := 16) hx hb dX11_shorts_4 (by decide) (fun c55 => ?_) (fun c55 => ?_)
  · have hF := it c55 hF
    refine lv_bipush (v := (-2)) hx hb dX11_shorts_16 (by decide) ?_
    obtain ⟨rfl, rfl⟩ := sj2 hF
    exact hfin _ _ _ _ (wdW rfl hW) hS dX11_shorts_18
  · have hF := ie c55 hF
    refine lv_iload_n hx hb dX11_shorts_7 rfl (lv_at hl 2 rfl) ?_
    refine lv_iconst (v := 0) hx hb dX11_shorts_8 (by decide) ?_
    refine lv_iconst (v := 2) hx hb dX11_shorts_9 (by decide) ?_
    obtain ⟨x4, e3, hF⟩ := bn hF
    refine rc_i (Af := fun φ => [.int a2, .int 0, .int 2]) X hW hS ⟨Nat.zero_le _, Nat.zero_le _⟩ (rn_S (As := [.int a2, .int 0, .int 2]) (rest := []) X hW hS cw_11_81 ⟨Nat.le_of_ble_eq_true rfl, Nat.le_of_ble_eq_true rfl⟩ rfl hl.1 rfl (Nat.le_of_ble_eq_true rfl) dX11_shorts_10) (ok_X11_isFrom a2 0 2 e3) (fun H locs hW hS => ?_)
    refine lv_if_ne (tgt := 19) hx hb dX11_shorts_13 (by decide) (fun c54 => ?_) (fun c54 => ?_)
    · have hF := ie c54 hF
      refine lv_aload_n hx hb dX11_shorts_19 rfl (lv_at hl 0 rfl) ?_
      obtain ⟨o5, e6, hF⟩ := bn hF
      refine r_getr X hW al_0 fl_11_76 e6 dX11_shorts_20 (fun al7 => ?_)
      refine lv_iload_n hx hb dX11_shorts_23 rfl (lv_at hl 1 rfl) ?_
      obtain ⟨o8, e9, hF⟩ := bn hF
      obtain ⟨b10, e9⟩ := gar_s e9
      refine r_aald (t0 := 6) X hW al7 rfl rfl b10 e9 dX11_shorts_24 (fun al11 => ?_)
      refine r_geti X hW al11 fl_11_119 dX11_shorts_25 ?_
      refine lv_if_eq (tgt := 37) hx hb dX11_shorts_28 (by decide) (fun c53 => ?_) (fun c53 => ?_)
      · have hF := it c53 hF
        refine lv_aload_n hx hb dX11_shorts_37 rfl (lv_at hl 0 rfl) ?_
        obtain ⟨o12, e13, hF⟩ := bn hF
        refine r_getr X hW al_0 fl_11_56 e13 dX11_shorts_38 (fun al14 => ?_)
        refine lv_aload_n hx hb dX11_shorts_41 rfl (lv_at hl 0 rfl) ?_
        obtain ⟨o15, e16, hF⟩ := bn hF
        refine r_getr X hW al_0 fl_11_16 e16 dX11_shorts_42 (fun al17 => ?_)
        refine lv_aload_n hx hb dX11_shorts_45 rfl (lv_at hl 0 rfl) ?_
        obtain ⟨o18, e19, hF⟩ := bn hF
        refine r_getr X hW al_0 fl_11_23 e19 dX11_shorts_46 (fun al20 => ?_)
        refine lv_aload_n hx hb dX11_shorts_49 rfl (lv_at hl 0 rfl) ?_
        obtain ⟨o21, e22, hF⟩ := bn hF
        refine r_getr X hW al_0 fl_11_76 e22 dX11_shorts_50 (fun al23 => ?_)
        refine lv_iload_n hx hb dX11_shorts_53 rfl (lv_at hl 1 rfl) ?_
        obtain ⟨o24, e25, hF⟩ := bn hF
        obtain ⟨b26, e25⟩ := gar_s e25
        refine r_aald (t0 := 6) X hW al23 rfl rfl b26 e25 dX11_shorts_54 (fun al27 => ?_)
        obtain ⟨d32, e28, hF⟩ := bn hF
        refine rc_v (Af := fun φ => [.ref (φ 6 o12), .ref (φ 2 o15), .ref (φ 4 o18), .ref (φ 9 o24)]) X hW hS ⟨Nat.zero_le _, Nat.zero_le _⟩ (rn_V (As := [.ref (φ 2 o15), .ref (φ 4 o18), .ref (φ 9 o24)]) (rest := []) X hW hS cw_11_296 al14 rfl rfl rfl ⟨Nat.le_of_ble_eq_true rfl, Nat.le_of_ble_eq_true rfl⟩ rfl hl.1 rfl (Nat.le_of_ble_eq_true rfl) dX11_shorts_55) (ok_X6_plan o12 o15 o18 o24 al14 al17 al20 al27 e28) (fun H locs hW hS => ?_)
        obtain ⟨h29, e31, hF⟩ := nmx hF
        have hW := nmW e31 hW
        have g30 : h29.2.2 = h.2.2 := by rw [e31]; exact rfl
        refine lv_iload_n hx hb dX11_shorts_58 rfl (lv_at hl 2 rfl) ?_
        refine lv_if_ne (tgt := 77) hx hb dX11_shorts_59 (by decide) (fun c45 => ?_) (fun c45 => ?_)
        · have hF := ie c45 hF
          refine lv_iload_n hx hb dX11_shorts_77 rfl (lv_at hl 2 rfl) ?_
          refine lv_iconst (v := 1) hx hb dX11_shorts_78 (by decide) ?_
          refine lv_icmp_ne (tgt := 92) hx hb dX11_shorts_79 (by decide) (fun c39 => ?_) (fun c39 => ?_)
          · have hF := ie c39 hF
            refine lv_aload_n hx hb dX11_shorts_92 rfl (lv_at hl 0 rfl) ?_
            obtain ⟨o33, e34, hF⟩ := bn hF
            refine r_getr X hW (gq g30 al_0) fl_11_56 e34 dX11_shorts_93 (fun al35 => ?_)
            have al35 := qg g30 al35
            refine r_geti X hW (gq g30 al35) fl_11_318 dX11_shorts_96 ?_
            obtain ⟨rfl, rfl⟩ := sj2 hF
            exact hfin _ _ _ _ (wdW g30 hW) hS dX11_shorts_99
          · have hF := it c39 hF
            refine lv_aload_n hx hb dX11_shorts_82 rfl (lv_at hl 0 rfl) ?_
            obtain ⟨o36, e37, hF⟩ := bn hF
            refine r_getr X hW (gq g30 al_0) fl_11_56 e37 dX11_shorts_83 (fun al38 => ?_)
            have al38 := qg g30 al38
            refine r_geti X hW (gq g30 al38) fl_11_315 dX11_shorts_86 ?_
            refine lv_goto (tgt := 99) hx hb dX11_shorts_89 (by decide) ?_
            obtain ⟨rfl, rfl⟩ := sj2 hF
            exact hfin _ _ _ _ (wdW g30 hW) hS dX11_shorts_99
        · have hF := it c45 hF
          refine lv_aload_n hx hb dX11_shorts_62 rfl (lv_at hl 0 rfl) ?_
          obtain ⟨o40, e41, hF⟩ := bn hF
          refine r_getr X hW (gq g30 al_0) fl_11_56 e41 dX11_shorts_63 (fun al42 => ?_)
          have al42 := qg g30 al42
          refine r_getl X hW (gq g30 al42) fl_11_303 dX11_shorts_66 ?_
          refine lv_ldc2 (v := 1000000000) hx hb X.2.2.2.1 (X.2.2.2.2.1 _ (AL_of 840 (by decide +kernel) rfl)) dX11_shorts_69 ?_
          obtain ⟨x44, e43, hF⟩ := bn hF
          refine rc_l (Af := fun φ => [.long (gl h29 6 o40 2), .long 1000000000]) X hW hS ⟨Nat.zero_le _, Nat.zero_le _⟩ (rn_S (As := [.long (gl h29 6 o40 2), .long 1000000000]) (rest := []) X hW hS cw_11_309 ⟨Nat.le_of_ble_eq_true rfl, Nat.le_of_ble_eq_true rfl⟩ rfl hl.1 rfl (Nat.le_of_ble_eq_true rfl) dX11_shorts_72) (ok_J_minl (gl h29 6 o40 2) 1000000000 e43) (fun H locs hW hS => ?_)
          refine lv_l2i (v := (x44).toInt32) hx hb dX11_shorts_75 rfl ?_
          obtain ⟨rfl, rfl⟩ := sj2 hF
          exact hfin _ _ _ _ (wdW g30 hW) hS dX11_shorts_76
      · have hF := ie c53 hF
        refine lv_aload_n hx hb dX11_shorts_31 rfl (lv_at hl 0 rfl) ?_
        refine lv_iconst (v := 1) hx hb dX11_shorts_32 (by decide) ?_
        obtain ⟨q51, e46, hF⟩ := bn hF
        obtain ⟨x52, d50⟩ := q51
        have hF := u2d hF
        refine rc_i (Af := fun φ => [.ref (φ 11 i0), .int 1]) X hW hS ⟨Nat.zero_le _, Nat.zero_le _⟩ (rn_V (As := [.int 1]) (rest := []) X hW hS cw_11_123 al_0 rfl rfl rfl ⟨Nat.le_of_ble_eq_true rfl, Nat.le_of_ble_eq_true rfl⟩ rfl hl.1 rfl (Nat.le_of_ble_eq_true rfl) dX11_shorts_33) (ok_X11_finding i0 1 al_0 e46) (fun H locs hW hS => ?_)
        obtain ⟨h47, e49, hF⟩ := nmx hF
        have hW := nmW e49 hW
        have g48 : h47.2.2 = h.2.2 := by rw [e49]; exact rfl
        obtain ⟨rfl, rfl⟩ := sj2 hF
        exact hfin _ _ _ _ (wdW g48 hW) hS dX11_shorts_36
    · have hF := it c54 hF
      refine lv_bipush (v := (-2)) hx hb dX11_shorts_16 (by decide) ?_
      obtain ⟨rfl, rfl⟩ := sj2 hF
      exact hfin _ _ _ _ (wdW rfl hW) hS dX11_shorts_18
