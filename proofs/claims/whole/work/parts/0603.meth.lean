def F_X11_forget (i0 : Nat) (h : HP) : Option (Int32 × DP) :=
  nm ((gi h 11 i0 6)) fun x1 =>
  nm (si h 11 i0 6 0) fun h3 =>
  some (x1, dp h3)
set_option maxHeartbeats 4000000 in
set_option maxRecDepth 100000 in
theorem ok_X11_forget {l : Launch} {D : va_G} {cA : Nat → ClassId} {h : HP} {r : Int32} {d : DP} (i0 : Nat) (al_0 : i0 < gn h 11) (hF : F_X11_forget i0 h = some (r, d)) : MI l D cA yX11_forget cX11_forget 2 (some .int) 0 0 (fun φ => [.ref (φ 11 i0)]) h r (wd h d) := by
  refine mk_I (plainFor_of_name (by decide)) (fun φ => Nat.le_of_ble_eq_true rfl) ?_
  intro p e s m args below meth c ls φ A Q X hW hS hl hfin
  have hx := X.1
  have hb := X.2.1
  have hl : lv_has ls 2 [(0, .ref (φ 11 i0))] := hl
  unfold F_X11_forget at hF
  refine lv_aload_n hx hb dX11_forget_0 rfl (lv_at hl 0 rfl) ?_
  refine r_geti X hW al_0 fl_11_223 dX11_forget_1 ?_
  obtain ⟨x1, e2, hF⟩ := nmx hF
  refine nmi e2 ?_
  refine lv_istore_n (lv' := [(1, .int x1), (0, .ref (φ 11 i0))]) hx hb dX11_forget_4 rfl hl (by decide) rfl (fun ls hl => ?_)
  refine lv_aload_n hx hb dX11_forget_5 rfl (lv_at hl 1 rfl) ?_
  refine lv_iconst (v := 0) hx hb dX11_forget_6 (by decide) ?_
  refine r_puti X hW hS al_0 fp_11_223 rfl rfl dX11_forget_7 (fun H locs hW hS => ?_)
  obtain ⟨h3, e4, hF⟩ := nmx hF
  have hW := nmW e4 hW
  have g5 : h3.2.2 = h.2.2 := by rw [e4]; exact rfl
  refine lv_iload_n hx hb dX11_forget_10 rfl (lv_at hl 0 rfl) ?_
  obtain ⟨rfl, rfl⟩ := sj2 hF
  exact hfin _ _ _ _ (wdW g5 hW) hS dX11_forget_11
def F_X11_isUnnamed (i0 : Nat) (a1 : Int32) (h : HP) : Option (Int32) :=
  (F_X11_isFrom a1 0 ((gi h 11 i0 6) - 1)).bind fun x2 =>
  (bz x2).bind fun x3 => some x3
set_option maxHeartbeats 4000000 in
set_option maxRecDepth 100000 in
theorem ok_X11_isUnnamed {l : Launch} {D : va_G} {cA : Nat → ClassId} {h : HP} {r : Int32}  (i0 : Nat) (a1 : Int32) (al_0 : i0 < gn h 11) (hF : F_X11_isUnnamed i0 a1 h = some r) : MI l D cA yX11_isUnnamed cX11_isUnnamed 2 (some .boolean) 1 22 (fun φ => [.ref (φ 11 i0), .int a1]) h r h := by
  refine mk_Z (plainFor_of_name (by decide)) (fun φ => Nat.le_of_ble_eq_true rfl) ?_
  intro p e s m args below meth c ls φ A Q X hW hS hl hfin
  have hx := X.1
  have hb := X.2.1
  have hl : lv_has ls 2 [(0, .ref (φ 11 i0)), (1, .int a1)] := hl
  unfold F_X11_isUnnamed at hF
  refine lv_iload_n hx hb dX11_isUnnamed_0 rfl (lv_at hl 1 rfl) ?_
  refine lv_iconst (v := 0) hx hb dX11_isUnnamed_1 (by decide) ?_
  refine lv_aload_n hx hb dX11_isUnnamed_2 rfl (lv_at hl 0 rfl) ?_
  refine r_geti X hW al_0 fl_11_223 dX11_isUnnamed_3 ?_
  refine lv_iconst (v := 1) hx hb dX11_isUnnamed_6 (by decide) ?_
  refine lv_isub hx hb dX11_isUnnamed_7 ?_
  obtain ⟨x2, e1, hF⟩ := bn hF
  refine rc_i (Af := fun φ => [.int a1, .int 0, .int ((gi h 11 i0 6) - 1)]) X hW hS ⟨Nat.zero_le _, Nat.zero_le _⟩ (rn_S (As := [.int a1, .int 0, .int ((gi h 11 i0 6) - 1)]) (rest := []) X hW hS cw_11_81 ⟨Nat.le_of_ble_eq_true rfl, Nat.le_of_ble_eq_true rfl⟩ rfl hl.1 rfl (Nat.le_of_ble_eq_true rfl) dX11_isUnnamed_8) (ok_X11_isFrom a1 0 ((gi h 11 i0 6) - 1) e1) (fun H locs hW hS => ?_)
  obtain ⟨x3, e4, hF⟩ := bn hF
  obtain ⟨b5, e4⟩ := bz_s e4
  refine nmi e4 ?_
  rw [← e4] at b5
  obtain rfl := sj hF
  exact hfin _ _ _ _ hW hS b5 dX11_isUnnamed_11
def F_J_abs (a0 : Int32) : Option (Int32) :=
  (if 0 ≤ a0 then
  some a0
  else
  some (-a0))
set_option maxHeartbeats 4000000 in
set_option maxRecDepth 100000 in
theorem ok_J_abs {l : Launch} {D : va_G} {cA : Nat → ClassId} {h : HP} {r : Int32}  (a0 : Int32)  (hF : F_J_abs a0 = some r) : MI l D cA yJ_abs cJ_abs 1 (some .int) 0 0 (fun φ => [.int a0]) h r h := by
  refine mk_I (by decide +kernel) (fun φ => Nat.le_of_ble_eq_true rfl) ?_
  intro p e s m args below meth c ls φ A Q X hW hS hl hfin
  have hx := X.1
  have hb := X.2.1
  have hl : lv_has ls 1 [(0, .int a0)] := hl
  unfold F_J_abs at hF
  refine lv_iload_n hx hb dJ_abs_0 rfl (lv_at hl 0 rfl) ?_
  refine lv_if_ge (tgt := 9) hx hb dJ_abs_1 (by decide) (fun c1 => ?_) (fun c1 => ?_)
  · have hF := it c1 hF
    refine lv_iload_n hx hb dJ_abs_9 rfl (lv_at hl 0 rfl) ?_
    obtain rfl := sj hF
    exact hfin _ _ _ _ hW hS dJ_abs_10
  · have hF := ie c1 hF
    refine lv_iload_n hx hb dJ_abs_4 rfl (lv_at hl 0 rfl) ?_
    refine lv_ineg hx hb dJ_abs_5 ?_
    refine lv_goto (tgt := 10) hx hb dJ_abs_6 (by decide) ?_
    obtain rfl := sj hF
    exact hfin _ _ _ _ hW hS dJ_abs_10
def F_X10_apart (i0 : Nat) (i1 : Nat) (a2 : Int32) (h : HP) : Option (Int32) :=
  (gr h 10 i0 0).bind fun o1 =>
  (ga h 40 o1 5 a2).bind fun x4 =>
  (if x4 = (-1) then
  some 0
  else
  (gr h 1 i1 4).bind fun o7 =>
  (ga h 20 o7 5 a2).bind fun x10 =>
  (if x10 = (-1) then
  some 0
  else
  (gr h 10 i0 0).bind fun o13 =>
  (ga h 40 o13 5 a2).bind fun x16 =>
  (gr h 1 i1 4).bind fun o19 =>
  (ga h 20 o19 5 a2).bind fun x22 =>
  (F_J_abs (x16 - x22)).bind fun x26 =>
  some x26))
set_option maxHeartbeats 4000000 in
set_option maxRecDepth 100000 in
theorem ok_X10_apart {l : Launch} {D : va_G} {cA : Nat → ClassId} {h : HP} {r : Int32}  (i0 : Nat) (i1 : Nat) (a2 : Int32) (al_0 : i0 < gn h 10) (al_1 : i1 < gn h 1) (hF : F_X10_apart i0 i1 a2 h = some r) : MI l D cA yX10_apart cX10_apart 3 (some .int) 1 20 (fun φ => [.ref (φ 10 i0), .ref (φ 1 i1), .int a2]) h r h := by
  refine mk_I (plainFor_of_name (by decide)) (fun φ => Nat.le_of_ble_eq_true rfl) ?_
  intro p e s m args below meth c ls φ A Q X hW hS hl hfin
  have hx := X.1
  have hb := X.2.1
  have hl : lv_has ls 3 [(0, .ref (φ 10 i0)), (1, .ref (φ 1 i1)), (2, .int a2)] := hl
  unfold F_X10_apart at hF
  refine lv_aload_n hx hb dX10_apart_0 rfl (lv_at hl 0 rfl) ?_
  obtain ⟨o1, e2, hF⟩ := bn hF
  refine r_getr X hW al_0 fl_10_9 e2 dX10_apart_1 (fun al3 => ?_)
  refine lv_iload_n hx hb dX10_apart_4 rfl (lv_at hl 2 rfl) ?_
  obtain ⟨x4, e5, hF⟩ := bn hF
  obtain ⟨b6, e5⟩ := ga_s e5
  refine r_iald X hW al3 rfl b6 dX10_apart_5 ?_
  refine nmi e5 ?_
  refine lv_iconst (v := (-1)) hx hb dX10_apart_6 (by decide) ?_
  refine lv_icmp_eq (tgt := 20) hx hb dX10_apart_7 (by decide) (fun c28 => ?_) (fun c28 => ?_)
  · have hF := it c28 hF
    refine lv_iconst (v := 0) hx hb dX10_apart_20 (by decide) ?_
    refine lv_goto (tgt := 40) hx hb dX10_apart_21 (by decide) ?_
    obtain rfl := sj hF
    exact hfin _ _ _ _ hW hS dX10_apart_40
  · have hF := ie c28 hF
    refine lv_aload_n hx hb dX10_apart_10 rfl (lv_at hl 1 rfl) ?_
    obtain ⟨o7, e8, hF⟩ := bn hF
    refine r_getr X hW al_1 fl_10_55 e8 dX10_apart_11 (fun al9 => ?_)
    refine lv_iload_n hx hb dX10_apart_14 rfl (lv_at hl 2 rfl) ?_
    obtain ⟨x10, e11, hF⟩ := bn hF
    obtain ⟨b12, e11⟩ := ga_s e11
    refine r_iald X hW al9 rfl b12 dX10_apart_15 ?_
    refine nmi e11 ?_
    refine lv_iconst (v := (-1)) hx hb dX10_apart_16 (by decide) ?_
    refine lv_icmp_ne (tgt := 24) hx hb dX10_apart_17 (by decide) (fun c27 => ?_) (fun c27 => ?_)
    · have hF := ie c27 hF
      refine lv_aload_n hx hb dX10_apart_24 rfl (lv_at hl 0 rfl) ?_
      obtain ⟨o13, e14, hF⟩ := bn hF
      refine r_getr X hW al_0 fl_10_9 e14 dX10_apart_25 (fun al15 => ?_)
      refine lv_iload_n hx hb dX10_apart_28 rfl (lv_at hl 2 rfl) ?_
      obtain ⟨x16, e17, hF⟩ := bn hF
      obtain ⟨b18, e17⟩ := ga_s e17
      refine r_iald X hW al15 rfl b18 dX10_apart_29 ?_
      refine nmi e17 ?_
      refine lv_aload_n hx hb dX10_apart_30 rfl (lv_at hl 1 rfl) ?_
      obtain ⟨o19, e20, hF⟩ := bn hF
      refine r_getr X hW al_1 fl_10_55 e20 dX10_apart_31 (fun al21 => ?_)
      refine lv_iload_n hx hb dX10_apart_34 rfl (lv_at hl 2 rfl) ?_
      obtain ⟨x22, e23, hF⟩ := bn hF
      obtain ⟨b24, e23⟩ := ga_s e23
      refine r_iald X hW al21 rfl b24 dX10_apart_35 ?_
      refine nmi e23 ?_
      refine lv_isub hx hb dX10_apart_36 ?_
      obtain ⟨x26, e25, hF⟩ := bn hF
      refine rc_i (Af := fun φ => [.int (x16 - x22)]) X hW hS ⟨Nat.zero_le _, Nat.zero_le _⟩ (rn_S (As := [.int (x16 - x22)]) (rest := []) X hW hS cw_10_32 ⟨Nat.le_of_ble_eq_true rfl, Nat.le_of_ble_eq_true rfl⟩ rfl hl.1 rfl (Nat.le_of_ble_eq_true rfl) dX10_apart_37) (ok_J_abs (x16 - x22) e25) (fun H locs hW hS => ?_)
      obtain rfl := sj hF
      exact hfin _ _ _ _ hW hS dX10_apart_40
    · have hF := it c27 hF
      refine lv_iconst (v := 0) hx hb dX10_apart_20 (by decide) ?_
      refine lv_goto (tgt := 40) hx hb dX10_apart_21 (by decide) ?_
      obtain rfl := sj hF
      exact hfin _ _ _ _ hW hS dX10_apart_40
def B_X10_couldBe_41 (i0 : Nat) (i1 : Nat) (h : HP) (x1 : Int32) : Option ((Int32) ⊕ (Unit ⊕ Unit)) :=
  (if 5 ≤ x1 then
  some (.inr (.inr ()))
  else
  (F_X10_apart i0 i1 x1 h).bind fun x3 =>
  (if x3 ≤ (gi h 10 i0 1) then
  nm (x1 + 1) fun x4 =>
  some (.inl x4)
  else
  some (.inr (.inl ()))))
def J_X10_couldBe_39 (i0 : Nat) (i1 : Nat) (h : HP) : Option (Int32) :=
  (loopN LF (B_X10_couldBe_41 i0 i1 h) 0).bind (fun q8 => match q8 with
  | .inl q8 => (fun _ =>
  some 0) q8
  | .inr q8 => (fun _ =>
  some 1) q8)
def F_X10_couldBe (i0 : Nat) (i1 : Nat) (h : HP) : Option (Int32) :=
  (F_X1_stateNow i1 h).bind fun x11 =>
  (if x11 = 3 then
  (if (gi h 10 i0 2) = (-1) then
  J_X10_couldBe_39 i0 i1 h
  else
  (F_J_abs ((gi h 10 i0 2) - (gi h 1 i1 1))).bind fun x13 =>
  (if x13 ≤ (gi h 10 i0 3) then
  J_X10_couldBe_39 i0 i1 h
  else
  some 0))
  else
  some 0)
set_option maxHeartbeats 4000000 in
set_option maxRecDepth 100000 in
theorem ok_X10_couldBe {l : Launch} {D : va_G} {cA : Nat → ClassId} {h : HP} {r : Int32}  (i0 : Nat) (i1 : Nat) (al_0 : i0 < gn h 10) (al_1 : i1 < gn h 1) (hF : F_X10_couldBe i0 i1 h = some r) : MI l D cA yX10_couldBe cX10_couldBe 3 (some .boolean) 2 42 (fun φ => [.ref (φ 10 i0), .ref (φ 1 i1)]) h r h := by
  refine mk_Z (plainFor_of_name (by decide)) (fun φ => Nat.le_of_ble_eq_true rfl) ?_
  intro p e s m args below meth c ls φ A Q X hW hS hl hfin
  have hx := X.1
  have hb := X.2.1
  have hl : lv_has ls 3 [(0, .ref (φ 10 i0)), (1, .ref (φ 1 i1))] := hl
  unfold F_X10_couldBe at hF
  have j_39 : ∀  (H : Heap) (locs : List Loc) (ls : Array Slot), J_X10_couldBe_39 i0 i1 h = some r → HW D cA A φ h H → va_S A s.heap H locs → lv_has ls 3 [(0, .ref (φ 10 i0)), (1, .ref (φ 1 i1))] → W p l e (rmo 2 42 0 0) s m args below meth c H locs 0 0 Q (F0 m 39 ls []) := by
    intro H locs ls hF hW hS hl
    unfold J_X10_couldBe_39 at hF
    refine lv_iconst (v := 0) hx hb dX10_couldBe_39 (by decide) ?_
    refine lv_istore_n (lv' := [(2, .int 0), (0, .ref (φ 10 i0)), (1, .ref (φ 1 i1))]) hx hb dX10_couldBe_40 rfl hl (by decide) rfl (fun ls hl => ?_)
    obtain ⟨q8, e9, hF⟩ := bn hF
    refine loop_w (f := B_X10_couldBe_41 i0 i1 h) (Z := fun q => ∀ (H : Heap) (locs : List Loc) (ls : Array Slot), HW D cA A φ h H → va_S A s.heap H locs → lv_has ls 3 [(0, .ref (φ 10 i0)), (1, .ref (φ 1 i1)), (2, .int q)] → W p l e (rmo 2 42 0 0) s m args below meth c H locs 0 0 Q (F0 m 41 ls [])) (K := fun q => match q with | .inl q => (∀ (H : Heap) (locs : List Loc) (ls : Array Slot), HW D cA A φ h H → va_S A s.heap H locs → lv_has ls 3 [] → W p l e (rmo 2 42 0 0) s m args below meth c H locs 0 0 Q (F0 m 59 ls [])) | .inr q => (∀ (H : Heap) (locs : List Loc) (ls : Array Slot), HW D cA A φ h H → va_S A s.heap H locs → lv_has ls 3 [] → W p l e (rmo 2 42 0 0) s m args below meth c H locs 0 0 Q (F0 m 67 ls []))) ?_ LF _ q8 e9 ?_ _ _ _ hW hS (lv_sub hl [1, 2, 0] rfl)
    · intro x1 v hF hK H locs ls hW hS hl
      unfold B_X10_couldBe_41 at hF
      have hl : lv_has ls 3 [(0, .ref (φ 10 i0)), (1, .ref (φ 1 i1)), (2, .int x1)] := hl
      refine lv_iload_n hx hb dX10_couldBe_41 rfl (lv_at hl 2 rfl) ?_
      refine lv_iconst (v := 5) hx hb dX10_couldBe_42 (by decide) ?_
      refine lv_icmp_ge (tgt := 67) hx hb dX10_couldBe_43 (by decide) (fun c7 => ?_) (fun c7 => ?_)
      · have hF := it c7 hF
        obtain rfl := sj hF
        exact hK _ _ _ hW hS (lv_sub hl [] rfl)
      · have hF := ie c7 hF
        refine lv_aload_n hx hb dX10_couldBe_46 rfl (lv_at hl 0 rfl) ?_
        refine lv_aload_n hx hb dX10_couldBe_47 rfl (lv_at hl 1 rfl) ?_
        refine lv_iload_n hx hb dX10_couldBe_48 rfl (lv_at hl 2 rfl) ?_
        obtain ⟨x3, e2, hF⟩ := bn hF
        refine rc_i (Af := fun φ => [.ref (φ 10 i0), .ref (φ 1 i1), .int x1]) X hW hS ⟨Nat.zero_le _, Nat.zero_le _⟩ (rn_V (As := [.ref (φ 1 i1), .int x1]) (rest := []) X hW hS cw_10_38 al_0 rfl rfl rfl ⟨Nat.le_of_ble_eq_true rfl, Nat.le_of_ble_eq_true rfl⟩ rfl hl.1 rfl (Nat.le_of_ble_eq_true rfl) dX10_couldBe_49) (ok_X10_apart i0 i1 x1 al_0 al_1 e2) (fun H locs hW hS => ?_)
        refine lv_aload_n hx hb dX10_couldBe_52 rfl (lv_at hl 0 rfl) ?_
        refine r_geti X hW al_0 fl_10_15 dX10_couldBe_53 ?_
        refine lv_icmp_le (tgt := 61) hx hb dX10_couldBe_56 (by decide) (fun c6 => ?_) (fun c6 => ?_)
        · have hF := it c6 hF
          obtain ⟨x4, e5, hF⟩ := nmx hF
          refine lv_iinc (v := x4) (lv' := [(2, .int x4), (0, .ref (φ 10 i0)), (1, .ref (φ 1 i1))]) hx hb dX10_couldBe_61 hl (k := 2) rfl (by rw [e5]; rfl) (by decide) rfl (fun ls hl => ?_)
          refine lv_goto (tgt := 41) hx hb dX10_couldBe_64 (by decide) ?_
          obtain rfl := sj hF
          exact hK _ _ _ hW hS (lv_sub hl [1, 2, 0] rfl)
        · have hF := ie c6 hF
          obtain rfl := sj hF
          exact hK _ _ _ hW hS (lv_sub hl [] rfl)
    · cases q8 with
      | inl q8 =>
        intro H locs ls hW hS hl
        have hl : lv_has ls 3 [] := hl
        refine lv_iconst (v := 0) hx hb dX10_couldBe_59 (by decide) ?_
        obtain rfl := sj hF
        exact hfin _ _ _ _ hW hS (Or.inl rfl) dX10_couldBe_60
      | inr q8 =>
        intro H locs ls hW hS hl
        have hl : lv_has ls 3 [] := hl
        refine lv_iconst (v := 1) hx hb dX10_couldBe_67 (by decide) ?_
        obtain rfl := sj hF
        exact hfin _ _ _ _ hW hS (Or.inr rfl) dX10_couldBe_68
  refine lv_aload_n hx hb dX10_couldBe_0 rfl (lv_at hl 1 rfl) ?_
  obtain ⟨x11, e10, hF⟩ := bn hF
  refine rc_i (Af := fun φ => [.ref (φ 1 i1)]) X hW hS ⟨Nat.zero_le _, Nat.zero_le _⟩ (rn_V (As := []) (rest := []) X hW hS cw_10_25 al_1 rfl rfl rfl ⟨Nat.le_of_ble_eq_true rfl, Nat.le_of_ble_eq_true rfl⟩ rfl hl.1 rfl (Nat.le_of_ble_eq_true rfl) dX10_couldBe_1) (ok_X1_stateNow i1 al_1 e10) (fun H locs hW hS => ?_)
  refine lv_iconst (v := 3) hx hb dX10_couldBe_4 (by decide) ?_
  refine lv_icmp_eq (tgt := 10) hx hb dX10_couldBe_5 (by decide) (fun c16 => ?_) (fun c16 => ?_)
  · have hF := it c16 hF
    refine lv_aload_n hx hb dX10_couldBe_10 rfl (lv_at hl 0 rfl) ?_
    refine r_geti X hW al_0 fl_10_19 dX10_couldBe_11 ?_
    refine lv_iconst (v := (-1)) hx hb dX10_couldBe_14 (by decide) ?_
    refine lv_icmp_eq (tgt := 39) hx hb dX10_couldBe_15 (by decide) (fun c15 => ?_) (fun c15 => ?_)
    · have hF := it c15 hF
      exact j_39 _ _ _ hF hW hS (lv_sub hl [0, 1] rfl)
    · have hF := ie c15 hF
      refine lv_aload_n hx hb dX10_couldBe_18 rfl (lv_at hl 0 rfl) ?_
      refine r_geti X hW al_0 fl_10_19 dX10_couldBe_19 ?_
      refine lv_aload_n hx hb dX10_couldBe_22 rfl (lv_at hl 1 rfl) ?_
      refine r_geti X hW al_1 fl_10_31 dX10_couldBe_23 ?_
      refine lv_isub hx hb dX10_couldBe_26 ?_
      obtain ⟨x13, e12, hF⟩ := bn hF
      refine rc_i (Af := fun φ => [.int ((gi h 10 i0 2) - (gi h 1 i1 1))]) X hW hS ⟨Nat.zero_le _, Nat.zero_le _⟩ (rn_S (As := [.int ((gi h 10 i0 2) - (gi h 1 i1 1))]) (rest := []) X hW hS cw_10_32 ⟨Nat.le_of_ble_eq_true rfl, Nat.le_of_ble_eq_true rfl⟩ rfl hl.1 rfl (Nat.le_of_ble_eq_true rfl) dX10_couldBe_27) (ok_J_abs ((gi h 10 i0 2) - (gi h 1 i1 1)) e12) (fun H locs hW hS => ?_)
      refine lv_aload_n hx hb dX10_couldBe_30 rfl (lv_at hl 0 rfl) ?_
      refine r_geti X hW al_0 fl_10_22 dX10_couldBe_31 ?_
      refine lv_icmp_le (tgt := 39) hx hb dX10_couldBe_34 (by decide) (fun c14 => ?_) (fun c14 => ?_)
      · have hF := it c14 hF
        exact j_39 _ _ _ hF hW hS (lv_sub hl [0, 1] rfl)
      · have hF := ie c14 hF
        refine lv_iconst (v := 0) hx hb dX10_couldBe_37 (by decide) ?_
        obtain rfl := sj hF
        exact hfin _ _ _ _ hW hS (Or.inl rfl) dX10_couldBe_38
  · have hF := ie c16 hF
    refine lv_iconst (v := 0) hx hb dX10_couldBe_8 (by decide) ?_
    obtain rfl := sj hF
    exact hfin _ _ _ _ hW hS (Or.inl rfl) dX10_couldBe_9
def B_X10_couldBeBits_4 (i0 : Nat) (i1 : Nat) (h : HP) (q : Int32 × Int32) : Option ((Int32 × Int32) ⊕ (Int32)) :=
  u2 q fun x1 x2 =>
  (if (gi h 2 i1 1) ≤ x2 then
  some (.inr x1)
  else
  (gr h 2 i1 0).bind fun o3 =>
  (gar h 23 o3 20 x2).bind fun o6 =>
  (F_X10_couldBe i0 o6 h).bind fun x11 =>
  (if x11 = 0 then
  nm (x2 + 1) fun x12 =>
  some (.inl (x1, x12))
  else
  nm ((x1 ||| (1 <<< (x2 &&& 31)))) fun x14 =>
  nm (x2 + 1) fun x16 =>
  some (.inl (x14, x16))))
def F_X10_couldBeBits (i0 : Nat) (i1 : Nat) (h : HP) : Option (Int32) :=
  (loopN LF (B_X10_couldBeBits_4 i0 i1 h) (0, 0)).bind fun x22 =>
  some x22
set_option maxHeartbeats 4000000 in
set_option maxRecDepth 100000 in
theorem ok_X10_couldBeBits {l : Launch} {D : va_G} {cA : Nat → ClassId} {h : HP} {r : Int32}  (i0 : Nat) (i1 : Nat) (al_0 : i0 < gn h 10) (al_1 : i1 < gn h 2) (hF : F_X10_couldBeBits i0 i1 h = some r) : MI l D cA yX10_couldBeBits cX10_couldBeBits 4 (some .int) 3 64 (fun φ => [.ref (φ 10 i0), .ref (φ 2 i1)]) h r h := by
  refine mk_I (plainFor_of_name (by decide)) (fun φ => Nat.le_of_ble_eq_true rfl) ?_
  intro p e s m args below meth c ls φ A Q X hW hS hl hfin
  have hx := X.1
  have hb := X.2.1
  have hl : lv_has ls 4 [(0, .ref (φ 10 i0)), (1, .ref (φ 2 i1))] := hl
  unfold F_X10_couldBeBits at hF
  refine lv_iconst (v := 0) hx hb dX10_couldBeBits_0 (by decide) ?_
  refine lv_istore_n (lv' := [(2, .int 0), (0, .ref (φ 10 i0)), (1, .ref (φ 2 i1))]) hx hb dX10_couldBeBits_1 rfl hl (by decide) rfl (fun ls hl => ?_)
  refine lv_iconst (v := 0) hx hb dX10_couldBeBits_2 (by decide) ?_
  refine lv_istore_n (lv' := [(3, .int 0), (2, .int 0), (0, .ref (φ 10 i0)), (1, .ref (φ 2 i1))]) hx hb dX10_couldBeBits_3 rfl hl (by decide) rfl (fun ls hl => ?_)
  obtain ⟨q20, e21, hF⟩ := bn hF
  refine loop_w (f := B_X10_couldBeBits_4 i0 i1 h) (Z := fun q => ∀ (H : Heap) (locs : List Loc) (ls : Array Slot), HW D cA A φ h H → va_S A s.heap H locs → lv_has ls 4 [(0, .ref (φ 10 i0)), (1, .ref (φ 2 i1)), (2, .int (q.1)), (3, .int (q.2))] → W p l e (rmo 3 64 0 0) s m args below meth c H locs 0 0 Q (F0 m 4 ls [])) (K := fun q => ∀ (H : Heap) (locs : List Loc) (ls : Array Slot), HW D cA A φ h H → va_S A s.heap H locs → lv_has ls 4 [(2, .int q)] → W p l e (rmo 3 64 0 0) s m args below meth c H locs 0 0 Q (F0 m 37 ls [])) ?_ LF _ q20 e21 ?_ _ _ _ hW hS (lv_sub hl [2, 3, 1, 0] rfl)
  · intro q v hF hK H locs ls hW hS hl
    obtain ⟨x1, x2⟩ := q
    unfold B_X10_couldBeBits_4 at hF
    have hF := u2d hF
    have hl : lv_has ls 4 [(0, .ref (φ 10 i0)), (1, .ref (φ 2 i1)), (2, .int x1), (3, .int x2)] := hl
    refine lv_iload_n hx hb dX10_couldBeBits_4 rfl (lv_at hl 3 rfl) ?_
    refine lv_aload_n hx hb dX10_couldBeBits_5 rfl (lv_at hl 1 rfl) ?_
    refine r_geti X hW al_1 fl_10_42 dX10_couldBeBits_6 ?_
    refine lv_icmp_ge (tgt := 37) hx hb dX10_couldBeBits_9 (by decide) (fun c19 => ?_) (fun c19 => ?_)
    · have hF := it c19 hF
      obtain rfl := sj hF
      exact hK _ _ _ hW hS (lv_sub hl [2] rfl)
    · have hF := ie c19 hF
      refine lv_aload_n hx hb dX10_couldBeBits_12 rfl (lv_at hl 0 rfl) ?_
      refine lv_aload_n hx hb dX10_couldBeBits_13 rfl (lv_at hl 1 rfl) ?_
      obtain ⟨o3, e4, hF⟩ := bn hF
      refine r_getr X hW al_1 fl_10_47 e4 dX10_couldBeBits_14 (fun al5 => ?_)
      refine lv_iload_n hx hb dX10_couldBeBits_17 rfl (lv_at hl 3 rfl) ?_
      obtain ⟨o6, e7, hF⟩ := bn hF
      obtain ⟨b8, e7⟩ := gar_s e7
      refine r_aald (t0 := 3) X hW al5 rfl rfl b8 e7 dX10_couldBeBits_18 (fun al9 => ?_)
      obtain ⟨x11, e10, hF⟩ := bn hF
      refine rc_i (Af := fun φ => [.ref (φ 10 i0), .ref (φ 1 o6)]) X hW hS ⟨Nat.zero_le _, Nat.zero_le _⟩ (rn_V (As := [.ref (φ 1 o6)]) (rest := []) X hW hS cw_10_51 al_0 rfl rfl rfl ⟨Nat.le_of_ble_eq_true rfl, Nat.le_of_ble_eq_true rfl⟩ rfl hl.1 rfl (Nat.le_of_ble_eq_true rfl) dX10_couldBeBits_19) (ok_X10_couldBe i0 o6 al_0 al9 e10) (fun H locs hW hS => ?_)
      refine lv_if_eq (tgt := 31) hx hb dX10_couldBeBits_22 (by decide) (fun c18 => ?_) (fun c18 => ?_)
      · have hF := it c18 hF
        obtain ⟨x12, e13, hF⟩ := nmx hF
        refine lv_iinc (v := x12) (lv' := [(3, .int x12), (0, .ref (φ 10 i0)), (1, .ref (φ 2 i1)), (2, .int x1)]) hx hb dX10_couldBeBits_31 hl (k := 3) rfl (by rw [e13]; rfl) (by decide) rfl (fun ls hl => ?_)
        refine lv_goto (tgt := 4) hx hb dX10_couldBeBits_34 (by decide) ?_
        obtain rfl := sj hF
        exact hK _ _ _ hW hS (lv_sub hl [1, 2, 3, 0] rfl)
      · have hF := ie c18 hF
        refine lv_iload_n hx hb dX10_couldBeBits_25 rfl (lv_at hl 2 rfl) ?_
        refine lv_iconst (v := 1) hx hb dX10_couldBeBits_26 (by decide) ?_
        refine lv_iload_n hx hb dX10_couldBeBits_27 rfl (lv_at hl 3 rfl) ?_
        refine lv_ishl hx hb dX10_couldBeBits_28 ?_
        refine lv_ior hx hb dX10_couldBeBits_29 ?_
        obtain ⟨x14, e15, hF⟩ := nmx hF
        refine nmi e15 ?_
        refine lv_istore_n (lv' := [(2, .int x14), (0, .ref (φ 10 i0)), (1, .ref (φ 2 i1)), (3, .int x2)]) hx hb dX10_couldBeBits_30 rfl hl (by decide) rfl (fun ls hl => ?_)
        obtain ⟨x16, e17, hF⟩ := nmx hF
        refine lv_iinc (v := x16) (lv' := [(3, .int x16), (2, .int x14), (0, .ref (φ 10 i0)), (1, .ref (φ 2 i1))]) hx hb dX10_couldBeBits_31 hl (k := 3) rfl (by rw [e17]; rfl) (by decide) rfl (fun ls hl => ?_)
        refine lv_goto (tgt := 4) hx hb dX10_couldBeBits_34 (by decide) ?_
        obtain rfl := sj hF
        exact hK _ _ _ hW hS (lv_sub hl [2, 3, 1, 0] rfl)
  · intro H locs ls hW hS hl
    obtain ⟨x22, rfl⟩ : ∃ z, z = q20 := ⟨_, rfl⟩
    have hl : lv_has ls 4 [(2, .int x22)] := hl
    refine lv_iload_n hx hb dX10_couldBeBits_37 rfl (lv_at hl 0 rfl) ?_
    obtain rfl := sj hF
    exact hfin _ _ _ _ hW hS dX10_couldBeBits_38
def F_X11_could (i0 : Nat) (a1 : Int32) (h : HP) : Option (Int32) :=
  (F_X11_isUnnamed i0 a1 h).bind fun x2 =>
  (if x2 = 0 then
  some (-2)
  else
  (gr h 11 i0 5).bind fun o3 =>
  (gar h 42 o3 8 a1).bind fun o6 =>
  (gr h 11 i0 3).bind fun o10 =>
  (F_X10_couldBeBits o6 o10 h).bind fun x14 =>
  some x14)
set_option maxHeartbeats 4000000 in
set_option maxRecDepth 100000 in
theorem ok_X11_could {l : Launch} {D : va_G} {cA : Nat → ClassId} {h : HP} {r : Int32}  (i0 : Nat) (a1 : Int32) (al_0 : i0 < gn h 11) (hF : F_X11_could i0 a1 h = some r) : MI l D cA yX11_could cX11_could 2 (some .int) 4 87 (fun φ => [.ref (φ 11 i0), .int a1]) h r h := by
  refine mk_I (plainFor_of_name (by decide)) (fun φ => Nat.le_of_ble_eq_true rfl) ?_
  intro p e s m args below meth c ls φ A Q X hW hS hl hfin
  have hx := X.1
  have hb := X.2.1
  have hl : lv_has ls 2 [(0, .ref (φ 11 i0)), (1, .int a1)] := hl
  unfold F_X11_could at hF
  refine lv_aload_n hx hb dX11_could_0 rfl (lv_at hl 0 rfl) ?_
  refine lv_iload_n hx hb dX11_could_1 rfl (lv_at hl 1 rfl) ?_
  obtain ⟨x2, e1, hF⟩ := bn hF
  refine rc_i (Af := fun φ => [.ref (φ 11 i0), .int a1]) X hW hS ⟨Nat.zero_le _, Nat.zero_le _⟩ (rn_V (As := [.int a1]) (rest := []) X hW hS cw_11_230 al_0 rfl rfl rfl ⟨Nat.le_of_ble_eq_true rfl, Nat.le_of_ble_eq_true rfl⟩ rfl hl.1 rfl (Nat.le_of_ble_eq_true rfl) dX11_could_2) (ok_X11_isUnnamed i0 a1 al_0 e1) (fun H locs hW hS => ?_)
  refine lv_if_ne (tgt := 11) hx hb dX11_could_5 (by decide) (fun c15 => ?_) (fun c15 => ?_)
  · have hF := ie c15 hF
    refine lv_aload_n hx hb dX11_could_11 rfl (lv_at hl 0 rfl) ?_
    obtain ⟨o3, e4, hF⟩ := bn hF
    refine r_getr X hW al_0 fl_11_29 e4 dX11_could_12 (fun al5 => ?_)
    refine lv_iload_n hx hb dX11_could_15 rfl (lv_at hl 1 rfl) ?_
    obtain ⟨o6, e7, hF⟩ := bn hF
    obtain ⟨b8, e7⟩ := gar_s e7
    refine r_aald (t0 := 4) X hW al5 rfl rfl b8 e7 dX11_could_16 (fun al9 => ?_)
    refine lv_aload_n hx hb dX11_could_17 rfl (lv_at hl 0 rfl) ?_
    obtain ⟨o10, e11, hF⟩ := bn hF
    refine r_getr X hW al_0 fl_11_16 e11 dX11_could_18 (fun al12 => ?_)
    obtain ⟨x14, e13, hF⟩ := bn hF
    refine rc_i (Af := fun φ => [.ref (φ 10 o6), .ref (φ 2 o10)]) X hW hS ⟨Nat.zero_le _, Nat.zero_le _⟩ (rn_V (As := [.ref (φ 2 o10)]) (rest := []) X hW hS cw_11_233 al9 rfl rfl rfl ⟨Nat.le_of_ble_eq_true rfl, Nat.le_of_ble_eq_true rfl⟩ rfl hl.1 rfl (Nat.le_of_ble_eq_true rfl) dX11_could_21) (ok_X10_couldBeBits o6 o10 al9 al12 e13) (fun H locs hW hS => ?_)
    obtain rfl := sj hF
    exact hfin _ _ _ _ hW hS dX11_could_24
  · have hF := it c15 hF
    refine lv_bipush (v := (-2)) hx hb dX11_could_8 (by decide) ?_
    obtain rfl := sj hF
    exact hfin _ _ _ _ hW hS dX11_could_10
def F_J_bitCount (a0 : Int32) : Option (Int32) :=
  nm ((a0 - ((ushr a0 1) &&& 1431655765))) fun x1 =>
  nm (((x1 &&& 858993459) + ((ushr x1 2) &&& 858993459))) fun x3 =>
  nm (((x3 + (ushr x3 4)) &&& 252645135)) fun x5 =>
  nm ((x5 + (ushr x5 8))) fun x7 =>
  nm ((x7 + (ushr x7 16))) fun x9 =>
  some (x9 &&& 63)
set_option maxHeartbeats 4000000 in
set_option maxRecDepth 100000 in
theorem ok_J_bitCount {l : Launch} {D : va_G} {cA : Nat → ClassId} {h : HP} {r : Int32}  (a0 : Int32)  (hF : F_J_bitCount a0 = some r) : MI l D cA yJ_bitCount cJ_bitCount 1 (some .int) 0 0 (fun φ => [.int a0]) h r h := by
  refine mk_I (by decide +kernel) (fun φ => Nat.le_of_ble_eq_true rfl) ?_
  intro p e s m args below meth c ls φ A Q X hW hS hl hfin
  have hx := X.1
  have hb := X.2.1
  have hl : lv_has ls 1 [(0, .int a0)] := hl
  unfold F_J_bitCount at hF
  refine lv_iload_n hx hb dJ_bitCount_0 rfl (lv_at hl 0 rfl) ?_
  refine lv_iload_n hx hb dJ_bitCount_1 rfl (lv_at hl 0 rfl) ?_
  refine lv_iconst (v := 1) hx hb dJ_bitCount_2 (by decide) ?_
  refine lv_iushr (v := (ushr a0 1)) hx hb dJ_bitCount_3 rfl ?_
  refine lv_ldcw (v := 1431655765) hx hb X.2.2.2.1 (X.2.2.2.2.1 _ (AL_of 621 (by decide +kernel) rfl)) dJ_bitCount_4 ?_
  refine lv_iand hx hb dJ_bitCount_7 ?_
  refine lv_isub hx hb dJ_bitCount_8 ?_
  obtain ⟨x1, e2, hF⟩ := nmx hF
  refine nmi e2 ?_
  refine lv_istore_n (lv' := [(0, .int x1)]) hx hb dJ_bitCount_9 rfl hl (by decide) rfl (fun ls hl => ?_)
  refine lv_iload_n hx hb dJ_bitCount_10 rfl (lv_at hl 0 rfl) ?_
  refine lv_ldcw (v := 858993459) hx hb X.2.2.2.1 (X.2.2.2.2.1 _ (AL_of 622 (by decide +kernel) rfl)) dJ_bitCount_11 ?_
  refine lv_iand hx hb dJ_bitCount_14 ?_
  refine lv_iload_n hx hb dJ_bitCount_15 rfl (lv_at hl 0 rfl) ?_
  refine lv_iconst (v := 2) hx hb dJ_bitCount_16 (by decide) ?_
  refine lv_iushr (v := (ushr x1 2)) hx hb dJ_bitCount_17 rfl ?_
  refine lv_ldcw (v := 858993459) hx hb X.2.2.2.1 (X.2.2.2.2.1 _ (AL_of 622 (by decide +kernel) rfl)) dJ_bitCount_18 ?_
  refine lv_iand hx hb dJ_bitCount_21 ?_
  refine lv_iadd hx hb dJ_bitCount_22 ?_
  obtain ⟨x3, e4, hF⟩ := nmx hF
  refine nmi e4 ?_
  refine lv_istore_n (lv' := [(0, .int x3)]) hx hb dJ_bitCount_23 rfl hl (by decide) rfl (fun ls hl => ?_)
  refine lv_iload_n hx hb dJ_bitCount_24 rfl (lv_at hl 0 rfl) ?_
  refine lv_iload_n hx hb dJ_bitCount_25 rfl (lv_at hl 0 rfl) ?_
  refine lv_iconst (v := 4) hx hb dJ_bitCount_26 (by decide) ?_
  refine lv_iushr (v := (ushr x3 4)) hx hb dJ_bitCount_27 rfl ?_
  refine lv_iadd hx hb dJ_bitCount_28 ?_
  refine lv_ldcw (v := 252645135) hx hb X.2.2.2.1 (X.2.2.2.2.1 _ (AL_of 623 (by decide +kernel) rfl)) dJ_bitCount_29 ?_
  refine lv_iand hx hb dJ_bitCount_32 ?_
  obtain ⟨x5, e6, hF⟩ := nmx hF
  refine nmi e6 ?_
  refine lv_istore_n (lv' := [(0, .int x5)]) hx hb dJ_bitCount_33 rfl hl (by decide) rfl (fun ls hl => ?_)
  refine lv_iload_n hx hb dJ_bitCount_34 rfl (lv_at hl 0 rfl) ?_
  refine lv_iload_n hx hb dJ_bitCount_35 rfl (lv_at hl 0 rfl) ?_
  refine lv_bipush (v := 8) hx hb dJ_bitCount_36 (by decide) ?_
  refine lv_iushr (v := (ushr x5 8)) hx hb dJ_bitCount_38 rfl ?_
  refine lv_iadd hx hb dJ_bitCount_39 ?_
  obtain ⟨x7, e8, hF⟩ := nmx hF
  refine nmi e8 ?_
  refine lv_istore_n (lv' := [(0, .int x7)]) hx hb dJ_bitCount_40 rfl hl (by decide) rfl (fun ls hl => ?_)
  refine lv_iload_n hx hb dJ_bitCount_41 rfl (lv_at hl 0 rfl) ?_
  refine lv_iload_n hx hb dJ_bitCount_42 rfl (lv_at hl 0 rfl) ?_
  refine lv_bipush (v := 16) hx hb dJ_bitCount_43 (by decide) ?_
  refine lv_iushr (v := (ushr x7 16)) hx hb dJ_bitCount_45 rfl ?_
  refine lv_iadd hx hb dJ_bitCount_46 ?_
  obtain ⟨x9, e10, hF⟩ := nmx hF
  refine nmi e10 ?_
  refine lv_istore_n (lv' := [(0, .int x9)]) hx hb dJ_bitCount_47 rfl hl (by decide) rfl (fun ls hl => ?_)
  refine lv_iload_n hx hb dJ_bitCount_48 rfl (lv_at hl 0 rfl) ?_
  refine lv_bipush (v := 63) hx hb dJ_bitCount_49 (by decide) ?_
  refine lv_iand hx hb dJ_bitCount_51 ?_
  obtain rfl := sj hF
  exact hfin _ _ _ _ hW hS dJ_bitCount_52
def F_X10_partOf (i0 : Nat) (a1 : Int32) (h : HP) : Option (Int32) :=
  nm (((2 * (gi h 10 i0 1)) + 1)) fun x1 =>
  (if a1 = (-1) then
  some (-1)
  else
  (if 0 < x1 then
  (dz a1 x1).bind fun x3 =>
  some x3
  else
  some (-1)))
set_option maxHeartbeats 4000000 in
set_option maxRecDepth 100000 in
theorem ok_X10_partOf {l : Launch} {D : va_G} {cA : Nat → ClassId} {h : HP} {r : Int32}  (i0 : Nat) (a1 : Int32) (al_0 : i0 < gn h 10) (hF : F_X10_partOf i0 a1 h = some r) : MI l D cA yX10_partOf cX10_partOf 3 (some .int) 0 0 (fun φ => [.ref (φ 10 i0), .int a1]) h r h := by
  refine mk_I (plainFor_of_name (by decide)) (fun φ => Nat.le_of_ble_eq_true rfl) ?_
  intro p e s m args below meth c ls φ A Q X hW hS hl hfin
  have hx := X.1
  have hb := X.2.1
  have hl : lv_has ls 3 [(0, .ref (φ 10 i0)), (1, .int a1)] := hl
  unfold F_X10_partOf at hF
  refine lv_iconst (v := 2) hx hb dX10_partOf_0 (by decide) ?_
  refine lv_aload_n hx hb dX10_partOf_1 rfl (lv_at hl 0 rfl) ?_
  refine r_geti X hW al_0 fl_10_15 dX10_partOf_2 ?_
  refine lv_imul hx hb dX10_partOf_5 ?_
  refine lv_iconst (v := 1) hx hb dX10_partOf_6 (by decide) ?_
  refine lv_iadd hx hb dX10_partOf_7 ?_
  obtain ⟨x1, e2, hF⟩ := nmx hF
  refine nmi e2 ?_
  refine lv_istore_n (lv' := [(2, .int x1), (0, .ref (φ 10 i0)), (1, .int a1)]) hx hb dX10_partOf_8 rfl hl (by decide) rfl (fun ls hl => ?_)
  refine lv_iload_n hx hb dX10_partOf_9 rfl (lv_at hl 2 rfl) ?_
  refine lv_iconst (v := (-1)) hx hb dX10_partOf_10 (by decide) ?_
  refine lv_icmp_eq (tgt := 18) hx hb dX10_partOf_11 (by decide) (fun c7 => ?_) (fun c7 => ?_)
  · have hF := it c7 hF
    refine lv_iconst (v := (-1)) hx hb dX10_partOf_18 (by decide) ?_
    refine lv_goto (tgt := 25) hx hb dX10_partOf_19 (by decide) ?_
    obtain rfl := sj hF
    exact hfin _ _ _ _ hW hS dX10_partOf_25
  · have hF := ie c7 hF
    refine lv_iload_n hx hb dX10_partOf_14 rfl (lv_at hl 0 rfl) ?_
    refine lv_if_gt (tgt := 22) hx hb dX10_partOf_15 (by decide) (fun c6 => ?_) (fun c6 => ?_)
    · have hF := it c6 hF
      refine lv_iload_n hx hb dX10_partOf_22 rfl (lv_at hl 2 rfl) ?_
      refine lv_iload_n hx hb dX10_partOf_23 rfl (lv_at hl 0 rfl) ?_
      obtain ⟨x3, e4, hF⟩ := bn hF
      obtain ⟨b5, e4⟩ := dz_s e4
      refine lv_idiv hx hb dX10_partOf_24 b5 ?_
      refine nmi e4 ?_
      obtain rfl := sj hF
      exact hfin _ _ _ _ hW hS dX10_partOf_25
    · have hF := ie c6 hF
      refine lv_iconst (v := (-1)) hx hb dX10_partOf_18 (by decide) ?_
      refine lv_goto (tgt := 25) hx hb dX10_partOf_19 (by decide) ?_
      obtain rfl := sj hF
      exact hfin _ _ _ _ hW hS dX10_partOf_25
def F_J_max (a0 : Int32) (a1 : Int32) : Option (Int32) :=
  (if a0 < a1 then
  some a1
  else
  some a0)
set_option maxHeartbeats 4000000 in
set_option maxRecDepth 100000 in
theorem ok_J_max {l : Launch} {D : va_G} {cA : Nat → ClassId} {h : HP} {r : Int32}  (a0 : Int32) (a1 : Int32)  (hF : F_J_max a0 a1 = some r) : MI l D cA yJ_max cJ_max 2 (some .int) 0 0 (fun φ => [.int a0, .int a1]) h r h := by
  refine mk_I (by decide +kernel) (fun φ => Nat.le_of_ble_eq_true rfl) ?_
  intro p e s m args below meth c ls φ A Q X hW hS hl hfin
  have hx := X.1
  have hb := X.2.1
  have hl : lv_has ls 2 [(0, .int a0), (1, .int a1)] := hl
  unfold F_J_max at hF
  refine lv_iload_n hx hb dJ_max_0 rfl (lv_at hl 0 rfl) ?_
  refine lv_iload_n hx hb dJ_max_1 rfl (lv_at hl 1 rfl) ?_
  refine lv_icmp_lt (tgt := 9) hx hb dJ_max_2 (by decide) (fun c1 => ?_) (fun c1 => ?_)
  · have hF := it c1 hF
    refine lv_iload_n hx hb dJ_max_9 rfl (lv_at hl 1 rfl) ?_
    obtain rfl := sj hF
    exact hfin _ _ _ _ hW hS dJ_max_10
  · have hF := ie c1 hF
    refine lv_iload_n hx hb dJ_max_5 rfl (lv_at hl 0 rfl) ?_
    refine lv_goto (tgt := 10) hx hb dJ_max_6 (by decide) ?_
    obtain rfl := sj hF
    exact hfin _ _ _ _ hW hS dJ_max_10
def B_X10_greatestPart_50 (i0 : Nat) (i1 : Nat) (a2 : Int32) (a3 : Int32) (x1 : Int32) (x2 : Int32) (x19 : Int32) (h : HP) (q : Int32 × Int32) : Option ((Int32 × Int32) ⊕ (Int32)) :=
  u2 q fun x20 x21 =>
  (if (gi h 2 i1 1) ≤ x21 then
  some (.inr x20)
  else
  (if ((a2 >>> (x21 &&& 31)) &&& 1) = 1 then
  (gr h 2 i1 0).bind fun o24 =>
  (gar h 23 o24 20 x21).bind fun o27 =>
  (gr h 1 o27 4).bind fun o31 =>
  (ga h 20 o31 5 a3).bind fun x34 =>
  (F_X10_partOf i0 x34 h).bind fun x38 =>
  (if x38 = x19 then
  nm (x20 + 1) fun x41 =>
  nm (x21 + 1) fun x43 =>
  some (.inl (x41, x43))
  else
  nm (x21 + 1) fun x39 =>
  some (.inl (x20, x39)))
  else
  nm (x21 + 1) fun x22 =>
  some (.inl (x20, x22))))
def B_X10_greatestPart_6 (i0 : Nat) (i1 : Nat) (a2 : Int32) (a3 : Int32) (h : HP) (q : Int32 × Int32) : Option ((Int32 × Int32) ⊕ (Int32)) :=
  u2 q fun x1 x2 =>
  (if (gi h 2 i1 1) ≤ x2 then
  some (.inr x1)
  else
  (if ((a2 >>> (x2 &&& 31)) &&& 1) = 1 then
  (gr h 2 i1 0).bind fun o5 =>
  (gar h 23 o5 20 x2).bind fun o8 =>
  (gr h 1 o8 4).bind fun o12 =>
  (ga h 20 o12 5 a3).bind fun x15 =>
  (F_X10_partOf i0 x15 h).bind fun x19 =>
  (loopN LF (B_X10_greatestPart_50 i0 i1 a2 a3 x1 x2 x19 h) (0, x2)).bind fun x50 =>
  (F_J_max x1 x50).bind fun x52 =>
  nm (x2 + 1) fun x53 =>
  some (.inl (x52, x53))
  else
  nm (x2 + 1) fun x3 =>
  some (.inl (x1, x3))))
def F_X10_greatestPart (i0 : Nat) (i1 : Nat) (a2 : Int32) (a3 : Int32) (h : HP) : Option (Int32) :=
  (loopN LF (B_X10_greatestPart_6 i0 i1 a2 a3 h) (0, 0)).bind fun x59 =>
  some x59
set_option maxHeartbeats 4000000 in
set_option maxRecDepth 100000 in
theorem ok_X10_greatestPart {l : Launch} {D : va_G} {cA : Nat → ClassId} {h : HP} {r : Int32}  (i0 : Nat) (i1 : Nat) (a2 : Int32) (a3 : Int32) (al_0 : i0 < gn h 10) (al_1 : i1 < gn h 2) (hF : F_X10_greatestPart i0 i1 a2 a3 h = some r) : MI l D cA yX10_greatestPart cX10_greatestPart 9 (some .int) 1 22 (fun φ => [.ref (φ 10 i0), .ref (φ 2 i1), .int a2, .int a3]) h r h := by
  refine mk_I (plainFor_of_name (by decide)) (fun φ => Nat.le_of_ble_eq_true rfl) ?_
  intro p e s m args below meth c ls φ A Q X hW hS hl hfin
  have hx := X.1
  have hb := X.2.1
  have hl : lv_has ls 9 [(0, .ref (φ 10 i0)), (1, .ref (φ 2 i1)), (2, .int a2), (3, .int a3)] := hl
  unfold F_X10_greatestPart at hF
  refine lv_iconst (v := 0) hx hb dX10_greatestPart_0 (by decide) ?_
  refine lv_istore (lv' := [(4, .int 0), (0, .ref (φ 10 i0)), (1, .ref (φ 2 i1)), (2, .int a2), (3, .int a3)]) hx hb dX10_greatestPart_1 hl (by decide) rfl (fun ls hl => ?_)
  refine lv_iconst (v := 0) hx hb dX10_greatestPart_3 (by decide) ?_
  refine lv_istore (lv' := [(5, .int 0), (4, .int 0), (0, .ref (φ 10 i0)), (1, .ref (φ 2 i1)), (2, .int a2), (3, .int a3)]) hx hb dX10_greatestPart_4 hl (by decide) rfl (fun ls hl => ?_)
  obtain ⟨q57, e58, hF⟩ := bn hF
  refine loop_w (f := B_X10_greatestPart_6 i0 i1 a2 a3 h) (Z := fun q => ∀ (H : Heap) (locs : List Loc) (ls : Array Slot), HW D cA A φ h H → va_S A s.heap H locs → lv_has ls 9 [(0, .ref (φ 10 i0)), (1, .ref (φ 2 i1)), (2, .int a2), (3, .int a3), (4, .int (q.1)), (5, .int (q.2))] → W p l e (rmo 1 22 0 0) s m args below meth c H locs 0 0 Q (F0 m 6 ls [])) (K := fun q => ∀ (H : Heap) (locs : List Loc) (ls : Array Slot), HW D cA A φ h H → va_S A s.heap H locs → lv_has ls 9 [(4, .int q)] → W p l e (rmo 1 22 0 0) s m args below meth c H locs 0 0 Q (F0 m 114 ls [])) ?_ LF _ q57 e58 ?_ _ _ _ hW hS (lv_sub hl [2, 3, 4, 5, 1, 0] rfl)
  · intro q v hF hK H locs ls hW hS hl
    obtain ⟨x1, x2⟩ := q
    unfold B_X10_greatestPart_6 at hF
    have hF := u2d hF
    have hl : lv_has ls 9 [(0, .ref (φ 10 i0)), (1, .ref (φ 2 i1)), (2, .int a2), (3, .int a3), (4, .int x1), (5, .int x2)] := hl
    refine lv_iload hx hb dX10_greatestPart_6 (lv_at hl 5 rfl) ?_
    refine lv_aload_n hx hb dX10_greatestPart_8 rfl (lv_at hl 1 rfl) ?_
    refine r_geti X hW al_1 fl_10_42 dX10_greatestPart_9 ?_
    refine lv_icmp_ge (tgt := 114) hx hb dX10_greatestPart_12 (by decide) (fun c56 => ?_) (fun c56 => ?_)
    · have hF := it c56 hF
      obtain rfl := sj hF
      exact hK _ _ _ hW hS (lv_sub hl [4] rfl)
    · have hF := ie c56 hF
      refine lv_iload_n hx hb dX10_greatestPart_15 rfl (lv_at hl 2 rfl) ?_
      refine lv_iload hx hb dX10_greatestPart_16 (lv_at hl 5 rfl) ?_
      refine lv_ishr hx hb dX10_greatestPart_18 ?_
      refine lv_iconst (v := 1) hx hb dX10_greatestPart_19 (by decide) ?_
      refine lv_iand hx hb dX10_greatestPart_20 ?_
      refine lv_iconst (v := 1) hx hb dX10_greatestPart_21 (by decide) ?_
      refine lv_icmp_ne (tgt := 108) hx hb dX10_greatestPart_22 (by decide) (fun c55 => ?_) (fun c55 => ?_)
      · have hF := ie c55 hF
        obtain ⟨x3, e4, hF⟩ := nmx hF
        refine lv_iinc (v := x3) (lv' := [(5, .int x3), (0, .ref (φ 10 i0)), (1, .ref (φ 2 i1)), (2, .int a2), (3, .int a3), (4, .int x1)]) hx hb dX10_greatestPart_108 hl (k := 5) rfl (by rw [e4]; rfl) (by decide) rfl (fun ls hl => ?_)
        refine lv_goto (tgt := 6) hx hb dX10_greatestPart_111 (by decide) ?_
        obtain rfl := sj hF
        exact hK _ _ _ hW hS (lv_sub hl [1, 2, 3, 4, 5, 0] rfl)
      · have hF := it c55 hF
        refine lv_aload_n hx hb dX10_greatestPart_25 rfl (lv_at hl 0 rfl) ?_
        refine lv_aload_n hx hb dX10_greatestPart_26 rfl (lv_at hl 1 rfl) ?_
        obtain ⟨o5, e6, hF⟩ := bn hF
        refine r_getr X hW al_1 fl_10_47 e6 dX10_greatestPart_27 (fun al7 => ?_)
        refine lv_iload hx hb dX10_greatestPart_30 (lv_at hl 5 rfl) ?_
        obtain ⟨o8, e9, hF⟩ := bn hF
        obtain ⟨b10, e9⟩ := gar_s e9
        refine r_aald (t0 := 3) X hW al7 rfl rfl b10 e9 dX10_greatestPart_32 (fun al11 => ?_)
        obtain ⟨o12, e13, hF⟩ := bn hF
        refine r_getr X hW al11 fl_10_55 e13 dX10_greatestPart_33 (fun al14 => ?_)
        refine lv_iload_n hx hb dX10_greatestPart_36 rfl (lv_at hl 3 rfl) ?_
        obtain ⟨x15, e16, hF⟩ := bn hF
        obtain ⟨b17, e16⟩ := ga_s e16
        refine r_iald X hW al14 rfl b17 dX10_greatestPart_37 ?_
        refine nmi e16 ?_
        obtain ⟨x19, e18, hF⟩ := bn hF
        refine rc_i (Af := fun φ => [.ref (φ 10 i0), .int x15]) X hW hS ⟨Nat.zero_le _, Nat.zero_le _⟩ (rn_V (As := [.int x15]) (rest := []) X hW hS cw_10_69 al_0 rfl rfl rfl ⟨Nat.le_of_ble_eq_true rfl, Nat.le_of_ble_eq_true rfl⟩ rfl hl.1 rfl (Nat.le_of_ble_eq_true rfl) dX10_greatestPart_38) (ok_X10_partOf i0 x15 al_0 e18) (fun H locs hW hS => ?_)
        refine lv_istore (lv' := [(6, .int x19), (0, .ref (φ 10 i0)), (1, .ref (φ 2 i1)), (2, .int a2), (3, .int a3), (4, .int x1), (5, .int x2)]) hx hb dX10_greatestPart_41 hl (by decide) rfl (fun ls hl => ?_)
        refine lv_iconst (v := 0) hx hb dX10_greatestPart_43 (by decide) ?_
        refine lv_istore (lv' := [(7, .int 0), (6, .int x19), (0, .ref (φ 10 i0)), (1, .ref (φ 2 i1)), (2, .int a2), (3, .int a3), (4, .int x1), (5, .int x2)]) hx hb dX10_greatestPart_44 hl (by decide) rfl (fun ls hl => ?_)
        refine lv_iload hx hb dX10_greatestPart_46 (lv_at hl 7 rfl) ?_
        refine lv_istore (lv' := [(8, .int x2), (7, .int 0), (6, .int x19), (0, .ref (φ 10 i0)), (1, .ref (φ 2 i1)), (2, .int a2), (3, .int a3), (4, .int x1), (5, .int x2)]) hx hb dX10_greatestPart_48 hl (by decide) rfl (fun ls hl => ?_)
        obtain ⟨q48, e49, hF⟩ := bn hF
        refine loop_w (f := B_X10_greatestPart_50 i0 i1 a2 a3 x1 x2 x19 h) (Z := fun q => ∀ (H : Heap) (locs : List Loc) (ls : Array Slot), HW D cA A φ h H → va_S A s.heap H locs → lv_has ls 9 [(0, .ref (φ 10 i0)), (1, .ref (φ 2 i1)), (2, .int a2), (3, .int a3), (4, .int x1), (5, .int x2), (6, .int x19), (7, .int (q.1)), (8, .int (q.2))] → W p l e (rmo 1 22 0 0) s m args below meth c H locs 0 0 Q (F0 m 50 ls [])) (K := fun q => ∀ (H : Heap) (locs : List Loc) (ls : Array Slot), HW D cA A φ h H → va_S A s.heap H locs → lv_has ls 9 [(0, .ref (φ 10 i0)), (1, .ref (φ 2 i1)), (2, .int a2), (3, .int a3), (4, .int x1), (5, .int x2), (7, .int q)] → W p l e (rmo 1 22 0 0) s m args below meth c H locs 0 0 Q (F0 m 99 ls [])) ?_ LF _ q48 e49 ?_ _ _ _ hW hS (lv_sub hl [3, 4, 5, 6, 7, 8, 2, 1, 0] rfl)
        · intro q v hF hK H locs ls hW hS hl
          obtain ⟨x20, x21⟩ := q
          unfold B_X10_greatestPart_50 at hF
          have hF := u2d hF
          have hl : lv_has ls 9 [(0, .ref (φ 10 i0)), (1, .ref (φ 2 i1)), (2, .int a2), (3, .int a3), (4, .int x1), (5, .int x2), (6, .int x19), (7, .int x20), (8, .int x21)] := hl
          refine lv_iload hx hb dX10_greatestPart_50 (lv_at hl 8 rfl) ?_
          refine lv_aload_n hx hb dX10_greatestPart_52 rfl (lv_at hl 1 rfl) ?_
          refine r_geti X hW al_1 fl_10_42 dX10_greatestPart_53 ?_
          refine lv_icmp_ge (tgt := 99) hx hb dX10_greatestPart_56 (by decide) (fun c47 => ?_) (fun c47 => ?_)
          · have hF := it c47 hF
            obtain rfl := sj hF
            exact hK _ _ _ hW hS (lv_sub hl [0, 1, 2, 3, 4, 5, 7] rfl)
          · have hF := ie c47 hF
            refine lv_iload_n hx hb dX10_greatestPart_59 rfl (lv_at hl 2 rfl) ?_
            refine lv_iload hx hb dX10_greatestPart_60 (lv_at hl 8 rfl) ?_
            refine lv_ishr hx hb dX10_greatestPart_62 ?_
            refine lv_iconst (v := 1) hx hb dX10_greatestPart_63 (by decide) ?_
            refine lv_iand hx hb dX10_greatestPart_64 ?_
            refine lv_iconst (v := 1) hx hb dX10_greatestPart_65 (by decide) ?_
            refine lv_icmp_ne (tgt := 93) hx hb dX10_greatestPart_66 (by decide) (fun c46 => ?_) (fun c46 => ?_)
            · have hF := ie c46 hF
              obtain ⟨x22, e23, hF⟩ := nmx hF
              refine lv_iinc (v := x22) (lv' := [(8, .int x22), (0, .ref (φ 10 i0)), (1, .ref (φ 2 i1)), (2, .int a2), (3, .int a3), (4, .int x1), (5, .int x2), (6, .int x19), (7, .int x20)]) hx hb dX10_greatestPart_93 hl (k := 8) rfl (by rw [e23]; rfl) (by decide) rfl (fun ls hl => ?_)
              refine lv_goto (tgt := 50) hx hb dX10_greatestPart_96 (by decide) ?_
              obtain rfl := sj hF
              exact hK _ _ _ hW hS (lv_sub hl [1, 2, 3, 4, 5, 6, 7, 8, 0] rfl)
            · have hF := it c46 hF
              refine lv_aload_n hx hb dX10_greatestPart_69 rfl (lv_at hl 0 rfl) ?_
              refine lv_aload_n hx hb dX10_greatestPart_70 rfl (lv_at hl 1 rfl) ?_
              obtain ⟨o24, e25, hF⟩ := bn hF
              refine r_getr X hW al_1 fl_10_47 e25 dX10_greatestPart_71 (fun al26 => ?_)
              refine lv_iload hx hb dX10_greatestPart_74 (lv_at hl 8 rfl) ?_
              obtain ⟨o27, e28, hF⟩ := bn hF
              obtain ⟨b29, e28⟩ := gar_s e28
              refine r_aald (t0 := 3) X hW al26 rfl rfl b29 e28 dX10_greatestPart_76 (fun al30 => ?_)
              obtain ⟨o31, e32, hF⟩ := bn hF
              refine r_getr X hW al30 fl_10_55 e32 dX10_greatestPart_77 (fun al33 => ?_)
              refine lv_iload_n hx hb dX10_greatestPart_80 rfl (lv_at hl 3 rfl) ?_
              obtain ⟨x34, e35, hF⟩ := bn hF
              obtain ⟨b36, e35⟩ := ga_s e35
              refine r_iald X hW al33 rfl b36 dX10_greatestPart_81 ?_
              refine nmi e35 ?_
              obtain ⟨x38, e37, hF⟩ := bn hF
              refine rc_i (Af := fun φ => [.ref (φ 10 i0), .int x34]) X hW hS ⟨Nat.zero_le _, Nat.zero_le _⟩ (rn_V (As := [.int x34]) (rest := []) X hW hS cw_10_69 al_0 rfl rfl rfl ⟨Nat.le_of_ble_eq_true rfl, Nat.le_of_ble_eq_true rfl⟩ rfl hl.1 rfl (Nat.le_of_ble_eq_true rfl) dX10_greatestPart_82) (ok_X10_partOf i0 x34 al_0 e37) (fun H locs hW hS => ?_)
              refine lv_iload hx hb dX10_greatestPart_85 (lv_at hl 6 rfl) ?_
              refine lv_icmp_ne (tgt := 93) hx hb dX10_greatestPart_87 (by decide) (fun c45 => ?_) (fun c45 => ?_)
              · have hF := ie c45 hF
                obtain ⟨x39, e40, hF⟩ := nmx hF
                refine lv_iinc (v := x39) (lv' := [(8, .int x39), (0, .ref (φ 10 i0)), (1, .ref (φ 2 i1)), (2, .int a2), (3, .int a3), (4, .int x1), (5, .int x2), (6, .int x19), (7, .int x20)]) hx hb dX10_greatestPart_93 hl (k := 8) rfl (by rw [e40]; rfl) (by decide) rfl (fun ls hl => ?_)
                refine lv_goto (tgt := 50) hx hb dX10_greatestPart_96 (by decide) ?_
                obtain rfl := sj hF
                exact hK _ _ _ hW hS (lv_sub hl [1, 2, 3, 4, 5, 6, 7, 8, 0] rfl)
              · have hF := it c45 hF
                obtain ⟨x41, e42, hF⟩ := nmx hF
                refine lv_iinc (v := x41) (lv' := [(7, .int x41), (0, .ref (φ 10 i0)), (1, .ref (φ 2 i1)), (2, .int a2), (3, .int a3), (4, .int x1), (5, .int x2), (6, .int x19), (8, .int x21)]) hx hb dX10_greatestPart_90 hl (k := 7) rfl (by rw [e42]; rfl) (by decide) rfl (fun ls hl => ?_)
                obtain ⟨x43, e44, hF⟩ := nmx hF
                refine lv_iinc (v := x43) (lv' := [(8, .int x43), (7, .int x41), (0, .ref (φ 10 i0)), (1, .ref (φ 2 i1)), (2, .int a2), (3, .int a3), (4, .int x1), (5, .int x2), (6, .int x19)]) hx hb dX10_greatestPart_93 hl (k := 8) rfl (by rw [e44]; rfl) (by decide) rfl (fun ls hl => ?_)
                refine lv_goto (tgt := 50) hx hb dX10_greatestPart_96 (by decide) ?_
                obtain rfl := sj hF
                exact hK _ _ _ hW hS (lv_sub hl [2, 3, 4, 5, 6, 7, 8, 1, 0] rfl)
        · intro H locs ls hW hS hl
          obtain ⟨x50, rfl⟩ : ∃ z, z = q48 := ⟨_, rfl⟩
          have hl : lv_has ls 9 [(0, .ref (φ 10 i0)), (1, .ref (φ 2 i1)), (2, .int a2), (3, .int a3), (4, .int x1), (5, .int x2), (7, .int x50)] := hl
          refine lv_iload hx hb dX10_greatestPart_99 (lv_at hl 4 rfl) ?_
          refine lv_iload hx hb dX10_greatestPart_101 (lv_at hl 6 rfl) ?_
          obtain ⟨x52, e51, hF⟩ := bn hF
          refine rc_i (Af := fun φ => [.int x1, .int x50]) X hW hS ⟨Nat.zero_le _, Nat.zero_le _⟩ (rn_S (As := [.int x1, .int x50]) (rest := []) X hW hS cw_10_72 ⟨Nat.le_of_ble_eq_true rfl, Nat.le_of_ble_eq_true rfl⟩ rfl hl.1 rfl (Nat.le_of_ble_eq_true rfl) dX10_greatestPart_103) (ok_J_max x1 x50 e51) (fun H locs hW hS => ?_)
          refine lv_istore (lv' := [(4, .int x52), (0, .ref (φ 10 i0)), (1, .ref (φ 2 i1)), (2, .int a2), (3, .int a3), (5, .int x2), (7, .int x50)]) hx hb dX10_greatestPart_106 hl (by decide) rfl (fun ls hl => ?_)
          obtain ⟨x53, e54, hF⟩ := nmx hF
          refine lv_iinc (v := x53) (lv' := [(5, .int x53), (4, .int x52), (0, .ref (φ 10 i0)), (1, .ref (φ 2 i1)), (2, .int a2), (3, .int a3), (7, .int x50)]) hx hb dX10_greatestPart_108 hl (k := 5) rfl (by rw [e54]; rfl) (by decide) rfl (fun ls hl => ?_)
          refine lv_goto (tgt := 6) hx hb dX10_greatestPart_111 (by decide) ?_
          obtain rfl := sj hF
          exact hK _ _ _ hW hS (lv_sub hl [2, 3, 4, 5, 1, 0] rfl)
  · intro H locs ls hW hS hl
    obtain ⟨x59, rfl⟩ : ∃ z, z = q57 := ⟨_, rfl⟩
    have hl : lv_has ls 9 [(4, .int x59)] := hl
    refine lv_iload hx hb dX10_greatestPart_114 (lv_at hl 0 rfl) ?_
    obtain rfl := sj hF
    exact hfin _ _ _ _ hW hS dX10_greatestPart_116
def B_X10_toneToMeasure_25 (i0 : Nat) (i1 : Nat) (x2 : Int32) (h : HP) (q : Int32 × Int32 × Int32) : Option ((Int32 × Int32 × Int32) ⊕ (Int32)) :=
  u3 q fun x5 x6 x7 =>
  (if 5 ≤ x7 then
  some (.inr x5)
  else
  (gr h 10 i0 0).bind fun o8 =>
  (ga h 40 o8 5 x7).bind fun x11 =>
  (if x11 = (-1) then
  (F_X10_greatestPart i0 i1 x2 x7 h).bind fun x17 =>
  (if x6 ≤ x17 then
  nm (x7 + 1) fun x18 =>
  some (.inl (x5, x6, x18))
  else
  nm (x7 + 1) fun x20 =>
  some (.inl (x7, x17, x20)))
  else
  nm (x7 + 1) fun x14 =>
  some (.inl (x5, x6, x14))))
def F_X10_toneToMeasure (i0 : Nat) (i1 : Nat) (h : HP) : Option (Int32) :=
  (F_X10_couldBeBits i0 i1 h).bind fun x2 =>
  (F_J_bitCount x2).bind fun x4 =>
  (if 2 ≤ x4 then
  (loopN LF (B_X10_toneToMeasure_25 i0 i1 x2 h) ((-1), 21, 0)).bind fun x27 =>
  some x27
  else
  some (-1))
set_option maxHeartbeats 4000000 in
set_option maxRecDepth 100000 in
theorem ok_X10_toneToMeasure {l : Launch} {D : va_G} {cA : Nat → ClassId} {h : HP} {r : Int32}  (i0 : Nat) (i1 : Nat) (al_0 : i0 < gn h 10) (al_1 : i1 < gn h 2) (hF : F_X10_toneToMeasure i0 i1 h = some r) : MI l D cA yX10_toneToMeasure cX10_toneToMeasure 7 (some .int) 4 87 (fun φ => [.ref (φ 10 i0), .ref (φ 2 i1)]) h r h := by
  refine mk_I (plainFor_of_name (by decide)) (fun φ => Nat.le_of_ble_eq_true rfl) ?_
  intro p e s m args below meth c ls φ A Q X hW hS hl hfin
  have hx := X.1
  have hb := X.2.1
  have hl : lv_has ls 7 [(0, .ref (φ 10 i0)), (1, .ref (φ 2 i1))] := hl
  unfold F_X10_toneToMeasure at hF
  refine lv_aload_n hx hb dX10_toneToMeasure_0 rfl (lv_at hl 0 rfl) ?_
  refine lv_aload_n hx hb dX10_toneToMeasure_1 rfl (lv_at hl 1 rfl) ?_
  obtain ⟨x2, e1, hF⟩ := bn hF
  refine rc_i (Af := fun φ => [.ref (φ 10 i0), .ref (φ 2 i1)]) X hW hS ⟨Nat.zero_le _, Nat.zero_le _⟩ (rn_V (As := [.ref (φ 2 i1)]) (rest := []) X hW hS cw_10_56 al_0 rfl rfl rfl ⟨Nat.le_of_ble_eq_true rfl, Nat.le_of_ble_eq_true rfl⟩ rfl hl.1 rfl (Nat.le_of_ble_eq_true rfl) dX10_toneToMeasure_2) (ok_X10_couldBeBits i0 i1 al_0 al_1 e1) (fun H locs hW hS => ?_)
  refine lv_istore_n (lv' := [(2, .int x2), (0, .ref (φ 10 i0)), (1, .ref (φ 2 i1))]) hx hb dX10_toneToMeasure_5 rfl hl (by decide) rfl (fun ls hl => ?_)
  refine lv_iconst (v := (-1)) hx hb dX10_toneToMeasure_6 (by decide) ?_
  refine lv_istore_n (lv' := [(3, .int (-1)), (2, .int x2), (0, .ref (φ 10 i0)), (1, .ref (φ 2 i1))]) hx hb dX10_toneToMeasure_7 rfl hl (by decide) rfl (fun ls hl => ?_)
  refine lv_iload_n hx hb dX10_toneToMeasure_8 rfl (lv_at hl 1 rfl) ?_
  obtain ⟨x4, e3, hF⟩ := bn hF
  refine rc_i (Af := fun φ => [.int x2]) X hW hS ⟨Nat.zero_le _, Nat.zero_le _⟩ (rn_S (As := [.int x2]) (rest := []) X hW hS cw_10_60 ⟨Nat.le_of_ble_eq_true rfl, Nat.le_of_ble_eq_true rfl⟩ rfl hl.1 rfl (Nat.le_of_ble_eq_true rfl) dX10_toneToMeasure_9) (ok_J_bitCount x2 e3) (fun H locs hW hS => ?_)
  refine lv_iconst (v := 2) hx hb dX10_toneToMeasure_12 (by decide) ?_
  refine lv_icmp_ge (tgt := 18) hx hb dX10_toneToMeasure_13 (by decide) (fun c28 => ?_) (fun c28 => ?_)
  · have hF := it c28 hF
    refine lv_bipush (v := 21) hx hb dX10_toneToMeasure_18 (by decide) ?_
    refine lv_istore (lv' := [(4, .int 21), (3, .int (-1)), (2, .int x2), (0, .ref (φ 10 i0)), (1, .ref (φ 2 i1))]) hx hb dX10_toneToMeasure_20 hl (by decide) rfl (fun ls hl => ?_)
    refine lv_iconst (v := 0) hx hb dX10_toneToMeasure_22 (by decide) ?_
    refine lv_istore (lv' := [(5, .int 0), (4, .int 21), (3, .int (-1)), (2, .int x2), (0, .ref (φ 10 i0)), (1, .ref (φ 2 i1))]) hx hb dX10_toneToMeasure_23 hl (by decide) rfl (fun ls hl => ?_)
    obtain ⟨q25, e26, hF⟩ := bn hF
    refine loop_w (f := B_X10_toneToMeasure_25 i0 i1 x2 h) (Z := fun q => ∀ (H : Heap) (locs : List Loc) (ls : Array Slot), HW D cA A φ h H → va_S A s.heap H locs → lv_has ls 7 [(0, .ref (φ 10 i0)), (1, .ref (φ 2 i1)), (2, .int x2), (3, .int (q.1)), (4, .int (q.2.1)), (5, .int (q.2.2))] → W p l e (rmo 4 87 0 0) s m args below meth c H locs 0 0 Q (F0 m 25 ls [])) (K := fun q => ∀ (H : Heap) (locs : List Loc) (ls : Array Slot), HW D cA A φ h H → va_S A s.heap H locs → lv_has ls 7 [(3, .int q)] → W p l e (rmo 4 87 0 0) s m args below meth c H locs 0 0 Q (F0 m 72 ls [])) ?_ LF _ q25 e26 ?_ _ _ _ hW hS (lv_sub hl [4, 5, 3, 2, 1, 0] rfl)
    · intro q v hF hK H locs ls hW hS hl
      obtain ⟨x5, x6, x7⟩ := q
      unfold B_X10_toneToMeasure_25 at hF
      have hF := u3d hF
      have hl : lv_has ls 7 [(0, .ref (φ 10 i0)), (1, .ref (φ 2 i1)), (2, .int x2), (3, .int x5), (4, .int x6), (5, .int x7)] := hl
      refine lv_iload hx hb dX10_toneToMeasure_25 (lv_at hl 5 rfl) ?_
      refine lv_iconst (v := 5) hx hb dX10_toneToMeasure_27 (by decide) ?_
      refine lv_icmp_ge (tgt := 72) hx hb dX10_toneToMeasure_28 (by decide) (fun c24 => ?_) (fun c24 => ?_)
      · have hF := it c24 hF
        obtain rfl := sj hF
        exact hK _ _ _ hW hS (lv_sub hl [3] rfl)
      · have hF := ie c24 hF
        refine lv_aload_n hx hb dX10_toneToMeasure_31 rfl (lv_at hl 0 rfl) ?_
        obtain ⟨o8, e9, hF⟩ := bn hF
        refine r_getr X hW al_0 fl_10_9 e9 dX10_toneToMeasure_32 (fun al10 => ?_)
        refine lv_iload hx hb dX10_toneToMeasure_35 (lv_at hl 5 rfl) ?_
        obtain ⟨x11, e12, hF⟩ := bn hF
        obtain ⟨b13, e12⟩ := ga_s e12
        refine r_iald X hW al10 rfl b13 dX10_toneToMeasure_37 ?_
        refine nmi e12 ?_
        refine lv_iconst (v := (-1)) hx hb dX10_toneToMeasure_38 (by decide) ?_
        refine lv_icmp_ne (tgt := 66) hx hb dX10_toneToMeasure_39 (by decide) (fun c23 => ?_) (fun c23 => ?_)
        · have hF := ie c23 hF
          obtain ⟨x14, e15, hF⟩ := nmx hF
          refine lv_iinc (v := x14) (lv' := [(5, .int x14), (0, .ref (φ 10 i0)), (1, .ref (φ 2 i1)), (2, .int x2), (3, .int x5), (4, .int x6)]) hx hb dX10_toneToMeasure_66 hl (k := 5) rfl (by rw [e15]; rfl) (by decide) rfl (fun ls hl => ?_)
          refine lv_goto (tgt := 25) hx hb dX10_toneToMeasure_69 (by decide) ?_
          obtain rfl := sj hF
          exact hK _ _ _ hW hS (lv_sub hl [1, 2, 3, 4, 5, 0] rfl)
        · have hF := it c23 hF
          refine lv_aload_n hx hb dX10_toneToMeasure_42 rfl (lv_at hl 0 rfl) ?_
          refine lv_aload_n hx hb dX10_toneToMeasure_43 rfl (lv_at hl 1 rfl) ?_
          refine lv_iload_n hx hb dX10_toneToMeasure_44 rfl (lv_at hl 2 rfl) ?_
          refine lv_iload hx hb dX10_toneToMeasure_45 (lv_at hl 5 rfl) ?_
          obtain ⟨x17, e16, hF⟩ := bn hF
          refine rc_i (Af := fun φ => [.ref (φ 10 i0), .ref (φ 2 i1), .int x2, .int x7]) X hW hS ⟨Nat.zero_le _, Nat.zero_le _⟩ (rn_V (As := [.ref (φ 2 i1), .int x2, .int x7]) (rest := []) X hW hS cw_10_65 al_0 rfl rfl rfl ⟨Nat.le_of_ble_eq_true rfl, Nat.le_of_ble_eq_true rfl⟩ rfl hl.1 rfl (Nat.le_of_ble_eq_true rfl) dX10_toneToMeasure_47) (ok_X10_greatestPart i0 i1 x2 x7 al_0 al_1 e16) (fun H locs hW hS => ?_)
          refine lv_istore (lv' := [(6, .int x17), (0, .ref (φ 10 i0)), (1, .ref (φ 2 i1)), (2, .int x2), (3, .int x5), (4, .int x6), (5, .int x7)]) hx hb dX10_toneToMeasure_50 hl (by decide) rfl (fun ls hl => ?_)
          refine lv_iload hx hb dX10_toneToMeasure_52 (lv_at hl 0 rfl) ?_
          refine lv_iload hx hb dX10_toneToMeasure_54 (lv_at hl 5 rfl) ?_
          refine lv_icmp_ge (tgt := 66) hx hb dX10_toneToMeasure_56 (by decide) (fun c22 => ?_) (fun c22 => ?_)
          · have hF := it c22 hF
            obtain ⟨x18, e19, hF⟩ := nmx hF
            refine lv_iinc (v := x18) (lv' := [(5, .int x18), (6, .int x17), (0, .ref (φ 10 i0)), (1, .ref (φ 2 i1)), (2, .int x2), (3, .int x5), (4, .int x6)]) hx hb dX10_toneToMeasure_66 hl (k := 6) rfl (by rw [e19]; rfl) (by decide) rfl (fun ls hl => ?_)
            refine lv_goto (tgt := 25) hx hb dX10_toneToMeasure_69 (by decide) ?_
            obtain rfl := sj hF
            exact hK _ _ _ hW hS (lv_sub hl [2, 3, 4, 5, 6, 0] rfl)
          · have hF := ie c22 hF
            refine lv_iload hx hb dX10_toneToMeasure_59 (lv_at hl 6 rfl) ?_
            refine lv_istore_n (lv' := [(3, .int x7), (6, .int x17), (0, .ref (φ 10 i0)), (1, .ref (φ 2 i1)), (2, .int x2), (4, .int x6), (5, .int x7)]) hx hb dX10_toneToMeasure_61 rfl hl (by decide) rfl (fun ls hl => ?_)
            refine lv_iload hx hb dX10_toneToMeasure_62 (lv_at hl 1 rfl) ?_
            refine lv_istore (lv' := [(4, .int x17), (3, .int x7), (6, .int x17), (0, .ref (φ 10 i0)), (1, .ref (φ 2 i1)), (2, .int x2), (5, .int x7)]) hx hb dX10_toneToMeasure_64 hl (by decide) rfl (fun ls hl => ?_)
            obtain ⟨x20, e21, hF⟩ := nmx hF
            refine lv_iinc (v := x20) (lv' := [(5, .int x20), (4, .int x17), (3, .int x7), (6, .int x17), (0, .ref (φ 10 i0)), (1, .ref (φ 2 i1)), (2, .int x2)]) hx hb dX10_toneToMeasure_66 hl (k := 6) rfl (by rw [e21]; rfl) (by decide) rfl (fun ls hl => ?_)
            refine lv_goto (tgt := 25) hx hb dX10_toneToMeasure_69 (by decide) ?_
            obtain rfl := sj hF
            exact hK _ _ _ hW hS (lv_sub hl [4, 5, 6, 2, 1, 0] rfl)
    · intro H locs ls hW hS hl
      obtain ⟨x27, rfl⟩ : ∃ z, z = q25 := ⟨_, rfl⟩
      have hl : lv_has ls 7 [(3, .int x27)] := hl
      refine lv_iload_n hx hb dX10_toneToMeasure_72 rfl (lv_at hl 0 rfl) ?_
      obtain rfl := sj hF
      exact hfin _ _ _ _ hW hS dX10_toneToMeasure_73
  · have hF := ie c28 hF
    refine lv_iload_n hx hb dX10_toneToMeasure_16 rfl (lv_at hl 0 rfl) ?_
    obtain rfl := sj hF
    exact hfin _ _ _ _ hW hS dX10_toneToMeasure_17
def F_X11_next (i0 : Nat) (a1 : Int32) (h : HP) : Option (Int32) :=
  (F_X11_isUnnamed i0 a1 h).bind fun x2 =>
  (if x2 = 0 then
  some (-2)
  else
  (gr h 11 i0 5).bind fun o3 =>
  (gar h 42 o3 8 a1).bind fun o6 =>
  (gr h 11 i0 3).bind fun o10 =>
  (F_X10_toneToMeasure o6 o10 h).bind fun x14 =>
  some x14)
set_option maxHeartbeats 4000000 in
set_option maxRecDepth 100000 in
theorem ok_X11_next {l : Launch} {D : va_G} {cA : Nat → ClassId} {h : HP} {r : Int32}  (i0 : Nat) (a1 : Int32) (al_0 : i0 < gn h 11) (hF : F_X11_next i0 a1 h = some r) : MI l D cA yX11_next cX11_next 2 (some .int) 5 113 (fun φ => [.ref (φ 11 i0), .int a1]) h r h := by
  refine mk_I (plainFor_of_name (by decide)) (fun φ => Nat.le_of_ble_eq_true rfl) ?_
  intro p e s m args below meth c ls φ A Q X hW hS hl hfin
  have hx := X.1
  have hb := X.2.1
  have hl : lv_has ls 2 [(0, .ref (φ 11 i0)), (1, .int a1)] := hl
  unfold F_X11_next at hF
  refine lv_aload_n hx hb dX11_next_0 rfl (lv_at hl 0 rfl) ?_
  refine lv_iload_n hx hb dX11_next_1 rfl (lv_at hl 1 rfl) ?_
  obtain ⟨x2, e1, hF⟩ := bn hF
  refine rc_i (Af := fun φ => [.ref (φ 11 i0), .int a1]) X hW hS ⟨Nat.zero_le _, Nat.zero_le _⟩ (rn_V (As := [.int a1]) (rest := []) X hW hS cw_11_230 al_0 rfl rfl rfl ⟨Nat.le_of_ble_eq_true rfl, Nat.le_of_ble_eq_true rfl⟩ rfl hl.1 rfl (Nat.le_of_ble_eq_true rfl) dX11_next_2) (ok_X11_isUnnamed i0 a1 al_0 e1) (fun H locs hW hS => ?_)
  refine lv_if_ne (tgt := 11) hx hb dX11_next_5 (by decide) (fun c15 => ?_) (fun c15 => ?_)
  · have hF := ie c15 hF
    refine lv_aload_n hx hb dX11_next_11 rfl (lv_at hl 0 rfl) ?_
    obtain ⟨o3, e4, hF⟩ := bn hF
    refine r_getr X hW al_0 fl_11_29 e4 dX11_next_12 (fun al5 => ?_)
    refine lv_iload_n hx hb dX11_next_15 rfl (lv_at hl 1 rfl) ?_
    obtain ⟨o6, e7, hF⟩ := bn hF
    obtain ⟨b8, e7⟩ := gar_s e7
    refine r_aald (t0 := 4) X hW al5 rfl rfl b8 e7 dX11_next_16 (fun al9 => ?_)
    refine lv_aload_n hx hb dX11_next_17 rfl (lv_at hl 0 rfl) ?_
    obtain ⟨o10, e11, hF⟩ := bn hF
    refine r_getr X hW al_0 fl_11_16 e11 dX11_next_18 (fun al12 => ?_)
    obtain ⟨x14, e13, hF⟩ := bn hF
    refine rc_i (Af := fun φ => [.ref (φ 10 o6), .ref (φ 2 o10)]) X hW hS ⟨Nat.zero_le _, Nat.zero_le _⟩ (rn_V (As := [.ref (φ 2 o10)]) (rest := []) X hW hS cw_11_237 al9 rfl rfl rfl ⟨Nat.le_of_ble_eq_true rfl, Nat.le_of_ble_eq_true rfl⟩ rfl hl.1 rfl (Nat.le_of_ble_eq_true rfl) dX11_next_21) (ok_X10_toneToMeasure o6 o10 al9 al12 e13) (fun H locs hW hS => ?_)
    obtain rfl := sj hF
    exact hfin _ _ _ _ hW hS dX11_next_24
  · have hF := it c15 hF
    refine lv_bipush (v := (-2)) hx hb dX11_next_8 (by decide) ?_
    obtain rfl := sj hF
    exact hfin _ _ _ _ hW hS dX11_next_10
def F_J_min (a0 : Int32) (a1 : Int32) : Option (Int32) :=
  (if a1 < a0 then
  some a1
  else
  some a0)
set_option maxHeartbeats 4000000 in
set_option maxRecDepth 100000 in
theorem ok_J_min {l : Launch} {D : va_G} {cA : Nat → ClassId} {h : HP} {r : Int32}  (a0 : Int32) (a1 : Int32)  (hF : F_J_min a0 a1 = some r) : MI l D cA yJ_min cJ_min 2 (some .int) 0 0 (fun φ => [.int a0, .int a1]) h r h := by
  refine mk_I (by decide +kernel) (fun φ => Nat.le_of_ble_eq_true rfl) ?_
  intro p e s m args below meth c ls φ A Q X hW hS hl hfin
  have hx := X.1
  have hb := X.2.1
  have hl : lv_has ls 2 [(0, .int a0), (1, .int a1)] := hl
  unfold F_J_min at hF
  refine lv_iload_n hx hb dJ_min_0 rfl (lv_at hl 0 rfl) ?_
  refine lv_iload_n hx hb dJ_min_1 rfl (lv_at hl 1 rfl) ?_
  refine lv_icmp_gt (tgt := 9) hx hb dJ_min_2 (by decide) (fun c1 => ?_) (fun c1 => ?_)
  · have hF := it c1 hF
    refine lv_iload_n hx hb dJ_min_9 rfl (lv_at hl 1 rfl) ?_
    obtain rfl := sj hF
    exact hfin _ _ _ _ hW hS dJ_min_10
  · have hF := ie c1 hF
    refine lv_iload_n hx hb dJ_min_5 rfl (lv_at hl 0 rfl) ?_
    refine lv_goto (tgt := 10) hx hb dJ_min_6 (by decide) ?_
    obtain rfl := sj hF
    exact hfin _ _ _ _ hW hS dJ_min_10
def B_J_filll_35_6 (i0 : Nat) (a1 : Int64) (h : HP) (q : Int32 × DP) : Option ((Int32 × DP) ⊕ (DP)) :=
  u2 q fun x1 d4 =>
  nm (wd h d4) fun h2 =>
  (if 256 ≤ x1 then
  some (.inr (dp h2))
  else
  (sal h2 35 i0 256 x1 a1).bind fun h5 =>
  nm (x1 + 1) fun x9 =>
  some (.inl (x9, (dp h5))))
def F_J_filll_35 (i0 : Nat) (a1 : Int64) (h : HP) : Option (DP) :=
  (loopN LF (B_J_filll_35_6 i0 a1 h) (0, (dp h))).bind fun d15 =>
  nm (wd h d15) fun h16 =>
  some (dp h16)
set_option maxHeartbeats 4000000 in
set_option maxRecDepth 100000 in
theorem ok_J_filll_35 {l : Launch} {D : va_G} {cA : Nat → ClassId} {h : HP}  {d : DP} (i0 : Nat) (a1 : Int64) (al_0 : i0 < gn h 35) (hF : F_J_filll_35 i0 a1 h = some d) : MV l D cA yJ_filll cJ_filll 5 none 0 0 (fun φ => [.ref (φ 35 i0), .long a1]) h (wd h d) := by
  refine mk_V (by decide +kernel) (fun φ => Nat.le_of_ble_eq_true rfl) ?_
  intro p e s m args below meth c ls φ A Q X hW hS hl hfin
  have hx := X.1
  have hb := X.2.1
  have hl : lv_has ls 5 [(0, .ref (φ 35 i0)), (1, .long a1)] := hl
  unfold F_J_filll_35 at hF
  refine lv_iconst (v := 0) hx hb dJ_filll_0 (by decide) ?_
  refine lv_istore_n (lv' := [(3, .int 0), (0, .ref (φ 35 i0)), (1, .long a1)]) hx hb dJ_filll_1 rfl hl (by decide) rfl (fun ls hl => ?_)
  refine lv_aload_n hx hb dJ_filll_2 rfl (lv_at hl 1 rfl) ?_
  refine r_alen (t0 := 1) (v := 256) X hW al_0 rfl rfl rfl dJ_filll_3 ?_
  refine lv_istore (lv' := [(4, .int 256), (3, .int 0), (0, .ref (φ 35 i0)), (1, .long a1)]) hx hb dJ_filll_4 hl (by decide) rfl (fun ls hl => ?_)
  obtain ⟨q12, e13, hF⟩ := bn hF
  refine loop_w (f := B_J_filll_35_6 i0 a1 h) (Z := fun q => ∀ (H : Heap) (locs : List Loc) (ls : Array Slot), HW D cA A φ (wd h q.2) H → va_S A s.heap H locs → lv_has ls 5 [(0, .ref (φ 35 i0)), (1, .long a1), (3, .int (q.1)), (4, .int 256)] → W p l e (rmo 0 0 0 0) s m args below meth c H locs 0 0 Q (F0 m 6 ls [])) (K := fun q => ∀ (H : Heap) (locs : List Loc) (ls : Array Slot), HW D cA A φ (wd h q) H → va_S A s.heap H locs → lv_has ls 5 [] → W p l e (rmo 0 0 0 0) s m args below meth c H locs 0 0 Q (F0 m 22 ls [])) ?_ LF _ q12 e13 ?_ _ _ _ (wdW rfl hW) hS (lv_sub hl [2, 3, 1, 0] rfl)
  · intro q v hF hK H locs ls hW hS hl
    obtain ⟨x1, d4⟩ := q
    unfold B_J_filll_35_6 at hF
    have hF := u2d hF
    obtain ⟨h2, e14, hF⟩ := nmx hF
    have hW := nmW e14 hW
    have g3 : h2.2.2 = h.2.2 := by rw [e14]; exact rfl
    have hl : lv_has ls 5 [(0, .ref (φ 35 i0)), (1, .long a1), (3, .int x1), (4, .int 256)] := hl
    refine lv_iload_n hx hb dJ_filll_6 rfl (lv_at hl 2 rfl) ?_
    refine lv_iload hx hb dJ_filll_7 (lv_at hl 3 rfl) ?_
    refine lv_icmp_ge (tgt := 22) hx hb dJ_filll_9 (by decide) (fun c11 => ?_) (fun c11 => ?_)
    · have hF := it c11 hF
      obtain rfl := sj hF
      exact hK _ _ _ (wdW (sq g3 rfl) hW) hS (lv_sub hl [] rfl)
    · have hF := ie c11 hF
      refine lv_aload_n hx hb dJ_filll_12 rfl (lv_at hl 0 rfl) ?_
      refine lv_iload_n hx hb dJ_filll_13 rfl (lv_at hl 2 rfl) ?_
      refine lv_lload_n hx hb dJ_filll_14 rfl (lv_at hl 1 rfl) ?_
      obtain ⟨h5, e6, hF⟩ := bn hF
      obtain ⟨b7, e6⟩ := sal_s e6
      refine r_last X hW hS (gq g3 al_0) rfl b7 dJ_filll_15 (fun H locs hW hS => ?_)
      have hW := nmW e6 hW
      have g8 : h5.2.2 = h.2.2 := by rw [e6]; exact g3
      obtain ⟨x9, e10, hF⟩ := nmx hF
      refine lv_iinc (v := x9) (lv' := [(3, .int x9), (0, .ref (φ 35 i0)), (1, .long a1), (4, .int 256)]) hx hb dJ_filll_16 hl (k := 2) rfl (by rw [e10]; rfl) (by decide) rfl (fun ls hl => ?_)
      refine lv_goto (tgt := 6) hx hb dJ_filll_19 (by decide) ?_
      obtain rfl := sj hF
      exact hK _ _ _ (wdW (sq g8 rfl) hW) hS (lv_sub hl [1, 2, 0, 3] rfl)
  · intro H locs ls hW hS hl
    obtain ⟨d15, rfl⟩ : ∃ z, z = q12 := ⟨_, rfl⟩
    obtain ⟨h16, e18, hF⟩ := nmx hF
    have hW := nmW e18 hW
    have g17 : h16.2.2 = h.2.2 := by rw [e18]; exact rfl
    have hl : lv_has ls 5 [] := hl
    obtain rfl := sj hF
    exact hfin _ _ _ _ (wdW g17 hW) hS dJ_filll_22
def F_X5_notLaid (a0 : Int32) (h : HP) : Option (Int64) :=
  (fg a0).bind fun x3 =>
  some (154922431942656 + (20 * x3))
set_option maxHeartbeats 4000000 in
set_option maxRecDepth 100000 in
theorem ok_X5_notLaid {l : Launch} {D : va_G} {cA : Nat → ClassId} {h : HP} {r : Int64}  (a0 : Int32)  (hF : F_X5_notLaid a0 h = some r) : ML l D cA yX5_notLaid cX5_notLaid 1 (some .long) 0 0 (fun φ => [.int a0]) h r h := by
  refine mk_L (plainFor_of_name (by decide)) (fun φ => Nat.le_of_ble_eq_true rfl) ?_
  intro p e s m args below meth c ls φ A Q X hW hS hl hfin
  have hx := X.1
  have hb := X.2.1
  have hl : lv_has ls 1 [(0, .int a0)] := hl
  unfold F_X5_notLaid at hF
  refine lv_ldc2 (v := 154922431942656) hx hb X.2.2.2.1 (X.2.2.2.2.1 _ (AL_of 653 (by decide +kernel) rfl)) dX5_notLaid_0 ?_
  refine lv_ldc2 (v := 20) hx hb X.2.2.2.1 (X.2.2.2.2.1 _ (AL_of 654 (by decide +kernel) rfl)) dX5_notLaid_3 ?_
  refine r_fig X hS (AL_of 655 (by decide +kernel) rfl) dX5_notLaid_6 (fun ta1 hT2 => ?_)
  refine lv_iload_n hx hb dX5_notLaid_9 rfl (lv_at hl 0 rfl) ?_
  obtain ⟨x3, e4, hF⟩ := bn hF
  obtain ⟨b5, e4⟩ := fg_s e4
  refine r_figld X hS hT2 b5 dX5_notLaid_10 ?_
  refine nml e4 ?_
  refine lv_lmul hx hb dX5_notLaid_11 ?_
  refine lv_ladd hx hb dX5_notLaid_12 ?_
  obtain rfl := sj hF
  exact hfin _ _ _ _ hW hS dX5_notLaid_13
def B_X5_takersOf_5 (i0 : Nat) (i1 : Nat) (i2 : Nat) (h : HP) (q : Int32 × Int32) : Option ((Int32 × Int32) ⊕ (Int32)) :=
  u2 q fun x1 x2 =>
  (if (gi h 5 i0 2) ≤ x2 then
  some (.inr x1)
  else
  (gar h 42 i1 8 x2).bind fun o3 =>
  (F_X10_couldBe o3 i2 h).bind fun x8 =>
  (if x8 = 0 then
  nm (x2 + 1) fun x9 =>
  some (.inl (x1, x9))
  else
  nm ((x1 ||| (1 <<< (x2 &&& 31)))) fun x11 =>
  nm (x2 + 1) fun x13 =>
  some (.inl (x11, x13))))
def F_X5_takersOf (i0 : Nat) (i1 : Nat) (i2 : Nat) (h : HP) : Option (Int32) :=
  (loopN LF (B_X5_takersOf_5 i0 i1 i2 h) (0, 0)).bind fun x19 =>
  some x19
set_option maxHeartbeats 4000000 in
set_option maxRecDepth 100000 in
theorem ok_X5_takersOf {l : Launch} {D : va_G} {cA : Nat → ClassId} {h : HP} {r : Int32}  (i0 : Nat) (i1 : Nat) (i2 : Nat) (al_0 : i0 < gn h 5) (al_1 : i1 < gn h 42) (al_2 : i2 < gn h 1) (hF : F_X5_takersOf i0 i1 i2 h = some r) : MI l D cA yX5_takersOf cX5_takersOf 5 (some .int) 3 64 (fun φ => [.ref (φ 5 i0), .ref (φ 42 i1), .ref (φ 1 i2)]) h r h := by
  refine mk_I (plainFor_of_name (by decide)) (fun φ => Nat.le_of_ble_eq_true rfl) ?_
  intro p e s m args below meth c ls φ A Q X hW hS hl hfin
  have hx := X.1
  have hb := X.2.1
  have hl : lv_has ls 5 [(0, .ref (φ 5 i0)), (1, .ref (φ 42 i1)), (2, .ref (φ 1 i2))] := hl
  unfold F_X5_takersOf at hF
  refine lv_iconst (v := 0) hx hb dX5_takersOf_0 (by decide) ?_
  refine lv_istore_n (lv' := [(3, .int 0), (0, .ref (φ 5 i0)), (1, .ref (φ 42 i1)), (2, .ref (φ 1 i2))]) hx hb dX5_takersOf_1 rfl hl (by decide) rfl (fun ls hl => ?_)
  refine lv_iconst (v := 0) hx hb dX5_takersOf_2 (by decide) ?_
  refine lv_istore (lv' := [(4, .int 0), (3, .int 0), (0, .ref (φ 5 i0)), (1, .ref (φ 42 i1)), (2, .ref (φ 1 i2))]) hx hb dX5_takersOf_3 hl (by decide) rfl (fun ls hl => ?_)
  obtain ⟨q17, e18, hF⟩ := bn hF
  refine loop_w (f := B_X5_takersOf_5 i0 i1 i2 h) (Z := fun q => ∀ (H : Heap) (locs : List Loc) (ls : Array Slot), HW D cA A φ h H → va_S A s.heap H locs → lv_has ls 5 [(0, .ref (φ 5 i0)), (1, .ref (φ 42 i1)), (2, .ref (φ 1 i2)), (3, .int (q.1)), (4, .int (q.2))] → W p l e (rmo 3 64 0 0) s m args below meth c H locs 0 0 Q (F0 m 5 ls [])) (K := fun q => ∀ (H : Heap) (locs : List Loc) (ls : Array Slot), HW D cA A φ h H → va_S A s.heap H locs → lv_has ls 5 [(3, .int q)] → W p l e (rmo 3 64 0 0) s m args below meth c H locs 0 0 Q (F0 m 38 ls [])) ?_ LF _ q17 e18 ?_ _ _ _ hW hS (lv_sub hl [2, 3, 4, 1, 0] rfl)
  · intro q v hF hK H locs ls hW hS hl
    obtain ⟨x1, x2⟩ := q
    unfold B_X5_takersOf_5 at hF
    have hF := u2d hF
    have hl : lv_has ls 5 [(0, .ref (φ 5 i0)), (1, .ref (φ 42 i1)), (2, .ref (φ 1 i2)), (3, .int x1), (4, .int x2)] := hl
    refine lv_iload hx hb dX5_takersOf_5 (lv_at hl 4 rfl) ?_
    refine lv_aload_n hx hb dX5_takersOf_7 rfl (lv_at hl 0 rfl) ?_
    refine r_geti X hW al_0 fl_5_24 dX5_takersOf_8 ?_
    refine lv_icmp_ge (tgt := 38) hx hb dX5_takersOf_11 (by decide) (fun c16 => ?_) (fun c16 => ?_)
    · have hF := it c16 hF
      obtain rfl := sj hF
      exact hK _ _ _ hW hS (lv_sub hl [3] rfl)
    · have hF := ie c16 hF
      refine lv_aload_n hx hb dX5_takersOf_14 rfl (lv_at hl 1 rfl) ?_
      refine lv_iload hx hb dX5_takersOf_15 (lv_at hl 4 rfl) ?_
      obtain ⟨o3, e4, hF⟩ := bn hF
      obtain ⟨b5, e4⟩ := gar_s e4
      refine r_aald (t0 := 4) X hW al_1 rfl rfl b5 e4 dX5_takersOf_17 (fun al6 => ?_)
      refine lv_aload_n hx hb dX5_takersOf_18 rfl (lv_at hl 2 rfl) ?_
      obtain ⟨x8, e7, hF⟩ := bn hF
      refine rc_i (Af := fun φ => [.ref (φ 10 o3), .ref (φ 1 i2)]) X hW hS ⟨Nat.zero_le _, Nat.zero_le _⟩ (rn_V (As := [.ref (φ 1 i2)]) (rest := []) X hW hS cw_5_62 al6 rfl rfl rfl ⟨Nat.le_of_ble_eq_true rfl, Nat.le_of_ble_eq_true rfl⟩ rfl hl.1 rfl (Nat.le_of_ble_eq_true rfl) dX5_takersOf_19) (ok_X10_couldBe o3 i2 al6 al_2 e7) (fun H locs hW hS => ?_)
      refine lv_if_eq (tgt := 32) hx hb dX5_takersOf_22 (by decide) (fun c15 => ?_) (fun c15 => ?_)
      · have hF := it c15 hF
        obtain ⟨x9, e10, hF⟩ := nmx hF
        refine lv_iinc (v := x9) (lv' := [(4, .int x9), (0, .ref (φ 5 i0)), (1, .ref (φ 42 i1)), (2, .ref (φ 1 i2)), (3, .int x1)]) hx hb dX5_takersOf_32 hl (k := 4) rfl (by rw [e10]; rfl) (by decide) rfl (fun ls hl => ?_)
        refine lv_goto (tgt := 5) hx hb dX5_takersOf_35 (by decide) ?_
        obtain rfl := sj hF
        exact hK _ _ _ hW hS (lv_sub hl [1, 2, 3, 4, 0] rfl)
      · have hF := ie c15 hF
        refine lv_iload_n hx hb dX5_takersOf_25 rfl (lv_at hl 3 rfl) ?_
        refine lv_iconst (v := 1) hx hb dX5_takersOf_26 (by decide) ?_
        refine lv_iload hx hb dX5_takersOf_27 (lv_at hl 4 rfl) ?_
        refine lv_ishl hx hb dX5_takersOf_29 ?_
        refine lv_ior hx hb dX5_takersOf_30 ?_
        obtain ⟨x11, e12, hF⟩ := nmx hF
        refine nmi e12 ?_
        refine lv_istore_n (lv' := [(3, .int x11), (0, .ref (φ 5 i0)), (1, .ref (φ 42 i1)), (2, .ref (φ 1 i2)), (4, .int x2)]) hx hb dX5_takersOf_31 rfl hl (by decide) rfl (fun ls hl => ?_)
        obtain ⟨x13, e14, hF⟩ := nmx hF
        refine lv_iinc (v := x13) (lv' := [(4, .int x13), (3, .int x11), (0, .ref (φ 5 i0)), (1, .ref (φ 42 i1)), (2, .ref (φ 1 i2))]) hx hb dX5_takersOf_32 hl (k := 4) rfl (by rw [e14]; rfl) (by decide) rfl (fun ls hl => ?_)
        refine lv_goto (tgt := 5) hx hb dX5_takersOf_35 (by decide) ?_
        obtain rfl := sj hF
        exact hK _ _ _ hW hS (lv_sub hl [2, 3, 4, 1, 0] rfl)
  · intro H locs ls hW hS hl
    obtain ⟨x19, rfl⟩ : ∃ z, z = q17 := ⟨_, rfl⟩
    have hl : lv_has ls 5 [(3, .int x19)] := hl
    refine lv_iload_n hx hb dX5_takersOf_38 rfl (lv_at hl 0 rfl) ?_
    obtain rfl := sj hF
    exact hfin _ _ _ _ hW hS dX5_takersOf_39
