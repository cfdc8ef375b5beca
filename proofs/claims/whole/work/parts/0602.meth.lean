def F_X11_fault (i0 : Nat) (h : HP) : Option (Int32) :=
  (gr h 11 i0 4).bind fun o1 =>
  some (gi h 4 o1 2)
set_option maxHeartbeats 4000000 in
set_option maxRecDepth 100000 in
theorem ok_X11_fault {l : Launch} {D : va_G} {cA : Nat → ClassId} {h : HP} {r : Int32}  (i0 : Nat) (al_0 : i0 < gn h 11) (hF : F_X11_fault i0 h = some r) : MI l D cA yX11_fault cX11_fault 1 (some .int) 0 0 (fun φ => [.ref (φ 11 i0)]) h r h := by
  refine mk_I (plainFor_of_name (by decide)) (fun φ => Nat.le_of_ble_eq_true rfl) ?_
  intro p e s m args below meth c ls φ A Q X hW hS hl hfin
  have hx := X.1
  have hb := X.2.1
  have hl : lv_has ls 1 [(0, .ref (φ 11 i0))] := hl
  unfold F_X11_fault at hF
  refine lv_aload_n hx hb dX11_fault_0 rfl (lv_at hl 0 rfl) ?_
  obtain ⟨o1, e2, hF⟩ := bn hF
  refine r_getr X hW al_0 fl_11_23 e2 dX11_fault_1 (fun al3 => ?_)
  refine r_geti X hW al3 fl_11_196 dX11_fault_4 ?_
  obtain rfl := sj hF
  exact hfin _ _ _ _ hW hS dX11_fault_7
def F_X11_isWeek (a0 : Int32) : Option (Int32) :=
  (F_X11_isFrom a0 0 199).bind fun x2 =>
  (bz x2).bind fun x3 => some x3
set_option maxHeartbeats 4000000 in
set_option maxRecDepth 100000 in
theorem ok_X11_isWeek {l : Launch} {D : va_G} {cA : Nat → ClassId} {h : HP} {r : Int32}  (a0 : Int32)  (hF : F_X11_isWeek a0 = some r) : MI l D cA yX11_isWeek cX11_isWeek 1 (some .boolean) 1 22 (fun φ => [.int a0]) h r h := by
  refine mk_Z (plainFor_of_name (by decide)) (fun φ => Nat.le_of_ble_eq_true rfl) ?_
  intro p e s m args below meth c ls φ A Q X hW hS hl hfin
  have hx := X.1
  have hb := X.2.1
  have hl : lv_has ls 1 [(0, .int a0)] := hl
  unfold F_X11_isWeek at hF
  refine lv_iload_n hx hb dX11_isWeek_0 rfl (lv_at hl 0 rfl) ?_
  refine lv_iconst (v := 0) hx hb dX11_isWeek_1 (by decide) ?_
  refine lv_sipush (v := 199) hx hb dX11_isWeek_2 (by decide) ?_
  obtain ⟨x2, e1, hF⟩ := bn hF
  refine rc_i (Af := fun φ => [.int a0, .int 0, .int 199]) X hW hS ⟨Nat.zero_le _, Nat.zero_le _⟩ (rn_S (As := [.int a0, .int 0, .int 199]) (rest := []) X hW hS cw_11_81 ⟨Nat.le_of_ble_eq_true rfl, Nat.le_of_ble_eq_true rfl⟩ rfl hl.1 rfl (Nat.le_of_ble_eq_true rfl) dX11_isWeek_5) (ok_X11_isFrom a0 0 199 e1) (fun H locs hW hS => ?_)
  obtain ⟨x3, e4, hF⟩ := bn hF
  obtain ⟨b5, e4⟩ := bz_s e4
  refine nmi e4 ?_
  rw [← e4] at b5
  obtain rfl := sj hF
  exact hfin _ _ _ _ hW hS b5 dX11_isWeek_8
def B_J_fill_34_5 (i0 : Nat) (a1 : Int32) (h : HP) (q : Int32 × DP) : Option ((Int32 × DP) ⊕ (DP)) :=
  u2 q fun x1 d4 =>
  nm (wd h d4) fun h2 =>
  (if 4 ≤ x1 then
  some (.inr (dp h2))
  else
  (sa h2 34 i0 4 x1 a1).bind fun h5 =>
  nm (x1 + 1) fun x9 =>
  some (.inl (x9, (dp h5))))
def F_J_fill_34 (i0 : Nat) (a1 : Int32) (h : HP) : Option (DP) :=
  (loopN LF (B_J_fill_34_5 i0 a1 h) (0, (dp h))).bind fun d15 =>
  nm (wd h d15) fun h16 =>
  some (dp h16)
set_option maxHeartbeats 4000000 in
set_option maxRecDepth 100000 in
theorem ok_J_fill_34 {l : Launch} {D : va_G} {cA : Nat → ClassId} {h : HP}  {d : DP} (i0 : Nat) (a1 : Int32) (al_0 : i0 < gn h 34) (hF : F_J_fill_34 i0 a1 h = some d) : MV l D cA yJ_fill cJ_fill 4 none 0 0 (fun φ => [.ref (φ 34 i0), .int a1]) h (wd h d) := by
  refine mk_V (by decide +kernel) (fun φ => Nat.le_of_ble_eq_true rfl) ?_
  intro p e s m args below meth c ls φ A Q X hW hS hl hfin
  have hx := X.1
  have hb := X.2.1
  have hl : lv_has ls 4 [(0, .ref (φ 34 i0)), (1, .int a1)] := hl
  unfold F_J_fill_34 at hF
  refine lv_iconst (v := 0) hx hb dJ_fill_0 (by decide) ?_
  refine lv_istore_n (lv' := [(2, .int 0), (0, .ref (φ 34 i0)), (1, .int a1)]) hx hb dJ_fill_1 rfl hl (by decide) rfl (fun ls hl => ?_)
  refine lv_aload_n hx hb dJ_fill_2 rfl (lv_at hl 1 rfl) ?_
  refine r_alen (t0 := 0) (v := 4) X hW al_0 rfl rfl rfl dJ_fill_3 ?_
  refine lv_istore_n (lv' := [(3, .int 4), (2, .int 0), (0, .ref (φ 34 i0)), (1, .int a1)]) hx hb dJ_fill_4 rfl hl (by decide) rfl (fun ls hl => ?_)
  obtain ⟨q12, e13, hF⟩ := bn hF
  refine loop_w (f := B_J_fill_34_5 i0 a1 h) (Z := fun q => ∀ (H : Heap) (locs : List Loc) (ls : Array Slot), HW D cA A φ (wd h q.2) H → va_S A s.heap H locs → lv_has ls 4 [(0, .ref (φ 34 i0)), (1, .int a1), (2, .int (q.1)), (3, .int 4)] → W p l e (rmo 0 0 0 0) s m args below meth c H locs 0 0 Q (F0 m 5 ls [])) (K := fun q => ∀ (H : Heap) (locs : List Loc) (ls : Array Slot), HW D cA A φ (wd h q) H → va_S A s.heap H locs → lv_has ls 4 [] → W p l e (rmo 0 0 0 0) s m args below meth c H locs 0 0 Q (F0 m 20 ls [])) ?_ LF _ q12 e13 ?_ _ _ _ (wdW rfl hW) hS (lv_sub hl [2, 3, 1, 0] rfl)
  · intro q v hF hK H locs ls hW hS hl
    obtain ⟨x1, d4⟩ := q
    unfold B_J_fill_34_5 at hF
    have hF := u2d hF
    obtain ⟨h2, e14, hF⟩ := nmx hF
    have hW := nmW e14 hW
    have g3 : h2.2.2 = h.2.2 := by rw [e14]; exact rfl
    have hl : lv_has ls 4 [(0, .ref (φ 34 i0)), (1, .int a1), (2, .int x1), (3, .int 4)] := hl
    refine lv_iload_n hx hb dJ_fill_5 rfl (lv_at hl 2 rfl) ?_
    refine lv_iload_n hx hb dJ_fill_6 rfl (lv_at hl 3 rfl) ?_
    refine lv_icmp_ge (tgt := 20) hx hb dJ_fill_7 (by decide) (fun c11 => ?_) (fun c11 => ?_)
    · have hF := it c11 hF
      obtain rfl := sj hF
      exact hK _ _ _ (wdW (sq g3 rfl) hW) hS (lv_sub hl [] rfl)
    · have hF := ie c11 hF
      refine lv_aload_n hx hb dJ_fill_10 rfl (lv_at hl 0 rfl) ?_
      refine lv_iload_n hx hb dJ_fill_11 rfl (lv_at hl 2 rfl) ?_
      refine lv_iload_n hx hb dJ_fill_12 rfl (lv_at hl 1 rfl) ?_
      obtain ⟨h5, e6, hF⟩ := bn hF
      obtain ⟨b7, e6⟩ := sa_s e6
      refine r_iast X hW hS (gq g3 al_0) rfl b7 dJ_fill_13 (fun H locs hW hS => ?_)
      have hW := nmW e6 hW
      have g8 : h5.2.2 = h.2.2 := by rw [e6]; exact g3
      obtain ⟨x9, e10, hF⟩ := nmx hF
      refine lv_iinc (v := x9) (lv' := [(2, .int x9), (0, .ref (φ 34 i0)), (1, .int a1), (3, .int 4)]) hx hb dJ_fill_14 hl (k := 2) rfl (by rw [e10]; rfl) (by decide) rfl (fun ls hl => ?_)
      refine lv_goto (tgt := 5) hx hb dJ_fill_17 (by decide) ?_
      obtain rfl := sj hF
      exact hK _ _ _ (wdW (sq g8 rfl) hW) hS (lv_sub hl [1, 2, 0, 3] rfl)
  · intro H locs ls hW hS hl
    obtain ⟨d15, rfl⟩ : ∃ z, z = q12 := ⟨_, rfl⟩
    obtain ⟨h16, e18, hF⟩ := nmx hF
    have hW := nmW e18 hW
    have g17 : h16.2.2 = h.2.2 := by rw [e18]; exact rfl
    have hl : lv_has ls 4 [] := hl
    obtain rfl := sj hF
    exact hfin _ _ _ _ (wdW g17 hW) hS dJ_fill_20
def B_X4_inForceIn_10 (i0 : Nat) (a1 : Int32) (h5 : HP) (q : Int32 × DP) : Option ((Int32 × DP) ⊕ (DP)) :=
  u2 q fun x9 d12 =>
  nm (wd h5 d12) fun h10 =>
  (if (gi h10 4 i0 7) ≤ x9 then
  some (.inr (dp h10))
  else
  (gr h10 4 i0 6).bind fun o13 =>
  (ga h10 33 o13 26 x9).bind fun x16 =>
  (if a1 < x16 then
  nm (x9 + 1) fun x19 =>
  some (.inl (x19, (dp h10)))
  else
  (gr h10 4 i0 8).bind fun o21 =>
  (gr h10 4 i0 3).bind fun o24 =>
  (ga h10 30 o24 26 x9).bind fun x27 =>
  (sa h10 34 o21 4 x27 x9).bind fun h30 =>
  nm (x9 + 1) fun x34 =>
  some (.inl (x34, (dp h30)))))
def F_X4_inForceIn (i0 : Nat) (a1 : Int32) (h : HP) : Option (Nat × DP) :=
  (gr h 4 i0 8).bind fun o1 =>
  (F_J_fill_34 o1 (-1) h).bind fun d8 => nm (wd h d8) fun h5 =>
  (loopN LF (B_X4_inForceIn_10 i0 a1 h5) (0, (dp h5))).bind fun d41 =>
  nm (wd h5 d41) fun h42 =>
  (gr h42 4 i0 8).bind fun o44 =>
  some (o44, dp h42)
set_option maxHeartbeats 4000000 in
set_option maxRecDepth 100000 in
theorem ok_X4_inForceIn {l : Launch} {D : va_G} {cA : Nat → ClassId} {h : HP} {r : Nat} {d : DP} (i0 : Nat) (a1 : Int32) (al_0 : i0 < gn h 4) (hF : F_X4_inForceIn i0 a1 h = some (r, d)) : MR l D cA yX4_inForceIn cX4_inForceIn 3 (some (.array .int)) 1 23 34 (fun φ => [.ref (φ 4 i0), .int a1]) h r (wd h d) := by
  refine mk_R (plainFor_of_name (by decide)) (fun φ => Nat.le_of_ble_eq_true rfl) ?_
  intro p e s m args below meth c ls φ A Q X hW hS hl hfin
  have hx := X.1
  have hb := X.2.1
  have hl : lv_has ls 3 [(0, .ref (φ 4 i0)), (1, .int a1)] := hl
  unfold F_X4_inForceIn at hF
  refine lv_aload_n hx hb dX4_inForceIn_0 rfl (lv_at hl 0 rfl) ?_
  obtain ⟨o1, e2, hF⟩ := bn hF
  refine r_getr X hW al_0 fl_4_32 e2 dX4_inForceIn_1 (fun al3 => ?_)
  refine lv_iconst (v := (-1)) hx hb dX4_inForceIn_4 (by decide) ?_
  obtain ⟨d8, e4, hF⟩ := bn hF
  refine rc_v (Af := fun φ => [.ref (φ 34 o1), .int (-1)]) X hW hS ⟨Nat.zero_le _, Nat.zero_le _⟩ (rn_S (As := [.ref (φ 34 o1), .int (-1)]) (rest := []) X hW hS cw_4_41 ⟨Nat.le_of_ble_eq_true rfl, Nat.le_of_ble_eq_true rfl⟩ rfl hl.1 rfl (Nat.le_of_ble_eq_true rfl) dX4_inForceIn_5) (ok_J_fill_34 o1 (-1) al3 e4) (fun H locs hW hS => ?_)
  obtain ⟨h5, e7, hF⟩ := nmx hF
  have hW := nmW e7 hW
  have g6 : h5.2.2 = h.2.2 := by rw [e7]; exact rfl
  refine lv_iconst (v := 0) hx hb dX4_inForceIn_8 (by decide) ?_
  refine lv_istore_n (lv' := [(2, .int 0), (0, .ref (φ 4 i0)), (1, .int a1)]) hx hb dX4_inForceIn_9 rfl hl (by decide) rfl (fun ls hl => ?_)
  obtain ⟨q38, e39, hF⟩ := bn hF
  refine loop_w (f := B_X4_inForceIn_10 i0 a1 h5) (Z := fun q => ∀ (H : Heap) (locs : List Loc) (ls : Array Slot), HW D cA A φ (wd h5 q.2) H → va_S A s.heap H locs → lv_has ls 3 [(0, .ref (φ 4 i0)), (1, .int a1), (2, .int (q.1))] → W p l e (rmo 1 23 0 0) s m args below meth c H locs 0 0 Q (F0 m 10 ls [])) (K := fun q => ∀ (H : Heap) (locs : List Loc) (ls : Array Slot), HW D cA A φ (wd h5 q) H → va_S A s.heap H locs → lv_has ls 3 [(0, .ref (φ 4 i0))] → W p l e (rmo 1 23 0 0) s m args below meth c H locs 0 0 Q (F0 m 46 ls [])) ?_ LF _ q38 e39 ?_ _ _ _ (wdW rfl hW) hS (lv_sub hl [1, 2, 0] rfl)
  · intro q v hF hK H locs ls hW hS hl
    obtain ⟨x9, d12⟩ := q
    unfold B_X4_inForceIn_10 at hF
    have hF := u2d hF
    obtain ⟨h10, e40, hF⟩ := nmx hF
    have hW := nmW e40 hW
    have g11 : h10.2.2 = h.2.2 := by rw [e40]; exact g6
    have hl : lv_has ls 3 [(0, .ref (φ 4 i0)), (1, .int a1), (2, .int x9)] := hl
    refine lv_iload_n hx hb dX4_inForceIn_10 rfl (lv_at hl 2 rfl) ?_
    refine lv_aload_n hx hb dX4_inForceIn_11 rfl (lv_at hl 0 rfl) ?_
    refine r_geti X hW (gq g11 al_0) fl_4_47 dX4_inForceIn_12 ?_
    refine lv_icmp_ge (tgt := 46) hx hb dX4_inForceIn_15 (by decide) (fun c37 => ?_) (fun c37 => ?_)
    · have hF := it c37 hF
      obtain rfl := sj hF
      exact hK _ _ _ (wdW (sq g11 g6) hW) hS (lv_sub hl [0] rfl)
    · have hF := ie c37 hF
      refine lv_aload_n hx hb dX4_inForceIn_18 rfl (lv_at hl 0 rfl) ?_
      obtain ⟨o13, e14, hF⟩ := bn hF
      refine r_getr X hW (gq g11 al_0) fl_4_29 e14 dX4_inForceIn_19 (fun al15 => ?_)
      have al15 := qg g11 al15
      refine lv_iload_n hx hb dX4_inForceIn_22 rfl (lv_at hl 2 rfl) ?_
      obtain ⟨x16, e17, hF⟩ := bn hF
      obtain ⟨b18, e17⟩ := ga_s e17
      refine r_iald X hW (gq g11 al15) rfl b18 dX4_inForceIn_23 ?_
      refine nmi e17 ?_
      refine lv_iload_n hx hb dX4_inForceIn_24 rfl (lv_at hl 1 rfl) ?_
      refine lv_icmp_gt (tgt := 40) hx hb dX4_inForceIn_25 (by decide) (fun c36 => ?_) (fun c36 => ?_)
      · have hF := it c36 hF
        obtain ⟨x19, e20, hF⟩ := nmx hF
        refine lv_iinc (v := x19) (lv' := [(2, .int x19), (0, .ref (φ 4 i0)), (1, .int a1)]) hx hb dX4_inForceIn_40 hl (k := 2) rfl (by rw [e20]; rfl) (by decide) rfl (fun ls hl => ?_)
        refine lv_goto (tgt := 10) hx hb dX4_inForceIn_43 (by decide) ?_
        obtain rfl := sj hF
        exact hK _ _ _ (wdW (sq g11 g6) hW) hS (lv_sub hl [1, 2, 0] rfl)
      · have hF := ie c36 hF
        refine lv_aload_n hx hb dX4_inForceIn_28 rfl (lv_at hl 0 rfl) ?_
        obtain ⟨o21, e22, hF⟩ := bn hF
        refine r_getr X hW (gq g11 al_0) fl_4_32 e22 dX4_inForceIn_29 (fun al23 => ?_)
        have al23 := qg g11 al23
        refine lv_aload_n hx hb dX4_inForceIn_32 rfl (lv_at hl 0 rfl) ?_
        obtain ⟨o24, e25, hF⟩ := bn hF
        refine r_getr X hW (gq g11 al_0) fl_4_19 e25 dX4_inForceIn_33 (fun al26 => ?_)
        have al26 := qg g11 al26
        refine lv_iload_n hx hb dX4_inForceIn_36 rfl (lv_at hl 2 rfl) ?_
        obtain ⟨x27, e28, hF⟩ := bn hF
        obtain ⟨b29, e28⟩ := ga_s e28
        refine r_iald X hW (gq g11 al26) rfl b29 dX4_inForceIn_37 ?_
        refine nmi e28 ?_
        refine lv_iload_n hx hb dX4_inForceIn_38 rfl (lv_at hl 2 rfl) ?_
        obtain ⟨h30, e31, hF⟩ := bn hF
        obtain ⟨b32, e31⟩ := sa_s e31
        refine r_iast X hW hS (gq g11 al23) rfl b32 dX4_inForceIn_39 (fun H locs hW hS => ?_)
        have hW := nmW e31 hW
        have g33 : h30.2.2 = h.2.2 := by rw [e31]; exact g11
        obtain ⟨x34, e35, hF⟩ := nmx hF
        refine lv_iinc (v := x34) (lv' := [(2, .int x34), (0, .ref (φ 4 i0)), (1, .int a1)]) hx hb dX4_inForceIn_40 hl (k := 2) rfl (by rw [e35]; rfl) (by decide) rfl (fun ls hl => ?_)
        refine lv_goto (tgt := 10) hx hb dX4_inForceIn_43 (by decide) ?_
        obtain rfl := sj hF
        exact hK _ _ _ (wdW (sq g33 g6) hW) hS (lv_sub hl [1, 2, 0] rfl)
  · intro H locs ls hW hS hl
    obtain ⟨d41, rfl⟩ : ∃ z, z = q38 := ⟨_, rfl⟩
    obtain ⟨h42, e47, hF⟩ := nmx hF
    have hW := nmW e47 hW
    have g43 : h42.2.2 = h.2.2 := by rw [e47]; exact g6
    have hl : lv_has ls 3 [(0, .ref (φ 4 i0))] := hl
    refine lv_aload_n hx hb dX4_inForceIn_46 rfl (lv_at hl 0 rfl) ?_
    obtain ⟨o44, e45, hF⟩ := bn hF
    refine r_getr X hW (gq g43 al_0) fl_4_32 e45 dX4_inForceIn_47 (fun al46 => ?_)
    have al46 := qg g43 al46
    obtain ⟨rfl, rfl⟩ := sj2 hF
    exact hfin _ _ _ _ (wdW g43 hW) hS al46 dX4_inForceIn_50
def B_X4_partFor_2 (i0 : Nat) (i1 : Nat) (i2 : Nat) (h : HP) (x1 : Int32) : Option ((Int32) ⊕ (Int32 ⊕ Unit)) :=
  (if 3 ≤ x1 then
  some (.inr (.inr ()))
  else
  (ga h 34 i2 4 x1).bind fun x2 =>
  (if x2 = (-1) then
  nm (x1 + 1) fun x5 =>
  some (.inl x5)
  else
  (gr h 4 i0 4).bind fun o7 =>
  (ga h 31 o7 26 x2).bind fun x10 =>
  (if (gi h 1 i1 2) < x10 then
  nm (x1 + 1) fun x13 =>
  some (.inl x13)
  else
  (gr h 4 i0 5).bind fun o15 =>
  (ga h 32 o15 26 x2).bind fun x18 =>
  (if (gi h 1 i1 1) < x18 then
  nm (x1 + 1) fun x21 =>
  some (.inl x21)
  else
  some (.inr (.inl x2))))))
def F_X4_partFor (i0 : Nat) (i1 : Nat) (i2 : Nat) (h : HP) : Option (Int32) :=
  (loopN LF (B_X4_partFor_2 i0 i1 i2 h) 0).bind (fun q27 => match q27 with
  | .inl q27 => (fun x29 =>
  some x29) q27
  | .inr q27 => (fun _ =>
  some (-1)) q27)
set_option maxHeartbeats 4000000 in
set_option maxRecDepth 100000 in
theorem ok_X4_partFor {l : Launch} {D : va_G} {cA : Nat → ClassId} {h : HP} {r : Int32}  (i0 : Nat) (i1 : Nat) (i2 : Nat) (al_0 : i0 < gn h 4) (al_1 : i1 < gn h 1) (al_2 : i2 < gn h 34) (hF : F_X4_partFor i0 i1 i2 h = some r) : MI l D cA yX4_partFor cX4_partFor 5 (some .int) 0 0 (fun φ => [.ref (φ 4 i0), .ref (φ 1 i1), .ref (φ 34 i2)]) h r h := by
  refine mk_I (plainFor_of_name (by decide)) (fun φ => Nat.le_of_ble_eq_true rfl) ?_
  intro p e s m args below meth c ls φ A Q X hW hS hl hfin
  have hx := X.1
  have hb := X.2.1
  have hl : lv_has ls 5 [(0, .ref (φ 4 i0)), (1, .ref (φ 1 i1)), (2, .ref (φ 34 i2))] := hl
  unfold F_X4_partFor at hF
  refine lv_iconst (v := 0) hx hb dX4_partFor_0 (by decide) ?_
  refine lv_istore_n (lv' := [(3, .int 0), (0, .ref (φ 4 i0)), (1, .ref (φ 1 i1)), (2, .ref (φ 34 i2))]) hx hb dX4_partFor_1 rfl hl (by decide) rfl (fun ls hl => ?_)
  obtain ⟨q27, e28, hF⟩ := bn hF
  refine loop_w (f := B_X4_partFor_2 i0 i1 i2 h) (Z := fun q => ∀ (H : Heap) (locs : List Loc) (ls : Array Slot), HW D cA A φ h H → va_S A s.heap H locs → lv_has ls 5 [(0, .ref (φ 4 i0)), (1, .ref (φ 1 i1)), (2, .ref (φ 34 i2)), (3, .int q)] → W p l e (rmo 0 0 0 0) s m args below meth c H locs 0 0 Q (F0 m 2 ls [])) (K := fun q => match q with | .inl q => (∀ (H : Heap) (locs : List Loc) (ls : Array Slot), HW D cA A φ h H → va_S A s.heap H locs → lv_has ls 5 [(4, .int q)] → W p l e (rmo 0 0 0 0) s m args below meth c H locs 0 0 Q (F0 m 46 ls [])) | .inr q => (∀ (H : Heap) (locs : List Loc) (ls : Array Slot), HW D cA A φ h H → va_S A s.heap H locs → lv_has ls 5 [] → W p l e (rmo 0 0 0 0) s m args below meth c H locs 0 0 Q (F0 m 55 ls []))) ?_ LF _ q27 e28 ?_ _ _ _ hW hS (lv_sub hl [1, 2, 3, 0] rfl)
  · intro x1 v hF hK H locs ls hW hS hl
    unfold B_X4_partFor_2 at hF
    have hl : lv_has ls 5 [(0, .ref (φ 4 i0)), (1, .ref (φ 1 i1)), (2, .ref (φ 34 i2)), (3, .int x1)] := hl
    refine lv_iload_n hx hb dX4_partFor_2 rfl (lv_at hl 3 rfl) ?_
    refine lv_iconst (v := 3) hx hb dX4_partFor_3 (by decide) ?_
    refine lv_icmp_ge (tgt := 55) hx hb dX4_partFor_4 (by decide) (fun c26 => ?_) (fun c26 => ?_)
    · have hF := it c26 hF
      obtain rfl := sj hF
      exact hK _ _ _ hW hS (lv_sub hl [] rfl)
    · have hF := ie c26 hF
      refine lv_aload_n hx hb dX4_partFor_7 rfl (lv_at hl 2 rfl) ?_
      refine lv_iload_n hx hb dX4_partFor_8 rfl (lv_at hl 3 rfl) ?_
      obtain ⟨x2, e3, hF⟩ := bn hF
      obtain ⟨b4, e3⟩ := ga_s e3
      refine r_iald X hW al_2 rfl b4 dX4_partFor_9 ?_
      refine nmi e3 ?_
      refine lv_istore (lv' := [(4, .int x2), (0, .ref (φ 4 i0)), (1, .ref (φ 1 i1)), (2, .ref (φ 34 i2)), (3, .int x1)]) hx hb dX4_partFor_10 hl (by decide) rfl (fun ls hl => ?_)
      refine lv_iload hx hb dX4_partFor_12 (lv_at hl 0 rfl) ?_
      refine lv_iconst (v := (-1)) hx hb dX4_partFor_14 (by decide) ?_
      refine lv_icmp_eq (tgt := 49) hx hb dX4_partFor_15 (by decide) (fun c25 => ?_) (fun c25 => ?_)
      · have hF := it c25 hF
        obtain ⟨x5, e6, hF⟩ := nmx hF
        refine lv_iinc (v := x5) (lv' := [(3, .int x5), (4, .int x2), (0, .ref (φ 4 i0)), (1, .ref (φ 1 i1)), (2, .ref (φ 34 i2))]) hx hb dX4_partFor_49 hl (k := 4) rfl (by rw [e6]; rfl) (by decide) rfl (fun ls hl => ?_)
        refine lv_goto (tgt := 2) hx hb dX4_partFor_52 (by decide) ?_
        obtain rfl := sj hF
        exact hK _ _ _ hW hS (lv_sub hl [2, 3, 4, 0] rfl)
      · have hF := ie c25 hF
        refine lv_aload_n hx hb dX4_partFor_18 rfl (lv_at hl 2 rfl) ?_
        refine r_geti X hW al_1 fl_4_50 dX4_partFor_19 ?_
        refine lv_aload_n hx hb dX4_partFor_22 rfl (lv_at hl 1 rfl) ?_
        obtain ⟨o7, e8, hF⟩ := bn hF
        refine r_getr X hW al_0 fl_4_23 e8 dX4_partFor_23 (fun al9 => ?_)
        refine lv_iload hx hb dX4_partFor_26 (lv_at hl 0 rfl) ?_
        obtain ⟨x10, e11, hF⟩ := bn hF
        obtain ⟨b12, e11⟩ := ga_s e11
        refine r_iald X hW al9 rfl b12 dX4_partFor_28 ?_
        refine nmi e11 ?_
        refine lv_icmp_lt (tgt := 49) hx hb dX4_partFor_29 (by decide) (fun c24 => ?_) (fun c24 => ?_)
        · have hF := it c24 hF
          obtain ⟨x13, e14, hF⟩ := nmx hF
          refine lv_iinc (v := x13) (lv' := [(3, .int x13), (4, .int x2), (0, .ref (φ 4 i0)), (1, .ref (φ 1 i1)), (2, .ref (φ 34 i2))]) hx hb dX4_partFor_49 hl (k := 4) rfl (by rw [e14]; rfl) (by decide) rfl (fun ls hl => ?_)
          refine lv_goto (tgt := 2) hx hb dX4_partFor_52 (by decide) ?_
          obtain rfl := sj hF
          exact hK _ _ _ hW hS (lv_sub hl [2, 3, 4, 0] rfl)
        · have hF := ie c24 hF
          refine lv_aload_n hx hb dX4_partFor_32 rfl (lv_at hl 2 rfl) ?_
          refine r_geti X hW al_1 fl_4_55 dX4_partFor_33 ?_
          refine lv_aload_n hx hb dX4_partFor_36 rfl (lv_at hl 1 rfl) ?_
          obtain ⟨o15, e16, hF⟩ := bn hF
          refine r_getr X hW al_0 fl_4_26 e16 dX4_partFor_37 (fun al17 => ?_)
          refine lv_iload hx hb dX4_partFor_40 (lv_at hl 0 rfl) ?_
          obtain ⟨x18, e19, hF⟩ := bn hF
          obtain ⟨b20, e19⟩ := ga_s e19
          refine r_iald X hW al17 rfl b20 dX4_partFor_42 ?_
          refine nmi e19 ?_
          refine lv_icmp_lt (tgt := 49) hx hb dX4_partFor_43 (by decide) (fun c23 => ?_) (fun c23 => ?_)
          · have hF := it c23 hF
            obtain ⟨x21, e22, hF⟩ := nmx hF
            refine lv_iinc (v := x21) (lv' := [(3, .int x21), (4, .int x2), (0, .ref (φ 4 i0)), (1, .ref (φ 1 i1)), (2, .ref (φ 34 i2))]) hx hb dX4_partFor_49 hl (k := 4) rfl (by rw [e22]; rfl) (by decide) rfl (fun ls hl => ?_)
            refine lv_goto (tgt := 2) hx hb dX4_partFor_52 (by decide) ?_
            obtain rfl := sj hF
            exact hK _ _ _ hW hS (lv_sub hl [2, 3, 4, 0] rfl)
          · have hF := ie c23 hF
            obtain rfl := sj hF
            exact hK _ _ _ hW hS (lv_sub hl [0] rfl)
  · cases q27 with
    | inl q27 =>
      intro H locs ls hW hS hl
      obtain ⟨x29, rfl⟩ : ∃ z, z = q27 := ⟨_, rfl⟩
      have hl : lv_has ls 5 [(4, .int x29)] := hl
      refine lv_iload hx hb dX4_partFor_46 (lv_at hl 0 rfl) ?_
      obtain rfl := sj hF
      exact hfin _ _ _ _ hW hS dX4_partFor_48
    | inr q27 =>
      intro H locs ls hW hS hl
      have hl : lv_has ls 5 [] := hl
      refine lv_iconst (v := (-1)) hx hb dX4_partFor_55 (by decide) ?_
      obtain rfl := sj hF
      exact hfin _ _ _ _ hW hS dX4_partFor_56
def F_X4_letterOf (i0 : Nat) (i1 : Nat) (i2 : Nat) (h : HP) : Option (Int32) :=
  (F_X4_partFor i0 i1 i2 h).bind fun x2 =>
  (if x2 = (-1) then
  some 3
  else
  (gr h 4 i0 3).bind fun o3 =>
  (ga h 30 o3 26 x2).bind fun x6 =>
  some x6)
set_option maxHeartbeats 4000000 in
set_option maxRecDepth 100000 in
theorem ok_X4_letterOf {l : Launch} {D : va_G} {cA : Nat → ClassId} {h : HP} {r : Int32}  (i0 : Nat) (i1 : Nat) (i2 : Nat) (al_0 : i0 < gn h 4) (al_1 : i1 < gn h 1) (al_2 : i2 < gn h 34) (hF : F_X4_letterOf i0 i1 i2 h = some r) : MI l D cA yX4_letterOf cX4_letterOf 4 (some .int) 1 24 (fun φ => [.ref (φ 4 i0), .ref (φ 1 i1), .ref (φ 34 i2)]) h r h := by
  refine mk_I (plainFor_of_name (by decide)) (fun φ => Nat.le_of_ble_eq_true rfl) ?_
  intro p e s m args below meth c ls φ A Q X hW hS hl hfin
  have hx := X.1
  have hb := X.2.1
  have hl : lv_has ls 4 [(0, .ref (φ 4 i0)), (1, .ref (φ 1 i1)), (2, .ref (φ 34 i2))] := hl
  unfold F_X4_letterOf at hF
  refine lv_aload_n hx hb dX4_letterOf_0 rfl (lv_at hl 0 rfl) ?_
  refine lv_aload_n hx hb dX4_letterOf_1 rfl (lv_at hl 1 rfl) ?_
  refine lv_aload_n hx hb dX4_letterOf_2 rfl (lv_at hl 2 rfl) ?_
  obtain ⟨x2, e1, hF⟩ := bn hF
  refine rc_i (Af := fun φ => [.ref (φ 4 i0), .ref (φ 1 i1), .ref (φ 34 i2)]) X hW hS ⟨Nat.zero_le _, Nat.zero_le _⟩ (rn_V (As := [.ref (φ 1 i1), .ref (φ 34 i2)]) (rest := []) X hW hS cw_4_58 al_0 rfl rfl rfl ⟨Nat.le_of_ble_eq_true rfl, Nat.le_of_ble_eq_true rfl⟩ rfl hl.1 rfl (Nat.le_of_ble_eq_true rfl) dX4_letterOf_3) (ok_X4_partFor i0 i1 i2 al_0 al_1 al_2 e1) (fun H locs hW hS => ?_)
  refine lv_istore_n (lv' := [(3, .int x2), (0, .ref (φ 4 i0)), (1, .ref (φ 1 i1)), (2, .ref (φ 34 i2))]) hx hb dX4_letterOf_6 rfl hl (by decide) rfl (fun ls hl => ?_)
  refine lv_iload_n hx hb dX4_letterOf_7 rfl (lv_at hl 0 rfl) ?_
  refine lv_iconst (v := (-1)) hx hb dX4_letterOf_8 (by decide) ?_
  refine lv_icmp_ne (tgt := 16) hx hb dX4_letterOf_9 (by decide) (fun c9 => ?_) (fun c9 => ?_)
  · have hF := ie c9 hF
    refine lv_aload_n hx hb dX4_letterOf_16 rfl (lv_at hl 1 rfl) ?_
    obtain ⟨o3, e4, hF⟩ := bn hF
    refine r_getr X hW al_0 fl_4_19 e4 dX4_letterOf_17 (fun al5 => ?_)
    refine lv_iload_n hx hb dX4_letterOf_20 rfl (lv_at hl 0 rfl) ?_
    obtain ⟨x6, e7, hF⟩ := bn hF
    obtain ⟨b8, e7⟩ := ga_s e7
    refine r_iald X hW al5 rfl b8 dX4_letterOf_21 ?_
    refine nmi e7 ?_
    obtain rfl := sj hF
    exact hfin _ _ _ _ hW hS dX4_letterOf_22
  · have hF := it c9 hF
    refine lv_iconst (v := 3) hx hb dX4_letterOf_12 (by decide) ?_
    refine lv_goto (tgt := 22) hx hb dX4_letterOf_13 (by decide) ?_
    obtain rfl := sj hF
    exact hfin _ _ _ _ hW hS dX4_letterOf_22
def F_X11_letter (i0 : Nat) (a1 : Int32) (a2 : Int32) (h : HP) : Option (Int32 × DP) :=
  (gr h 11 i0 3).bind fun o1 =>
  (F_X2_has o1 a1 h).bind fun x5 =>
  (if x5 = 0 then
  some ((-2), dp h)
  else
  (F_X11_isWeek a2).bind fun x7 =>
  (if x7 = 0 then
  some ((-2), dp h)
  else
  (gr h 11 i0 4).bind fun o8 =>
  (gr h 11 i0 3).bind fun o11 =>
  (gr h 2 o11 0).bind fun o14 =>
  (gar h 23 o14 20 a1).bind fun o17 =>
  (gr h 11 i0 4).bind fun o21 =>
  (F_X4_inForceIn o21 a2 h).bind fun q29 => u2 q29 fun o30 d28 => nm (wd h d28) fun h25 =>
  (F_X4_letterOf o8 o17 o30 h25).bind fun x33 =>
  some (x33, dp h25)))
set_option maxHeartbeats 4000000 in
set_option maxRecDepth 100000 in
theorem ok_X11_letter {l : Launch} {D : va_G} {cA : Nat → ClassId} {h : HP} {r : Int32} {d : DP} (i0 : Nat) (a1 : Int32) (a2 : Int32) (al_0 : i0 < gn h 11) (hF : F_X11_letter i0 a1 a2 h = some (r, d)) : MI l D cA yX11_letter cX11_letter 3 (some .int) 2 47 (fun φ => [.ref (φ 11 i0), .int a1, .int a2]) h r (wd h d) := by
  refine mk_I (plainFor_of_name (by decide)) (fun φ => Nat.le_of_ble_eq_true rfl) ?_
  intro p e s m args below meth c ls φ A Q X hW hS hl hfin
  have hx := X.1
  have hb := X.2.1
  have hl : lv_has ls 3 [(0, .ref (φ 11 i0)), (1, .int a1), (2, .int a2)] := hl
  unfold F_X11_letter at hF
  refine lv_aload_n hx hb dX11_letter_0 rfl (lv_at hl 0 rfl) ?_
  obtain ⟨o1, e2, hF⟩ := bn hF
  refine r_getr X hW al_0 fl_11_16 e2 dX11_letter_1 (fun al3 => ?_)
  refine lv_iload_n hx hb dX11_letter_4 rfl (lv_at hl 1 rfl) ?_
  obtain ⟨x5, e4, hF⟩ := bn hF
  refine rc_i (Af := fun φ => [.ref (φ 2 o1), .int a1]) X hW hS ⟨Nat.zero_le _, Nat.zero_le _⟩ (rn_V (As := [.int a1]) (rest := []) X hW hS cw_11_137 al3 rfl rfl rfl ⟨Nat.le_of_ble_eq_true rfl, Nat.le_of_ble_eq_true rfl⟩ rfl hl.1 rfl (Nat.le_of_ble_eq_true rfl) dX11_letter_5) (ok_X2_has o1 a1 al3 e4) (fun H locs hW hS => ?_)
  refine lv_if_eq (tgt := 18) hx hb dX11_letter_8 (by decide) (fun c35 => ?_) (fun c35 => ?_)
  · have hF := it c35 hF
    refine lv_bipush (v := (-2)) hx hb dX11_letter_18 (by decide) ?_
    obtain ⟨rfl, rfl⟩ := sj2 hF
    exact hfin _ _ _ _ (wdW rfl hW) hS dX11_letter_20
  · have hF := ie c35 hF
    refine lv_iload_n hx hb dX11_letter_11 rfl (lv_at hl 2 rfl) ?_
    obtain ⟨x7, e6, hF⟩ := bn hF
    refine rc_i (Af := fun φ => [.int a2]) X hW hS ⟨Nat.zero_le _, Nat.zero_le _⟩ (rn_S (As := [.int a2]) (rest := []) X hW hS cw_11_199 ⟨Nat.le_of_ble_eq_true rfl, Nat.le_of_ble_eq_true rfl⟩ rfl hl.1 rfl (Nat.le_of_ble_eq_true rfl) dX11_letter_12) (ok_X11_isWeek a2 e6) (fun H locs hW hS => ?_)
    refine lv_if_ne (tgt := 21) hx hb dX11_letter_15 (by decide) (fun c34 => ?_) (fun c34 => ?_)
    · have hF := ie c34 hF
      refine lv_aload_n hx hb dX11_letter_21 rfl (lv_at hl 0 rfl) ?_
      obtain ⟨o8, e9, hF⟩ := bn hF
      refine r_getr X hW al_0 fl_11_23 e9 dX11_letter_22 (fun al10 => ?_)
      refine lv_aload_n hx hb dX11_letter_25 rfl (lv_at hl 0 rfl) ?_
      obtain ⟨o11, e12, hF⟩ := bn hF
      refine r_getr X hW al_0 fl_11_16 e12 dX11_letter_26 (fun al13 => ?_)
      obtain ⟨o14, e15, hF⟩ := bn hF
      refine r_getr X hW al13 fl_11_140 e15 dX11_letter_29 (fun al16 => ?_)
      refine lv_iload_n hx hb dX11_letter_32 rfl (lv_at hl 1 rfl) ?_
      obtain ⟨o17, e18, hF⟩ := bn hF
      obtain ⟨b19, e18⟩ := gar_s e18
      refine r_aald (t0 := 3) X hW al16 rfl rfl b19 e18 dX11_letter_33 (fun al20 => ?_)
      refine lv_aload_n hx hb dX11_letter_34 rfl (lv_at hl 0 rfl) ?_
      obtain ⟨o21, e22, hF⟩ := bn hF
      refine r_getr X hW al_0 fl_11_23 e22 dX11_letter_35 (fun al23 => ?_)
      refine lv_iload_n hx hb dX11_letter_38 rfl (lv_at hl 2 rfl) ?_
      obtain ⟨q29, e24, hF⟩ := bn hF
      obtain ⟨o30, d28⟩ := q29
      have hF := u2d hF
      refine rc_r (Af := fun φ => [.ref (φ 4 o21), .int a2]) X hW hS ⟨Nat.zero_le _, Nat.zero_le _⟩ (rn_V (As := [.int a2]) (rest := [.ref (φ 1 o17), .ref (φ 4 o8)]) X hW hS cw_11_202 al23 rfl rfl rfl ⟨Nat.le_of_ble_eq_true rfl, Nat.le_of_ble_eq_true rfl⟩ rfl hl.1 rfl (Nat.le_of_ble_eq_true rfl) dX11_letter_39) (ok_X4_inForceIn o21 a2 al23 e24) (fun H locs hW hS al31 => ?_)
      have al31 := qg (h1 := wd h d28) rfl al31
      obtain ⟨h25, e27, hF⟩ := nmx hF
      have hW := nmW e27 hW
      have g26 : h25.2.2 = h.2.2 := by rw [e27]; exact rfl
      obtain ⟨x33, e32, hF⟩ := bn hF
      refine rc_i (Af := fun φ => [.ref (φ 4 o8), .ref (φ 1 o17), .ref (φ 34 o30)]) X hW hS ⟨Nat.zero_le _, Nat.zero_le _⟩ (rn_V (As := [.ref (φ 1 o17), .ref (φ 34 o30)]) (rest := []) X hW hS cw_11_206 (gq g26 al10) rfl rfl rfl ⟨Nat.le_of_ble_eq_true rfl, Nat.le_of_ble_eq_true rfl⟩ rfl hl.1 rfl (Nat.le_of_ble_eq_true rfl) dX11_letter_42) (ok_X4_letterOf o8 o17 o30 (gq g26 al10) (gq g26 al20) (gq g26 al31) e32) (fun H locs hW hS => ?_)
      obtain ⟨rfl, rfl⟩ := sj2 hF
      exact hfin _ _ _ _ (wdW g26 hW) hS dX11_letter_45
    · have hF := it c34 hF
      refine lv_bipush (v := (-2)) hx hb dX11_letter_18 (by decide) ?_
      obtain ⟨rfl, rfl⟩ := sj2 hF
      exact hfin _ _ _ _ (wdW rfl hW) hS dX11_letter_20
def F_X11_why (i0 : Nat) (a1 : Int32) (a2 : Int32) (h : HP) : Option (Int32 × DP) :=
  (gr h 11 i0 3).bind fun o1 =>
  (F_X2_has o1 a1 h).bind fun x5 =>
  (if x5 = 0 then
  some ((-2), dp h)
  else
  (F_X11_isWeek a2).bind fun x7 =>
  (if x7 = 0 then
  some ((-2), dp h)
  else
  (gr h 11 i0 4).bind fun o8 =>
  (gr h 11 i0 3).bind fun o11 =>
  (gr h 2 o11 0).bind fun o14 =>
  (gar h 23 o14 20 a1).bind fun o17 =>
  (gr h 11 i0 4).bind fun o21 =>
  (F_X4_inForceIn o21 a2 h).bind fun q29 => u2 q29 fun o30 d28 => nm (wd h d28) fun h25 =>
  (F_X4_partFor o8 o17 o30 h25).bind fun x33 =>
  some (x33, dp h25)))
set_option maxHeartbeats 4000000 in
set_option maxRecDepth 100000 in
theorem ok_X11_why {l : Launch} {D : va_G} {cA : Nat → ClassId} {h : HP} {r : Int32} {d : DP} (i0 : Nat) (a1 : Int32) (a2 : Int32) (al_0 : i0 < gn h 11) (hF : F_X11_why i0 a1 a2 h = some (r, d)) : MI l D cA yX11_why cX11_why 3 (some .int) 2 45 (fun φ => [.ref (φ 11 i0), .int a1, .int a2]) h r (wd h d) := by
  refine mk_I (plainFor_of_name (by decide)) (fun φ => Nat.le_of_ble_eq_true rfl) ?_
  intro p e s m args below meth c ls φ A Q X hW hS hl hfin
  have hx := X.1
  have hb := X.2.1
  have hl : lv_has ls 3 [(0, .ref (φ 11 i0)), (1, .int a1), (2, .int a2)] := hl
  unfold F_X11_why at hF
  refine lv_aload_n hx hb dX11_why_0 rfl (lv_at hl 0 rfl) ?_
  obtain ⟨o1, e2, hF⟩ := bn hF
  refine r_getr X hW al_0 fl_11_16 e2 dX11_why_1 (fun al3 => ?_)
  refine lv_iload_n hx hb dX11_why_4 rfl (lv_at hl 1 rfl) ?_
  obtain ⟨x5, e4, hF⟩ := bn hF
  refine rc_i (Af := fun φ => [.ref (φ 2 o1), .int a1]) X hW hS ⟨Nat.zero_le _, Nat.zero_le _⟩ (rn_V (As := [.int a1]) (rest := []) X hW hS cw_11_137 al3 rfl rfl rfl ⟨Nat.le_of_ble_eq_true rfl, Nat.le_of_ble_eq_true rfl⟩ rfl hl.1 rfl (Nat.le_of_ble_eq_true rfl) dX11_why_5) (ok_X2_has o1 a1 al3 e4) (fun H locs hW hS => ?_)
  refine lv_if_eq (tgt := 18) hx hb dX11_why_8 (by decide) (fun c35 => ?_) (fun c35 => ?_)
  · have hF := it c35 hF
    refine lv_bipush (v := (-2)) hx hb dX11_why_18 (by decide) ?_
    obtain ⟨rfl, rfl⟩ := sj2 hF
    exact hfin _ _ _ _ (wdW rfl hW) hS dX11_why_20
  · have hF := ie c35 hF
    refine lv_iload_n hx hb dX11_why_11 rfl (lv_at hl 2 rfl) ?_
    obtain ⟨x7, e6, hF⟩ := bn hF
    refine rc_i (Af := fun φ => [.int a2]) X hW hS ⟨Nat.zero_le _, Nat.zero_le _⟩ (rn_S (As := [.int a2]) (rest := []) X hW hS cw_11_199 ⟨Nat.le_of_ble_eq_true rfl, Nat.le_of_ble_eq_true rfl⟩ rfl hl.1 rfl (Nat.le_of_ble_eq_true rfl) dX11_why_12) (ok_X11_isWeek a2 e6) (fun H locs hW hS => ?_)
    refine lv_if_ne (tgt := 21) hx hb dX11_why_15 (by decide) (fun c34 => ?_) (fun c34 => ?_)
    · have hF := ie c34 hF
      refine lv_aload_n hx hb dX11_why_21 rfl (lv_at hl 0 rfl) ?_
      obtain ⟨o8, e9, hF⟩ := bn hF
      refine r_getr X hW al_0 fl_11_23 e9 dX11_why_22 (fun al10 => ?_)
      refine lv_aload_n hx hb dX11_why_25 rfl (lv_at hl 0 rfl) ?_
      obtain ⟨o11, e12, hF⟩ := bn hF
      refine r_getr X hW al_0 fl_11_16 e12 dX11_why_26 (fun al13 => ?_)
      obtain ⟨o14, e15, hF⟩ := bn hF
      refine r_getr X hW al13 fl_11_140 e15 dX11_why_29 (fun al16 => ?_)
      refine lv_iload_n hx hb dX11_why_32 rfl (lv_at hl 1 rfl) ?_
      obtain ⟨o17, e18, hF⟩ := bn hF
      obtain ⟨b19, e18⟩ := gar_s e18
      refine r_aald (t0 := 3) X hW al16 rfl rfl b19 e18 dX11_why_33 (fun al20 => ?_)
      refine lv_aload_n hx hb dX11_why_34 rfl (lv_at hl 0 rfl) ?_
      obtain ⟨o21, e22, hF⟩ := bn hF
      refine r_getr X hW al_0 fl_11_23 e22 dX11_why_35 (fun al23 => ?_)
      refine lv_iload_n hx hb dX11_why_38 rfl (lv_at hl 2 rfl) ?_
      obtain ⟨q29, e24, hF⟩ := bn hF
      obtain ⟨o30, d28⟩ := q29
      have hF := u2d hF
      refine rc_r (Af := fun φ => [.ref (φ 4 o21), .int a2]) X hW hS ⟨Nat.zero_le _, Nat.zero_le _⟩ (rn_V (As := [.int a2]) (rest := [.ref (φ 1 o17), .ref (φ 4 o8)]) X hW hS cw_11_202 al23 rfl rfl rfl ⟨Nat.le_of_ble_eq_true rfl, Nat.le_of_ble_eq_true rfl⟩ rfl hl.1 rfl (Nat.le_of_ble_eq_true rfl) dX11_why_39) (ok_X4_inForceIn o21 a2 al23 e24) (fun H locs hW hS al31 => ?_)
      have al31 := qg (h1 := wd h d28) rfl al31
      obtain ⟨h25, e27, hF⟩ := nmx hF
      have hW := nmW e27 hW
      have g26 : h25.2.2 = h.2.2 := by rw [e27]; exact rfl
      obtain ⟨x33, e32, hF⟩ := bn hF
      refine rc_i (Af := fun φ => [.ref (φ 4 o8), .ref (φ 1 o17), .ref (φ 34 o30)]) X hW hS ⟨Nat.zero_le _, Nat.zero_le _⟩ (rn_V (As := [.ref (φ 1 o17), .ref (φ 34 o30)]) (rest := []) X hW hS cw_11_210 (gq g26 al10) rfl rfl rfl ⟨Nat.le_of_ble_eq_true rfl, Nat.le_of_ble_eq_true rfl⟩ rfl hl.1 rfl (Nat.le_of_ble_eq_true rfl) dX11_why_42) (ok_X4_partFor o8 o17 o30 (gq g26 al10) (gq g26 al20) (gq g26 al31) e32) (fun H locs hW hS => ?_)
      obtain ⟨rfl, rfl⟩ := sj2 hF
      exact hfin _ _ _ _ (wdW g26 hW) hS dX11_why_45
    · have hF := it c34 hF
      refine lv_bipush (v := (-2)) hx hb dX11_why_18 (by decide) ?_
      obtain ⟨rfl, rfl⟩ := sj2 hF
      exact hfin _ _ _ _ (wdW rfl hW) hS dX11_why_20
def F_X4_keptNumber (i0 : Nat) (i1 : Nat) (h : HP) : Option (Int32) :=
  (ga h 34 i1 4 3).bind fun x1 =>
  (if x1 = (-1) then
  some 1
  else
  (gr h 4 i0 5).bind fun o4 =>
  (ga h 32 o4 26 x1).bind fun x7 =>
  some x7)
set_option maxHeartbeats 4000000 in
set_option maxRecDepth 100000 in
theorem ok_X4_keptNumber {l : Launch} {D : va_G} {cA : Nat → ClassId} {h : HP} {r : Int32}  (i0 : Nat) (i1 : Nat) (al_0 : i0 < gn h 4) (al_1 : i1 < gn h 34) (hF : F_X4_keptNumber i0 i1 h = some r) : MI l D cA yX4_keptNumber cX4_keptNumber 3 (some .int) 0 0 (fun φ => [.ref (φ 4 i0), .ref (φ 34 i1)]) h r h := by
  refine mk_I (plainFor_of_name (by decide)) (fun φ => Nat.le_of_ble_eq_true rfl) ?_
  intro p e s m args below meth c ls φ A Q X hW hS hl hfin
  have hx := X.1
  have hb := X.2.1
  have hl : lv_has ls 3 [(0, .ref (φ 4 i0)), (1, .ref (φ 34 i1))] := hl
  unfold F_X4_keptNumber at hF
  refine lv_aload_n hx hb dX4_keptNumber_0 rfl (lv_at hl 1 rfl) ?_
  refine lv_iconst (v := 3) hx hb dX4_keptNumber_1 (by decide) ?_
  obtain ⟨x1, e2, hF⟩ := bn hF
  obtain ⟨b3, e2⟩ := ga_s e2
  refine r_iald X hW al_1 rfl b3 dX4_keptNumber_2 ?_
  refine nmi e2 ?_
  refine lv_istore_n (lv' := [(2, .int x1), (0, .ref (φ 4 i0)), (1, .ref (φ 34 i1))]) hx hb dX4_keptNumber_3 rfl hl (by decide) rfl (fun ls hl => ?_)
  refine lv_iload_n hx hb dX4_keptNumber_4 rfl (lv_at hl 0 rfl) ?_
  refine lv_iconst (v := (-1)) hx hb dX4_keptNumber_5 (by decide) ?_
  refine lv_icmp_ne (tgt := 13) hx hb dX4_keptNumber_6 (by decide) (fun c10 => ?_) (fun c10 => ?_)
  · have hF := ie c10 hF
    refine lv_aload_n hx hb dX4_keptNumber_13 rfl (lv_at hl 1 rfl) ?_
    obtain ⟨o4, e5, hF⟩ := bn hF
    refine r_getr X hW al_0 fl_4_26 e5 dX4_keptNumber_14 (fun al6 => ?_)
    refine lv_iload_n hx hb dX4_keptNumber_17 rfl (lv_at hl 0 rfl) ?_
    obtain ⟨x7, e8, hF⟩ := bn hF
    obtain ⟨b9, e8⟩ := ga_s e8
    refine r_iald X hW al6 rfl b9 dX4_keptNumber_18 ?_
    refine nmi e8 ?_
    obtain rfl := sj hF
    exact hfin _ _ _ _ hW hS dX4_keptNumber_19
  · have hF := it c10 hF
    refine lv_iconst (v := 1) hx hb dX4_keptNumber_9 (by decide) ?_
    refine lv_goto (tgt := 19) hx hb dX4_keptNumber_10 (by decide) ?_
    obtain rfl := sj hF
    exact hfin _ _ _ _ hW hS dX4_keptNumber_19
def J_X2_lightest_71 (i0 : Nat) (a1 : Int32) (a2 : Int32) (a3 : Int32) (x1 : Int32) (x2 : Int32) (v6_71 : Int32) (v7_71 : Int32) (t0_71 : Int32) (h : HP) : Option ((Int32 × Int32) ⊕ (Int32)) :=
  (if t0_71 = 0 then
  nm (v7_71 + 1) fun x5 =>
  some (.inl (v6_71, x5))
  else
  (if v6_71 = (-1) then
  nm (v7_71 + 1) fun x7 =>
  some (.inl (v7_71, x7))
  else
  (gr h 2 i0 0).bind fun o9 =>
  (gar h 23 o9 20 v7_71).bind fun o12 =>
  (gr h 2 i0 0).bind fun o16 =>
  (gar h 23 o16 20 v6_71).bind fun o19 =>
  (if (gi h 1 o19 1) ≤ (gi h 1 o12 1) then
  nm (v7_71 + 1) fun x23 =>
  some (.inl (v6_71, x23))
  else
  nm (v7_71 + 1) fun x25 =>
  some (.inl (v7_71, x25)))))
def B_X2_lightest_18 (i0 : Nat) (a1 : Int32) (a2 : Int32) (a3 : Int32) (x1 : Int32) (x2 : Int32) (h : HP) (q : Int32 × Int32) : Option ((Int32 × Int32) ⊕ (Int32)) :=
  u2 q fun x3 x4 =>
  (if (gi h 2 i0 1) ≤ x4 then
  some (.inr x3)
  else
  (gr h 2 i0 0).bind fun o30 =>
  (gar h 23 o30 20 x4).bind fun o33 =>
  (if (gi h 1 o33 0) = a1 then
  (if ((x1 >>> (x4 &&& 31)) &&& 1) = 0 then
  (gr h 2 i0 0).bind fun o37 =>
  (gar h 23 o37 20 x4).bind fun o40 =>
  (F_X1_stateIn o40 a2 h).bind fun x45 =>
  (if x45 = 4 then
  J_X2_lightest_71 i0 a1 a2 a3 x1 x2 x3 x4 0 h
  else
  J_X2_lightest_71 i0 a1 a2 a3 x1 x2 x3 x4 1 h)
  else
  J_X2_lightest_71 i0 a1 a2 a3 x1 x2 x3 x4 0 h)
  else
  J_X2_lightest_71 i0 a1 a2 a3 x1 x2 x3 x4 0 h))
def B_X2_lightest_6 (i0 : Nat) (a1 : Int32) (a2 : Int32) (a3 : Int32) (h : HP) (q : Int32 × Int32) : Option ((Int32 × Int32) ⊕ (Int32 ⊕ Int32)) :=
  u2 q fun x1 x2 =>
  (if a3 ≤ x2 then
  some (.inr (.inr x1))
  else
  (loopN LF (B_X2_lightest_18 i0 a1 a2 a3 x1 x2 h) ((-1), 0)).bind fun x52 =>
  (if x52 = (-1) then
  some (.inr (.inl x1))
  else
  nm ((x1 ||| (1 <<< (x52 &&& 31)))) fun x53 =>
  nm (x2 + 1) fun x55 =>
  some (.inl (x53, x55))))
def F_X2_lightest (i0 : Nat) (a1 : Int32) (a2 : Int32) (a3 : Int32) (h : HP) : Option (Int32) :=
  (loopN LF (B_X2_lightest_6 i0 a1 a2 a3 h) (0, 0)).bind (fun q59 => match q59 with
  | .inl q59 => (fun x61 =>
  some x61) q59
  | .inr q59 => (fun x62 =>
  some x62) q59)
set_option maxHeartbeats 4000000 in
set_option maxRecDepth 100000 in
theorem ok_X2_lightest {l : Launch} {D : va_G} {cA : Nat → ClassId} {h : HP} {r : Int32}  (i0 : Nat) (a1 : Int32) (a2 : Int32) (a3 : Int32) (al_0 : i0 < gn h 2) (hF : F_X2_lightest i0 a1 a2 a3 h = some r) : MI l D cA yX2_lightest cX2_lightest 9 (some .int) 1 22 (fun φ => [.ref (φ 2 i0), .int a1, .int a2, .int a3]) h r h := by
  refine mk_I (plainFor_of_name (by decide)) (fun φ => Nat.le_of_ble_eq_true rfl) ?_
  intro p e s m args below meth c ls φ A Q X hW hS hl hfin
  have hx := X.1
  have hb := X.2.1
  have hl : lv_has ls 9 [(0, .ref (φ 2 i0)), (1, .int a1), (2, .int a2), (3, .int a3)] := hl
  unfold F_X2_lightest at hF
  refine lv_iconst (v := 0) hx hb dX2_lightest_0 (by decide) ?_
  refine lv_istore (lv' := [(4, .int 0), (0, .ref (φ 2 i0)), (1, .int a1), (2, .int a2), (3, .int a3)]) hx hb dX2_lightest_1 hl (by decide) rfl (fun ls hl => ?_)
  refine lv_iconst (v := 0) hx hb dX2_lightest_3 (by decide) ?_
  refine lv_istore (lv' := [(5, .int 0), (4, .int 0), (0, .ref (φ 2 i0)), (1, .int a1), (2, .int a2), (3, .int a3)]) hx hb dX2_lightest_4 hl (by decide) rfl (fun ls hl => ?_)
  obtain ⟨q59, e60, hF⟩ := bn hF
  refine loop_w (f := B_X2_lightest_6 i0 a1 a2 a3 h) (Z := fun q => ∀ (H : Heap) (locs : List Loc) (ls : Array Slot), HW D cA A φ h H → va_S A s.heap H locs → lv_has ls 9 [(0, .ref (φ 2 i0)), (1, .int a1), (2, .int a2), (3, .int a3), (4, .int (q.1)), (5, .int (q.2))] → W p l e (rmo 1 22 0 0) s m args below meth c H locs 0 0 Q (F0 m 6 ls [])) (K := fun q => match q with | .inl q => (∀ (H : Heap) (locs : List Loc) (ls : Array Slot), HW D cA A φ h H → va_S A s.heap H locs → lv_has ls 9 [(4, .int q)] → W p l e (rmo 1 22 0 0) s m args below meth c H locs 0 0 Q (F0 m 123 ls [])) | .inr q => (∀ (H : Heap) (locs : List Loc) (ls : Array Slot), HW D cA A φ h H → va_S A s.heap H locs → lv_has ls 9 [(4, .int q)] → W p l e (rmo 1 22 0 0) s m args below meth c H locs 0 0 Q (F0 m 141 ls []))) ?_ LF _ q59 e60 ?_ _ _ _ hW hS (lv_sub hl [2, 3, 4, 5, 1, 0] rfl)
  · intro q v hF hK H locs ls hW hS hl
    obtain ⟨x1, x2⟩ := q
    unfold B_X2_lightest_6 at hF
    have hF := u2d hF
    have hl : lv_has ls 9 [(0, .ref (φ 2 i0)), (1, .int a1), (2, .int a2), (3, .int a3), (4, .int x1), (5, .int x2)] := hl
    refine lv_iload hx hb dX2_lightest_6 (lv_at hl 5 rfl) ?_
    refine lv_iload_n hx hb dX2_lightest_8 rfl (lv_at hl 3 rfl) ?_
    refine lv_icmp_ge (tgt := 141) hx hb dX2_lightest_9 (by decide) (fun c58 => ?_) (fun c58 => ?_)
    · have hF := it c58 hF
      obtain rfl := sj hF
      exact hK _ _ _ hW hS (lv_sub hl [4] rfl)
    · have hF := ie c58 hF
      refine lv_iconst (v := (-1)) hx hb dX2_lightest_12 (by decide) ?_
      refine lv_istore (lv' := [(6, .int (-1)), (0, .ref (φ 2 i0)), (1, .int a1), (2, .int a2), (3, .int a3), (4, .int x1), (5, .int x2)]) hx hb dX2_lightest_13 hl (by decide) rfl (fun ls hl => ?_)
      refine lv_iconst (v := 0) hx hb dX2_lightest_15 (by decide) ?_
      refine lv_istore (lv' := [(7, .int 0), (6, .int (-1)), (0, .ref (φ 2 i0)), (1, .int a1), (2, .int a2), (3, .int a3), (4, .int x1), (5, .int x2)]) hx hb dX2_lightest_16 hl (by decide) rfl (fun ls hl => ?_)
      obtain ⟨q50, e51, hF⟩ := bn hF
      refine loop_w (f := B_X2_lightest_18 i0 a1 a2 a3 x1 x2 h) (Z := fun q => ∀ (H : Heap) (locs : List Loc) (ls : Array Slot), HW D cA A φ h H → va_S A s.heap H locs → lv_has ls 9 [(0, .ref (φ 2 i0)), (1, .int a1), (2, .int a2), (3, .int a3), (4, .int x1), (5, .int x2), (6, .int (q.1)), (7, .int (q.2))] → W p l e (rmo 1 22 0 0) s m args below meth c H locs 0 0 Q (F0 m 18 ls [])) (K := fun q => ∀ (H : Heap) (locs : List Loc) (ls : Array Slot), HW D cA A φ h H → va_S A s.heap H locs → lv_has ls 9 [(0, .ref (φ 2 i0)), (1, .int a1), (2, .int a2), (3, .int a3), (4, .int x1), (5, .int x2), (6, .int q)] → W p l e (rmo 1 22 0 0) s m args below meth c H locs 0 0 Q (F0 m 117 ls [])) ?_ LF _ q50 e51 ?_ _ _ _ hW hS (lv_sub hl [2, 3, 4, 5, 6, 7, 1, 0] rfl)
      · intro q v hF hK H locs ls hW hS hl
        obtain ⟨x3, x4⟩ := q
        unfold B_X2_lightest_18 at hF
        have hF := u2d hF
        have hl : lv_has ls 9 [(0, .ref (φ 2 i0)), (1, .int a1), (2, .int a2), (3, .int a3), (4, .int x1), (5, .int x2), (6, .int x3), (7, .int x4)] := hl
        have j_71 : ∀ (v6_71 : Int32) (v7_71 : Int32) (t0_71 : Int32) (H : Heap) (locs : List Loc) (ls : Array Slot), J_X2_lightest_71 i0 a1 a2 a3 x1 x2 v6_71 v7_71 t0_71 h = some v → HW D cA A φ h H → va_S A s.heap H locs → lv_has ls 9 [(0, .ref (φ 2 i0)), (1, .int a1), (2, .int a2), (3, .int a3), (4, .int x1), (5, .int x2), (6, .int v6_71), (7, .int v7_71)] → W p l e (rmo 1 22 0 0) s m args below meth c H locs 0 0 Q (F0 m 71 ls [.int t0_71]) := by
          intro v6_71 v7_71 t0_71 H locs ls hF hW hS hl
          unfold J_X2_lightest_71 at hF
          refine lv_istore (lv' := [(8, .int t0_71), (0, .ref (φ 2 i0)), (1, .int a1), (2, .int a2), (3, .int a3), (4, .int x1), (5, .int x2), (6, .int v6_71), (7, .int v7_71)]) hx hb dX2_lightest_71 hl (by decide) rfl (fun ls hl => ?_)
          refine lv_iload hx hb dX2_lightest_73 (lv_at hl 0 rfl) ?_
          refine lv_if_eq (tgt := 111) hx hb dX2_lightest_75 (by decide) (fun c29 => ?_) (fun c29 => ?_)
          · have hF := it c29 hF
            obtain ⟨x5, e6, hF⟩ := nmx hF
            refine lv_iinc (v := x5) (lv' := [(7, .int x5), (8, .int t0_71), (0, .ref (φ 2 i0)), (1, .int a1), (2, .int a2), (3, .int a3), (4, .int x1), (5, .int x2), (6, .int v6_71)]) hx hb dX2_lightest_111 hl (k := 8) rfl (by rw [e6]; rfl) (by decide) rfl (fun ls hl => ?_)
            refine lv_goto (tgt := 18) hx hb dX2_lightest_114 (by decide) ?_
            obtain rfl := sj hF
            exact hK _ _ _ hW hS (lv_sub hl [2, 3, 4, 5, 6, 7, 8, 0] rfl)
          · have hF := ie c29 hF
            refine lv_iload hx hb dX2_lightest_78 (lv_at hl 7 rfl) ?_
            refine lv_iconst (v := (-1)) hx hb dX2_lightest_80 (by decide) ?_
            refine lv_icmp_eq (tgt := 107) hx hb dX2_lightest_81 (by decide) (fun c28 => ?_) (fun c28 => ?_)
            · have hF := it c28 hF
              refine lv_iload hx hb dX2_lightest_107 (lv_at hl 8 rfl) ?_
              refine lv_istore (lv' := [(6, .int v7_71), (8, .int t0_71), (0, .ref (φ 2 i0)), (1, .int a1), (2, .int a2), (3, .int a3), (4, .int x1), (5, .int x2), (7, .int v7_71)]) hx hb dX2_lightest_109 hl (by decide) rfl (fun ls hl => ?_)
              obtain ⟨x7, e8, hF⟩ := nmx hF
              refine lv_iinc (v := x7) (lv' := [(7, .int x7), (6, .int v7_71), (8, .int t0_71), (0, .ref (φ 2 i0)), (1, .int a1), (2, .int a2), (3, .int a3), (4, .int x1), (5, .int x2)]) hx hb dX2_lightest_111 hl (k := 8) rfl (by rw [e8]; rfl) (by decide) rfl (fun ls hl => ?_)
              refine lv_goto (tgt := 18) hx hb dX2_lightest_114 (by decide) ?_
              obtain rfl := sj hF
              exact hK _ _ _ hW hS (lv_sub hl [3, 4, 5, 6, 7, 8, 1, 0] rfl)
            · have hF := ie c28 hF
              refine lv_aload_n hx hb dX2_lightest_84 rfl (lv_at hl 1 rfl) ?_
              obtain ⟨o9, e10, hF⟩ := bn hF
              refine r_getr X hW al_0 fl_2_11 e10 dX2_lightest_85 (fun al11 => ?_)
              refine lv_iload hx hb dX2_lightest_88 (lv_at hl 8 rfl) ?_
              obtain ⟨o12, e13, hF⟩ := bn hF
              obtain ⟨b14, e13⟩ := gar_s e13
              refine r_aald (t0 := 3) X hW al11 rfl rfl b14 e13 dX2_lightest_90 (fun al15 => ?_)
              refine r_geti X hW al15 fl_2_40 dX2_lightest_91 ?_
              refine lv_aload_n hx hb dX2_lightest_94 rfl (lv_at hl 1 rfl) ?_
              obtain ⟨o16, e17, hF⟩ := bn hF
              refine r_getr X hW al_0 fl_2_11 e17 dX2_lightest_95 (fun al18 => ?_)
              refine lv_iload hx hb dX2_lightest_98 (lv_at hl 7 rfl) ?_
              obtain ⟨o19, e20, hF⟩ := bn hF
              obtain ⟨b21, e20⟩ := gar_s e20
              refine r_aald (t0 := 3) X hW al18 rfl rfl b21 e20 dX2_lightest_100 (fun al22 => ?_)
              refine r_geti X hW al22 fl_2_40 dX2_lightest_101 ?_
              refine lv_icmp_ge (tgt := 111) hx hb dX2_lightest_104 (by decide) (fun c27 => ?_) (fun c27 => ?_)
              · have hF := it c27 hF
                obtain ⟨x23, e24, hF⟩ := nmx hF
                refine lv_iinc (v := x23) (lv' := [(7, .int x23), (8, .int t0_71), (0, .ref (φ 2 i0)), (1, .int a1), (2, .int a2), (3, .int a3), (4, .int x1), (5, .int x2), (6, .int v6_71)]) hx hb dX2_lightest_111 hl (k := 8) rfl (by rw [e24]; rfl) (by decide) rfl (fun ls hl => ?_)
                refine lv_goto (tgt := 18) hx hb dX2_lightest_114 (by decide) ?_
                obtain rfl := sj hF
                exact hK _ _ _ hW hS (lv_sub hl [2, 3, 4, 5, 6, 7, 8, 0] rfl)
              · have hF := ie c27 hF
                refine lv_iload hx hb dX2_lightest_107 (lv_at hl 8 rfl) ?_
                refine lv_istore (lv' := [(6, .int v7_71), (8, .int t0_71), (0, .ref (φ 2 i0)), (1, .int a1), (2, .int a2), (3, .int a3), (4, .int x1), (5, .int x2), (7, .int v7_71)]) hx hb dX2_lightest_109 hl (by decide) rfl (fun ls hl => ?_)
                obtain ⟨x25, e26, hF⟩ := nmx hF
                refine lv_iinc (v := x25) (lv' := [(7, .int x25), (6, .int v7_71), (8, .int t0_71), (0, .ref (φ 2 i0)), (1, .int a1), (2, .int a2), (3, .int a3), (4, .int x1), (5, .int x2)]) hx hb dX2_lightest_111 hl (k := 8) rfl (by rw [e26]; rfl) (by decide) rfl (fun ls hl => ?_)
                refine lv_goto (tgt := 18) hx hb dX2_lightest_114 (by decide) ?_
                obtain rfl := sj hF
                exact hK _ _ _ hW hS (lv_sub hl [3, 4, 5, 6, 7, 8, 1, 0] rfl)
        refine lv_iload hx hb dX2_lightest_18 (lv_at hl 7 rfl) ?_
        refine lv_aload_n hx hb dX2_lightest_20 rfl (lv_at hl 0 rfl) ?_
        refine r_geti X hW al_0 fl_2_17 dX2_lightest_21 ?_
        refine lv_icmp_ge (tgt := 117) hx hb dX2_lightest_24 (by decide) (fun c49 => ?_) (fun c49 => ?_)
        · have hF := it c49 hF
          obtain rfl := sj hF
          exact hK _ _ _ hW hS (lv_sub hl [0, 1, 2, 3, 4, 5, 6] rfl)
        · have hF := ie c49 hF
          refine lv_aload_n hx hb dX2_lightest_27 rfl (lv_at hl 0 rfl) ?_
          obtain ⟨o30, e31, hF⟩ := bn hF
          refine r_getr X hW al_0 fl_2_11 e31 dX2_lightest_28 (fun al32 => ?_)
          refine lv_iload hx hb dX2_lightest_31 (lv_at hl 7 rfl) ?_
          obtain ⟨o33, e34, hF⟩ := bn hF
          obtain ⟨b35, e34⟩ := gar_s e34
          refine r_aald (t0 := 3) X hW al32 rfl rfl b35 e34 dX2_lightest_33 (fun al36 => ?_)
          refine r_geti X hW al36 fl_2_33 dX2_lightest_34 ?_
          refine lv_iload_n hx hb dX2_lightest_37 rfl (lv_at hl 1 rfl) ?_
          refine lv_icmp_ne (tgt := 70) hx hb dX2_lightest_38 (by decide) (fun c48 => ?_) (fun c48 => ?_)
          · have hF := ie c48 hF
            refine lv_iconst (v := 0) hx hb dX2_lightest_70 (by decide) ?_
            exact j_71 x3 x4 0 _ _ _ hF hW hS (lv_sub hl [0, 1, 2, 3, 4, 5, 6, 7] rfl)
          · have hF := it c48 hF
            refine lv_iload hx hb dX2_lightest_41 (lv_at hl 4 rfl) ?_
            refine lv_iload hx hb dX2_lightest_43 (lv_at hl 7 rfl) ?_
            refine lv_ishr hx hb dX2_lightest_45 ?_
            refine lv_iconst (v := 1) hx hb dX2_lightest_46 (by decide) ?_
            refine lv_iand hx hb dX2_lightest_47 ?_
            refine lv_if_ne (tgt := 70) hx hb dX2_lightest_48 (by decide) (fun c47 => ?_) (fun c47 => ?_)
            · have hF := ie c47 hF
              refine lv_iconst (v := 0) hx hb dX2_lightest_70 (by decide) ?_
              exact j_71 x3 x4 0 _ _ _ hF hW hS (lv_sub hl [0, 1, 2, 3, 4, 5, 6, 7] rfl)
            · have hF := it c47 hF
              refine lv_aload_n hx hb dX2_lightest_51 rfl (lv_at hl 0 rfl) ?_
              obtain ⟨o37, e38, hF⟩ := bn hF
              refine r_getr X hW al_0 fl_2_11 e38 dX2_lightest_52 (fun al39 => ?_)
              refine lv_iload hx hb dX2_lightest_55 (lv_at hl 7 rfl) ?_
              obtain ⟨o40, e41, hF⟩ := bn hF
              obtain ⟨b42, e41⟩ := gar_s e41
              refine r_aald (t0 := 3) X hW al39 rfl rfl b42 e41 dX2_lightest_57 (fun al43 => ?_)
              refine lv_iload_n hx hb dX2_lightest_58 rfl (lv_at hl 2 rfl) ?_
              obtain ⟨x45, e44, hF⟩ := bn hF
              refine rc_i (Af := fun φ => [.ref (φ 1 o40), .int a2]) X hW hS ⟨Nat.zero_le _, Nat.zero_le _⟩ (rn_V (As := [.int a2]) (rest := []) X hW hS cw_2_36 al43 rfl rfl rfl ⟨Nat.le_of_ble_eq_true rfl, Nat.le_of_ble_eq_true rfl⟩ rfl hl.1 rfl (Nat.le_of_ble_eq_true rfl) dX2_lightest_59) (ok_X1_stateIn o40 a2 al43 e44) (fun H locs hW hS => ?_)
              refine lv_iconst (v := 4) hx hb dX2_lightest_62 (by decide) ?_
              refine lv_icmp_eq (tgt := 70) hx hb dX2_lightest_63 (by decide) (fun c46 => ?_) (fun c46 => ?_)
              · have hF := it c46 hF
                refine lv_iconst (v := 0) hx hb dX2_lightest_70 (by decide) ?_
                exact j_71 x3 x4 0 _ _ _ hF hW hS (lv_sub hl [0, 1, 2, 3, 4, 5, 6, 7] rfl)
              · have hF := ie c46 hF
                refine lv_iconst (v := 1) hx hb dX2_lightest_66 (by decide) ?_
                refine lv_goto (tgt := 71) hx hb dX2_lightest_67 (by decide) ?_
                exact j_71 x3 x4 1 _ _ _ hF hW hS (lv_sub hl [0, 1, 2, 3, 4, 5, 6, 7] rfl)
      · intro H locs ls hW hS hl
        obtain ⟨x52, rfl⟩ : ∃ z, z = q50 := ⟨_, rfl⟩
        have hl : lv_has ls 9 [(0, .ref (φ 2 i0)), (1, .int a1), (2, .int a2), (3, .int a3), (4, .int x1), (5, .int x2), (6, .int x52)] := hl
        refine lv_iload hx hb dX2_lightest_117 (lv_at hl 6 rfl) ?_
        refine lv_iconst (v := (-1)) hx hb dX2_lightest_119 (by decide) ?_
        refine lv_icmp_ne (tgt := 126) hx hb dX2_lightest_120 (by decide) (fun c57 => ?_) (fun c57 => ?_)
        · have hF := ie c57 hF
          refine lv_iload hx hb dX2_lightest_126 (lv_at hl 4 rfl) ?_
          refine lv_iconst (v := 1) hx hb dX2_lightest_128 (by decide) ?_
          refine lv_iload hx hb dX2_lightest_129 (lv_at hl 6 rfl) ?_
          refine lv_ishl hx hb dX2_lightest_131 ?_
          refine lv_ior hx hb dX2_lightest_132 ?_
          obtain ⟨x53, e54, hF⟩ := nmx hF
          refine nmi e54 ?_
          refine lv_istore (lv' := [(4, .int x53), (0, .ref (φ 2 i0)), (1, .int a1), (2, .int a2), (3, .int a3), (5, .int x2), (6, .int x52)]) hx hb dX2_lightest_133 hl (by decide) rfl (fun ls hl => ?_)
          obtain ⟨x55, e56, hF⟩ := nmx hF
          refine lv_iinc (v := x55) (lv' := [(5, .int x55), (4, .int x53), (0, .ref (φ 2 i0)), (1, .int a1), (2, .int a2), (3, .int a3), (6, .int x52)]) hx hb dX2_lightest_135 hl (k := 5) rfl (by rw [e56]; rfl) (by decide) rfl (fun ls hl => ?_)
          refine lv_goto (tgt := 6) hx hb dX2_lightest_138 (by decide) ?_
          obtain rfl := sj hF
          exact hK _ _ _ hW hS (lv_sub hl [2, 3, 4, 5, 1, 0] rfl)
        · have hF := it c57 hF
          obtain rfl := sj hF
          exact hK _ _ _ hW hS (lv_sub hl [4] rfl)
  · cases q59 with
    | inl q59 =>
      intro H locs ls hW hS hl
      obtain ⟨x61, rfl⟩ : ∃ z, z = q59 := ⟨_, rfl⟩
      have hl : lv_has ls 9 [(4, .int x61)] := hl
      refine lv_goto (tgt := 141) hx hb dX2_lightest_123 (by decide) ?_
      refine lv_iload hx hb dX2_lightest_141 (lv_at hl 0 rfl) ?_
      obtain rfl := sj hF
      exact hfin _ _ _ _ hW hS dX2_lightest_143
    | inr q59 =>
      intro H locs ls hW hS hl
      obtain ⟨x62, rfl⟩ : ∃ z, z = q59 := ⟨_, rfl⟩
      have hl : lv_has ls 9 [(4, .int x62)] := hl
      refine lv_iload hx hb dX2_lightest_141 (lv_at hl 0 rfl) ?_
      obtain rfl := sj hF
      exact hfin _ _ _ _ hW hS dX2_lightest_143
def F_X11_kept (i0 : Nat) (a1 : Int32) (a2 : Int32) (h : HP) : Option (Int32 × DP) :=
  (F_X11_isParish i0 a1 h).bind fun x2 =>
  (if x2 = 0 then
  some ((-2), dp h)
  else
  (F_X11_isFrom a2 0 (gi h 11 i0 0)).bind fun x4 =>
  (if x4 = 0 then
  some ((-2), dp h)
  else
  (gr h 11 i0 3).bind fun o5 =>
  (gr h 11 i0 4).bind fun o8 =>
  (gr h 11 i0 4).bind fun o11 =>
  (F_X4_inForceIn o11 a2 h).bind fun q19 => u2 q19 fun o20 d18 => nm (wd h d18) fun h15 =>
  (F_X4_keptNumber o8 o20 h15).bind fun x23 =>
  (F_X2_lightest o5 a1 a2 x23 h15).bind fun x25 =>
  some (x25, dp h15)))
set_option maxHeartbeats 4000000 in
set_option maxRecDepth 100000 in
theorem ok_X11_kept {l : Launch} {D : va_G} {cA : Nat → ClassId} {h : HP} {r : Int32} {d : DP} (i0 : Nat) (a1 : Int32) (a2 : Int32) (al_0 : i0 < gn h 11) (hF : F_X11_kept i0 a1 a2 h = some (r, d)) : MI l D cA yX11_kept cX11_kept 3 (some .int) 2 50 (fun φ => [.ref (φ 11 i0), .int a1, .int a2]) h r (wd h d) := by
  refine mk_I (plainFor_of_name (by decide)) (fun φ => Nat.le_of_ble_eq_true rfl) ?_
  intro p e s m args below meth c ls φ A Q X hW hS hl hfin
  have hx := X.1
  have hb := X.2.1
  have hl : lv_has ls 3 [(0, .ref (φ 11 i0)), (1, .int a1), (2, .int a2)] := hl
  unfold F_X11_kept at hF
  refine lv_aload_n hx hb dX11_kept_0 rfl (lv_at hl 0 rfl) ?_
  refine lv_iload_n hx hb dX11_kept_1 rfl (lv_at hl 1 rfl) ?_
  obtain ⟨x2, e1, hF⟩ := bn hF
  refine rc_i (Af := fun φ => [.ref (φ 11 i0), .int a1]) X hW hS ⟨Nat.zero_le _, Nat.zero_le _⟩ (rn_V (As := [.int a1]) (rest := []) X hW hS cw_11_96 al_0 rfl rfl rfl ⟨Nat.le_of_ble_eq_true rfl, Nat.le_of_ble_eq_true rfl⟩ rfl hl.1 rfl (Nat.le_of_ble_eq_true rfl) dX11_kept_2) (ok_X11_isParish i0 a1 al_0 e1) (fun H locs hW hS => ?_)
  refine lv_if_eq (tgt := 20) hx hb dX11_kept_5 (by decide) (fun c27 => ?_) (fun c27 => ?_)
  · have hF := it c27 hF
    refine lv_bipush (v := (-2)) hx hb dX11_kept_20 (by decide) ?_
    obtain ⟨rfl, rfl⟩ := sj2 hF
    exact hfin _ _ _ _ (wdW rfl hW) hS dX11_kept_22
  · have hF := ie c27 hF
    refine lv_iload_n hx hb dX11_kept_8 rfl (lv_at hl 2 rfl) ?_
    refine lv_iconst (v := 0) hx hb dX11_kept_9 (by decide) ?_
    refine lv_aload_n hx hb dX11_kept_10 rfl (lv_at hl 0 rfl) ?_
    refine r_geti X hW al_0 fl_11_85 dX11_kept_11 ?_
    obtain ⟨x4, e3, hF⟩ := bn hF
    refine rc_i (Af := fun φ => [.int a2, .int 0, .int (gi h 11 i0 0)]) X hW hS ⟨Nat.zero_le _, Nat.zero_le _⟩ (rn_S (As := [.int a2, .int 0, .int (gi h 11 i0 0)]) (rest := []) X hW hS cw_11_81 ⟨Nat.le_of_ble_eq_true rfl, Nat.le_of_ble_eq_true rfl⟩ rfl hl.1 rfl (Nat.le_of_ble_eq_true rfl) dX11_kept_14) (ok_X11_isFrom a2 0 (gi h 11 i0 0) e3) (fun H locs hW hS => ?_)
    refine lv_if_ne (tgt := 23) hx hb dX11_kept_17 (by decide) (fun c26 => ?_) (fun c26 => ?_)
    · have hF := ie c26 hF
      refine lv_aload_n hx hb dX11_kept_23 rfl (lv_at hl 0 rfl) ?_
      obtain ⟨o5, e6, hF⟩ := bn hF
      refine r_getr X hW al_0 fl_11_16 e6 dX11_kept_24 (fun al7 => ?_)
      refine lv_iload_n hx hb dX11_kept_27 rfl (lv_at hl 1 rfl) ?_
      refine lv_iload_n hx hb dX11_kept_28 rfl (lv_at hl 2 rfl) ?_
      refine lv_aload_n hx hb dX11_kept_29 rfl (lv_at hl 0 rfl) ?_
      obtain ⟨o8, e9, hF⟩ := bn hF
      refine r_getr X hW al_0 fl_11_23 e9 dX11_kept_30 (fun al10 => ?_)
      refine lv_aload_n hx hb dX11_kept_33 rfl (lv_at hl 0 rfl) ?_
      obtain ⟨o11, e12, hF⟩ := bn hF
      refine r_getr X hW al_0 fl_11_23 e12 dX11_kept_34 (fun al13 => ?_)
      refine lv_iload_n hx hb dX11_kept_37 rfl (lv_at hl 2 rfl) ?_
      obtain ⟨q19, e14, hF⟩ := bn hF
      obtain ⟨o20, d18⟩ := q19
      have hF := u2d hF
      refine rc_r (Af := fun φ => [.ref (φ 4 o11), .int a2]) X hW hS ⟨Nat.zero_le _, Nat.zero_le _⟩ (rn_V (As := [.int a2]) (rest := [.ref (φ 4 o8), .int a2, .int a1, .ref (φ 2 o5)]) X hW hS cw_11_202 al13 rfl rfl rfl ⟨Nat.le_of_ble_eq_true rfl, Nat.le_of_ble_eq_true rfl⟩ rfl hl.1 rfl (Nat.le_of_ble_eq_true rfl) dX11_kept_38) (ok_X4_inForceIn o11 a2 al13 e14) (fun H locs hW hS al21 => ?_)
      have al21 := qg (h1 := wd h d18) rfl al21
      obtain ⟨h15, e17, hF⟩ := nmx hF
      have hW := nmW e17 hW
      have g16 : h15.2.2 = h.2.2 := by rw [e17]; exact rfl
      obtain ⟨x23, e22, hF⟩ := bn hF
      refine rc_i (Af := fun φ => [.ref (φ 4 o8), .ref (φ 34 o20)]) X hW hS ⟨Nat.zero_le _, Nat.zero_le _⟩ (rn_V (As := [.ref (φ 34 o20)]) (rest := [.int a2, .int a1, .ref (φ 2 o5)]) X hW hS cw_11_213 (gq g16 al10) rfl rfl rfl ⟨Nat.le_of_ble_eq_true rfl, Nat.le_of_ble_eq_true rfl⟩ rfl hl.1 rfl (Nat.le_of_ble_eq_true rfl) dX11_kept_41) (ok_X4_keptNumber o8 o20 (gq g16 al10) (gq g16 al21) e22) (fun H locs hW hS => ?_)
      obtain ⟨x25, e24, hF⟩ := bn hF
      refine rc_i (Af := fun φ => [.ref (φ 2 o5), .int a1, .int a2, .int x23]) X hW hS ⟨Nat.zero_le _, Nat.zero_le _⟩ (rn_V (As := [.int a1, .int a2, .int x23]) (rest := []) X hW hS cw_11_217 (gq g16 al7) rfl rfl rfl ⟨Nat.le_of_ble_eq_true rfl, Nat.le_of_ble_eq_true rfl⟩ rfl hl.1 rfl (Nat.le_of_ble_eq_true rfl) dX11_kept_44) (ok_X2_lightest o5 a1 a2 x23 (gq g16 al7) e24) (fun H locs hW hS => ?_)
      obtain ⟨rfl, rfl⟩ := sj2 hF
      exact hfin _ _ _ _ (wdW g16 hW) hS dX11_kept_47
    · have hF := it c26 hF
      refine lv_bipush (v := (-2)) hx hb dX11_kept_20 (by decide) ?_
      obtain ⟨rfl, rfl⟩ := sj2 hF
      exact hfin _ _ _ _ (wdW rfl hW) hS dX11_kept_22
def J_X11_list_29 (i0 : Nat) (a1 : Int32) (a2 : Int32) (hj29 : HP) : Option (Int32 × DP) :=
  (gr hj29 11 i0 3).bind fun o1 =>
  (gr hj29 2 o1 0).bind fun o4 =>
  (gar hj29 23 o4 20 a1).bind fun o7 =>
  nm ((gi hj29 1 o7 8)) fun x11 =>
  nm (si hj29 1 o7 8 a2) fun h13 =>
  some (x11, dp h13)
def F_X11_list (i0 : Nat) (a1 : Int32) (a2 : Int32) (h : HP) : Option (Int32 × DP) :=
  (gr h 11 i0 3).bind fun o16 =>
  (F_X2_has o16 a1 h).bind fun x20 =>
  (if x20 = 0 then
  some ((-1000), dp h)
  else
  (F_X11_isFrom a2 0 3).bind fun x22 =>
  (if x22 = 0 then
  (if a2 = (-1) then
  J_X11_list_29 i0 a1 a2 h
  else
  some ((-1000), dp h))
  else
  J_X11_list_29 i0 a1 a2 h))
set_option maxHeartbeats 4000000 in
set_option maxRecDepth 100000 in
theorem ok_X11_list {l : Launch} {D : va_G} {cA : Nat → ClassId} {h : HP} {r : Int32} {d : DP} (i0 : Nat) (a1 : Int32) (a2 : Int32) (al_0 : i0 < gn h 11) (hF : F_X11_list i0 a1 a2 h = some (r, d)) : MI l D cA yX11_list cX11_list 5 (some .int) 2 43 (fun φ => [.ref (φ 11 i0), .int a1, .int a2]) h r (wd h d) := by
  refine mk_I (plainFor_of_name (by decide)) (fun φ => Nat.le_of_ble_eq_true rfl) ?_
  intro p e s m args below meth c ls φ A Q X hW hS hl hfin
  have hx := X.1
  have hb := X.2.1
  have hl : lv_has ls 5 [(0, .ref (φ 11 i0)), (1, .int a1), (2, .int a2)] := hl
  unfold F_X11_list at hF
  have j_29 : ∀ (hj29 : HP) (H : Heap) (locs : List Loc) (ls : Array Slot), hj29.2.2 = h.2.2 → J_X11_list_29 i0 a1 a2 hj29 = some (r, d) → HW D cA A φ hj29 H → va_S A s.heap H locs → lv_has ls 5 [(0, .ref (φ 11 i0)), (1, .int a1), (2, .int a2)] → W p l e (rmo 2 43 0 0) s m args below meth c H locs 0 0 Q (F0 m 29 ls []) := by
    intro hj29 H locs ls gj29 hF hW hS hl
    unfold J_X11_list_29 at hF
    refine lv_aload_n hx hb dX11_list_29 rfl (lv_at hl 0 rfl) ?_
    obtain ⟨o1, e2, hF⟩ := bn hF
    refine r_getr X hW (gq gj29 al_0) fl_11_16 e2 dX11_list_30 (fun al3 => ?_)
    have al3 := qg gj29 al3
    obtain ⟨o4, e5, hF⟩ := bn hF
    refine r_getr X hW (gq gj29 al3) fl_11_140 e5 dX11_list_33 (fun al6 => ?_)
    have al6 := qg gj29 al6
    refine lv_iload_n hx hb dX11_list_36 rfl (lv_at hl 1 rfl) ?_
    obtain ⟨o7, e8, hF⟩ := bn hF
    obtain ⟨b9, e8⟩ := gar_s e8
    refine r_aald (t0 := 3) X hW (gq gj29 al6) rfl rfl b9 e8 dX11_list_37 (fun al10 => ?_)
    have al10 := qg gj29 al10
    refine lv_astore_n (lv' := [(3, .ref (φ 1 o7)), (0, .ref (φ 11 i0)), (1, .int a1), (2, .int a2)]) hx hb dX11_list_38 rfl hl (by decide) rfl (fun ls hl => ?_)
    refine lv_aload_n hx hb dX11_list_39 rfl (lv_at hl 0 rfl) ?_
    refine r_geti X hW (gq gj29 al10) fl_11_163 dX11_list_40 ?_
    obtain ⟨x11, e12, hF⟩ := nmx hF
    refine nmi e12 ?_
    refine lv_istore (lv' := [(4, .int x11), (3, .ref (φ 1 o7)), (0, .ref (φ 11 i0)), (1, .int a1), (2, .int a2)]) hx hb dX11_list_43 hl (by decide) rfl (fun ls hl => ?_)
    refine lv_aload_n hx hb dX11_list_45 rfl (lv_at hl 1 rfl) ?_
    refine lv_iload_n hx hb dX11_list_46 rfl (lv_at hl 4 rfl) ?_
    refine r_puti X hW hS (gq gj29 al10) fp_11_163 rfl rfl dX11_list_47 (fun H locs hW hS => ?_)
    obtain ⟨h13, e14, hF⟩ := nmx hF
    have hW := nmW e14 hW
    have g15 : h13.2.2 = h.2.2 := by rw [e14]; exact gj29
    refine lv_iload hx hb dX11_list_50 (lv_at hl 0 rfl) ?_
    obtain ⟨rfl, rfl⟩ := sj2 hF
    exact hfin _ _ _ _ (wdW g15 hW) hS dX11_list_52
  refine lv_aload_n hx hb dX11_list_0 rfl (lv_at hl 0 rfl) ?_
  obtain ⟨o16, e17, hF⟩ := bn hF
  refine r_getr X hW al_0 fl_11_16 e17 dX11_list_1 (fun al18 => ?_)
  refine lv_iload_n hx hb dX11_list_4 rfl (lv_at hl 1 rfl) ?_
  obtain ⟨x20, e19, hF⟩ := bn hF
  refine rc_i (Af := fun φ => [.ref (φ 2 o16), .int a1]) X hW hS ⟨Nat.zero_le _, Nat.zero_le _⟩ (rn_V (As := [.int a1]) (rest := []) X hW hS cw_11_137 al18 rfl rfl rfl ⟨Nat.le_of_ble_eq_true rfl, Nat.le_of_ble_eq_true rfl⟩ rfl hl.1 rfl (Nat.le_of_ble_eq_true rfl) dX11_list_5) (ok_X2_has o16 a1 al18 e19) (fun H locs hW hS => ?_)
  refine lv_if_eq (tgt := 25) hx hb dX11_list_8 (by decide) (fun c25 => ?_) (fun c25 => ?_)
  · have hF := it c25 hF
    refine lv_sipush (v := (-1000)) hx hb dX11_list_25 (by decide) ?_
    obtain ⟨rfl, rfl⟩ := sj2 hF
    exact hfin _ _ _ _ (wdW rfl hW) hS dX11_list_28
  · have hF := ie c25 hF
    refine lv_iload_n hx hb dX11_list_11 rfl (lv_at hl 2 rfl) ?_
    refine lv_iconst (v := 0) hx hb dX11_list_12 (by decide) ?_
    refine lv_iconst (v := 3) hx hb dX11_list_13 (by decide) ?_
    obtain ⟨x22, e21, hF⟩ := bn hF
    refine rc_i (Af := fun φ => [.int a2, .int 0, .int 3]) X hW hS ⟨Nat.zero_le _, Nat.zero_le _⟩ (rn_S (As := [.int a2, .int 0, .int 3]) (rest := []) X hW hS cw_11_81 ⟨Nat.le_of_ble_eq_true rfl, Nat.le_of_ble_eq_true rfl⟩ rfl hl.1 rfl (Nat.le_of_ble_eq_true rfl) dX11_list_14) (ok_X11_isFrom a2 0 3 e21) (fun H locs hW hS => ?_)
    refine lv_if_ne (tgt := 29) hx hb dX11_list_17 (by decide) (fun c24 => ?_) (fun c24 => ?_)
    · have hF := ie c24 hF
      exact j_29 h _ _ _ rfl hF hW hS (lv_sub hl [0, 1, 2] rfl)
    · have hF := it c24 hF
      refine lv_iload_n hx hb dX11_list_20 rfl (lv_at hl 2 rfl) ?_
      refine lv_iconst (v := (-1)) hx hb dX11_list_21 (by decide) ?_
      refine lv_icmp_eq (tgt := 29) hx hb dX11_list_22 (by decide) (fun c23 => ?_) (fun c23 => ?_)
      · have hF := it c23 hF
        exact j_29 h _ _ _ rfl hF hW hS (lv_sub hl [0, 1, 2] rfl)
      · have hF := ie c23 hF
        refine lv_sipush (v := (-1000)) hx hb dX11_list_25 (by decide) ?_
        obtain ⟨rfl, rfl⟩ := sj2 hF
        exact hfin _ _ _ _ (wdW rfl hW) hS dX11_list_28
def B_X11_gained_33 (i0 : Nat) (a1 : Int32) (o14 : Nat) (h9 : HP) (q : Int32 × Int32) : Option ((Int32 × Int32) ⊕ (Int32)) :=
  u2 q fun x16 x17 =>
  (gr h9 11 i0 3).bind fun o18 =>
  (if (gi h9 2 o18 1) ≤ x17 then
  some (.inr x16)
  else
  (gr h9 11 i0 3).bind fun o21 =>
  (gr h9 2 o21 0).bind fun o24 =>
  (gar h9 23 o24 20 x17).bind fun o27 =>
  (if (gi h9 1 o27 0) = a1 then
  (if (gi h9 1 o27 8) = (-1) then
  nm (x17 + 1) fun x33 =>
  some (.inl (x16, x33))
  else
  (gr h9 11 i0 4).bind fun o35 =>
  (F_X4_letterOf o35 o27 o14 h9).bind fun x39 =>
  nm ((x16 + ((gi h9 1 o27 1) * ((gi h9 1 o27 8) - x39)))) fun x40 =>
  nm (x17 + 1) fun x42 =>
  some (.inl (x40, x42)))
  else
  nm (x17 + 1) fun x31 =>
  some (.inl (x16, x31))))
def F_X11_gained (i0 : Nat) (a1 : Int32) (a2 : Int32) (h : HP) : Option (Int32 × DP) :=
  (F_X11_isParish i0 a1 h).bind fun x2 =>
  (if x2 = 0 then
  some ((-2147483648), dp h)
  else
  (F_X11_isWeek a2).bind fun x4 =>
  (if x4 = 0 then
  some ((-2147483648), dp h)
  else
  (gr h 11 i0 4).bind fun o5 =>
  (F_X4_inForceIn o5 a2 h).bind fun q13 => u2 q13 fun o14 d12 => nm (wd h d12) fun h9 =>
  (loopN LF (B_X11_gained_33 i0 a1 o14 h9) (0, 0)).bind fun x49 =>
  some (x49, dp h9)))
set_option maxHeartbeats 4000000 in
set_option maxRecDepth 100000 in
theorem ok_X11_gained {l : Launch} {D : va_G} {cA : Nat → ClassId} {h : HP} {r : Int32} {d : DP} (i0 : Nat) (a1 : Int32) (a2 : Int32) (al_0 : i0 < gn h 11) (hF : F_X11_gained i0 a1 a2 h = some (r, d)) : MI l D cA yX11_gained cX11_gained 7 (some .int) 2 47 (fun φ => [.ref (φ 11 i0), .int a1, .int a2]) h r (wd h d) := by
  refine mk_I (plainFor_of_name (by decide)) (fun φ => Nat.le_of_ble_eq_true rfl) ?_
  intro p e s m args below meth c ls φ A Q X hW hS hl hfin
  have hx := X.1
  have hb := X.2.1
  have hl : lv_has ls 7 [(0, .ref (φ 11 i0)), (1, .int a1), (2, .int a2)] := hl
  unfold F_X11_gained at hF
  refine lv_aload_n hx hb dX11_gained_0 rfl (lv_at hl 0 rfl) ?_
  refine lv_iload_n hx hb dX11_gained_1 rfl (lv_at hl 1 rfl) ?_
  obtain ⟨x2, e1, hF⟩ := bn hF
  refine rc_i (Af := fun φ => [.ref (φ 11 i0), .int a1]) X hW hS ⟨Nat.zero_le _, Nat.zero_le _⟩ (rn_V (As := [.int a1]) (rest := []) X hW hS cw_11_96 al_0 rfl rfl rfl ⟨Nat.le_of_ble_eq_true rfl, Nat.le_of_ble_eq_true rfl⟩ rfl hl.1 rfl (Nat.le_of_ble_eq_true rfl) dX11_gained_2) (ok_X11_isParish i0 a1 al_0 e1) (fun H locs hW hS => ?_)
  refine lv_if_eq (tgt := 15) hx hb dX11_gained_5 (by decide) (fun c51 => ?_) (fun c51 => ?_)
  · have hF := it c51 hF
    refine lv_ldc (v := (-2147483648)) hx hb X.2.2.2.1 (X.2.2.2.2.1 _ (AL_of 557 (by decide +kernel) rfl)) dX11_gained_15 ?_
    obtain ⟨rfl, rfl⟩ := sj2 hF
    exact hfin _ _ _ _ (wdW rfl hW) hS dX11_gained_17
  · have hF := ie c51 hF
    refine lv_iload_n hx hb dX11_gained_8 rfl (lv_at hl 2 rfl) ?_
    obtain ⟨x4, e3, hF⟩ := bn hF
    refine rc_i (Af := fun φ => [.int a2]) X hW hS ⟨Nat.zero_le _, Nat.zero_le _⟩ (rn_S (As := [.int a2]) (rest := []) X hW hS cw_11_199 ⟨Nat.le_of_ble_eq_true rfl, Nat.le_of_ble_eq_true rfl⟩ rfl hl.1 rfl (Nat.le_of_ble_eq_true rfl) dX11_gained_9) (ok_X11_isWeek a2 e3) (fun H locs hW hS => ?_)
    refine lv_if_ne (tgt := 18) hx hb dX11_gained_12 (by decide) (fun c50 => ?_) (fun c50 => ?_)
    · have hF := ie c50 hF
      refine lv_aload_n hx hb dX11_gained_18 rfl (lv_at hl 0 rfl) ?_
      obtain ⟨o5, e6, hF⟩ := bn hF
      refine r_getr X hW al_0 fl_11_23 e6 dX11_gained_19 (fun al7 => ?_)
      refine lv_iload_n hx hb dX11_gained_22 rfl (lv_at hl 2 rfl) ?_
      obtain ⟨q13, e8, hF⟩ := bn hF
      obtain ⟨o14, d12⟩ := q13
      have hF := u2d hF
      refine rc_r (Af := fun φ => [.ref (φ 4 o5), .int a2]) X hW hS ⟨Nat.zero_le _, Nat.zero_le _⟩ (rn_V (As := [.int a2]) (rest := []) X hW hS cw_11_202 al7 rfl rfl rfl ⟨Nat.le_of_ble_eq_true rfl, Nat.le_of_ble_eq_true rfl⟩ rfl hl.1 rfl (Nat.le_of_ble_eq_true rfl) dX11_gained_23) (ok_X4_inForceIn o5 a2 al7 e8) (fun H locs hW hS al15 => ?_)
      have al15 := qg (h1 := wd h d12) rfl al15
      obtain ⟨h9, e11, hF⟩ := nmx hF
      have hW := nmW e11 hW
      have g10 : h9.2.2 = h.2.2 := by rw [e11]; exact rfl
      refine lv_astore_n (lv' := [(3, .ref (φ 34 o14)), (0, .ref (φ 11 i0)), (1, .int a1), (2, .int a2)]) hx hb dX11_gained_26 rfl hl (by decide) rfl (fun ls hl => ?_)
      refine lv_iconst (v := 0) hx hb dX11_gained_27 (by decide) ?_
      refine lv_istore (lv' := [(4, .int 0), (3, .ref (φ 34 o14)), (0, .ref (φ 11 i0)), (1, .int a1), (2, .int a2)]) hx hb dX11_gained_28 hl (by decide) rfl (fun ls hl => ?_)
      refine lv_iconst (v := 0) hx hb dX11_gained_30 (by decide) ?_
      refine lv_istore (lv' := [(5, .int 0), (4, .int 0), (3, .ref (φ 34 o14)), (0, .ref (φ 11 i0)), (1, .int a1), (2, .int a2)]) hx hb dX11_gained_31 hl (by decide) rfl (fun ls hl => ?_)
      obtain ⟨q47, e48, hF⟩ := bn hF
      refine loop_w (f := B_X11_gained_33 i0 a1 o14 h9) (Z := fun q => ∀ (H : Heap) (locs : List Loc) (ls : Array Slot), HW D cA A φ h9 H → va_S A s.heap H locs → lv_has ls 7 [(0, .ref (φ 11 i0)), (1, .int a1), (3, .ref (φ 34 o14)), (4, .int (q.1)), (5, .int (q.2))] → W p l e (rmo 2 47 0 0) s m args below meth c H locs 0 0 Q (F0 m 33 ls [])) (K := fun q => ∀ (H : Heap) (locs : List Loc) (ls : Array Slot), HW D cA A φ h9 H → va_S A s.heap H locs → lv_has ls 7 [(4, .int q)] → W p l e (rmo 2 47 0 0) s m args below meth c H locs 0 0 Q (F0 m 108 ls [])) ?_ LF _ q47 e48 ?_ _ _ _ hW hS (lv_sub hl [3, 4, 2, 1, 0] rfl)
      · intro q v hF hK H locs ls hW hS hl
        obtain ⟨x16, x17⟩ := q
        unfold B_X11_gained_33 at hF
        have hF := u2d hF
        have hl : lv_has ls 7 [(0, .ref (φ 11 i0)), (1, .int a1), (3, .ref (φ 34 o14)), (4, .int x16), (5, .int x17)] := hl
        refine lv_iload hx hb dX11_gained_33 (lv_at hl 4 rfl) ?_
        refine lv_aload_n hx hb dX11_gained_35 rfl (lv_at hl 0 rfl) ?_
        obtain ⟨o18, e19, hF⟩ := bn hF
        refine r_getr X hW (gq g10 al_0) fl_11_16 e19 dX11_gained_36 (fun al20 => ?_)
        have al20 := qg g10 al20
        refine r_geti X hW (gq g10 al20) fl_11_222 dX11_gained_39 ?_
        refine lv_icmp_ge (tgt := 108) hx hb dX11_gained_42 (by decide) (fun c46 => ?_) (fun c46 => ?_)
        · have hF := it c46 hF
          obtain rfl := sj hF
          exact hK _ _ _ hW hS (lv_sub hl [3] rfl)
        · have hF := ie c46 hF
          refine lv_aload_n hx hb dX11_gained_45 rfl (lv_at hl 0 rfl) ?_
          obtain ⟨o21, e22, hF⟩ := bn hF
          refine r_getr X hW (gq g10 al_0) fl_11_16 e22 dX11_gained_46 (fun al23 => ?_)
          have al23 := qg g10 al23
          obtain ⟨o24, e25, hF⟩ := bn hF
          refine r_getr X hW (gq g10 al23) fl_11_140 e25 dX11_gained_49 (fun al26 => ?_)
          have al26 := qg g10 al26
          refine lv_iload hx hb dX11_gained_52 (lv_at hl 4 rfl) ?_
          obtain ⟨o27, e28, hF⟩ := bn hF
          obtain ⟨b29, e28⟩ := gar_s e28
          refine r_aald (t0 := 3) X hW (gq g10 al26) rfl rfl b29 e28 dX11_gained_54 (fun al30 => ?_)
          have al30 := qg g10 al30
          refine lv_astore (lv' := [(6, .ref (φ 1 o27)), (0, .ref (φ 11 i0)), (1, .int a1), (3, .ref (φ 34 o14)), (4, .int x16), (5, .int x17)]) hx hb dX11_gained_55 hl (by decide) rfl (fun ls hl => ?_)
          refine lv_aload hx hb dX11_gained_57 (lv_at hl 0 rfl) ?_
          refine r_geti X hW (gq g10 al30) fl_11_147 dX11_gained_59 ?_
          refine lv_iload_n hx hb dX11_gained_62 rfl (lv_at hl 2 rfl) ?_
          refine lv_icmp_ne (tgt := 102) hx hb dX11_gained_63 (by decide) (fun c45 => ?_) (fun c45 => ?_)
          · have hF := ie c45 hF
            obtain ⟨x31, e32, hF⟩ := nmx hF
            refine lv_iinc (v := x31) (lv' := [(5, .int x31), (6, .ref (φ 1 o27)), (0, .ref (φ 11 i0)), (1, .int a1), (3, .ref (φ 34 o14)), (4, .int x16)]) hx hb dX11_gained_102 hl (k := 5) rfl (by rw [e32]; rfl) (by decide) rfl (fun ls hl => ?_)
            refine lv_goto (tgt := 33) hx hb dX11_gained_105 (by decide) ?_
            obtain rfl := sj hF
            exact hK _ _ _ hW hS (lv_sub hl [2, 3, 4, 5, 0] rfl)
          · have hF := it c45 hF
            refine lv_aload hx hb dX11_gained_66 (lv_at hl 0 rfl) ?_
            refine r_geti X hW (gq g10 al30) fl_11_163 dX11_gained_68 ?_
            refine lv_iconst (v := (-1)) hx hb dX11_gained_71 (by decide) ?_
            refine lv_icmp_eq (tgt := 102) hx hb dX11_gained_72 (by decide) (fun c44 => ?_) (fun c44 => ?_)
            · have hF := it c44 hF
              obtain ⟨x33, e34, hF⟩ := nmx hF
              refine lv_iinc (v := x33) (lv' := [(5, .int x33), (6, .ref (φ 1 o27)), (0, .ref (φ 11 i0)), (1, .int a1), (3, .ref (φ 34 o14)), (4, .int x16)]) hx hb dX11_gained_102 hl (k := 5) rfl (by rw [e34]; rfl) (by decide) rfl (fun ls hl => ?_)
              refine lv_goto (tgt := 33) hx hb dX11_gained_105 (by decide) ?_
              obtain rfl := sj hF
              exact hK _ _ _ hW hS (lv_sub hl [2, 3, 4, 5, 0] rfl)
            · have hF := ie c44 hF
              refine lv_iload hx hb dX11_gained_75 (lv_at hl 4 rfl) ?_
              refine lv_aload hx hb dX11_gained_77 (lv_at hl 0 rfl) ?_
              refine r_geti X hW (gq g10 al30) fl_11_150 dX11_gained_79 ?_
              refine lv_aload hx hb dX11_gained_82 (lv_at hl 0 rfl) ?_
              refine r_geti X hW (gq g10 al30) fl_11_163 dX11_gained_84 ?_
              refine lv_aload_n hx hb dX11_gained_87 rfl (lv_at hl 1 rfl) ?_
              obtain ⟨o35, e36, hF⟩ := bn hF
              refine r_getr X hW (gq g10 al_0) fl_11_23 e36 dX11_gained_88 (fun al37 => ?_)
              have al37 := qg g10 al37
              refine lv_aload hx hb dX11_gained_91 (lv_at hl 0 rfl) ?_
              refine lv_aload_n hx hb dX11_gained_93 rfl (lv_at hl 3 rfl) ?_
              obtain ⟨x39, e38, hF⟩ := bn hF
              refine rc_i (Af := fun φ => [.ref (φ 4 o35), .ref (φ 1 o27), .ref (φ 34 o14)]) X hW hS ⟨Nat.zero_le _, Nat.zero_le _⟩ (rn_V (As := [.ref (φ 1 o27), .ref (φ 34 o14)]) (rest := [.int (gi h9 1 o27 8), .int (gi h9 1 o27 1), .int x16]) X hW hS cw_11_206 (gq g10 al37) rfl rfl rfl ⟨Nat.le_of_ble_eq_true rfl, Nat.le_of_ble_eq_true rfl⟩ rfl hl.1 rfl (Nat.le_of_ble_eq_true rfl) dX11_gained_94) (ok_X4_letterOf o35 o27 o14 (gq g10 al37) (gq g10 al30) (gq g10 al15) e38) (fun H locs hW hS => ?_)
              refine lv_isub hx hb dX11_gained_97 ?_
              refine lv_imul hx hb dX11_gained_98 ?_
              refine lv_iadd hx hb dX11_gained_99 ?_
              obtain ⟨x40, e41, hF⟩ := nmx hF
              refine nmi e41 ?_
              refine lv_istore (lv' := [(4, .int x40), (6, .ref (φ 1 o27)), (0, .ref (φ 11 i0)), (1, .int a1), (3, .ref (φ 34 o14)), (5, .int x17)]) hx hb dX11_gained_100 hl (by decide) rfl (fun ls hl => ?_)
              obtain ⟨x42, e43, hF⟩ := nmx hF
              refine lv_iinc (v := x42) (lv' := [(5, .int x42), (4, .int x40), (6, .ref (φ 1 o27)), (0, .ref (φ 11 i0)), (1, .int a1), (3, .ref (φ 34 o14))]) hx hb dX11_gained_102 hl (k := 5) rfl (by rw [e43]; rfl) (by decide) rfl (fun ls hl => ?_)
              refine lv_goto (tgt := 33) hx hb dX11_gained_105 (by decide) ?_
              obtain rfl := sj hF
              exact hK _ _ _ hW hS (lv_sub hl [3, 4, 5, 1, 0] rfl)
      · intro H locs ls hW hS hl
        obtain ⟨x49, rfl⟩ : ∃ z, z = q47 := ⟨_, rfl⟩
        have hl : lv_has ls 7 [(4, .int x49)] := hl
        refine lv_iload hx hb dX11_gained_108 (lv_at hl 0 rfl) ?_
        obtain ⟨rfl, rfl⟩ := sj2 hF
        exact hfin _ _ _ _ (wdW g10 hW) hS dX11_gained_110
    · have hF := it c50 hF
      refine lv_ldc (v := (-2147483648)) hx hb X.2.2.2.1 (X.2.2.2.2.1 _ (AL_of 557 (by decide +kernel) rfl)) dX11_gained_15 ?_
      obtain ⟨rfl, rfl⟩ := sj2 hF
      exact hfin _ _ _ _ (wdW rfl hW) hS dX11_gained_17
