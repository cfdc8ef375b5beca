def F_J_floorMod (a0 : Int32) (a1 : Int32) : Option (Int32) :=
  (rz a0 a1).bind fun x1 =>
  (if 0 ≤ (a0 ^^^ a1) then
  some x1
  else
  (if x1 = 0 then
  some x1
  else
  some (x1 + a1)))
set_option maxHeartbeats 4000000 in
set_option maxRecDepth 100000 in
theorem ok_J_floorMod {l : Launch} {D : va_G} {cA : Nat → ClassId} {h : HP} {r : Int32}  (a0 : Int32) (a1 : Int32)  (hF : F_J_floorMod a0 a1 = some r) : MI l D cA yJ_floorMod cJ_floorMod 3 (some .int) 0 0 (fun φ => [.int a0, .int a1]) h r h := by
  refine mk_I (by decide +kernel) (fun φ => Nat.le_of_ble_eq_true rfl) ?_
  intro p e s m args below meth c ls φ A Q X hW hS hl hfin
  have hx := X.1
  have hb := X.2.1
  have hl : lv_has ls 3 [(0, .int a0), (1, .int a1)] := hl
  unfold F_J_floorMod at hF
  refine lv_iload_n hx hb dJ_floorMod_0 rfl (lv_at hl 0 rfl) ?_
  refine lv_iload_n hx hb dJ_floorMod_1 rfl (lv_at hl 1 rfl) ?_
  obtain ⟨x1, e2, hF⟩ := bn hF
  obtain ⟨b3, e2⟩ := rz_s e2
  refine lv_irem hx hb dJ_floorMod_2 b3 ?_
  refine nmi e2 ?_
  refine lv_istore_n (lv' := [(2, .int x1), (0, .int a0), (1, .int a1)]) hx hb dJ_floorMod_3 rfl hl (by decide) rfl (fun ls hl => ?_)
  refine lv_iload_n hx hb dJ_floorMod_4 rfl (lv_at hl 1 rfl) ?_
  refine lv_iload_n hx hb dJ_floorMod_5 rfl (lv_at hl 2 rfl) ?_
  refine lv_ixor hx hb dJ_floorMod_6 ?_
  refine lv_if_ge (tgt := 18) hx hb dJ_floorMod_7 (by decide) (fun c5 => ?_) (fun c5 => ?_)
  · have hF := it c5 hF
    refine lv_iload_n hx hb dJ_floorMod_18 rfl (lv_at hl 0 rfl) ?_
    obtain rfl := sj hF
    exact hfin _ _ _ _ hW hS dJ_floorMod_19
  · have hF := ie c5 hF
    refine lv_iload_n hx hb dJ_floorMod_10 rfl (lv_at hl 0 rfl) ?_
    refine lv_if_eq (tgt := 18) hx hb dJ_floorMod_11 (by decide) (fun c4 => ?_) (fun c4 => ?_)
    · have hF := it c4 hF
      refine lv_iload_n hx hb dJ_floorMod_18 rfl (lv_at hl 0 rfl) ?_
      obtain rfl := sj hF
      exact hfin _ _ _ _ hW hS dJ_floorMod_19
    · have hF := ie c4 hF
      refine lv_iload_n hx hb dJ_floorMod_14 rfl (lv_at hl 0 rfl) ?_
      refine lv_iload_n hx hb dJ_floorMod_15 rfl (lv_at hl 2 rfl) ?_
      refine lv_iadd hx hb dJ_floorMod_16 ?_
      obtain rfl := sj hF
      exact hfin _ _ _ _ hW hS dJ_floorMod_17
def B_X7_stepOf_38 (i0 : Nat) (x8 : Int32) (h : HP) (x9 : Int32) : Option ((Int32) ⊕ (Int32 ⊕ Unit)) :=
  (if 12 < x9 then
  some (.inr (.inr ()))
  else
  (F_J_abs (x8 - (100 * x9))).bind fun x11 =>
  (if (gi h 7 i0 0) < x11 then
  nm (x9 + 1) fun x12 =>
  some (.inl x12)
  else
  some (.inr (.inl x9))))
def F_X7_stepOf (i0 : Nat) (i1 : Nat) (h : HP) : Option (Int32) :=
  (gr h 1 i1 4).bind fun o1 =>
  (ga h 20 o1 5 4).bind fun x4 =>
  (if (gi h 7 i0 3) = (-1) then
  some (-1)
  else
  (if x4 = (-1) then
  some (-1)
  else
  (F_J_floorMod (x4 - (gi h 7 i0 4)) 1200).bind fun x8 =>
  (loopN LF (B_X7_stepOf_38 i0 x8 h) 0).bind (fun q16 => match q16 with
  | .inl q16 => (fun x18 =>
  (rz x18 12).bind fun x19 =>
  some x19) q16
  | .inr q16 => (fun _ =>
  some (-1)) q16)))
set_option maxHeartbeats 4000000 in
set_option maxRecDepth 100000 in
theorem ok_X7_stepOf {l : Launch} {D : va_G} {cA : Nat → ClassId} {h : HP} {r : Int32}  (i0 : Nat) (i1 : Nat) (al_0 : i0 < gn h 7) (al_1 : i1 < gn h 1) (hF : F_X7_stepOf i0 i1 h = some r) : MI l D cA yX7_stepOf cX7_stepOf 5 (some .int) 1 22 (fun φ => [.ref (φ 7 i0), .ref (φ 1 i1)]) h r h := by
  refine mk_I (plainFor_of_name (by decide)) (fun φ => Nat.le_of_ble_eq_true rfl) ?_
  intro p e s m args below meth c ls φ A Q X hW hS hl hfin
  have hx := X.1
  have hb := X.2.1
  have hl : lv_has ls 5 [(0, .ref (φ 7 i0)), (1, .ref (φ 1 i1))] := hl
  unfold F_X7_stepOf at hF
  refine lv_aload_n hx hb dX7_stepOf_0 rfl (lv_at hl 1 rfl) ?_
  obtain ⟨o1, e2, hF⟩ := bn hF
  refine r_getr X hW al_1 fl_7_45 e2 dX7_stepOf_1 (fun al3 => ?_)
  refine lv_iconst (v := 4) hx hb dX7_stepOf_4 (by decide) ?_
  obtain ⟨x4, e5, hF⟩ := bn hF
  obtain ⟨b6, e5⟩ := ga_s e5
  refine r_iald X hW al3 rfl b6 dX7_stepOf_5 ?_
  refine nmi e5 ?_
  refine lv_istore_n (lv' := [(2, .int x4), (0, .ref (φ 7 i0)), (1, .ref (φ 1 i1))]) hx hb dX7_stepOf_6 rfl hl (by decide) rfl (fun ls hl => ?_)
  refine lv_aload_n hx hb dX7_stepOf_7 rfl (lv_at hl 1 rfl) ?_
  refine r_geti X hW al_0 fl_7_21 dX7_stepOf_8 ?_
  refine lv_iconst (v := (-1)) hx hb dX7_stepOf_11 (by decide) ?_
  refine lv_icmp_eq (tgt := 20) hx hb dX7_stepOf_12 (by decide) (fun c23 => ?_) (fun c23 => ?_)
  · have hF := it c23 hF
    refine lv_iconst (v := (-1)) hx hb dX7_stepOf_20 (by decide) ?_
    obtain rfl := sj hF
    exact hfin _ _ _ _ hW hS dX7_stepOf_21
  · have hF := ie c23 hF
    refine lv_iload_n hx hb dX7_stepOf_15 rfl (lv_at hl 0 rfl) ?_
    refine lv_iconst (v := (-1)) hx hb dX7_stepOf_16 (by decide) ?_
    refine lv_icmp_ne (tgt := 22) hx hb dX7_stepOf_17 (by decide) (fun c22 => ?_) (fun c22 => ?_)
    · have hF := ie c22 hF
      refine lv_iload_n hx hb dX7_stepOf_22 rfl (lv_at hl 0 rfl) ?_
      refine lv_aload_n hx hb dX7_stepOf_23 rfl (lv_at hl 1 rfl) ?_
      refine r_geti X hW al_0 fl_7_49 dX7_stepOf_24 ?_
      refine lv_isub hx hb dX7_stepOf_27 ?_
      refine lv_sipush (v := 1200) hx hb dX7_stepOf_28 (by decide) ?_
      obtain ⟨x8, e7, hF⟩ := bn hF
      refine rc_i (Af := fun φ => [.int (x4 - (gi h 7 i0 4)), .int 1200]) X hW hS ⟨Nat.zero_le _, Nat.zero_le _⟩ (rn_S (As := [.int (x4 - (gi h 7 i0 4)), .int 1200]) (rest := []) X hW hS cw_7_66 ⟨Nat.le_of_ble_eq_true rfl, Nat.le_of_ble_eq_true rfl⟩ rfl hl.1 rfl (Nat.le_of_ble_eq_true rfl) dX7_stepOf_31) (ok_J_floorMod (x4 - (gi h 7 i0 4)) 1200 e7) (fun H locs hW hS => ?_)
      refine lv_istore_n (lv' := [(3, .int x8), (2, .int x4), (0, .ref (φ 7 i0)), (1, .ref (φ 1 i1))]) hx hb dX7_stepOf_34 rfl hl (by decide) rfl (fun ls hl => ?_)
      refine lv_iconst (v := 0) hx hb dX7_stepOf_35 (by decide) ?_
      refine lv_istore (lv' := [(4, .int 0), (3, .int x8), (2, .int x4), (0, .ref (φ 7 i0)), (1, .ref (φ 1 i1))]) hx hb dX7_stepOf_36 hl (by decide) rfl (fun ls hl => ?_)
      obtain ⟨q16, e17, hF⟩ := bn hF
      refine loop_w (f := B_X7_stepOf_38 i0 x8 h) (Z := fun q => ∀ (H : Heap) (locs : List Loc) (ls : Array Slot), HW D cA A φ h H → va_S A s.heap H locs → lv_has ls 5 [(0, .ref (φ 7 i0)), (3, .int x8), (4, .int q)] → W p l e (rmo 1 22 0 0) s m args below meth c H locs 0 0 Q (F0 m 38 ls [])) (K := fun q => match q with | .inl q => (∀ (H : Heap) (locs : List Loc) (ls : Array Slot), HW D cA A φ h H → va_S A s.heap H locs → lv_has ls 5 [(4, .int q)] → W p l e (rmo 1 22 0 0) s m args below meth c H locs 0 0 Q (F0 m 62 ls [])) | .inr q => (∀ (H : Heap) (locs : List Loc) (ls : Array Slot), HW D cA A φ h H → va_S A s.heap H locs → lv_has ls 5 [] → W p l e (rmo 1 22 0 0) s m args below meth c H locs 0 0 Q (F0 m 74 ls []))) ?_ LF _ q16 e17 ?_ _ _ _ hW hS (lv_sub hl [3, 1, 0] rfl)
      · intro x9 v hF hK H locs ls hW hS hl
        unfold B_X7_stepOf_38 at hF
        have hl : lv_has ls 5 [(0, .ref (φ 7 i0)), (3, .int x8), (4, .int x9)] := hl
        refine lv_iload hx hb dX7_stepOf_38 (lv_at hl 2 rfl) ?_
        refine lv_bipush (v := 12) hx hb dX7_stepOf_40 (by decide) ?_
        refine lv_icmp_gt (tgt := 74) hx hb dX7_stepOf_42 (by decide) (fun c15 => ?_) (fun c15 => ?_)
        · have hF := it c15 hF
          obtain rfl := sj hF
          exact hK _ _ _ hW hS (lv_sub hl [] rfl)
        · have hF := ie c15 hF
          refine lv_iload_n hx hb dX7_stepOf_45 rfl (lv_at hl 1 rfl) ?_
          refine lv_bipush (v := 100) hx hb dX7_stepOf_46 (by decide) ?_
          refine lv_iload hx hb dX7_stepOf_48 (lv_at hl 2 rfl) ?_
          refine lv_imul hx hb dX7_stepOf_50 ?_
          refine lv_isub hx hb dX7_stepOf_51 ?_
          obtain ⟨x11, e10, hF⟩ := bn hF
          refine rc_i (Af := fun φ => [.int (x8 - (100 * x9))]) X hW hS ⟨Nat.zero_le _, Nat.zero_le _⟩ (rn_S (As := [.int (x8 - (100 * x9))]) (rest := []) X hW hS cw_7_72 ⟨Nat.le_of_ble_eq_true rfl, Nat.le_of_ble_eq_true rfl⟩ rfl hl.1 rfl (Nat.le_of_ble_eq_true rfl) dX7_stepOf_52) (ok_J_abs (x8 - (100 * x9)) e10) (fun H locs hW hS => ?_)
          refine lv_aload_n hx hb dX7_stepOf_55 rfl (lv_at hl 0 rfl) ?_
          refine r_geti X hW al_0 fl_7_9 dX7_stepOf_56 ?_
          refine lv_icmp_gt (tgt := 68) hx hb dX7_stepOf_59 (by decide) (fun c14 => ?_) (fun c14 => ?_)
          · have hF := it c14 hF
            obtain ⟨x12, e13, hF⟩ := nmx hF
            refine lv_iinc (v := x12) (lv' := [(4, .int x12), (0, .ref (φ 7 i0)), (3, .int x8)]) hx hb dX7_stepOf_68 hl (k := 2) rfl (by rw [e13]; rfl) (by decide) rfl (fun ls hl => ?_)
            refine lv_goto (tgt := 38) hx hb dX7_stepOf_71 (by decide) ?_
            obtain rfl := sj hF
            exact hK _ _ _ hW hS (lv_sub hl [1, 2, 0] rfl)
          · have hF := ie c14 hF
            obtain rfl := sj hF
            exact hK _ _ _ hW hS (lv_sub hl [2] rfl)
      · cases q16 with
        | inl q16 =>
          intro H locs ls hW hS hl
          obtain ⟨x18, rfl⟩ : ∃ z, z = q16 := ⟨_, rfl⟩
          have hl : lv_has ls 5 [(4, .int x18)] := hl
          refine lv_iload hx hb dX7_stepOf_62 (lv_at hl 0 rfl) ?_
          refine lv_bipush (v := 12) hx hb dX7_stepOf_64 (by decide) ?_
          obtain ⟨x19, e20, hF⟩ := bn hF
          obtain ⟨b21, e20⟩ := rz_s e20
          refine lv_irem hx hb dX7_stepOf_66 b21 ?_
          refine nmi e20 ?_
          obtain rfl := sj hF
          exact hfin _ _ _ _ hW hS dX7_stepOf_67
        | inr q16 =>
          intro H locs ls hW hS hl
          have hl : lv_has ls 5 [] := hl
          refine lv_iconst (v := (-1)) hx hb dX7_stepOf_74 (by decide) ?_
          obtain rfl := sj hF
          exact hfin _ _ _ _ hW hS dX7_stepOf_75
    · have hF := it c22 hF
      refine lv_iconst (v := (-1)) hx hb dX7_stepOf_20 (by decide) ?_
      obtain rfl := sj hF
      exact hfin _ _ _ _ hW hS dX7_stepOf_21
def B_X7_hearSteps_12 (i0 : Nat) (i1 : Nat) (a2 : Int32) (h4 : HP) (q : Int32 × DP) : Option ((Int32 × DP) ⊕ (DP)) :=
  u2 q fun x7 d10 =>
  nm (wd h4 d10) fun h8 =>
  (if (gi h8 2 i1 1) ≤ x7 then
  some (.inr (dp h8))
  else
  (gr h8 2 i1 0).bind fun o11 =>
  (gar h8 23 o11 20 x7).bind fun o14 =>
  (if (gi h8 1 o14 0) = a2 then
  (F_X1_rings o14 h8).bind fun x21 =>
  (if x21 = 0 then
  nm (x7 + 1) fun x22 =>
  some (.inl (x22, (dp h8)))
  else
  (F_X7_stepOf i0 o14 h8).bind fun x25 =>
  (if x25 = (-1) then
  nm (si h8 7 i0 5 ((gi h8 7 i0 5) + 1)) fun h31 =>
  nm (x7 + 1) fun x34 =>
  some (.inl (x34, (dp h31)))
  else
  nm (si h8 7 i0 6 ((gi h8 7 i0 6) ||| (1 <<< (x25 &&& 31)))) fun h26 =>
  nm (x7 + 1) fun x29 =>
  some (.inl (x29, (dp h26)))))
  else
  nm (x7 + 1) fun x18 =>
  some (.inl (x18, (dp h8)))))
def F_X7_hearSteps (i0 : Nat) (i1 : Nat) (a2 : Int32) (h : HP) : Option (DP) :=
  nm (si h 7 i0 5 0) fun h1 =>
  nm (si h1 7 i0 6 0) fun h4 =>
  (loopN LF (B_X7_hearSteps_12 i0 i1 a2 h4) (0, (dp h4))).bind fun d43 =>
  nm (wd h4 d43) fun h44 =>
  some (dp h44)
set_option maxHeartbeats 4000000 in
set_option maxRecDepth 100000 in
theorem ok_X7_hearSteps {l : Launch} {D : va_G} {cA : Nat → ClassId} {h : HP}  {d : DP} (i0 : Nat) (i1 : Nat) (a2 : Int32) (al_0 : i0 < gn h 7) (al_1 : i1 < gn h 2) (hF : F_X7_hearSteps i0 i1 a2 h = some d) : MV l D cA yX7_hearSteps cX7_hearSteps 6 none 2 46 (fun φ => [.ref (φ 7 i0), .ref (φ 2 i1), .int a2]) h (wd h d) := by
  refine mk_V (plainFor_of_name (by decide)) (fun φ => Nat.le_of_ble_eq_true rfl) ?_
  intro p e s m args below meth c ls φ A Q X hW hS hl hfin
  have hx := X.1
  have hb := X.2.1
  have hl : lv_has ls 6 [(0, .ref (φ 7 i0)), (1, .ref (φ 2 i1)), (2, .int a2)] := hl
  unfold F_X7_hearSteps at hF
  refine lv_aload_n hx hb dX7_hearSteps_0 rfl (lv_at hl 0 rfl) ?_
  refine lv_iconst (v := 0) hx hb dX7_hearSteps_1 (by decide) ?_
  refine r_puti X hW hS al_0 fp_7_56 rfl rfl dX7_hearSteps_2 (fun H locs hW hS => ?_)
  obtain ⟨h1, e2, hF⟩ := nmx hF
  have hW := nmW e2 hW
  have g3 : h1.2.2 = h.2.2 := by rw [e2]; exact rfl
  refine lv_aload_n hx hb dX7_hearSteps_5 rfl (lv_at hl 0 rfl) ?_
  refine lv_iconst (v := 0) hx hb dX7_hearSteps_6 (by decide) ?_
  refine r_puti X hW hS (gq g3 al_0) fp_7_59 rfl rfl dX7_hearSteps_7 (fun H locs hW hS => ?_)
  obtain ⟨h4, e5, hF⟩ := nmx hF
  have hW := nmW e5 hW
  have g6 : h4.2.2 = h.2.2 := by rw [e5]; exact g3
  refine lv_iconst (v := 0) hx hb dX7_hearSteps_10 (by decide) ?_
  refine lv_istore_n (lv' := [(3, .int 0), (0, .ref (φ 7 i0)), (1, .ref (φ 2 i1)), (2, .int a2)]) hx hb dX7_hearSteps_11 rfl hl (by decide) rfl (fun ls hl => ?_)
  obtain ⟨q40, e41, hF⟩ := bn hF
  refine loop_w (f := B_X7_hearSteps_12 i0 i1 a2 h4) (Z := fun q => ∀ (H : Heap) (locs : List Loc) (ls : Array Slot), HW D cA A φ (wd h4 q.2) H → va_S A s.heap H locs → lv_has ls 6 [(0, .ref (φ 7 i0)), (1, .ref (φ 2 i1)), (2, .int a2), (3, .int (q.1))] → W p l e (rmo 2 46 0 0) s m args below meth c H locs 0 0 Q (F0 m 12 ls [])) (K := fun q => ∀ (H : Heap) (locs : List Loc) (ls : Array Slot), HW D cA A φ (wd h4 q) H → va_S A s.heap H locs → lv_has ls 6 [] → W p l e (rmo 2 46 0 0) s m args below meth c H locs 0 0 Q (F0 m 91 ls [])) ?_ LF _ q40 e41 ?_ _ _ _ (wdW rfl hW) hS (lv_sub hl [1, 2, 3, 0] rfl)
  · intro q v hF hK H locs ls hW hS hl
    obtain ⟨x7, d10⟩ := q
    unfold B_X7_hearSteps_12 at hF
    have hF := u2d hF
    obtain ⟨h8, e42, hF⟩ := nmx hF
    have hW := nmW e42 hW
    have g9 : h8.2.2 = h.2.2 := by rw [e42]; exact g6
    have hl : lv_has ls 6 [(0, .ref (φ 7 i0)), (1, .ref (φ 2 i1)), (2, .int a2), (3, .int x7)] := hl
    refine lv_iload_n hx hb dX7_hearSteps_12 rfl (lv_at hl 3 rfl) ?_
    refine lv_aload_n hx hb dX7_hearSteps_13 rfl (lv_at hl 1 rfl) ?_
    refine r_geti X hW (gq g9 al_1) fl_7_24 dX7_hearSteps_14 ?_
    refine lv_icmp_ge (tgt := 91) hx hb dX7_hearSteps_17 (by decide) (fun c39 => ?_) (fun c39 => ?_)
    · have hF := it c39 hF
      obtain rfl := sj hF
      exact hK _ _ _ (wdW (sq g9 g6) hW) hS (lv_sub hl [] rfl)
    · have hF := ie c39 hF
      refine lv_aload_n hx hb dX7_hearSteps_20 rfl (lv_at hl 1 rfl) ?_
      obtain ⟨o11, e12, hF⟩ := bn hF
      refine r_getr X hW (gq g9 al_1) fl_7_29 e12 dX7_hearSteps_21 (fun al13 => ?_)
      have al13 := qg g9 al13
      refine lv_iload_n hx hb dX7_hearSteps_24 rfl (lv_at hl 3 rfl) ?_
      obtain ⟨o14, e15, hF⟩ := bn hF
      obtain ⟨b16, e15⟩ := gar_s e15
      refine r_aald (t0 := 3) X hW (gq g9 al13) rfl rfl b16 e15 dX7_hearSteps_25 (fun al17 => ?_)
      have al17 := qg g9 al17
      refine lv_astore (lv' := [(4, .ref (φ 1 o14)), (0, .ref (φ 7 i0)), (1, .ref (φ 2 i1)), (2, .int a2), (3, .int x7)]) hx hb dX7_hearSteps_26 hl (by decide) rfl (fun ls hl => ?_)
      refine lv_aload hx hb dX7_hearSteps_28 (lv_at hl 0 rfl) ?_
      refine r_geti X hW (gq g9 al17) fl_7_33 dX7_hearSteps_30 ?_
      refine lv_iload_n hx hb dX7_hearSteps_33 rfl (lv_at hl 3 rfl) ?_
      refine lv_icmp_ne (tgt := 85) hx hb dX7_hearSteps_34 (by decide) (fun c38 => ?_) (fun c38 => ?_)
      · have hF := ie c38 hF
        obtain ⟨x18, e19, hF⟩ := nmx hF
        refine lv_iinc (v := x18) (lv' := [(3, .int x18), (4, .ref (φ 1 o14)), (0, .ref (φ 7 i0)), (1, .ref (φ 2 i1)), (2, .int a2)]) hx hb dX7_hearSteps_85 hl (k := 4) rfl (by rw [e19]; rfl) (by decide) rfl (fun ls hl => ?_)
        refine lv_goto (tgt := 12) hx hb dX7_hearSteps_88 (by decide) ?_
        obtain rfl := sj hF
        exact hK _ _ _ (wdW (sq g9 g6) hW) hS (lv_sub hl [2, 3, 4, 0] rfl)
      · have hF := it c38 hF
        refine lv_aload hx hb dX7_hearSteps_37 (lv_at hl 0 rfl) ?_
        obtain ⟨x21, e20, hF⟩ := bn hF
        refine rc_i (Af := fun φ => [.ref (φ 1 o14)]) X hW hS ⟨Nat.zero_le _, Nat.zero_le _⟩ (rn_V (As := []) (rest := []) X hW hS cw_7_38 (gq g9 al17) rfl rfl rfl ⟨Nat.le_of_ble_eq_true rfl, Nat.le_of_ble_eq_true rfl⟩ rfl hl.1 rfl (Nat.le_of_ble_eq_true rfl) dX7_hearSteps_39) (ok_X1_rings o14 (gq g9 al17) e20) (fun H locs hW hS => ?_)
        refine lv_if_eq (tgt := 85) hx hb dX7_hearSteps_42 (by decide) (fun c37 => ?_) (fun c37 => ?_)
        · have hF := it c37 hF
          obtain ⟨x22, e23, hF⟩ := nmx hF
          refine lv_iinc (v := x22) (lv' := [(3, .int x22), (4, .ref (φ 1 o14)), (0, .ref (φ 7 i0)), (1, .ref (φ 2 i1)), (2, .int a2)]) hx hb dX7_hearSteps_85 hl (k := 4) rfl (by rw [e23]; rfl) (by decide) rfl (fun ls hl => ?_)
          refine lv_goto (tgt := 12) hx hb dX7_hearSteps_88 (by decide) ?_
          obtain rfl := sj hF
          exact hK _ _ _ (wdW (sq g9 g6) hW) hS (lv_sub hl [2, 3, 4, 0] rfl)
        · have hF := ie c37 hF
          refine lv_aload_n hx hb dX7_hearSteps_45 rfl (lv_at hl 1 rfl) ?_
          refine lv_aload hx hb dX7_hearSteps_46 (lv_at hl 0 rfl) ?_
          obtain ⟨x25, e24, hF⟩ := bn hF
          refine rc_i (Af := fun φ => [.ref (φ 7 i0), .ref (φ 1 o14)]) X hW hS ⟨Nat.zero_le _, Nat.zero_le _⟩ (rn_V (As := [.ref (φ 1 o14)]) (rest := []) X hW hS cw_7_62 (gq g9 al_0) rfl rfl rfl ⟨Nat.le_of_ble_eq_true rfl, Nat.le_of_ble_eq_true rfl⟩ rfl hl.1 rfl (Nat.le_of_ble_eq_true rfl) dX7_hearSteps_48) (ok_X7_stepOf i0 o14 (gq g9 al_0) (gq g9 al17) e24) (fun H locs hW hS => ?_)
          refine lv_istore (lv' := [(5, .int x25), (4, .ref (φ 1 o14)), (0, .ref (φ 7 i0)), (1, .ref (φ 2 i1)), (2, .int a2), (3, .int x7)]) hx hb dX7_hearSteps_51 hl (by decide) rfl (fun ls hl => ?_)
          refine lv_iload hx hb dX7_hearSteps_53 (lv_at hl 0 rfl) ?_
          refine lv_iconst (v := (-1)) hx hb dX7_hearSteps_55 (by decide) ?_
          refine lv_icmp_ne (tgt := 72) hx hb dX7_hearSteps_56 (by decide) (fun c36 => ?_) (fun c36 => ?_)
          · have hF := ie c36 hF
            refine lv_aload_n hx hb dX7_hearSteps_72 rfl (lv_at hl 2 rfl) ?_
            refine lv_dup hx hb dX7_hearSteps_73 rfl ?_
            refine r_geti X hW (gq g9 al_0) fl_7_59 dX7_hearSteps_74 ?_
            refine lv_iconst (v := 1) hx hb dX7_hearSteps_77 (by decide) ?_
            refine lv_iload hx hb dX7_hearSteps_78 (lv_at hl 0 rfl) ?_
            refine lv_ishl hx hb dX7_hearSteps_80 ?_
            refine lv_ior hx hb dX7_hearSteps_81 ?_
            refine r_puti X hW hS (gq g9 al_0) fp_7_59 rfl rfl dX7_hearSteps_82 (fun H locs hW hS => ?_)
            obtain ⟨h26, e27, hF⟩ := nmx hF
            have hW := nmW e27 hW
            have g28 : h26.2.2 = h.2.2 := by rw [e27]; exact g9
            obtain ⟨x29, e30, hF⟩ := nmx hF
            refine lv_iinc (v := x29) (lv' := [(3, .int x29), (5, .int x25), (4, .ref (φ 1 o14)), (0, .ref (φ 7 i0)), (1, .ref (φ 2 i1)), (2, .int a2)]) hx hb dX7_hearSteps_85 hl (k := 5) rfl (by rw [e30]; rfl) (by decide) rfl (fun ls hl => ?_)
            refine lv_goto (tgt := 12) hx hb dX7_hearSteps_88 (by decide) ?_
            obtain rfl := sj hF
            exact hK _ _ _ (wdW (sq g28 g6) hW) hS (lv_sub hl [3, 4, 5, 0] rfl)
          · have hF := it c36 hF
            refine lv_aload_n hx hb dX7_hearSteps_59 rfl (lv_at hl 2 rfl) ?_
            refine lv_dup hx hb dX7_hearSteps_60 rfl ?_
            refine r_geti X hW (gq g9 al_0) fl_7_56 dX7_hearSteps_61 ?_
            refine lv_iconst (v := 1) hx hb dX7_hearSteps_64 (by decide) ?_
            refine lv_iadd hx hb dX7_hearSteps_65 ?_
            refine r_puti X hW hS (gq g9 al_0) fp_7_56 rfl rfl dX7_hearSteps_66 (fun H locs hW hS => ?_)
            obtain ⟨h31, e32, hF⟩ := nmx hF
            have hW := nmW e32 hW
            have g33 : h31.2.2 = h.2.2 := by rw [e32]; exact g9
            refine lv_goto (tgt := 85) hx hb dX7_hearSteps_69 (by decide) ?_
            obtain ⟨x34, e35, hF⟩ := nmx hF
            refine lv_iinc (v := x34) (lv' := [(3, .int x34), (5, .int x25), (4, .ref (φ 1 o14)), (0, .ref (φ 7 i0)), (1, .ref (φ 2 i1)), (2, .int a2)]) hx hb dX7_hearSteps_85 hl (k := 5) rfl (by rw [e35]; rfl) (by decide) rfl (fun ls hl => ?_)
            refine lv_goto (tgt := 12) hx hb dX7_hearSteps_88 (by decide) ?_
            obtain rfl := sj hF
            exact hK _ _ _ (wdW (sq g33 g6) hW) hS (lv_sub hl [3, 4, 5, 0] rfl)
  · intro H locs ls hW hS hl
    obtain ⟨d43, rfl⟩ : ∃ z, z = q40 := ⟨_, rfl⟩
    obtain ⟨h44, e46, hF⟩ := nmx hF
    have hW := nmW e46 hW
    have g45 : h44.2.2 = h.2.2 := by rw [e46]; exact g6
    have hl : lv_has ls 6 [] := hl
    obtain rfl := sj hF
    exact hfin _ _ _ _ (wdW g45 hW) hS dX7_hearSteps_91
def J_X7_hear_83 (i0 : Nat) (i1 : Nat) (a2 : Int32) (v3_83 : Int32) (v4_83 : Nat) (hj83 : HP) : Option ((Int32 × DP) ⊕ (DP)) :=
  nm (si hj83 7 i0 3 v3_83) fun h11 =>
  (gr h11 1 v4_83 4).bind fun o14 =>
  (ga h11 20 o14 5 4).bind fun x17 =>
  nm (si h11 7 i0 4 x17) fun h20 =>
  nm (v3_83 + 1) fun x23 =>
  some (.inl (x23, (dp h20)))
def B_X7_hear_12 (i0 : Nat) (i1 : Nat) (a2 : Int32) (h4 : HP) (q : Int32 × DP) : Option ((Int32 × DP) ⊕ (DP)) :=
  u2 q fun x7 d10 =>
  nm (wd h4 d10) fun h8 =>
  (if (gi h8 2 i1 1) ≤ x7 then
  some (.inr (dp h8))
  else
  (gr h8 2 i1 0).bind fun o25 =>
  (gar h8 23 o25 20 x7).bind fun o28 =>
  (if (gi h8 1 o28 0) = a2 then
  (F_X1_rings o28 h8).bind fun x35 =>
  (if x35 = 0 then
  nm (x7 + 1) fun x36 =>
  some (.inl (x36, (dp h8)))
  else
  nm (si h8 7 i0 2 ((gi h8 7 i0 2) + 1)) fun h38 =>
  (if (gi h38 7 i0 3) = (-1) then
  J_X7_hear_83 i0 i1 a2 x7 o28 h38
  else
  (gr h38 2 i1 0).bind fun o41 =>
  (gar h38 23 o41 20 (gi h38 7 i0 3)).bind fun o44 =>
  (if (gi h38 1 o28 1) ≤ (gi h38 1 o44 1) then
  nm (x7 + 1) fun x48 =>
  some (.inl (x48, (dp h38)))
  else
  J_X7_hear_83 i0 i1 a2 x7 o28 h38)))
  else
  nm (x7 + 1) fun x32 =>
  some (.inl (x32, (dp h8)))))
def F_X7_hear (i0 : Nat) (i1 : Nat) (a2 : Int32) (h : HP) : Option (DP) :=
  nm (si h 7 i0 2 0) fun h1 =>
  nm (si h1 7 i0 3 (-1)) fun h4 =>
  (loopN LF (B_X7_hear_12 i0 i1 a2 h4) (0, (dp h4))).bind fun d58 =>
  nm (wd h4 d58) fun h59 =>
  (F_X7_hearSteps i0 i1 a2 h59).bind fun d65 => nm (wd h59 d65) fun h62 =>
  some (dp h62)
set_option maxHeartbeats 4000000 in
set_option maxRecDepth 100000 in
theorem ok_X7_hear {l : Launch} {D : va_G} {cA : Nat → ClassId} {h : HP}  {d : DP} (i0 : Nat) (i1 : Nat) (a2 : Int32) (al_0 : i0 < gn h 7) (al_1 : i1 < gn h 2) (hF : F_X7_hear i0 i1 a2 h = some d) : MV l D cA yX7_hear cX7_hear 5 none 3 71 (fun φ => [.ref (φ 7 i0), .ref (φ 2 i1), .int a2]) h (wd h d) := by
  refine mk_V (plainFor_of_name (by decide)) (fun φ => Nat.le_of_ble_eq_true rfl) ?_
  intro p e s m args below meth c ls φ A Q X hW hS hl hfin
  have hx := X.1
  have hb := X.2.1
  have hl : lv_has ls 5 [(0, .ref (φ 7 i0)), (1, .ref (φ 2 i1)), (2, .int a2)] := hl
  unfold F_X7_hear at hF
  refine lv_aload_n hx hb dX7_hear_0 rfl (lv_at hl 0 rfl) ?_
  refine lv_iconst (v := 0) hx hb dX7_hear_1 (by decide) ?_
  refine r_puti X hW hS al_0 fp_7_18 rfl rfl dX7_hear_2 (fun H locs hW hS => ?_)
  obtain ⟨h1, e2, hF⟩ := nmx hF
  have hW := nmW e2 hW
  have g3 : h1.2.2 = h.2.2 := by rw [e2]; exact rfl
  refine lv_aload_n hx hb dX7_hear_5 rfl (lv_at hl 0 rfl) ?_
  refine lv_iconst (v := (-1)) hx hb dX7_hear_6 (by decide) ?_
  refine r_puti X hW hS (gq g3 al_0) fp_7_21 rfl rfl dX7_hear_7 (fun H locs hW hS => ?_)
  obtain ⟨h4, e5, hF⟩ := nmx hF
  have hW := nmW e5 hW
  have g6 : h4.2.2 = h.2.2 := by rw [e5]; exact g3
  refine lv_iconst (v := 0) hx hb dX7_hear_10 (by decide) ?_
  refine lv_istore_n (lv' := [(3, .int 0), (0, .ref (φ 7 i0)), (1, .ref (φ 2 i1)), (2, .int a2)]) hx hb dX7_hear_11 rfl hl (by decide) rfl (fun ls hl => ?_)
  obtain ⟨q55, e56, hF⟩ := bn hF
  refine loop_w (f := B_X7_hear_12 i0 i1 a2 h4) (Z := fun q => ∀ (H : Heap) (locs : List Loc) (ls : Array Slot), HW D cA A φ (wd h4 q.2) H → va_S A s.heap H locs → lv_has ls 5 [(0, .ref (φ 7 i0)), (1, .ref (φ 2 i1)), (2, .int a2), (3, .int (q.1))] → W p l e (rmo 3 71 0 0) s m args below meth c H locs 0 0 Q (F0 m 12 ls [])) (K := fun q => ∀ (H : Heap) (locs : List Loc) (ls : Array Slot), HW D cA A φ (wd h4 q) H → va_S A s.heap H locs → lv_has ls 5 [(0, .ref (φ 7 i0)), (1, .ref (φ 2 i1)), (2, .int a2)] → W p l e (rmo 3 71 0 0) s m args below meth c H locs 0 0 Q (F0 m 105 ls [])) ?_ LF _ q55 e56 ?_ _ _ _ (wdW rfl hW) hS (lv_sub hl [1, 2, 3, 0] rfl)
  · intro q v hF hK H locs ls hW hS hl
    obtain ⟨x7, d10⟩ := q
    unfold B_X7_hear_12 at hF
    have hF := u2d hF
    obtain ⟨h8, e57, hF⟩ := nmx hF
    have hW := nmW e57 hW
    have g9 : h8.2.2 = h.2.2 := by rw [e57]; exact g6
    have hl : lv_has ls 5 [(0, .ref (φ 7 i0)), (1, .ref (φ 2 i1)), (2, .int a2), (3, .int x7)] := hl
    have j_83 : ∀ (v3_83 : Int32) (v4_83 : Nat) (hj83 : HP) (H : Heap) (locs : List Loc) (ls : Array Slot), hj83.2.2 = h.2.2 → v4_83 < gn h 1 → J_X7_hear_83 i0 i1 a2 v3_83 v4_83 hj83 = some v → HW D cA A φ hj83 H → va_S A s.heap H locs → lv_has ls 5 [(0, .ref (φ 7 i0)), (1, .ref (φ 2 i1)), (2, .int a2), (3, .int v3_83), (4, .ref (φ 1 v4_83))] → W p l e (rmo 3 71 0 0) s m args below meth c H locs 0 0 Q (F0 m 83 ls []) := by
      intro v3_83 v4_83 hj83 H locs ls gj83 alv4_83 hF hW hS hl
      unfold J_X7_hear_83 at hF
      refine lv_aload_n hx hb dX7_hear_83 rfl (lv_at hl 0 rfl) ?_
      refine lv_iload_n hx hb dX7_hear_84 rfl (lv_at hl 3 rfl) ?_
      refine r_puti X hW hS (gq gj83 al_0) fp_7_21 rfl rfl dX7_hear_85 (fun H locs hW hS => ?_)
      obtain ⟨h11, e12, hF⟩ := nmx hF
      have hW := nmW e12 hW
      have g13 : h11.2.2 = h.2.2 := by rw [e12]; exact gj83
      refine lv_aload_n hx hb dX7_hear_88 rfl (lv_at hl 0 rfl) ?_
      refine lv_aload hx hb dX7_hear_89 (lv_at hl 4 rfl) ?_
      obtain ⟨o14, e15, hF⟩ := bn hF
      refine r_getr X hW (gq g13 alv4_83) fl_7_45 e15 dX7_hear_91 (fun al16 => ?_)
      have al16 := qg g13 al16
      refine lv_iconst (v := 4) hx hb dX7_hear_94 (by decide) ?_
      obtain ⟨x17, e18, hF⟩ := bn hF
      obtain ⟨b19, e18⟩ := ga_s e18
      refine r_iald X hW (gq g13 al16) rfl b19 dX7_hear_95 ?_
      refine nmi e18 ?_
      refine r_puti X hW hS (gq g13 al_0) fp_7_49 rfl rfl dX7_hear_96 (fun H locs hW hS => ?_)
      obtain ⟨h20, e21, hF⟩ := nmx hF
      have hW := nmW e21 hW
      have g22 : h20.2.2 = h.2.2 := by rw [e21]; exact g13
      obtain ⟨x23, e24, hF⟩ := nmx hF
      refine lv_iinc (v := x23) (lv' := [(3, .int x23), (0, .ref (φ 7 i0)), (1, .ref (φ 2 i1)), (2, .int a2), (4, .ref (φ 1 v4_83))]) hx hb dX7_hear_99 hl (k := 3) rfl (by rw [e24]; rfl) (by decide) rfl (fun ls hl => ?_)
      refine lv_goto (tgt := 12) hx hb dX7_hear_102 (by decide) ?_
      obtain rfl := sj hF
      exact hK _ _ _ (wdW (sq g22 g6) hW) hS (lv_sub hl [1, 2, 3, 0] rfl)
    refine lv_iload_n hx hb dX7_hear_12 rfl (lv_at hl 3 rfl) ?_
    refine lv_aload_n hx hb dX7_hear_13 rfl (lv_at hl 1 rfl) ?_
    refine r_geti X hW (gq g9 al_1) fl_7_24 dX7_hear_14 ?_
    refine lv_icmp_ge (tgt := 105) hx hb dX7_hear_17 (by decide) (fun c54 => ?_) (fun c54 => ?_)
    · have hF := it c54 hF
      obtain rfl := sj hF
      exact hK _ _ _ (wdW (sq g9 g6) hW) hS (lv_sub hl [0, 1, 2] rfl)
    · have hF := ie c54 hF
      refine lv_aload_n hx hb dX7_hear_20 rfl (lv_at hl 1 rfl) ?_
      obtain ⟨o25, e26, hF⟩ := bn hF
      refine r_getr X hW (gq g9 al_1) fl_7_29 e26 dX7_hear_21 (fun al27 => ?_)
      have al27 := qg g9 al27
      refine lv_iload_n hx hb dX7_hear_24 rfl (lv_at hl 3 rfl) ?_
      obtain ⟨o28, e29, hF⟩ := bn hF
      obtain ⟨b30, e29⟩ := gar_s e29
      refine r_aald (t0 := 3) X hW (gq g9 al27) rfl rfl b30 e29 dX7_hear_25 (fun al31 => ?_)
      have al31 := qg g9 al31
      refine lv_astore (lv' := [(4, .ref (φ 1 o28)), (0, .ref (φ 7 i0)), (1, .ref (φ 2 i1)), (2, .int a2), (3, .int x7)]) hx hb dX7_hear_26 hl (by decide) rfl (fun ls hl => ?_)
      refine lv_aload hx hb dX7_hear_28 (lv_at hl 0 rfl) ?_
      refine r_geti X hW (gq g9 al31) fl_7_33 dX7_hear_30 ?_
      refine lv_iload_n hx hb dX7_hear_33 rfl (lv_at hl 3 rfl) ?_
      refine lv_icmp_ne (tgt := 99) hx hb dX7_hear_34 (by decide) (fun c53 => ?_) (fun c53 => ?_)
      · have hF := ie c53 hF
        obtain ⟨x32, e33, hF⟩ := nmx hF
        refine lv_iinc (v := x32) (lv' := [(3, .int x32), (4, .ref (φ 1 o28)), (0, .ref (φ 7 i0)), (1, .ref (φ 2 i1)), (2, .int a2)]) hx hb dX7_hear_99 hl (k := 4) rfl (by rw [e33]; rfl) (by decide) rfl (fun ls hl => ?_)
        refine lv_goto (tgt := 12) hx hb dX7_hear_102 (by decide) ?_
        obtain rfl := sj hF
        exact hK _ _ _ (wdW (sq g9 g6) hW) hS (lv_sub hl [2, 3, 4, 0] rfl)
      · have hF := it c53 hF
        refine lv_aload hx hb dX7_hear_37 (lv_at hl 0 rfl) ?_
        obtain ⟨x35, e34, hF⟩ := bn hF
        refine rc_i (Af := fun φ => [.ref (φ 1 o28)]) X hW hS ⟨Nat.zero_le _, Nat.zero_le _⟩ (rn_V (As := []) (rest := []) X hW hS cw_7_38 (gq g9 al31) rfl rfl rfl ⟨Nat.le_of_ble_eq_true rfl, Nat.le_of_ble_eq_true rfl⟩ rfl hl.1 rfl (Nat.le_of_ble_eq_true rfl) dX7_hear_39) (ok_X1_rings o28 (gq g9 al31) e34) (fun H locs hW hS => ?_)
        refine lv_if_eq (tgt := 99) hx hb dX7_hear_42 (by decide) (fun c52 => ?_) (fun c52 => ?_)
        · have hF := it c52 hF
          obtain ⟨x36, e37, hF⟩ := nmx hF
          refine lv_iinc (v := x36) (lv' := [(3, .int x36), (4, .ref (φ 1 o28)), (0, .ref (φ 7 i0)), (1, .ref (φ 2 i1)), (2, .int a2)]) hx hb dX7_hear_99 hl (k := 4) rfl (by rw [e37]; rfl) (by decide) rfl (fun ls hl => ?_)
          refine lv_goto (tgt := 12) hx hb dX7_hear_102 (by decide) ?_
          obtain rfl := sj hF
          exact hK _ _ _ (wdW (sq g9 g6) hW) hS (lv_sub hl [2, 3, 4, 0] rfl)
        · have hF := ie c52 hF
          refine lv_aload_n hx hb dX7_hear_45 rfl (lv_at hl 1 rfl) ?_
          refine lv_dup hx hb dX7_hear_46 rfl ?_
          refine r_geti X hW (gq g9 al_0) fl_7_18 dX7_hear_47 ?_
          refine lv_iconst (v := 1) hx hb dX7_hear_50 (by decide) ?_
          refine lv_iadd hx hb dX7_hear_51 ?_
          refine r_puti X hW hS (gq g9 al_0) fp_7_18 rfl rfl dX7_hear_52 (fun H locs hW hS => ?_)
          obtain ⟨h38, e39, hF⟩ := nmx hF
          have hW := nmW e39 hW
          have g40 : h38.2.2 = h.2.2 := by rw [e39]; exact g9
          refine lv_aload_n hx hb dX7_hear_55 rfl (lv_at hl 1 rfl) ?_
          refine r_geti X hW (gq g40 al_0) fl_7_21 dX7_hear_56 ?_
          refine lv_iconst (v := (-1)) hx hb dX7_hear_59 (by decide) ?_
          refine lv_icmp_eq (tgt := 83) hx hb dX7_hear_60 (by decide) (fun c51 => ?_) (fun c51 => ?_)
          · have hF := it c51 hF
            exact j_83 x7 o28 h38 _ _ _ g40 al31 hF hW hS (lv_sub hl [1, 2, 3, 4, 0] rfl)
          · have hF := ie c51 hF
            refine lv_aload hx hb dX7_hear_63 (lv_at hl 0 rfl) ?_
            refine r_geti X hW (gq g40 al31) fl_7_42 dX7_hear_65 ?_
            refine lv_aload_n hx hb dX7_hear_68 rfl (lv_at hl 2 rfl) ?_
            obtain ⟨o41, e42, hF⟩ := bn hF
            refine r_getr X hW (gq g40 al_1) fl_7_29 e42 dX7_hear_69 (fun al43 => ?_)
            have al43 := qg g40 al43
            refine lv_aload_n hx hb dX7_hear_72 rfl (lv_at hl 1 rfl) ?_
            refine r_geti X hW (gq g40 al_0) fl_7_21 dX7_hear_73 ?_
            obtain ⟨o44, e45, hF⟩ := bn hF
            obtain ⟨b46, e45⟩ := gar_s e45
            refine r_aald (t0 := 3) X hW (gq g40 al43) rfl rfl b46 e45 dX7_hear_76 (fun al47 => ?_)
            have al47 := qg g40 al47
            refine r_geti X hW (gq g40 al47) fl_7_42 dX7_hear_77 ?_
            refine lv_icmp_le (tgt := 99) hx hb dX7_hear_80 (by decide) (fun c50 => ?_) (fun c50 => ?_)
            · have hF := it c50 hF
              obtain ⟨x48, e49, hF⟩ := nmx hF
              refine lv_iinc (v := x48) (lv' := [(3, .int x48), (4, .ref (φ 1 o28)), (0, .ref (φ 7 i0)), (1, .ref (φ 2 i1)), (2, .int a2)]) hx hb dX7_hear_99 hl (k := 4) rfl (by rw [e49]; rfl) (by decide) rfl (fun ls hl => ?_)
              refine lv_goto (tgt := 12) hx hb dX7_hear_102 (by decide) ?_
              obtain rfl := sj hF
              exact hK _ _ _ (wdW (sq g40 g6) hW) hS (lv_sub hl [2, 3, 4, 0] rfl)
            · have hF := ie c50 hF
              exact j_83 x7 o28 h38 _ _ _ g40 al31 hF hW hS (lv_sub hl [1, 2, 3, 4, 0] rfl)
  · intro H locs ls hW hS hl
    obtain ⟨d58, rfl⟩ : ∃ z, z = q55 := ⟨_, rfl⟩
    obtain ⟨h59, e66, hF⟩ := nmx hF
    have hW := nmW e66 hW
    have g60 : h59.2.2 = h.2.2 := by rw [e66]; exact g6
    have hl : lv_has ls 5 [(0, .ref (φ 7 i0)), (1, .ref (φ 2 i1)), (2, .int a2)] := hl
    refine lv_aload_n hx hb dX7_hear_105 rfl (lv_at hl 0 rfl) ?_
    refine lv_aload_n hx hb dX7_hear_106 rfl (lv_at hl 1 rfl) ?_
    refine lv_iload_n hx hb dX7_hear_107 rfl (lv_at hl 2 rfl) ?_
    obtain ⟨d65, e61, hF⟩ := bn hF
    refine rc_v (Af := fun φ => [.ref (φ 7 i0), .ref (φ 2 i1), .int a2]) X hW hS ⟨Nat.zero_le _, Nat.zero_le _⟩ (rn_V (As := [.ref (φ 2 i1), .int a2]) (rest := []) X hW hS cw_7_52 (gq g60 al_0) rfl rfl rfl ⟨Nat.le_of_ble_eq_true rfl, Nat.le_of_ble_eq_true rfl⟩ rfl hl.1 rfl (Nat.le_of_ble_eq_true rfl) dX7_hear_108) (ok_X7_hearSteps i0 i1 a2 (gq g60 al_0) (gq g60 al_1) e61) (fun H locs hW hS => ?_)
    obtain ⟨h62, e64, hF⟩ := nmx hF
    have hW := nmW e64 hW
    have g63 : h62.2.2 = h.2.2 := by rw [e64]; exact g60
    obtain rfl := sj hF
    exact hfin _ _ _ _ (wdW g63 hW) hS dX7_hear_111
def F_X1_isTakenOrInYard (i0 : Nat) (h : HP) : Option (Int32) :=
  (F_X1_stateNow i0 h).bind fun x2 =>
  (if x2 = 2 then
  some 1
  else
  (if x2 = 3 then
  some 1
  else
  some 0))
set_option maxHeartbeats 4000000 in
set_option maxRecDepth 100000 in
theorem ok_X1_isTakenOrInYard {l : Launch} {D : va_G} {cA : Nat → ClassId} {h : HP} {r : Int32}  (i0 : Nat) (al_0 : i0 < gn h 1) (hF : F_X1_isTakenOrInYard i0 h = some r) : MI l D cA yX1_isTakenOrInYard cX1_isTakenOrInYard 2 (some .boolean) 1 20 (fun φ => [.ref (φ 1 i0)]) h r h := by
  refine mk_Z (plainFor_of_name (by decide)) (fun φ => Nat.le_of_ble_eq_true rfl) ?_
  intro p e s m args below meth c ls φ A Q X hW hS hl hfin
  have hx := X.1
  have hb := X.2.1
  have hl : lv_has ls 2 [(0, .ref (φ 1 i0))] := hl
  unfold F_X1_isTakenOrInYard at hF
  refine lv_aload_n hx hb dX1_isTakenOrInYard_0 rfl (lv_at hl 0 rfl) ?_
  obtain ⟨x2, e1, hF⟩ := bn hF
  refine rc_i (Af := fun φ => [.ref (φ 1 i0)]) X hW hS ⟨Nat.zero_le _, Nat.zero_le _⟩ (rn_V (As := []) (rest := []) X hW hS cw_1_46 al_0 rfl rfl rfl ⟨Nat.le_of_ble_eq_true rfl, Nat.le_of_ble_eq_true rfl⟩ rfl hl.1 rfl (Nat.le_of_ble_eq_true rfl) dX1_isTakenOrInYard_1) (ok_X1_stateNow i0 al_0 e1) (fun H locs hW hS => ?_)
  refine lv_istore_n (lv' := [(1, .int x2), (0, .ref (φ 1 i0))]) hx hb dX1_isTakenOrInYard_4 rfl hl (by decide) rfl (fun ls hl => ?_)
  refine lv_iload_n hx hb dX1_isTakenOrInYard_5 rfl (lv_at hl 0 rfl) ?_
  refine lv_iconst (v := 2) hx hb dX1_isTakenOrInYard_6 (by decide) ?_
  refine lv_icmp_eq (tgt := 15) hx hb dX1_isTakenOrInYard_7 (by decide) (fun c4 => ?_) (fun c4 => ?_)
  · have hF := it c4 hF
    refine lv_iconst (v := 1) hx hb dX1_isTakenOrInYard_15 (by decide) ?_
    refine lv_goto (tgt := 20) hx hb dX1_isTakenOrInYard_16 (by decide) ?_
    obtain rfl := sj hF
    exact hfin _ _ _ _ hW hS (Or.inr rfl) dX1_isTakenOrInYard_20
  · have hF := ie c4 hF
    refine lv_iload_n hx hb dX1_isTakenOrInYard_10 rfl (lv_at hl 0 rfl) ?_
    refine lv_iconst (v := 3) hx hb dX1_isTakenOrInYard_11 (by decide) ?_
    refine lv_icmp_ne (tgt := 19) hx hb dX1_isTakenOrInYard_12 (by decide) (fun c3 => ?_) (fun c3 => ?_)
    · have hF := ie c3 hF
      refine lv_iconst (v := 0) hx hb dX1_isTakenOrInYard_19 (by decide) ?_
      obtain rfl := sj hF
      exact hfin _ _ _ _ hW hS (Or.inl rfl) dX1_isTakenOrInYard_20
    · have hF := it c3 hF
      refine lv_iconst (v := 1) hx hb dX1_isTakenOrInYard_15 (by decide) ?_
      refine lv_goto (tgt := 20) hx hb dX1_isTakenOrInYard_16 (by decide) ?_
      obtain rfl := sj hF
      exact hfin _ _ _ _ hW hS (Or.inr rfl) dX1_isTakenOrInYard_20
def F_X7_missing (i0 : Nat) (h : HP) : Option (Int32) :=
  some ((gi h 7 i0 1) &&& ((gi h 7 i0 6) ^^^ (-1)))
set_option maxHeartbeats 4000000 in
set_option maxRecDepth 100000 in
theorem ok_X7_missing {l : Launch} {D : va_G} {cA : Nat → ClassId} {h : HP} {r : Int32}  (i0 : Nat) (al_0 : i0 < gn h 7) (hF : F_X7_missing i0 h = some r) : MI l D cA yX7_missing cX7_missing 1 (some .int) 0 0 (fun φ => [.ref (φ 7 i0)]) h r h := by
  refine mk_I (plainFor_of_name (by decide)) (fun φ => Nat.le_of_ble_eq_true rfl) ?_
  intro p e s m args below meth c ls φ A Q X hW hS hl hfin
  have hx := X.1
  have hb := X.2.1
  have hl : lv_has ls 1 [(0, .ref (φ 7 i0))] := hl
  unfold F_X7_missing at hF
  refine lv_aload_n hx hb dX7_missing_0 rfl (lv_at hl 0 rfl) ?_
  refine r_geti X hW al_0 fl_7_15 dX7_missing_1 ?_
  refine lv_aload_n hx hb dX7_missing_4 rfl (lv_at hl 0 rfl) ?_
  refine r_geti X hW al_0 fl_7_59 dX7_missing_5 ?_
  refine lv_iconst (v := (-1)) hx hb dX7_missing_8 (by decide) ?_
  refine lv_ixor hx hb dX7_missing_9 ?_
  refine lv_iand hx hb dX7_missing_10 ?_
  obtain rfl := sj hF
  exact hfin _ _ _ _ hW hS dX7_missing_11
def J_X7_filling_50 (i0 : Nat) (i1 : Nat) (v2_50 : Int32) (v3_50 : Int32) (v4_50 : Nat) (h : HP) : Option ((Int32 × Int32) ⊕ (Int32)) :=
  (F_X7_stepOf i0 v4_50 h).bind fun x4 =>
  (if x4 = (-1) then
  nm (v3_50 + 1) fun x5 =>
  some (.inl (v2_50, x5))
  else
  (F_X7_missing i0 h).bind fun x8 =>
  (if ((x8 >>> (x4 &&& 31)) &&& 1) = 1 then
  nm (v3_50 + 1) fun x11 =>
  some (.inl (v3_50, x11))
  else
  nm (v3_50 + 1) fun x9 =>
  some (.inl (v2_50, x9))))
def B_X7_filling_4 (i0 : Nat) (i1 : Nat) (h : HP) (q : Int32 × Int32) : Option ((Int32 × Int32) ⊕ (Int32)) :=
  u2 q fun x1 x2 =>
  (if (gi h 2 i1 1) ≤ x2 then
  some (.inr x1)
  else
  (gr h 2 i1 0).bind fun o15 =>
  (gar h 23 o15 20 x2).bind fun o18 =>
  (F_X1_isTakenOrInYard o18 h).bind fun x23 =>
  (if x23 = 0 then
  nm (x2 + 1) fun x24 =>
  some (.inl (x1, x24))
  else
  (if x1 = (-1) then
  J_X7_filling_50 i0 i1 x1 x2 o18 h
  else
  (gr h 2 i1 0).bind fun o26 =>
  (gar h 23 o26 20 x1).bind fun o29 =>
  (if (gi h 1 o18 1) ≤ (gi h 1 o29 1) then
  nm (x2 + 1) fun x33 =>
  some (.inl (x1, x33))
  else
  J_X7_filling_50 i0 i1 x1 x2 o18 h))))
def F_X7_filling (i0 : Nat) (i1 : Nat) (h : HP) : Option (Int32) :=
  (loopN LF (B_X7_filling_4 i0 i1 h) ((-1), 0)).bind fun x41 =>
  some x41
set_option maxHeartbeats 4000000 in
set_option maxRecDepth 100000 in
theorem ok_X7_filling {l : Launch} {D : va_G} {cA : Nat → ClassId} {h : HP} {r : Int32}  (i0 : Nat) (i1 : Nat) (al_0 : i0 < gn h 7) (al_1 : i1 < gn h 2) (hF : F_X7_filling i0 i1 h = some r) : MI l D cA yX7_filling cX7_filling 6 (some .int) 2 46 (fun φ => [.ref (φ 7 i0), .ref (φ 2 i1)]) h r h := by
  refine mk_I (plainFor_of_name (by decide)) (fun φ => Nat.le_of_ble_eq_true rfl) ?_
  intro p e s m args below meth c ls φ A Q X hW hS hl hfin
  have hx := X.1
  have hb := X.2.1
  have hl : lv_has ls 6 [(0, .ref (φ 7 i0)), (1, .ref (φ 2 i1))] := hl
  unfold F_X7_filling at hF
  refine lv_iconst (v := (-1)) hx hb dX7_filling_0 (by decide) ?_
  refine lv_istore_n (lv' := [(2, .int (-1)), (0, .ref (φ 7 i0)), (1, .ref (φ 2 i1))]) hx hb dX7_filling_1 rfl hl (by decide) rfl (fun ls hl => ?_)
  refine lv_iconst (v := 0) hx hb dX7_filling_2 (by decide) ?_
  refine lv_istore_n (lv' := [(3, .int 0), (2, .int (-1)), (0, .ref (φ 7 i0)), (1, .ref (φ 2 i1))]) hx hb dX7_filling_3 rfl hl (by decide) rfl (fun ls hl => ?_)
  obtain ⟨q39, e40, hF⟩ := bn hF
  refine loop_w (f := B_X7_filling_4 i0 i1 h) (Z := fun q => ∀ (H : Heap) (locs : List Loc) (ls : Array Slot), HW D cA A φ h H → va_S A s.heap H locs → lv_has ls 6 [(0, .ref (φ 7 i0)), (1, .ref (φ 2 i1)), (2, .int (q.1)), (3, .int (q.2))] → W p l e (rmo 2 46 0 0) s m args below meth c H locs 0 0 Q (F0 m 4 ls [])) (K := fun q => ∀ (H : Heap) (locs : List Loc) (ls : Array Slot), HW D cA A φ h H → va_S A s.heap H locs → lv_has ls 6 [(2, .int q)] → W p l e (rmo 2 46 0 0) s m args below meth c H locs 0 0 Q (F0 m 85 ls [])) ?_ LF _ q39 e40 ?_ _ _ _ hW hS (lv_sub hl [2, 3, 1, 0] rfl)
  · intro q v hF hK H locs ls hW hS hl
    obtain ⟨x1, x2⟩ := q
    unfold B_X7_filling_4 at hF
    have hF := u2d hF
    have hl : lv_has ls 6 [(0, .ref (φ 7 i0)), (1, .ref (φ 2 i1)), (2, .int x1), (3, .int x2)] := hl
    have j_50 : ∀ (v2_50 : Int32) (v3_50 : Int32) (v4_50 : Nat) (H : Heap) (locs : List Loc) (ls : Array Slot), v4_50 < gn h 1 → J_X7_filling_50 i0 i1 v2_50 v3_50 v4_50 h = some v → HW D cA A φ h H → va_S A s.heap H locs → lv_has ls 6 [(0, .ref (φ 7 i0)), (1, .ref (φ 2 i1)), (2, .int v2_50), (3, .int v3_50), (4, .ref (φ 1 v4_50))] → W p l e (rmo 2 46 0 0) s m args below meth c H locs 0 0 Q (F0 m 50 ls []) := by
      intro v2_50 v3_50 v4_50 H locs ls alv4_50 hF hW hS hl
      unfold J_X7_filling_50 at hF
      refine lv_aload_n hx hb dX7_filling_50 rfl (lv_at hl 0 rfl) ?_
      refine lv_aload hx hb dX7_filling_51 (lv_at hl 4 rfl) ?_
      obtain ⟨x4, e3, hF⟩ := bn hF
      refine rc_i (Af := fun φ => [.ref (φ 7 i0), .ref (φ 1 v4_50)]) X hW hS ⟨Nat.zero_le _, Nat.zero_le _⟩ (rn_V (As := [.ref (φ 1 v4_50)]) (rest := []) X hW hS cw_7_62 al_0 rfl rfl rfl ⟨Nat.le_of_ble_eq_true rfl, Nat.le_of_ble_eq_true rfl⟩ rfl hl.1 rfl (Nat.le_of_ble_eq_true rfl) dX7_filling_53) (ok_X7_stepOf i0 v4_50 al_0 alv4_50 e3) (fun H locs hW hS => ?_)
      refine lv_istore (lv' := [(5, .int x4), (0, .ref (φ 7 i0)), (1, .ref (φ 2 i1)), (2, .int v2_50), (3, .int v3_50), (4, .ref (φ 1 v4_50))]) hx hb dX7_filling_56 hl (by decide) rfl (fun ls hl => ?_)
      refine lv_iload hx hb dX7_filling_58 (lv_at hl 0 rfl) ?_
      refine lv_iconst (v := (-1)) hx hb dX7_filling_60 (by decide) ?_
      refine lv_icmp_eq (tgt := 79) hx hb dX7_filling_61 (by decide) (fun c14 => ?_) (fun c14 => ?_)
      · have hF := it c14 hF
        obtain ⟨x5, e6, hF⟩ := nmx hF
        refine lv_iinc (v := x5) (lv' := [(3, .int x5), (5, .int x4), (0, .ref (φ 7 i0)), (1, .ref (φ 2 i1)), (2, .int v2_50), (4, .ref (φ 1 v4_50))]) hx hb dX7_filling_79 hl (k := 4) rfl (by rw [e6]; rfl) (by decide) rfl (fun ls hl => ?_)
        refine lv_goto (tgt := 4) hx hb dX7_filling_82 (by decide) ?_
        obtain rfl := sj hF
        exact hK _ _ _ hW hS (lv_sub hl [2, 3, 4, 0] rfl)
      · have hF := ie c14 hF
        refine lv_aload_n hx hb dX7_filling_64 rfl (lv_at hl 1 rfl) ?_
        obtain ⟨x8, e7, hF⟩ := bn hF
        refine rc_i (Af := fun φ => [.ref (φ 7 i0)]) X hW hS ⟨Nat.zero_le _, Nat.zero_le _⟩ (rn_V (As := []) (rest := []) X hW hS cw_7_76 al_0 rfl rfl rfl ⟨Nat.le_of_ble_eq_true rfl, Nat.le_of_ble_eq_true rfl⟩ rfl hl.1 rfl (Nat.le_of_ble_eq_true rfl) dX7_filling_65) (ok_X7_missing i0 al_0 e7) (fun H locs hW hS => ?_)
        refine lv_iload hx hb dX7_filling_68 (lv_at hl 0 rfl) ?_
        refine lv_ishr hx hb dX7_filling_70 ?_
        refine lv_iconst (v := 1) hx hb dX7_filling_71 (by decide) ?_
        refine lv_iand hx hb dX7_filling_72 ?_
        refine lv_iconst (v := 1) hx hb dX7_filling_73 (by decide) ?_
        refine lv_icmp_ne (tgt := 79) hx hb dX7_filling_74 (by decide) (fun c13 => ?_) (fun c13 => ?_)
        · have hF := ie c13 hF
          obtain ⟨x9, e10, hF⟩ := nmx hF
          refine lv_iinc (v := x9) (lv' := [(3, .int x9), (5, .int x4), (0, .ref (φ 7 i0)), (1, .ref (φ 2 i1)), (2, .int v2_50), (4, .ref (φ 1 v4_50))]) hx hb dX7_filling_79 hl (k := 4) rfl (by rw [e10]; rfl) (by decide) rfl (fun ls hl => ?_)
          refine lv_goto (tgt := 4) hx hb dX7_filling_82 (by decide) ?_
          obtain rfl := sj hF
          exact hK _ _ _ hW hS (lv_sub hl [2, 3, 4, 0] rfl)
        · have hF := it c13 hF
          refine lv_iload_n hx hb dX7_filling_77 rfl (lv_at hl 4 rfl) ?_
          refine lv_istore_n (lv' := [(2, .int v3_50), (5, .int x4), (0, .ref (φ 7 i0)), (1, .ref (φ 2 i1)), (3, .int v3_50), (4, .ref (φ 1 v4_50))]) hx hb dX7_filling_78 rfl hl (by decide) rfl (fun ls hl => ?_)
          obtain ⟨x11, e12, hF⟩ := nmx hF
          refine lv_iinc (v := x11) (lv' := [(3, .int x11), (2, .int v3_50), (5, .int x4), (0, .ref (φ 7 i0)), (1, .ref (φ 2 i1)), (4, .ref (φ 1 v4_50))]) hx hb dX7_filling_79 hl (k := 4) rfl (by rw [e12]; rfl) (by decide) rfl (fun ls hl => ?_)
          refine lv_goto (tgt := 4) hx hb dX7_filling_82 (by decide) ?_
          obtain rfl := sj hF
          exact hK _ _ _ hW hS (lv_sub hl [3, 4, 1, 0] rfl)
    refine lv_iload_n hx hb dX7_filling_4 rfl (lv_at hl 3 rfl) ?_
    refine lv_aload_n hx hb dX7_filling_5 rfl (lv_at hl 1 rfl) ?_
    refine r_geti X hW al_1 fl_7_24 dX7_filling_6 ?_
    refine lv_icmp_ge (tgt := 85) hx hb dX7_filling_9 (by decide) (fun c38 => ?_) (fun c38 => ?_)
    · have hF := it c38 hF
      obtain rfl := sj hF
      exact hK _ _ _ hW hS (lv_sub hl [2] rfl)
    · have hF := ie c38 hF
      refine lv_aload_n hx hb dX7_filling_12 rfl (lv_at hl 1 rfl) ?_
      obtain ⟨o15, e16, hF⟩ := bn hF
      refine r_getr X hW al_1 fl_7_29 e16 dX7_filling_13 (fun al17 => ?_)
      refine lv_iload_n hx hb dX7_filling_16 rfl (lv_at hl 3 rfl) ?_
      obtain ⟨o18, e19, hF⟩ := bn hF
      obtain ⟨b20, e19⟩ := gar_s e19
      refine r_aald (t0 := 3) X hW al17 rfl rfl b20 e19 dX7_filling_17 (fun al21 => ?_)
      refine lv_astore (lv' := [(4, .ref (φ 1 o18)), (0, .ref (φ 7 i0)), (1, .ref (φ 2 i1)), (2, .int x1), (3, .int x2)]) hx hb dX7_filling_18 hl (by decide) rfl (fun ls hl => ?_)
      refine lv_aload hx hb dX7_filling_20 (lv_at hl 0 rfl) ?_
      obtain ⟨x23, e22, hF⟩ := bn hF
      refine rc_i (Af := fun φ => [.ref (φ 1 o18)]) X hW hS ⟨Nat.zero_le _, Nat.zero_le _⟩ (rn_V (As := []) (rest := []) X hW hS cw_7_87 al21 rfl rfl rfl ⟨Nat.le_of_ble_eq_true rfl, Nat.le_of_ble_eq_true rfl⟩ rfl hl.1 rfl (Nat.le_of_ble_eq_true rfl) dX7_filling_22) (ok_X1_isTakenOrInYard o18 al21 e22) (fun H locs hW hS => ?_)
      refine lv_if_eq (tgt := 79) hx hb dX7_filling_25 (by decide) (fun c37 => ?_) (fun c37 => ?_)
      · have hF := it c37 hF
        obtain ⟨x24, e25, hF⟩ := nmx hF
        refine lv_iinc (v := x24) (lv' := [(3, .int x24), (4, .ref (φ 1 o18)), (0, .ref (φ 7 i0)), (1, .ref (φ 2 i1)), (2, .int x1)]) hx hb dX7_filling_79 hl (k := 4) rfl (by rw [e25]; rfl) (by decide) rfl (fun ls hl => ?_)
        refine lv_goto (tgt := 4) hx hb dX7_filling_82 (by decide) ?_
        obtain rfl := sj hF
        exact hK _ _ _ hW hS (lv_sub hl [2, 3, 4, 0] rfl)
      · have hF := ie c37 hF
        refine lv_iload_n hx hb dX7_filling_28 rfl (lv_at hl 3 rfl) ?_
        refine lv_iconst (v := (-1)) hx hb dX7_filling_29 (by decide) ?_
        refine lv_icmp_eq (tgt := 50) hx hb dX7_filling_30 (by decide) (fun c36 => ?_) (fun c36 => ?_)
        · have hF := it c36 hF
          exact j_50 x1 x2 o18 _ _ _ al21 hF hW hS (lv_sub hl [1, 2, 3, 4, 0] rfl)
        · have hF := ie c36 hF
          refine lv_aload hx hb dX7_filling_33 (lv_at hl 0 rfl) ?_
          refine r_geti X hW al21 fl_7_42 dX7_filling_35 ?_
          refine lv_aload_n hx hb dX7_filling_38 rfl (lv_at hl 2 rfl) ?_
          obtain ⟨o26, e27, hF⟩ := bn hF
          refine r_getr X hW al_1 fl_7_29 e27 dX7_filling_39 (fun al28 => ?_)
          refine lv_iload_n hx hb dX7_filling_42 rfl (lv_at hl 3 rfl) ?_
          obtain ⟨o29, e30, hF⟩ := bn hF
          obtain ⟨b31, e30⟩ := gar_s e30
          refine r_aald (t0 := 3) X hW al28 rfl rfl b31 e30 dX7_filling_43 (fun al32 => ?_)
          refine r_geti X hW al32 fl_7_42 dX7_filling_44 ?_
          refine lv_icmp_le (tgt := 79) hx hb dX7_filling_47 (by decide) (fun c35 => ?_) (fun c35 => ?_)
          · have hF := it c35 hF
            obtain ⟨x33, e34, hF⟩ := nmx hF
            refine lv_iinc (v := x33) (lv' := [(3, .int x33), (4, .ref (φ 1 o18)), (0, .ref (φ 7 i0)), (1, .ref (φ 2 i1)), (2, .int x1)]) hx hb dX7_filling_79 hl (k := 4) rfl (by rw [e34]; rfl) (by decide) rfl (fun ls hl => ?_)
            refine lv_goto (tgt := 4) hx hb dX7_filling_82 (by decide) ?_
            obtain rfl := sj hF
            exact hK _ _ _ hW hS (lv_sub hl [2, 3, 4, 0] rfl)
          · have hF := ie c35 hF
            exact j_50 x1 x2 o18 _ _ _ al21 hF hW hS (lv_sub hl [1, 2, 3, 4, 0] rfl)
  · intro H locs ls hW hS hl
    obtain ⟨x41, rfl⟩ : ∃ z, z = q39 := ⟨_, rfl⟩
    have hl : lv_has ls 6 [(2, .int x41)] := hl
    refine lv_iload_n hx hb dX7_filling_85 rfl (lv_at hl 0 rfl) ?_
    obtain rfl := sj hF
    exact hfin _ _ _ _ hW hS dX7_filling_86
def F_X7_isWhole (i0 : Nat) (h : HP) : Option (Int32) :=
  (if (gi h 7 i0 2) ≤ 0 then
  some 0
  else
  (if (gi h 7 i0 5) = 0 then
  (if (gi h 7 i0 6) = (gi h 7 i0 1) then
  some 1
  else
  some 0)
  else
  some 0))
set_option maxHeartbeats 4000000 in
set_option maxRecDepth 100000 in
theorem ok_X7_isWhole {l : Launch} {D : va_G} {cA : Nat → ClassId} {h : HP} {r : Int32}  (i0 : Nat) (al_0 : i0 < gn h 7) (hF : F_X7_isWhole i0 h = some r) : MI l D cA yX7_isWhole cX7_isWhole 1 (some .boolean) 0 0 (fun φ => [.ref (φ 7 i0)]) h r h := by
  refine mk_Z (plainFor_of_name (by decide)) (fun φ => Nat.le_of_ble_eq_true rfl) ?_
  intro p e s m args below meth c ls φ A Q X hW hS hl hfin
  have hx := X.1
  have hb := X.2.1
  have hl : lv_has ls 1 [(0, .ref (φ 7 i0))] := hl
  unfold F_X7_isWhole at hF
  refine lv_aload_n hx hb dX7_isWhole_0 rfl (lv_at hl 0 rfl) ?_
  refine r_geti X hW al_0 fl_7_18 dX7_isWhole_1 ?_
  refine lv_if_le (tgt := 29) hx hb dX7_isWhole_4 (by decide) (fun c3 => ?_) (fun c3 => ?_)
  · have hF := it c3 hF
    refine lv_iconst (v := 0) hx hb dX7_isWhole_29 (by decide) ?_
    obtain rfl := sj hF
    exact hfin _ _ _ _ hW hS (Or.inl rfl) dX7_isWhole_30
  · have hF := ie c3 hF
    refine lv_aload_n hx hb dX7_isWhole_7 rfl (lv_at hl 0 rfl) ?_
    refine r_geti X hW al_0 fl_7_56 dX7_isWhole_8 ?_
    refine lv_if_ne (tgt := 29) hx hb dX7_isWhole_11 (by decide) (fun c2 => ?_) (fun c2 => ?_)
    · have hF := ie c2 hF
      refine lv_iconst (v := 0) hx hb dX7_isWhole_29 (by decide) ?_
      obtain rfl := sj hF
      exact hfin _ _ _ _ hW hS (Or.inl rfl) dX7_isWhole_30
    · have hF := it c2 hF
      refine lv_aload_n hx hb dX7_isWhole_14 rfl (lv_at hl 0 rfl) ?_
      refine r_geti X hW al_0 fl_7_59 dX7_isWhole_15 ?_
      refine lv_aload_n hx hb dX7_isWhole_18 rfl (lv_at hl 0 rfl) ?_
      refine r_geti X hW al_0 fl_7_15 dX7_isWhole_19 ?_
      refine lv_icmp_ne (tgt := 29) hx hb dX7_isWhole_22 (by decide) (fun c1 => ?_) (fun c1 => ?_)
      · have hF := ie c1 hF
        refine lv_iconst (v := 0) hx hb dX7_isWhole_29 (by decide) ?_
        obtain rfl := sj hF
        exact hfin _ _ _ _ hW hS (Or.inl rfl) dX7_isWhole_30
      · have hF := it c1 hF
        refine lv_iconst (v := 1) hx hb dX7_isWhole_25 (by decide) ?_
        refine lv_goto (tgt := 30) hx hb dX7_isWhole_26 (by decide) ?_
        obtain rfl := sj hF
        exact hfin _ _ _ _ hW hS (Or.inr rfl) dX7_isWhole_30
def F_X7_told (i0 : Nat) (i1 : Nat) (a2 : Int32) (h : HP) : Option (Int32) :=
  (if a2 = 0 then
  some (gi h 7 i0 2)
  else
  (if a2 = 1 then
  some (gi h 7 i0 3)
  else
  (if a2 = 2 then
  some (gi h 7 i0 5)
  else
  (if a2 = 3 then
  (F_X7_missing i0 h).bind fun x6 =>
  some x6
  else
  (if a2 = 4 then
  (F_X7_isWhole i0 h).bind fun x9 =>
  (if x9 = 0 then
  some 0
  else
  some 1)
  else
  (F_X7_filling i0 i1 h).bind fun x12 =>
  some x12)))))
set_option maxHeartbeats 4000000 in
set_option maxRecDepth 100000 in
theorem ok_X7_told {l : Launch} {D : va_G} {cA : Nat → ClassId} {h : HP} {r : Int32}  (i0 : Nat) (i1 : Nat) (a2 : Int32) (al_0 : i0 < gn h 7) (al_1 : i1 < gn h 2) (hF : F_X7_told i0 i1 a2 h = some r) : MI l D cA yX7_told cX7_told 3 (some .int) 3 71 (fun φ => [.ref (φ 7 i0), .ref (φ 2 i1), .int a2]) h r h := by
  refine mk_I (plainFor_of_name (by decide)) (fun φ => Nat.le_of_ble_eq_true rfl) ?_
  intro p e s m args below meth c ls φ A Q X hW hS hl hfin
  have hx := X.1
  have hb := X.2.1
  have hl : lv_has ls 3 [(0, .ref (φ 7 i0)), (1, .ref (φ 2 i1)), (2, .int a2)] := hl
  unfold F_X7_told at hF
  refine lv_iload_n hx hb dX7_told_0 rfl (lv_at hl 2 rfl) ?_
  by_cases c1 : a2 = 0
  · have hF := it c1 hF
    refine lv_tableIn (tgt := 36) hx hb dX7_told_1 (by rw [c1]; decide) (by rw [c1]; decide) (off := 35) (by rw [c1]; rfl) (by decide) ?_
    refine lv_aload_n hx hb dX7_told_36 rfl (lv_at hl 0 rfl) ?_
    refine r_geti X hW al_0 fl_7_18 dX7_told_37 ?_
    obtain rfl := sj hF
    exact hfin _ _ _ _ hW hS dX7_told_40
  have hF := ie c1 hF
  by_cases c2 : a2 = 1
  · have hF := it c2 hF
    refine lv_tableIn (tgt := 41) hx hb dX7_told_1 (by rw [c2]; decide) (by rw [c2]; decide) (off := 40) (by rw [c2]; rfl) (by decide) ?_
    refine lv_aload_n hx hb dX7_told_41 rfl (lv_at hl 0 rfl) ?_
    refine r_geti X hW al_0 fl_7_21 dX7_told_42 ?_
    obtain rfl := sj hF
    exact hfin _ _ _ _ hW hS dX7_told_45
  have hF := ie c2 hF
  by_cases c3 : a2 = 2
  · have hF := it c3 hF
    refine lv_tableIn (tgt := 46) hx hb dX7_told_1 (by rw [c3]; decide) (by rw [c3]; decide) (off := 45) (by rw [c3]; rfl) (by decide) ?_
    refine lv_aload_n hx hb dX7_told_46 rfl (lv_at hl 0 rfl) ?_
    refine r_geti X hW al_0 fl_7_56 dX7_told_47 ?_
    obtain rfl := sj hF
    exact hfin _ _ _ _ hW hS dX7_told_50
  have hF := ie c3 hF
  by_cases c4 : a2 = 3
  · have hF := it c4 hF
    refine lv_tableIn (tgt := 51) hx hb dX7_told_1 (by rw [c4]; decide) (by rw [c4]; decide) (off := 50) (by rw [c4]; rfl) (by decide) ?_
    refine lv_aload_n hx hb dX7_told_51 rfl (lv_at hl 0 rfl) ?_
    obtain ⟨x6, e5, hF⟩ := bn hF
    refine rc_i (Af := fun φ => [.ref (φ 7 i0)]) X hW hS ⟨Nat.zero_le _, Nat.zero_le _⟩ (rn_V (As := []) (rest := []) X hW hS cw_7_76 al_0 rfl rfl rfl ⟨Nat.le_of_ble_eq_true rfl, Nat.le_of_ble_eq_true rfl⟩ rfl hl.1 rfl (Nat.le_of_ble_eq_true rfl) dX7_told_52) (ok_X7_missing i0 al_0 e5) (fun H locs hW hS => ?_)
    obtain rfl := sj hF
    exact hfin _ _ _ _ hW hS dX7_told_55
  have hF := ie c4 hF
  by_cases c7 : a2 = 4
  · have hF := it c7 hF
    refine lv_tableIn (tgt := 56) hx hb dX7_told_1 (by rw [c7]; decide) (by rw [c7]; decide) (off := 55) (by rw [c7]; rfl) (by decide) ?_
    refine lv_aload_n hx hb dX7_told_56 rfl (lv_at hl 0 rfl) ?_
    obtain ⟨x9, e8, hF⟩ := bn hF
    refine rc_i (Af := fun φ => [.ref (φ 7 i0)]) X hW hS ⟨Nat.zero_le _, Nat.zero_le _⟩ (rn_V (As := []) (rest := []) X hW hS cw_7_80 al_0 rfl rfl rfl ⟨Nat.le_of_ble_eq_true rfl, Nat.le_of_ble_eq_true rfl⟩ rfl hl.1 rfl (Nat.le_of_ble_eq_true rfl) dX7_told_57) (ok_X7_isWhole i0 al_0 e8) (fun H locs hW hS => ?_)
    refine lv_if_eq (tgt := 67) hx hb dX7_told_60 (by decide) (fun c10 => ?_) (fun c10 => ?_)
    · have hF := it c10 hF
      refine lv_iconst (v := 0) hx hb dX7_told_67 (by decide) ?_
      obtain rfl := sj hF
      exact hfin _ _ _ _ hW hS dX7_told_68
    · have hF := ie c10 hF
      refine lv_iconst (v := 1) hx hb dX7_told_63 (by decide) ?_
      refine lv_goto (tgt := 68) hx hb dX7_told_64 (by decide) ?_
      obtain rfl := sj hF
      exact hfin _ _ _ _ hW hS dX7_told_68
  have hF := ie c7 hF
  refine lv_tableOut (tgt := 69) hx hb dX7_told_1 (by have n0 := lv_neT (a := 0) c1 (by decide); have n1 := lv_neT (a := 1) c2 (by decide); have n2 := lv_neT (a := 2) c3 (by decide); have n3 := lv_neT (a := 3) c4 (by decide); have n4 := lv_neT (a := 4) c7 (by decide); omega) (by decide) ?_
  refine lv_aload_n hx hb dX7_told_69 rfl (lv_at hl 0 rfl) ?_
  refine lv_aload_n hx hb dX7_told_70 rfl (lv_at hl 1 rfl) ?_
  obtain ⟨x12, e11, hF⟩ := bn hF
  refine rc_i (Af := fun φ => [.ref (φ 7 i0), .ref (φ 2 i1)]) X hW hS ⟨Nat.zero_le _, Nat.zero_le _⟩ (rn_V (As := [.ref (φ 2 i1)]) (rest := []) X hW hS cw_7_83 al_0 rfl rfl rfl ⟨Nat.le_of_ble_eq_true rfl, Nat.le_of_ble_eq_true rfl⟩ rfl hl.1 rfl (Nat.le_of_ble_eq_true rfl) dX7_told_71) (ok_X7_filling i0 i1 al_0 al_1 e11) (fun H locs hW hS => ?_)
  obtain rfl := sj hF
  exact hfin _ _ _ _ hW hS dX7_told_74
def F_X11_peal (i0 : Nat) (a1 : Int32) (a2 : Int32) (h : HP) : Option (Int32 × DP) :=
  (F_X11_isParish i0 a1 h).bind fun x2 =>
  (if x2 = 0 then
  some ((-1000), dp h)
  else
  (F_X11_isFrom a2 0 5).bind fun x4 =>
  (if x4 = 0 then
  some ((-1000), dp h)
  else
  (gr h 11 i0 8).bind fun o5 =>
  (gr h 11 i0 3).bind fun o8 =>
  (F_X7_hear o5 o8 a1 h).bind fun d15 => nm (wd h d15) fun h12 =>
  (gr h12 11 i0 8).bind fun o16 =>
  (gr h12 11 i0 3).bind fun o19 =>
  (F_X7_told o16 o19 a2 h12).bind fun x23 =>
  some (x23, dp h12)))
set_option maxHeartbeats 4000000 in
set_option maxRecDepth 100000 in
theorem ok_X11_peal {l : Launch} {D : va_G} {cA : Nat → ClassId} {h : HP} {r : Int32} {d : DP} (i0 : Nat) (a1 : Int32) (a2 : Int32) (al_0 : i0 < gn h 11) (hF : F_X11_peal i0 a1 a2 h = some (r, d)) : MI l D cA yX11_peal cX11_peal 3 (some .int) 4 95 (fun φ => [.ref (φ 11 i0), .int a1, .int a2]) h r (wd h d) := by
  refine mk_I (plainFor_of_name (by decide)) (fun φ => Nat.le_of_ble_eq_true rfl) ?_
  intro p e s m args below meth c ls φ A Q X hW hS hl hfin
  have hx := X.1
  have hb := X.2.1
  have hl : lv_has ls 3 [(0, .ref (φ 11 i0)), (1, .int a1), (2, .int a2)] := hl
  unfold F_X11_peal at hF
  refine lv_aload_n hx hb dX11_peal_0 rfl (lv_at hl 0 rfl) ?_
  refine lv_iload_n hx hb dX11_peal_1 rfl (lv_at hl 1 rfl) ?_
  obtain ⟨x2, e1, hF⟩ := bn hF
  refine rc_i (Af := fun φ => [.ref (φ 11 i0), .int a1]) X hW hS ⟨Nat.zero_le _, Nat.zero_le _⟩ (rn_V (As := [.int a1]) (rest := []) X hW hS cw_11_96 al_0 rfl rfl rfl ⟨Nat.le_of_ble_eq_true rfl, Nat.le_of_ble_eq_true rfl⟩ rfl hl.1 rfl (Nat.le_of_ble_eq_true rfl) dX11_peal_2) (ok_X11_isParish i0 a1 al_0 e1) (fun H locs hW hS => ?_)
  refine lv_if_eq (tgt := 17) hx hb dX11_peal_5 (by decide) (fun c25 => ?_) (fun c25 => ?_)
  · have hF := it c25 hF
    refine lv_sipush (v := (-1000)) hx hb dX11_peal_17 (by decide) ?_
    obtain ⟨rfl, rfl⟩ := sj2 hF
    exact hfin _ _ _ _ (wdW rfl hW) hS dX11_peal_20
  · have hF := ie c25 hF
    refine lv_iload_n hx hb dX11_peal_8 rfl (lv_at hl 2 rfl) ?_
    refine lv_iconst (v := 0) hx hb dX11_peal_9 (by decide) ?_
    refine lv_iconst (v := 5) hx hb dX11_peal_10 (by decide) ?_
    obtain ⟨x4, e3, hF⟩ := bn hF
    refine rc_i (Af := fun φ => [.int a2, .int 0, .int 5]) X hW hS ⟨Nat.zero_le _, Nat.zero_le _⟩ (rn_S (As := [.int a2, .int 0, .int 5]) (rest := []) X hW hS cw_11_81 ⟨Nat.le_of_ble_eq_true rfl, Nat.le_of_ble_eq_true rfl⟩ rfl hl.1 rfl (Nat.le_of_ble_eq_true rfl) dX11_peal_11) (ok_X11_isFrom a2 0 5 e3) (fun H locs hW hS => ?_)
    refine lv_if_ne (tgt := 21) hx hb dX11_peal_14 (by decide) (fun c24 => ?_) (fun c24 => ?_)
    · have hF := ie c24 hF
      refine lv_aload_n hx hb dX11_peal_21 rfl (lv_at hl 0 rfl) ?_
      obtain ⟨o5, e6, hF⟩ := bn hF
      refine r_getr X hW al_0 fl_11_43 e6 dX11_peal_22 (fun al7 => ?_)
      refine lv_aload_n hx hb dX11_peal_25 rfl (lv_at hl 0 rfl) ?_
      obtain ⟨o8, e9, hF⟩ := bn hF
      refine r_getr X hW al_0 fl_11_16 e9 dX11_peal_26 (fun al10 => ?_)
      refine lv_iload_n hx hb dX11_peal_29 rfl (lv_at hl 1 rfl) ?_
      obtain ⟨d15, e11, hF⟩ := bn hF
      refine rc_v (Af := fun φ => [.ref (φ 7 o5), .ref (φ 2 o8), .int a1]) X hW hS ⟨Nat.zero_le _, Nat.zero_le _⟩ (rn_V (As := [.ref (φ 2 o8), .int a1]) (rest := []) X hW hS cw_11_259 al7 rfl rfl rfl ⟨Nat.le_of_ble_eq_true rfl, Nat.le_of_ble_eq_true rfl⟩ rfl hl.1 rfl (Nat.le_of_ble_eq_true rfl) dX11_peal_30) (ok_X7_hear o5 o8 a1 al7 al10 e11) (fun H locs hW hS => ?_)
      obtain ⟨h12, e14, hF⟩ := nmx hF
      have hW := nmW e14 hW
      have g13 : h12.2.2 = h.2.2 := by rw [e14]; exact rfl
      refine lv_aload_n hx hb dX11_peal_33 rfl (lv_at hl 0 rfl) ?_
      obtain ⟨o16, e17, hF⟩ := bn hF
      refine r_getr X hW (gq g13 al_0) fl_11_43 e17 dX11_peal_34 (fun al18 => ?_)
      have al18 := qg g13 al18
      refine lv_aload_n hx hb dX11_peal_37 rfl (lv_at hl 0 rfl) ?_
      obtain ⟨o19, e20, hF⟩ := bn hF
      refine r_getr X hW (gq g13 al_0) fl_11_16 e20 dX11_peal_38 (fun al21 => ?_)
      have al21 := qg g13 al21
      refine lv_iload_n hx hb dX11_peal_41 rfl (lv_at hl 2 rfl) ?_
      obtain ⟨x23, e22, hF⟩ := bn hF
      refine rc_i (Af := fun φ => [.ref (φ 7 o16), .ref (φ 2 o19), .int a2]) X hW hS ⟨Nat.zero_le _, Nat.zero_le _⟩ (rn_V (As := [.ref (φ 2 o19), .int a2]) (rest := []) X hW hS cw_11_263 (gq g13 al18) rfl rfl rfl ⟨Nat.le_of_ble_eq_true rfl, Nat.le_of_ble_eq_true rfl⟩ rfl hl.1 rfl (Nat.le_of_ble_eq_true rfl) dX11_peal_42) (ok_X7_told o16 o19 a2 (gq g13 al18) (gq g13 al21) e22) (fun H locs hW hS => ?_)
      obtain ⟨rfl, rfl⟩ := sj2 hF
      exact hfin _ _ _ _ (wdW g13 hW) hS dX11_peal_45
    · have hF := it c24 hF
      refine lv_sipush (v := (-1000)) hx hb dX11_peal_17 (by decide) ?_
      obtain ⟨rfl, rfl⟩ := sj2 hF
      exact hfin _ _ _ _ (wdW rfl hW) hS dX11_peal_20
def F_X11_step (i0 : Nat) (a1 : Int32) (a2 : Int32) (h : HP) : Option (Int32 × DP) :=
  (F_X11_isParish i0 a1 h).bind fun x2 =>
  (if x2 = 0 then
  some ((-2), dp h)
  else
  (gr h 11 i0 3).bind fun o3 =>
  (F_X2_has o3 a2 h).bind fun x7 =>
  (if x7 = 0 then
  some ((-2), dp h)
  else
  (gr h 11 i0 8).bind fun o8 =>
  (gr h 11 i0 3).bind fun o11 =>
  (F_X7_hear o8 o11 a1 h).bind fun d18 => nm (wd h d18) fun h15 =>
  (gr h15 11 i0 8).bind fun o19 =>
  (gr h15 11 i0 3).bind fun o22 =>
  (gr h15 2 o22 0).bind fun o25 =>
  (gar h15 23 o25 20 a2).bind fun o28 =>
  (F_X7_stepOf o19 o28 h15).bind fun x33 =>
  some (x33, dp h15)))
set_option maxHeartbeats 4000000 in
set_option maxRecDepth 100000 in
theorem ok_X11_step {l : Launch} {D : va_G} {cA : Nat → ClassId} {h : HP} {r : Int32} {d : DP} (i0 : Nat) (a1 : Int32) (a2 : Int32) (al_0 : i0 < gn h 11) (hF : F_X11_step i0 a1 a2 h = some (r, d)) : MI l D cA yX11_step cX11_step 3 (some .int) 4 95 (fun φ => [.ref (φ 11 i0), .int a1, .int a2]) h r (wd h d) := by
  refine mk_I (plainFor_of_name (by decide)) (fun φ => Nat.le_of_ble_eq_true rfl) ?_
  intro p e s m args below meth c ls φ A Q X hW hS hl hfin
  have hx := X.1
  have hb := X.2.1
  have hl : lv_has ls 3 [(0, .ref (φ 11 i0)), (1, .int a1), (2, .int a2)] := hl
  unfold F_X11_step at hF
  refine lv_aload_n hx hb dX11_step_0 rfl (lv_at hl 0 rfl) ?_
  refine lv_iload_n hx hb dX11_step_1 rfl (lv_at hl 1 rfl) ?_
  obtain ⟨x2, e1, hF⟩ := bn hF
  refine rc_i (Af := fun φ => [.ref (φ 11 i0), .int a1]) X hW hS ⟨Nat.zero_le _, Nat.zero_le _⟩ (rn_V (As := [.int a1]) (rest := []) X hW hS cw_11_96 al_0 rfl rfl rfl ⟨Nat.le_of_ble_eq_true rfl, Nat.le_of_ble_eq_true rfl⟩ rfl hl.1 rfl (Nat.le_of_ble_eq_true rfl) dX11_step_2) (ok_X11_isParish i0 a1 al_0 e1) (fun H locs hW hS => ?_)
  refine lv_if_eq (tgt := 19) hx hb dX11_step_5 (by decide) (fun c35 => ?_) (fun c35 => ?_)
  · have hF := it c35 hF
    refine lv_bipush (v := (-2)) hx hb dX11_step_19 (by decide) ?_
    obtain ⟨rfl, rfl⟩ := sj2 hF
    exact hfin _ _ _ _ (wdW rfl hW) hS dX11_step_21
  · have hF := ie c35 hF
    refine lv_aload_n hx hb dX11_step_8 rfl (lv_at hl 0 rfl) ?_
    obtain ⟨o3, e4, hF⟩ := bn hF
    refine r_getr X hW al_0 fl_11_16 e4 dX11_step_9 (fun al5 => ?_)
    refine lv_iload_n hx hb dX11_step_12 rfl (lv_at hl 2 rfl) ?_
    obtain ⟨x7, e6, hF⟩ := bn hF
    refine rc_i (Af := fun φ => [.ref (φ 2 o3), .int a2]) X hW hS ⟨Nat.zero_le _, Nat.zero_le _⟩ (rn_V (As := [.int a2]) (rest := []) X hW hS cw_11_137 al5 rfl rfl rfl ⟨Nat.le_of_ble_eq_true rfl, Nat.le_of_ble_eq_true rfl⟩ rfl hl.1 rfl (Nat.le_of_ble_eq_true rfl) dX11_step_13) (ok_X2_has o3 a2 al5 e6) (fun H locs hW hS => ?_)
    refine lv_if_ne (tgt := 22) hx hb dX11_step_16 (by decide) (fun c34 => ?_) (fun c34 => ?_)
    · have hF := ie c34 hF
      refine lv_aload_n hx hb dX11_step_22 rfl (lv_at hl 0 rfl) ?_
      obtain ⟨o8, e9, hF⟩ := bn hF
      refine r_getr X hW al_0 fl_11_43 e9 dX11_step_23 (fun al10 => ?_)
      refine lv_aload_n hx hb dX11_step_26 rfl (lv_at hl 0 rfl) ?_
      obtain ⟨o11, e12, hF⟩ := bn hF
      refine r_getr X hW al_0 fl_11_16 e12 dX11_step_27 (fun al13 => ?_)
      refine lv_iload_n hx hb dX11_step_30 rfl (lv_at hl 1 rfl) ?_
      obtain ⟨d18, e14, hF⟩ := bn hF
      refine rc_v (Af := fun φ => [.ref (φ 7 o8), .ref (φ 2 o11), .int a1]) X hW hS ⟨Nat.zero_le _, Nat.zero_le _⟩ (rn_V (As := [.ref (φ 2 o11), .int a1]) (rest := []) X hW hS cw_11_259 al10 rfl rfl rfl ⟨Nat.le_of_ble_eq_true rfl, Nat.le_of_ble_eq_true rfl⟩ rfl hl.1 rfl (Nat.le_of_ble_eq_true rfl) dX11_step_31) (ok_X7_hear o8 o11 a1 al10 al13 e14) (fun H locs hW hS => ?_)
      obtain ⟨h15, e17, hF⟩ := nmx hF
      have hW := nmW e17 hW
      have g16 : h15.2.2 = h.2.2 := by rw [e17]; exact rfl
      refine lv_aload_n hx hb dX11_step_34 rfl (lv_at hl 0 rfl) ?_
      obtain ⟨o19, e20, hF⟩ := bn hF
      refine r_getr X hW (gq g16 al_0) fl_11_43 e20 dX11_step_35 (fun al21 => ?_)
      have al21 := qg g16 al21
      refine lv_aload_n hx hb dX11_step_38 rfl (lv_at hl 0 rfl) ?_
      obtain ⟨o22, e23, hF⟩ := bn hF
      refine r_getr X hW (gq g16 al_0) fl_11_16 e23 dX11_step_39 (fun al24 => ?_)
      have al24 := qg g16 al24
      obtain ⟨o25, e26, hF⟩ := bn hF
      refine r_getr X hW (gq g16 al24) fl_11_140 e26 dX11_step_42 (fun al27 => ?_)
      have al27 := qg g16 al27
      refine lv_iload_n hx hb dX11_step_45 rfl (lv_at hl 2 rfl) ?_
      obtain ⟨o28, e29, hF⟩ := bn hF
      obtain ⟨b30, e29⟩ := gar_s e29
      refine r_aald (t0 := 3) X hW (gq g16 al27) rfl rfl b30 e29 dX11_step_46 (fun al31 => ?_)
      have al31 := qg g16 al31
      obtain ⟨x33, e32, hF⟩ := bn hF
      refine rc_i (Af := fun φ => [.ref (φ 7 o19), .ref (φ 1 o28)]) X hW hS ⟨Nat.zero_le _, Nat.zero_le _⟩ (rn_V (As := [.ref (φ 1 o28)]) (rest := []) X hW hS cw_11_267 (gq g16 al21) rfl rfl rfl ⟨Nat.le_of_ble_eq_true rfl, Nat.le_of_ble_eq_true rfl⟩ rfl hl.1 rfl (Nat.le_of_ble_eq_true rfl) dX11_step_47) (ok_X7_stepOf o19 o28 (gq g16 al21) (gq g16 al31) e32) (fun H locs hW hS => ?_)
      obtain ⟨rfl, rfl⟩ := sj2 hF
      exact hfin _ _ _ _ (wdW g16 hW) hS dX11_step_50
    · have hF := it c34 hF
      refine lv_bipush (v := (-2)) hx hb dX11_step_19 (by decide) ?_
      obtain ⟨rfl, rfl⟩ := sj2 hF
      exact hfin _ _ _ _ (wdW rfl hW) hS dX11_step_21
def F_X11_mayBeTold (i0 : Nat) (a1 : Int32) (h : HP) : Option (Int32) :=
  (if a1 ≤ 0 then
  some 0
  else
  (gr h 11 i0 3).bind fun o1 =>
  (if (a1 >>> ((gi h 2 o1 1) &&& 31)) = 0 then
  (F_J_bitCount a1).bind fun x5 =>
  (if 12 < x5 then
  some 0
  else
  some 1)
  else
  some 0))
set_option maxHeartbeats 4000000 in
set_option maxRecDepth 100000 in
theorem ok_X11_mayBeTold {l : Launch} {D : va_G} {cA : Nat → ClassId} {h : HP} {r : Int32}  (i0 : Nat) (a1 : Int32) (al_0 : i0 < gn h 11) (hF : F_X11_mayBeTold i0 a1 h = some r) : MI l D cA yX11_mayBeTold cX11_mayBeTold 2 (some .boolean) 1 20 (fun φ => [.ref (φ 11 i0), .int a1]) h r h := by
  refine mk_Z (plainFor_of_name (by decide)) (fun φ => Nat.le_of_ble_eq_true rfl) ?_
  intro p e s m args below meth c ls φ A Q X hW hS hl hfin
  have hx := X.1
  have hb := X.2.1
  have hl : lv_has ls 2 [(0, .ref (φ 11 i0)), (1, .int a1)] := hl
  unfold F_X11_mayBeTold at hF
  refine lv_iload_n hx hb dX11_mayBeTold_0 rfl (lv_at hl 1 rfl) ?_
  refine lv_if_le (tgt := 29) hx hb dX11_mayBeTold_1 (by decide) (fun c8 => ?_) (fun c8 => ?_)
  · have hF := it c8 hF
    refine lv_iconst (v := 0) hx hb dX11_mayBeTold_29 (by decide) ?_
    obtain rfl := sj hF
    exact hfin _ _ _ _ hW hS (Or.inl rfl) dX11_mayBeTold_30
  · have hF := ie c8 hF
    refine lv_iload_n hx hb dX11_mayBeTold_4 rfl (lv_at hl 1 rfl) ?_
    refine lv_aload_n hx hb dX11_mayBeTold_5 rfl (lv_at hl 0 rfl) ?_
    obtain ⟨o1, e2, hF⟩ := bn hF
    refine r_getr X hW al_0 fl_11_16 e2 dX11_mayBeTold_6 (fun al3 => ?_)
    refine r_geti X hW al3 fl_11_222 dX11_mayBeTold_9 ?_
    refine lv_ishr hx hb dX11_mayBeTold_12 ?_
    refine lv_if_ne (tgt := 29) hx hb dX11_mayBeTold_13 (by decide) (fun c7 => ?_) (fun c7 => ?_)
    · have hF := ie c7 hF
      refine lv_iconst (v := 0) hx hb dX11_mayBeTold_29 (by decide) ?_
      obtain rfl := sj hF
      exact hfin _ _ _ _ hW hS (Or.inl rfl) dX11_mayBeTold_30
    · have hF := it c7 hF
      refine lv_iload_n hx hb dX11_mayBeTold_16 rfl (lv_at hl 1 rfl) ?_
      obtain ⟨x5, e4, hF⟩ := bn hF
      refine rc_i (Af := fun φ => [.int a1]) X hW hS ⟨Nat.zero_le _, Nat.zero_le _⟩ (rn_S (As := [.int a1]) (rest := []) X hW hS cw_11_411 ⟨Nat.le_of_ble_eq_true rfl, Nat.le_of_ble_eq_true rfl⟩ rfl hl.1 rfl (Nat.le_of_ble_eq_true rfl) dX11_mayBeTold_17) (ok_J_bitCount a1 e4) (fun H locs hW hS => ?_)
      refine lv_bipush (v := 12) hx hb dX11_mayBeTold_20 (by decide) ?_
      refine lv_icmp_gt (tgt := 29) hx hb dX11_mayBeTold_22 (by decide) (fun c6 => ?_) (fun c6 => ?_)
      · have hF := it c6 hF
        refine lv_iconst (v := 0) hx hb dX11_mayBeTold_29 (by decide) ?_
        obtain rfl := sj hF
        exact hfin _ _ _ _ hW hS (Or.inl rfl) dX11_mayBeTold_30
      · have hF := ie c6 hF
        refine lv_iconst (v := 1) hx hb dX11_mayBeTold_25 (by decide) ?_
        refine lv_goto (tgt := 30) hx hb dX11_mayBeTold_26 (by decide) ?_
        obtain rfl := sj hF
        exact hfin _ _ _ _ hW hS (Or.inr rfl) dX11_mayBeTold_30
def J_X0_consider_89 (i0 : Nat) (t0_89 : Int32) (t1_89 : Nat) (hj89 : HP) : Option (DP) :=
  nm (si hj89 0 t1_89 5 t0_89) fun h1 =>
  nm (si h1 0 i0 4 ((gi h1 0 i0 4) + 1)) fun h4 =>
  some (dp h4)
def J_X0_consider_56 (i0 : Nat) (a1 : Int32) (t0_56 : Int32) (t1_56 : Nat) (hj56 : HP) : Option (DP) :=
  nm (si hj56 0 t1_56 6 t0_56) fun h7 =>
  nm (si h7 0 i0 7 ((gi h7 0 i0 7) ||| a1)) fun h10 =>
  (if (gi h10 0 i0 4) = 0 then
  J_X0_consider_89 i0 a1 i0 h10
  else
  (F_J_min (gi h10 0 i0 5) a1).bind fun x14 =>
  J_X0_consider_89 i0 x14 i0 h10)
def F_X0_consider (i0 : Nat) (a1 : Int32) (a2 : Int32) (a3 : Int32) (h : HP) : Option (DP) :=
  (F_J_abs (a2 - (gi h 0 i0 0))).bind fun x17 =>
  (if x17 ≤ (gi h 0 i0 1) then
  (if a3 < ((gi h 0 i0 2) * a2) then
  some (dp h)
  else
  (if a3 ≤ ((gi h 0 i0 3) * a2) then
  (if (gi h 0 i0 4) = 0 then
  J_X0_consider_56 i0 a1 a1 i0 h
  else
  J_X0_consider_56 i0 a1 ((gi h 0 i0 6) &&& a1) i0 h)
  else
  some (dp h)))
  else
  some (dp h))
set_option maxHeartbeats 4000000 in
set_option maxRecDepth 100000 in
theorem ok_X0_consider {l : Launch} {D : va_G} {cA : Nat → ClassId} {h : HP}  {d : DP} (i0 : Nat) (a1 : Int32) (a2 : Int32) (a3 : Int32) (al_0 : i0 < gn h 0) (hF : F_X0_consider i0 a1 a2 a3 h = some d) : MV l D cA yX0_consider cX0_consider 4 none 1 21 (fun φ => [.ref (φ 0 i0), .int a1, .int a2, .int a3]) h (wd h d) := by
  refine mk_V (plainFor_of_name (by decide)) (fun φ => Nat.le_of_ble_eq_true rfl) ?_
  intro p e s m args below meth c ls φ A Q X hW hS hl hfin
  have hx := X.1
  have hb := X.2.1
  have hl : lv_has ls 4 [(0, .ref (φ 0 i0)), (1, .int a1), (2, .int a2), (3, .int a3)] := hl
  unfold F_X0_consider at hF
  have j_89 : ∀ (t0_89 : Int32) (t1_89 : Nat) (hj89 : HP) (H : Heap) (locs : List Loc) (ls : Array Slot), hj89.2.2 = h.2.2 → t1_89 < gn h 0 → J_X0_consider_89 i0 t0_89 t1_89 hj89 = some d → HW D cA A φ hj89 H → va_S A s.heap H locs → lv_has ls 4 [(0, .ref (φ 0 i0))] → W p l e (rmo 1 21 0 0) s m args below meth c H locs 0 0 Q (F0 m 89 ls [.int t0_89, .ref (φ 0 t1_89)]) := by
    intro t0_89 t1_89 hj89 H locs ls gj89 alt1_89 hF hW hS hl
    unfold J_X0_consider_89 at hF
    refine r_puti X hW hS (gq gj89 alt1_89) fp_0_9 rfl rfl dX0_consider_89 (fun H locs hW hS => ?_)
    obtain ⟨h1, e2, hF⟩ := nmx hF
    have hW := nmW e2 hW
    have g3 : h1.2.2 = h.2.2 := by rw [e2]; exact gj89
    refine lv_aload_n hx hb dX0_consider_92 rfl (lv_at hl 0 rfl) ?_
    refine lv_dup hx hb dX0_consider_93 rfl ?_
    refine r_geti X hW (gq g3 al_0) fl_0_57 dX0_consider_94 ?_
    refine lv_iconst (v := 1) hx hb dX0_consider_97 (by decide) ?_
    refine lv_iadd hx hb dX0_consider_98 ?_
    refine r_puti X hW hS (gq g3 al_0) fp_0_57 rfl rfl dX0_consider_99 (fun H locs hW hS => ?_)
    obtain ⟨h4, e5, hF⟩ := nmx hF
    have hW := nmW e5 hW
    have g6 : h4.2.2 = h.2.2 := by rw [e5]; exact g3
    obtain rfl := sj hF
    exact hfin _ _ _ _ (wdW g6 hW) hS dX0_consider_102
  have j_56 : ∀ (t0_56 : Int32) (t1_56 : Nat) (hj56 : HP) (H : Heap) (locs : List Loc) (ls : Array Slot), hj56.2.2 = h.2.2 → t1_56 < gn h 0 → J_X0_consider_56 i0 a1 t0_56 t1_56 hj56 = some d → HW D cA A φ hj56 H → va_S A s.heap H locs → lv_has ls 4 [(0, .ref (φ 0 i0)), (1, .int a1)] → W p l e (rmo 1 21 0 0) s m args below meth c H locs 0 0 Q (F0 m 56 ls [.int t0_56, .ref (φ 0 t1_56)]) := by
    intro t0_56 t1_56 hj56 H locs ls gj56 alt1_56 hF hW hS hl
    unfold J_X0_consider_56 at hF
    refine r_puti X hW hS (gq gj56 alt1_56) fp_0_60 rfl rfl dX0_consider_56 (fun H locs hW hS => ?_)
    obtain ⟨h7, e8, hF⟩ := nmx hF
    have hW := nmW e8 hW
    have g9 : h7.2.2 = h.2.2 := by rw [e8]; exact gj56
    refine lv_aload_n hx hb dX0_consider_59 rfl (lv_at hl 0 rfl) ?_
    refine lv_dup hx hb dX0_consider_60 rfl ?_
    refine r_geti X hW (gq g9 al_0) fl_0_63 dX0_consider_61 ?_
    refine lv_iload_n hx hb dX0_consider_64 rfl (lv_at hl 1 rfl) ?_
    refine lv_ior hx hb dX0_consider_65 ?_
    refine r_puti X hW hS (gq g9 al_0) fp_0_63 rfl rfl dX0_consider_66 (fun H locs hW hS => ?_)
    obtain ⟨h10, e11, hF⟩ := nmx hF
    have hW := nmW e11 hW
    have g12 : h10.2.2 = h.2.2 := by rw [e11]; exact g9
    refine lv_aload_n hx hb dX0_consider_69 rfl (lv_at hl 0 rfl) ?_
    refine lv_aload_n hx hb dX0_consider_70 rfl (lv_at hl 0 rfl) ?_
    refine r_geti X hW (gq g12 al_0) fl_0_57 dX0_consider_71 ?_
    refine lv_if_ne (tgt := 81) hx hb dX0_consider_74 (by decide) (fun c15 => ?_) (fun c15 => ?_)
    · have hF := ie c15 hF
      refine lv_aload_n hx hb dX0_consider_81 rfl (lv_at hl 0 rfl) ?_
      refine r_geti X hW (gq g12 al_0) fl_0_9 dX0_consider_82 ?_
      refine lv_iload_n hx hb dX0_consider_85 rfl (lv_at hl 1 rfl) ?_
      obtain ⟨x14, e13, hF⟩ := bn hF
      refine rc_i (Af := fun φ => [.int (gi h10 0 i0 5), .int a1]) X hW hS ⟨Nat.zero_le _, Nat.zero_le _⟩ (rn_S (As := [.int (gi h10 0 i0 5), .int a1]) (rest := [.ref (φ 0 i0)]) X hW hS cw_0_66 ⟨Nat.le_of_ble_eq_true rfl, Nat.le_of_ble_eq_true rfl⟩ rfl hl.1 rfl (Nat.le_of_ble_eq_true rfl) dX0_consider_86) (ok_J_min (gi h10 0 i0 5) a1 e13) (fun H locs hW hS => ?_)
      exact j_89 x14 i0 h10 _ _ _ g12 al_0 hF hW hS (lv_sub hl [0] rfl)
    · have hF := it c15 hF
      refine lv_iload_n hx hb dX0_consider_77 rfl (lv_at hl 1 rfl) ?_
      refine lv_goto (tgt := 89) hx hb dX0_consider_78 (by decide) ?_
      exact j_89 a1 i0 h10 _ _ _ g12 al_0 hF hW hS (lv_sub hl [0] rfl)
  refine lv_iload_n hx hb dX0_consider_0 rfl (lv_at hl 2 rfl) ?_
  refine lv_aload_n hx hb dX0_consider_1 rfl (lv_at hl 0 rfl) ?_
  refine r_geti X hW al_0 fl_0_15 dX0_consider_2 ?_
  refine lv_isub hx hb dX0_consider_5 ?_
  obtain ⟨x17, e16, hF⟩ := bn hF
  refine rc_i (Af := fun φ => [.int (a2 - (gi h 0 i0 0))]) X hW hS ⟨Nat.zero_le _, Nat.zero_le _⟩ (rn_S (As := [.int (a2 - (gi h 0 i0 0))]) (rest := []) X hW hS cw_0_52 ⟨Nat.le_of_ble_eq_true rfl, Nat.le_of_ble_eq_true rfl⟩ rfl hl.1 rfl (Nat.le_of_ble_eq_true rfl) dX0_consider_6) (ok_J_abs (a2 - (gi h 0 i0 0)) e16) (fun H locs hW hS => ?_)
  refine lv_aload_n hx hb dX0_consider_9 rfl (lv_at hl 0 rfl) ?_
  refine r_geti X hW al_0 fl_0_18 dX0_consider_10 ?_
  refine lv_icmp_le (tgt := 17) hx hb dX0_consider_13 (by decide) (fun c21 => ?_) (fun c21 => ?_)
  · have hF := it c21 hF
    refine lv_iload_n hx hb dX0_consider_17 rfl (lv_at hl 3 rfl) ?_
    refine lv_aload_n hx hb dX0_consider_18 rfl (lv_at hl 0 rfl) ?_
    refine r_geti X hW al_0 fl_0_21 dX0_consider_19 ?_
    refine lv_iload_n hx hb dX0_consider_22 rfl (lv_at hl 2 rfl) ?_
    refine lv_imul hx hb dX0_consider_23 ?_
    refine lv_icmp_lt (tgt := 37) hx hb dX0_consider_24 (by decide) (fun c20 => ?_) (fun c20 => ?_)
    · have hF := it c20 hF
      obtain rfl := sj hF
      exact hfin _ _ _ _ (wdW rfl hW) hS dX0_consider_37
    · have hF := ie c20 hF
      refine lv_iload_n hx hb dX0_consider_27 rfl (lv_at hl 3 rfl) ?_
      refine lv_aload_n hx hb dX0_consider_28 rfl (lv_at hl 0 rfl) ?_
      refine r_geti X hW al_0 fl_0_24 dX0_consider_29 ?_
      refine lv_iload_n hx hb dX0_consider_32 rfl (lv_at hl 2 rfl) ?_
      refine lv_imul hx hb dX0_consider_33 ?_
      refine lv_icmp_le (tgt := 38) hx hb dX0_consider_34 (by decide) (fun c19 => ?_) (fun c19 => ?_)
      · have hF := it c19 hF
        refine lv_aload_n hx hb dX0_consider_38 rfl (lv_at hl 0 rfl) ?_
        refine lv_aload_n hx hb dX0_consider_39 rfl (lv_at hl 0 rfl) ?_
        refine r_geti X hW al_0 fl_0_57 dX0_consider_40 ?_
        refine lv_if_ne (tgt := 50) hx hb dX0_consider_43 (by decide) (fun c18 => ?_) (fun c18 => ?_)
        · have hF := ie c18 hF
          refine lv_aload_n hx hb dX0_consider_50 rfl (lv_at hl 0 rfl) ?_
          refine r_geti X hW al_0 fl_0_60 dX0_consider_51 ?_
          refine lv_iload_n hx hb dX0_consider_54 rfl (lv_at hl 1 rfl) ?_
          refine lv_iand hx hb dX0_consider_55 ?_
          exact j_56 ((gi h 0 i0 6) &&& a1) i0 h _ _ _ rfl al_0 hF hW hS (lv_sub hl [0, 1] rfl)
        · have hF := it c18 hF
          refine lv_iload_n hx hb dX0_consider_46 rfl (lv_at hl 1 rfl) ?_
          refine lv_goto (tgt := 56) hx hb dX0_consider_47 (by decide) ?_
          exact j_56 a1 i0 h _ _ _ rfl al_0 hF hW hS (lv_sub hl [0, 1] rfl)
      · have hF := ie c19 hF
        obtain rfl := sj hF
        exact hfin _ _ _ _ (wdW rfl hW) hS dX0_consider_37
  · have hF := ie c21 hF
    obtain rfl := sj hF
    exact hfin _ _ _ _ (wdW rfl hW) hS dX0_consider_16
