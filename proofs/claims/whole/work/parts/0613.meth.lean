def F_X12_kept (i0 : Nat) (a1 : Int32) (a2 : Int32) (h : HP) : Option (Int32 × DP) :=
  (F_X12_isParish i0 a1 h).bind fun x2 =>
  (if x2 = 0 then
  some ((-2), dp h)
  else
  (F_X12_in ((a2).toInt64) 0 (((gi h 12 i0 5)).toInt64)).bind fun x4 =>
  (if x4 = 0 then
  some ((-2), dp h)
  else
  (F_X12_reads i0 h).bind fun q10 => u2 q10 fun x11 d9 => nm (wd h d9) fun h6 =>
  (F_X12_keptOf i0 a1 a2 h6).bind fun x13 =>
  some (x13, dp h6)))
set_option maxHeartbeats 4000000 in
set_option maxRecDepth 100000 in
theorem ok_X12_kept {l : Launch} {D : va_G} {cA : Nat → ClassId} {h : HP} {r : Int32} {d : DP} (i0 : Nat) (a1 : Int32) (a2 : Int32) (al_0 : i0 < gn h 12) (hF : F_X12_kept i0 a1 a2 h = some (r, d)) : MI l D cA yX12_kept cX12_kept 3 (some .int) 4 97 (fun φ => [.ref (φ 12 i0), .int a1, .int a2]) h r (wd h d) := by
  refine mk_I (plainFor_of_name (by decide)) (fun φ => Nat.le_of_ble_eq_true rfl) ?_
  intro p e s m args below meth c ls φ A Q X hW hS hl hfin
  have hx := X.1
  have hb := X.2.1
  have hl : lv_has ls 3 [(0, .ref (φ 12 i0)), (1, .int a1), (2, .int a2)] := hl
  unfold F_X12_kept at hF
  refine lv_aload_n hx hb dX12_kept_0 rfl (lv_at hl 0 rfl) ?_
  refine lv_iload_n hx hb dX12_kept_1 rfl (lv_at hl 1 rfl) ?_
  obtain ⟨x2, e1, hF⟩ := bn hF
  refine rc_i (Af := fun φ => [.ref (φ 12 i0), .int a1]) X hW hS ⟨Nat.zero_le _, Nat.zero_le _⟩ (rn_V (As := [.int a1]) (rest := []) X hW hS cw_12_175 al_0 rfl rfl rfl ⟨Nat.le_of_ble_eq_true rfl, Nat.le_of_ble_eq_true rfl⟩ rfl hl.1 rfl (Nat.le_of_ble_eq_true rfl) dX12_kept_2) (ok_X12_isParish i0 a1 al_0 e1) (fun H locs hW hS => ?_)
  refine lv_if_eq (tgt := 22) hx hb dX12_kept_5 (by decide) (fun c15 => ?_) (fun c15 => ?_)
  · have hF := it c15 hF
    refine lv_bipush (v := (-2)) hx hb dX12_kept_22 (by decide) ?_
    obtain ⟨rfl, rfl⟩ := sj2 hF
    exact hfin _ _ _ _ (wdW rfl hW) hS dX12_kept_24
  · have hF := ie c15 hF
    refine lv_iload_n hx hb dX12_kept_8 rfl (lv_at hl 2 rfl) ?_
    refine lv_i2l (v := (a2).toInt64) hx hb dX12_kept_9 rfl ?_
    refine lv_lconst (v := 0) hx hb dX12_kept_10 (by decide) ?_
    refine lv_aload_n hx hb dX12_kept_11 rfl (lv_at hl 0 rfl) ?_
    refine r_geti X hW al_0 fl_12_172 dX12_kept_12 ?_
    refine lv_i2l (v := ((gi h 12 i0 5)).toInt64) hx hb dX12_kept_15 rfl ?_
    obtain ⟨x4, e3, hF⟩ := bn hF
    refine rc_i (Af := fun φ => [.long ((a2).toInt64), .long 0, .long (((gi h 12 i0 5)).toInt64)]) X hW hS ⟨Nat.zero_le _, Nat.zero_le _⟩ (rn_S (As := [.long ((a2).toInt64), .long 0, .long (((gi h 12 i0 5)).toInt64)]) (rest := []) X hW hS cw_12_139 ⟨Nat.le_of_ble_eq_true rfl, Nat.le_of_ble_eq_true rfl⟩ rfl hl.1 rfl (Nat.le_of_ble_eq_true rfl) dX12_kept_16) (ok_X12_in ((a2).toInt64) 0 (((gi h 12 i0 5)).toInt64) e3) (fun H locs hW hS => ?_)
    refine lv_if_ne (tgt := 25) hx hb dX12_kept_19 (by decide) (fun c14 => ?_) (fun c14 => ?_)
    · have hF := ie c14 hF
      refine lv_aload_n hx hb dX12_kept_25 rfl (lv_at hl 0 rfl) ?_
      obtain ⟨q10, e5, hF⟩ := bn hF
      obtain ⟨x11, d9⟩ := q10
      have hF := u2d hF
      refine rc_i (Af := fun φ => [.ref (φ 12 i0)]) X hW hS ⟨Nat.zero_le _, Nat.zero_le _⟩ (rn_V (As := []) (rest := []) X hW hS cw_12_234 al_0 rfl rfl rfl ⟨Nat.le_of_ble_eq_true rfl, Nat.le_of_ble_eq_true rfl⟩ rfl hl.1 rfl (Nat.le_of_ble_eq_true rfl) dX12_kept_26) (ok_X12_reads i0 al_0 e5) (fun H locs hW hS => ?_)
      obtain ⟨h6, e8, hF⟩ := nmx hF
      have hW := nmW e8 hW
      have g7 : h6.2.2 = h.2.2 := by rw [e8]; exact rfl
      refine lv_pop hx hb dX12_kept_29 rfl ?_
      refine lv_aload_n hx hb dX12_kept_30 rfl (lv_at hl 0 rfl) ?_
      refine lv_iload_n hx hb dX12_kept_31 rfl (lv_at hl 1 rfl) ?_
      refine lv_iload_n hx hb dX12_kept_32 rfl (lv_at hl 2 rfl) ?_
      obtain ⟨x13, e12, hF⟩ := bn hF
      refine rc_i (Af := fun φ => [.ref (φ 12 i0), .int a1, .int a2]) X hW hS ⟨Nat.zero_le _, Nat.zero_le _⟩ (rn_V (As := [.int a1, .int a2]) (rest := []) X hW hS cw_12_250 (gq g7 al_0) rfl rfl rfl ⟨Nat.le_of_ble_eq_true rfl, Nat.le_of_ble_eq_true rfl⟩ rfl hl.1 rfl (Nat.le_of_ble_eq_true rfl) dX12_kept_33) (ok_X12_keptOf i0 a1 a2 (gq g7 al_0) e12) (fun H locs hW hS => ?_)
      obtain ⟨rfl, rfl⟩ := sj2 hF
      exact hfin _ _ _ _ (wdW g7 hW) hS dX12_kept_36
    · have hF := it c14 hF
      refine lv_bipush (v := (-2)) hx hb dX12_kept_22 (by decide) ?_
      obtain ⟨rfl, rfl⟩ := sj2 hF
      exact hfin _ _ _ _ (wdW rfl hW) hS dX12_kept_24
def F_X12_list (i0 : Nat) (a1 : Int32) (a2 : Int32) (h : HP) : Option (Int32 × DP) :=
  (F_X12_isBell i0 a1 h).bind fun x2 =>
  (if x2 = 0 then
  some ((-1000), dp h)
  else
  (F_X12_in ((a2).toInt64) (-1) 3).bind fun x4 =>
  (if x4 = 0 then
  some ((-1000), dp h)
  else
  (gr h 12 i0 14).bind fun o5 =>
  (ga h 55 o5 20 a1).bind fun x8 =>
  (gr h 12 i0 14).bind fun o11 =>
  (sa h 55 o11 20 a1 a2).bind fun h14 =>
  some (x8, dp h14)))
set_option maxHeartbeats 4000000 in
set_option maxRecDepth 100000 in
theorem ok_X12_list {l : Launch} {D : va_G} {cA : Nat → ClassId} {h : HP} {r : Int32} {d : DP} (i0 : Nat) (a1 : Int32) (a2 : Int32) (al_0 : i0 < gn h 12) (hF : F_X12_list i0 a1 a2 h = some (r, d)) : MI l D cA yX12_list cX12_list 4 (some .int) 2 46 (fun φ => [.ref (φ 12 i0), .int a1, .int a2]) h r (wd h d) := by
  refine mk_I (plainFor_of_name (by decide)) (fun φ => Nat.le_of_ble_eq_true rfl) ?_
  intro p e s m args below meth c ls φ A Q X hW hS hl hfin
  have hx := X.1
  have hb := X.2.1
  have hl : lv_has ls 4 [(0, .ref (φ 12 i0)), (1, .int a1), (2, .int a2)] := hl
  unfold F_X12_list at hF
  refine lv_aload_n hx hb dX12_list_0 rfl (lv_at hl 0 rfl) ?_
  refine lv_iload_n hx hb dX12_list_1 rfl (lv_at hl 1 rfl) ?_
  obtain ⟨x2, e1, hF⟩ := bn hF
  refine rc_i (Af := fun φ => [.ref (φ 12 i0), .int a1]) X hW hS ⟨Nat.zero_le _, Nat.zero_le _⟩ (rn_V (As := [.int a1]) (rest := []) X hW hS cw_12_190 al_0 rfl rfl rfl ⟨Nat.le_of_ble_eq_true rfl, Nat.le_of_ble_eq_true rfl⟩ rfl hl.1 rfl (Nat.le_of_ble_eq_true rfl) dX12_list_2) (ok_X12_isBell i0 a1 al_0 e1) (fun H locs hW hS => ?_)
  refine lv_if_eq (tgt := 22) hx hb dX12_list_5 (by decide) (fun c19 => ?_) (fun c19 => ?_)
  · have hF := it c19 hF
    refine lv_sipush (v := (-1000)) hx hb dX12_list_22 (by decide) ?_
    obtain ⟨rfl, rfl⟩ := sj2 hF
    exact hfin _ _ _ _ (wdW rfl hW) hS dX12_list_25
  · have hF := ie c19 hF
    refine lv_iload_n hx hb dX12_list_8 rfl (lv_at hl 2 rfl) ?_
    refine lv_i2l (v := (a2).toInt64) hx hb dX12_list_9 rfl ?_
    refine lv_ldc2 (v := (-1)) hx hb X.2.2.2.1 (X.2.2.2.2.1 _ (AL_of 1247 (by decide +kernel) rfl)) dX12_list_10 ?_
    refine lv_ldc2 (v := 3) hx hb X.2.2.2.1 (X.2.2.2.2.1 _ (AL_of 1175 (by decide +kernel) rfl)) dX12_list_13 ?_
    obtain ⟨x4, e3, hF⟩ := bn hF
    refine rc_i (Af := fun φ => [.long ((a2).toInt64), .long (-1), .long 3]) X hW hS ⟨Nat.zero_le _, Nat.zero_le _⟩ (rn_S (As := [.long ((a2).toInt64), .long (-1), .long 3]) (rest := []) X hW hS cw_12_139 ⟨Nat.le_of_ble_eq_true rfl, Nat.le_of_ble_eq_true rfl⟩ rfl hl.1 rfl (Nat.le_of_ble_eq_true rfl) dX12_list_16) (ok_X12_in ((a2).toInt64) (-1) 3 e3) (fun H locs hW hS => ?_)
    refine lv_if_ne (tgt := 26) hx hb dX12_list_19 (by decide) (fun c18 => ?_) (fun c18 => ?_)
    · have hF := ie c18 hF
      refine lv_aload_n hx hb dX12_list_26 rfl (lv_at hl 0 rfl) ?_
      obtain ⟨o5, e6, hF⟩ := bn hF
      refine r_getr X hW al_0 fl_12_40 e6 dX12_list_27 (fun al7 => ?_)
      refine lv_iload_n hx hb dX12_list_30 rfl (lv_at hl 1 rfl) ?_
      obtain ⟨x8, e9, hF⟩ := bn hF
      obtain ⟨b10, e9⟩ := ga_s e9
      refine r_iald X hW al7 rfl b10 dX12_list_31 ?_
      refine nmi e9 ?_
      refine lv_istore_n (lv' := [(3, .int x8), (0, .ref (φ 12 i0)), (1, .int a1), (2, .int a2)]) hx hb dX12_list_32 rfl hl (by decide) rfl (fun ls hl => ?_)
      refine lv_aload_n hx hb dX12_list_33 rfl (lv_at hl 1 rfl) ?_
      obtain ⟨o11, e12, hF⟩ := bn hF
      refine r_getr X hW al_0 fl_12_40 e12 dX12_list_34 (fun al13 => ?_)
      refine lv_iload_n hx hb dX12_list_37 rfl (lv_at hl 2 rfl) ?_
      refine lv_iload_n hx hb dX12_list_38 rfl (lv_at hl 3 rfl) ?_
      obtain ⟨h14, e15, hF⟩ := bn hF
      obtain ⟨b16, e15⟩ := sa_s e15
      refine r_iast X hW hS al13 rfl b16 dX12_list_39 (fun H locs hW hS => ?_)
      have hW := nmW e15 hW
      have g17 : h14.2.2 = h.2.2 := by rw [e15]; exact rfl
      refine lv_iload_n hx hb dX12_list_40 rfl (lv_at hl 0 rfl) ?_
      obtain ⟨rfl, rfl⟩ := sj2 hF
      exact hfin _ _ _ _ (wdW g17 hW) hS dX12_list_41
    · have hF := it c18 hF
      refine lv_sipush (v := (-1000)) hx hb dX12_list_22 (by decide) ?_
      obtain ⟨rfl, rfl⟩ := sj2 hF
      exact hfin _ _ _ _ (wdW rfl hW) hS dX12_list_25
def B_X12_gained_28 (i0 : Nat) (a1 : Int32) (a2 : Int32) (h6 : HP) (q : Int32 × Int32) : Option ((Int32 × Int32) ⊕ (Int32)) :=
  u2 q fun x12 x13 =>
  (if (gi h6 12 i0 8) ≤ x13 then
  some (.inr x12)
  else
  (gr h6 12 i0 9).bind fun o14 =>
  (ga h6 50 o14 20 x13).bind fun x17 =>
  (if x17 = a1 then
  (gr h6 12 i0 14).bind fun o24 =>
  (ga h6 55 o24 20 x13).bind fun x27 =>
  (if x27 = (-1) then
  nm ((x12 + 0)) fun x30 =>
  nm (x13 + 1) fun x32 =>
  some (.inl (x30, x32))
  else
  (gr h6 12 i0 10).bind fun o34 =>
  (ga h6 51 o34 20 x13).bind fun x37 =>
  (gr h6 12 i0 14).bind fun o40 =>
  (ga h6 55 o40 20 x13).bind fun x43 =>
  (F_X12_letterOf i0 x13 a2 h6).bind fun x47 =>
  nm ((x12 + (x37 * (x43 - x47)))) fun x48 =>
  nm (x13 + 1) fun x50 =>
  some (.inl (x48, x50)))
  else
  nm ((x12 + 0)) fun x20 =>
  nm (x13 + 1) fun x22 =>
  some (.inl (x20, x22))))
def F_X12_gained (i0 : Nat) (a1 : Int32) (a2 : Int32) (h : HP) : Option (Int32 × DP) :=
  (F_X12_isParish i0 a1 h).bind fun x2 =>
  (if x2 = 0 then
  some ((-2147483648), dp h)
  else
  (F_X12_isWeek a2).bind fun x4 =>
  (if x4 = 0 then
  some ((-2147483648), dp h)
  else
  (F_X12_reads i0 h).bind fun q10 => u2 q10 fun x11 d9 => nm (wd h d9) fun h6 =>
  (loopN LF (B_X12_gained_28 i0 a1 a2 h6) (0, 0)).bind fun x57 =>
  some (x57, dp h6)))
set_option maxHeartbeats 4000000 in
set_option maxRecDepth 100000 in
theorem ok_X12_gained {l : Launch} {D : va_G} {cA : Nat → ClassId} {h : HP} {r : Int32} {d : DP} (i0 : Nat) (a1 : Int32) (a2 : Int32) (al_0 : i0 < gn h 12) (hF : F_X12_gained i0 a1 a2 h = some (r, d)) : MI l D cA yX12_gained cX12_gained 5 (some .int) 4 97 (fun φ => [.ref (φ 12 i0), .int a1, .int a2]) h r (wd h d) := by
  refine mk_I (plainFor_of_name (by decide)) (fun φ => Nat.le_of_ble_eq_true rfl) ?_
  intro p e s m args below meth c ls φ A Q X hW hS hl hfin
  have hx := X.1
  have hb := X.2.1
  have hl : lv_has ls 5 [(0, .ref (φ 12 i0)), (1, .int a1), (2, .int a2)] := hl
  unfold F_X12_gained at hF
  refine lv_aload_n hx hb dX12_gained_0 rfl (lv_at hl 0 rfl) ?_
  refine lv_iload_n hx hb dX12_gained_1 rfl (lv_at hl 1 rfl) ?_
  obtain ⟨x2, e1, hF⟩ := bn hF
  refine rc_i (Af := fun φ => [.ref (φ 12 i0), .int a1]) X hW hS ⟨Nat.zero_le _, Nat.zero_le _⟩ (rn_V (As := [.int a1]) (rest := []) X hW hS cw_12_175 al_0 rfl rfl rfl ⟨Nat.le_of_ble_eq_true rfl, Nat.le_of_ble_eq_true rfl⟩ rfl hl.1 rfl (Nat.le_of_ble_eq_true rfl) dX12_gained_2) (ok_X12_isParish i0 a1 al_0 e1) (fun H locs hW hS => ?_)
  refine lv_if_eq (tgt := 15) hx hb dX12_gained_5 (by decide) (fun c59 => ?_) (fun c59 => ?_)
  · have hF := it c59 hF
    refine lv_ldc (v := (-2147483648)) hx hb X.2.2.2.1 (X.2.2.2.2.1 _ (AL_of 1203 (by decide +kernel) rfl)) dX12_gained_15 ?_
    obtain ⟨rfl, rfl⟩ := sj2 hF
    exact hfin _ _ _ _ (wdW rfl hW) hS dX12_gained_17
  · have hF := ie c59 hF
    refine lv_iload_n hx hb dX12_gained_8 rfl (lv_at hl 2 rfl) ?_
    obtain ⟨x4, e3, hF⟩ := bn hF
    refine rc_i (Af := fun φ => [.int a2]) X hW hS ⟨Nat.zero_le _, Nat.zero_le _⟩ (rn_S (As := [.int a2]) (rest := []) X hW hS cw_12_244 ⟨Nat.le_of_ble_eq_true rfl, Nat.le_of_ble_eq_true rfl⟩ rfl hl.1 rfl (Nat.le_of_ble_eq_true rfl) dX12_gained_9) (ok_X12_isWeek a2 e3) (fun H locs hW hS => ?_)
    refine lv_if_ne (tgt := 18) hx hb dX12_gained_12 (by decide) (fun c58 => ?_) (fun c58 => ?_)
    · have hF := ie c58 hF
      refine lv_aload_n hx hb dX12_gained_18 rfl (lv_at hl 0 rfl) ?_
      obtain ⟨q10, e5, hF⟩ := bn hF
      obtain ⟨x11, d9⟩ := q10
      have hF := u2d hF
      refine rc_i (Af := fun φ => [.ref (φ 12 i0)]) X hW hS ⟨Nat.zero_le _, Nat.zero_le _⟩ (rn_V (As := []) (rest := []) X hW hS cw_12_234 al_0 rfl rfl rfl ⟨Nat.le_of_ble_eq_true rfl, Nat.le_of_ble_eq_true rfl⟩ rfl hl.1 rfl (Nat.le_of_ble_eq_true rfl) dX12_gained_19) (ok_X12_reads i0 al_0 e5) (fun H locs hW hS => ?_)
      obtain ⟨h6, e8, hF⟩ := nmx hF
      have hW := nmW e8 hW
      have g7 : h6.2.2 = h.2.2 := by rw [e8]; exact rfl
      refine lv_pop hx hb dX12_gained_22 rfl ?_
      refine lv_iconst (v := 0) hx hb dX12_gained_23 (by decide) ?_
      refine lv_istore_n (lv' := [(3, .int 0), (0, .ref (φ 12 i0)), (1, .int a1), (2, .int a2)]) hx hb dX12_gained_24 rfl hl (by decide) rfl (fun ls hl => ?_)
      refine lv_iconst (v := 0) hx hb dX12_gained_25 (by decide) ?_
      refine lv_istore (lv' := [(4, .int 0), (3, .int 0), (0, .ref (φ 12 i0)), (1, .int a1), (2, .int a2)]) hx hb dX12_gained_26 hl (by decide) rfl (fun ls hl => ?_)
      obtain ⟨q55, e56, hF⟩ := bn hF
      refine loop_w (f := B_X12_gained_28 i0 a1 a2 h6) (Z := fun q => ∀ (H : Heap) (locs : List Loc) (ls : Array Slot), HW D cA A φ h6 H → va_S A s.heap H locs → lv_has ls 5 [(0, .ref (φ 12 i0)), (1, .int a1), (2, .int a2), (3, .int (q.1)), (4, .int (q.2))] → W p l e (rmo 4 97 0 0) s m args below meth c H locs 0 0 Q (F0 m 28 ls [])) (K := fun q => ∀ (H : Heap) (locs : List Loc) (ls : Array Slot), HW D cA A φ h6 H → va_S A s.heap H locs → lv_has ls 5 [(3, .int q)] → W p l e (rmo 4 97 0 0) s m args below meth c H locs 0 0 Q (F0 m 95 ls [])) ?_ LF _ q55 e56 ?_ _ _ _ hW hS (lv_sub hl [2, 3, 4, 1, 0] rfl)
      · intro q v hF hK H locs ls hW hS hl
        obtain ⟨x12, x13⟩ := q
        unfold B_X12_gained_28 at hF
        have hF := u2d hF
        have hl : lv_has ls 5 [(0, .ref (φ 12 i0)), (1, .int a1), (2, .int a2), (3, .int x12), (4, .int x13)] := hl
        refine lv_iload hx hb dX12_gained_28 (lv_at hl 4 rfl) ?_
        refine lv_aload_n hx hb dX12_gained_30 rfl (lv_at hl 0 rfl) ?_
        refine r_geti X hW (gq g7 al_0) fl_12_167 dX12_gained_31 ?_
        refine lv_icmp_ge (tgt := 95) hx hb dX12_gained_34 (by decide) (fun c54 => ?_) (fun c54 => ?_)
        · have hF := it c54 hF
          obtain rfl := sj hF
          exact hK _ _ _ hW hS (lv_sub hl [3] rfl)
        · have hF := ie c54 hF
          refine lv_iload_n hx hb dX12_gained_37 rfl (lv_at hl 3 rfl) ?_
          refine lv_aload_n hx hb dX12_gained_38 rfl (lv_at hl 0 rfl) ?_
          obtain ⟨o14, e15, hF⟩ := bn hF
          refine r_getr X hW (gq g7 al_0) fl_12_25 e15 dX12_gained_39 (fun al16 => ?_)
          have al16 := qg g7 al16
          refine lv_iload hx hb dX12_gained_42 (lv_at hl 4 rfl) ?_
          obtain ⟨x17, e18, hF⟩ := bn hF
          obtain ⟨b19, e18⟩ := ga_s e18
          refine r_iald X hW (gq g7 al16) rfl b19 dX12_gained_44 ?_
          refine nmi e18 ?_
          refine lv_iload_n hx hb dX12_gained_45 rfl (lv_at hl 1 rfl) ?_
          refine lv_icmp_ne (tgt := 86) hx hb dX12_gained_46 (by decide) (fun c53 => ?_) (fun c53 => ?_)
          · have hF := ie c53 hF
            refine lv_iconst (v := 0) hx hb dX12_gained_86 (by decide) ?_
            refine lv_iadd hx hb dX12_gained_87 ?_
            obtain ⟨x20, e21, hF⟩ := nmx hF
            refine nmi e21 ?_
            refine lv_istore_n (lv' := [(3, .int x20), (0, .ref (φ 12 i0)), (1, .int a1), (2, .int a2), (4, .int x13)]) hx hb dX12_gained_88 rfl hl (by decide) rfl (fun ls hl => ?_)
            obtain ⟨x22, e23, hF⟩ := nmx hF
            refine lv_iinc (v := x22) (lv' := [(4, .int x22), (3, .int x20), (0, .ref (φ 12 i0)), (1, .int a1), (2, .int a2)]) hx hb dX12_gained_89 hl (k := 4) rfl (by rw [e23]; rfl) (by decide) rfl (fun ls hl => ?_)
            refine lv_goto (tgt := 28) hx hb dX12_gained_92 (by decide) ?_
            obtain rfl := sj hF
            exact hK _ _ _ hW hS (lv_sub hl [2, 3, 4, 1, 0] rfl)
          · have hF := it c53 hF
            refine lv_aload_n hx hb dX12_gained_49 rfl (lv_at hl 0 rfl) ?_
            obtain ⟨o24, e25, hF⟩ := bn hF
            refine r_getr X hW (gq g7 al_0) fl_12_40 e25 dX12_gained_50 (fun al26 => ?_)
            have al26 := qg g7 al26
            refine lv_iload hx hb dX12_gained_53 (lv_at hl 4 rfl) ?_
            obtain ⟨x27, e28, hF⟩ := bn hF
            obtain ⟨b29, e28⟩ := ga_s e28
            refine r_iald X hW (gq g7 al26) rfl b29 dX12_gained_55 ?_
            refine nmi e28 ?_
            refine lv_iconst (v := (-1)) hx hb dX12_gained_56 (by decide) ?_
            refine lv_icmp_eq (tgt := 86) hx hb dX12_gained_57 (by decide) (fun c52 => ?_) (fun c52 => ?_)
            · have hF := it c52 hF
              refine lv_iconst (v := 0) hx hb dX12_gained_86 (by decide) ?_
              refine lv_iadd hx hb dX12_gained_87 ?_
              obtain ⟨x30, e31, hF⟩ := nmx hF
              refine nmi e31 ?_
              refine lv_istore_n (lv' := [(3, .int x30), (0, .ref (φ 12 i0)), (1, .int a1), (2, .int a2), (4, .int x13)]) hx hb dX12_gained_88 rfl hl (by decide) rfl (fun ls hl => ?_)
              obtain ⟨x32, e33, hF⟩ := nmx hF
              refine lv_iinc (v := x32) (lv' := [(4, .int x32), (3, .int x30), (0, .ref (φ 12 i0)), (1, .int a1), (2, .int a2)]) hx hb dX12_gained_89 hl (k := 4) rfl (by rw [e33]; rfl) (by decide) rfl (fun ls hl => ?_)
              refine lv_goto (tgt := 28) hx hb dX12_gained_92 (by decide) ?_
              obtain rfl := sj hF
              exact hK _ _ _ hW hS (lv_sub hl [2, 3, 4, 1, 0] rfl)
            · have hF := ie c52 hF
              refine lv_aload_n hx hb dX12_gained_60 rfl (lv_at hl 0 rfl) ?_
              obtain ⟨o34, e35, hF⟩ := bn hF
              refine r_getr X hW (gq g7 al_0) fl_12_28 e35 dX12_gained_61 (fun al36 => ?_)
              have al36 := qg g7 al36
              refine lv_iload hx hb dX12_gained_64 (lv_at hl 4 rfl) ?_
              obtain ⟨x37, e38, hF⟩ := bn hF
              obtain ⟨b39, e38⟩ := ga_s e38
              refine r_iald X hW (gq g7 al36) rfl b39 dX12_gained_66 ?_
              refine nmi e38 ?_
              refine lv_aload_n hx hb dX12_gained_67 rfl (lv_at hl 0 rfl) ?_
              obtain ⟨o40, e41, hF⟩ := bn hF
              refine r_getr X hW (gq g7 al_0) fl_12_40 e41 dX12_gained_68 (fun al42 => ?_)
              have al42 := qg g7 al42
              refine lv_iload hx hb dX12_gained_71 (lv_at hl 4 rfl) ?_
              obtain ⟨x43, e44, hF⟩ := bn hF
              obtain ⟨b45, e44⟩ := ga_s e44
              refine r_iald X hW (gq g7 al42) rfl b45 dX12_gained_73 ?_
              refine nmi e44 ?_
              refine lv_aload_n hx hb dX12_gained_74 rfl (lv_at hl 0 rfl) ?_
              refine lv_iload hx hb dX12_gained_75 (lv_at hl 4 rfl) ?_
              refine lv_iload_n hx hb dX12_gained_77 rfl (lv_at hl 2 rfl) ?_
              obtain ⟨x47, e46, hF⟩ := bn hF
              refine rc_i (Af := fun φ => [.ref (φ 12 i0), .int x13, .int a2]) X hW hS ⟨Nat.zero_le _, Nat.zero_le _⟩ (rn_V (As := [.int x13, .int a2]) (rest := [.int x43, .int x37, .int x12]) X hW hS cw_12_247 (gq g7 al_0) rfl rfl rfl ⟨Nat.le_of_ble_eq_true rfl, Nat.le_of_ble_eq_true rfl⟩ rfl hl.1 rfl (Nat.le_of_ble_eq_true rfl) dX12_gained_78) (ok_X12_letterOf i0 x13 a2 (gq g7 al_0) e46) (fun H locs hW hS => ?_)
              refine lv_isub hx hb dX12_gained_81 ?_
              refine lv_imul hx hb dX12_gained_82 ?_
              refine lv_goto (tgt := 87) hx hb dX12_gained_83 (by decide) ?_
              refine lv_iadd hx hb dX12_gained_87 ?_
              obtain ⟨x48, e49, hF⟩ := nmx hF
              refine nmi e49 ?_
              refine lv_istore_n (lv' := [(3, .int x48), (0, .ref (φ 12 i0)), (1, .int a1), (2, .int a2), (4, .int x13)]) hx hb dX12_gained_88 rfl hl (by decide) rfl (fun ls hl => ?_)
              obtain ⟨x50, e51, hF⟩ := nmx hF
              refine lv_iinc (v := x50) (lv' := [(4, .int x50), (3, .int x48), (0, .ref (φ 12 i0)), (1, .int a1), (2, .int a2)]) hx hb dX12_gained_89 hl (k := 4) rfl (by rw [e51]; rfl) (by decide) rfl (fun ls hl => ?_)
              refine lv_goto (tgt := 28) hx hb dX12_gained_92 (by decide) ?_
              obtain rfl := sj hF
              exact hK _ _ _ hW hS (lv_sub hl [2, 3, 4, 1, 0] rfl)
      · intro H locs ls hW hS hl
        obtain ⟨x57, rfl⟩ : ∃ z, z = q55 := ⟨_, rfl⟩
        have hl : lv_has ls 5 [(3, .int x57)] := hl
        refine lv_iload_n hx hb dX12_gained_95 rfl (lv_at hl 0 rfl) ?_
        obtain ⟨rfl, rfl⟩ := sj2 hF
        exact hfin _ _ _ _ (wdW g7 hW) hS dX12_gained_96
    · have hF := it c58 hF
      refine lv_ldc (v := (-2147483648)) hx hb X.2.2.2.1 (X.2.2.2.2.1 _ (AL_of 1203 (by decide +kernel) rfl)) dX12_gained_15 ?_
      obtain ⟨rfl, rfl⟩ := sj2 hF
      exact hfin _ _ _ _ (wdW rfl hW) hS dX12_gained_17
def F_X12_isUnnamed (i0 : Nat) (a1 : Int32) (h : HP) : Option (Int32) :=
  (F_X12_in ((a1).toInt64) 0 ((((gi h 12 i0 28) - 1)).toInt64)).bind fun x2 =>
  (bz x2).bind fun x3 => some x3
set_option maxHeartbeats 4000000 in
set_option maxRecDepth 100000 in
theorem ok_X12_isUnnamed {l : Launch} {D : va_G} {cA : Nat → ClassId} {h : HP} {r : Int32}  (i0 : Nat) (a1 : Int32) (al_0 : i0 < gn h 12) (hF : F_X12_isUnnamed i0 a1 h = some r) : MI l D cA yX12_isUnnamed cX12_isUnnamed 2 (some .boolean) 1 25 (fun φ => [.ref (φ 12 i0), .int a1]) h r h := by
  refine mk_Z (plainFor_of_name (by decide)) (fun φ => Nat.le_of_ble_eq_true rfl) ?_
  intro p e s m args below meth c ls φ A Q X hW hS hl hfin
  have hx := X.1
  have hb := X.2.1
  have hl : lv_has ls 2 [(0, .ref (φ 12 i0)), (1, .int a1)] := hl
  unfold F_X12_isUnnamed at hF
  refine lv_iload_n hx hb dX12_isUnnamed_0 rfl (lv_at hl 1 rfl) ?_
  refine lv_i2l (v := (a1).toInt64) hx hb dX12_isUnnamed_1 rfl ?_
  refine lv_lconst (v := 0) hx hb dX12_isUnnamed_2 (by decide) ?_
  refine lv_aload_n hx hb dX12_isUnnamed_3 rfl (lv_at hl 0 rfl) ?_
  refine r_geti X hW al_0 fl_12_253 dX12_isUnnamed_4 ?_
  refine lv_iconst (v := 1) hx hb dX12_isUnnamed_7 (by decide) ?_
  refine lv_isub hx hb dX12_isUnnamed_8 ?_
  refine lv_i2l (v := (((gi h 12 i0 28) - 1)).toInt64) hx hb dX12_isUnnamed_9 rfl ?_
  obtain ⟨x2, e1, hF⟩ := bn hF
  refine rc_i (Af := fun φ => [.long ((a1).toInt64), .long 0, .long ((((gi h 12 i0 28) - 1)).toInt64)]) X hW hS ⟨Nat.zero_le _, Nat.zero_le _⟩ (rn_S (As := [.long ((a1).toInt64), .long 0, .long ((((gi h 12 i0 28) - 1)).toInt64)]) (rest := []) X hW hS cw_12_139 ⟨Nat.le_of_ble_eq_true rfl, Nat.le_of_ble_eq_true rfl⟩ rfl hl.1 rfl (Nat.le_of_ble_eq_true rfl) dX12_isUnnamed_10) (ok_X12_in ((a1).toInt64) 0 ((((gi h 12 i0 28) - 1)).toInt64) e1) (fun H locs hW hS => ?_)
  obtain ⟨x3, e4, hF⟩ := bn hF
  obtain ⟨b5, e4⟩ := bz_s e4
  refine nmi e4 ?_
  rw [← e4] at b5
  obtain rfl := sj hF
  exact hfin _ _ _ _ hW hS b5 dX12_isUnnamed_13
def J_X12_find_150 (i0 : Nat) (a1 : Int32) (a2 : Int32) (a3 : Int32) (a4 : Int32) (v5_150 : Int32) (t0_150 : Int32) (t1_150 : Int32) (t2_150 : Nat) (hj150 : HP) : Option ((Int32 × DP) ⊕ (DP)) :=
  (sa hj150 66 t2_150 40 t1_150 t0_150).bind fun h19 =>
  nm (v5_150 + 1) fun x23 =>
  some (.inl (x23, (dp h19)))
def B_X12_find_98 (i0 : Nat) (a1 : Int32) (a2 : Int32) (a3 : Int32) (a4 : Int32) (hj36 : HP) (q : Int32 × DP) : Option ((Int32 × DP) ⊕ (DP)) :=
  u2 q fun x15 d18 =>
  nm (wd hj36 d18) fun h16 =>
  (if 5 ≤ x15 then
  some (.inr (dp h16))
  else
  (gr h16 12 i0 2).bind fun o25 =>
  (ga h16 47 o25 240 ((60 * a1) + x15)).bind fun x28 =>
  (gr h16 12 i0 29).bind fun o31 =>
  (F_X12_in ((x28).toInt64) 0 9999).bind fun x35 =>
  (if x35 = 0 then
  J_X12_find_150 i0 a1 a2 a3 a4 x15 (-1) ((5 * (gi h16 12 i0 28)) + x15) o31 h16
  else
  J_X12_find_150 i0 a1 a2 a3 a4 x15 x28 ((5 * (gi h16 12 i0 28)) + x15) o31 h16))
def J_X12_find_36 (i0 : Nat) (a1 : Int32) (a2 : Int32) (a3 : Int32) (a4 : Int32) (hj36 : HP) : Option (Int32 × DP) :=
  (F_X12_in ((a4).toInt64) 0 999).bind fun x2 =>
  (if x2 = 0 then
  some ((-2), dp hj36)
  else
  (gr hj36 12 i0 0).bind fun o3 =>
  (ga hj36 45 o3 4 a1).bind fun x6 =>
  (if 0 ≤ x6 then
  (gr hj36 12 i0 1).bind fun o9 =>
  (ga hj36 46 o9 4 a1).bind fun x12 =>
  (if 5 ≤ x12 then
  (if (gi hj36 12 i0 28) = 8 then
  some ((-4), dp hj36)
  else
  (loopN LF (B_X12_find_98 i0 a1 a2 a3 a4 hj36) (0, (dp hj36))).bind fun d41 =>
  nm (wd hj36 d41) fun h42 =>
  (gr h42 12 i0 30).bind fun o44 =>
  (sa h42 67 o44 8 (gi h42 12 i0 28) a2).bind fun h47 =>
  (gr h47 12 i0 31).bind fun o51 =>
  (sa h47 68 o51 8 (gi h47 12 i0 28) a3).bind fun h54 =>
  (gr h54 12 i0 32).bind fun o58 =>
  (sa h54 69 o58 8 (gi h54 12 i0 28) a4).bind fun h61 =>
  nm (si h61 12 i0 28 ((gi h61 12 i0 28) + 1)) fun h65 =>
  some (((gi h65 12 i0 28) - 1), dp h65))
  else
  (F_X12_met i0 2 hj36).bind fun q75 => u2 q75 fun x76 d74 => nm (wd hj36 d74) fun h71 =>
  some (x76, dp h71))
  else
  (F_X12_met i0 1 hj36).bind fun q83 => u2 q83 fun x84 d82 => nm (wd hj36 d82) fun h79 =>
  some (x84, dp h79)))
def F_X12_find (i0 : Nat) (a1 : Int32) (a2 : Int32) (a3 : Int32) (a4 : Int32) (h : HP) : Option (Int32 × DP) :=
  (F_X12_isSheet a1).bind fun x88 =>
  (if x88 = 0 then
  some ((-2), dp h)
  else
  (F_X12_in ((a2).toInt64) 0 99).bind fun x90 =>
  (if x90 = 0 then
  some ((-2), dp h)
  else
  (if a3 = (-1) then
  J_X12_find_36 i0 a1 a2 a3 a4 h
  else
  (F_X12_in ((a3).toInt64) 1 9999).bind fun x92 =>
  (if x92 = 0 then
  some ((-2), dp h)
  else
  J_X12_find_36 i0 a1 a2 a3 a4 h))))
set_option maxHeartbeats 4000000 in
set_option maxRecDepth 100000 in
theorem ok_X12_find {l : Launch} {D : va_G} {cA : Nat → ClassId} {h : HP} {r : Int32} {d : DP} (i0 : Nat) (a1 : Int32) (a2 : Int32) (a3 : Int32) (a4 : Int32) (al_0 : i0 < gn h 12) (hF : F_X12_find i0 a1 a2 a3 a4 h = some (r, d)) : MI l D cA yX12_find cX12_find 7 (some .int) 2 45 (fun φ => [.ref (φ 12 i0), .int a1, .int a2, .int a3, .int a4]) h r (wd h d) := by
  refine mk_I (plainFor_of_name (by decide)) (fun φ => Nat.le_of_ble_eq_true rfl) ?_
  intro p e s m args below meth c ls φ A Q X hW hS hl hfin
  have hx := X.1
  have hb := X.2.1
  have hl : lv_has ls 7 [(0, .ref (φ 12 i0)), (1, .int a1), (2, .int a2), (3, .int a3), (4, .int a4)] := hl
  unfold F_X12_find at hF
  have j_36 : ∀ (hj36 : HP) (H : Heap) (locs : List Loc) (ls : Array Slot), hj36.2.2 = h.2.2 → J_X12_find_36 i0 a1 a2 a3 a4 hj36 = some (r, d) → HW D cA A φ hj36 H → va_S A s.heap H locs → lv_has ls 7 [(0, .ref (φ 12 i0)), (1, .int a1), (2, .int a2), (3, .int a3), (4, .int a4)] → W p l e (rmo 2 45 0 0) s m args below meth c H locs 0 0 Q (F0 m 36 ls []) := by
    intro hj36 H locs ls gj36 hF hW hS hl
    unfold J_X12_find_36 at hF
    refine lv_iload hx hb dX12_find_36 (lv_at hl 4 rfl) ?_
    refine lv_i2l (v := (a4).toInt64) hx hb dX12_find_38 rfl ?_
    refine lv_lconst (v := 0) hx hb dX12_find_39 (by decide) ?_
    refine lv_ldc2 (v := 999) hx hb X.2.2.2.1 (X.2.2.2.2.1 _ (AL_of 1348 (by decide +kernel) rfl)) dX12_find_40 ?_
    obtain ⟨x2, e1, hF⟩ := bn hF
    refine rc_i (Af := fun φ => [.long ((a4).toInt64), .long 0, .long 999]) X hW hS ⟨Nat.zero_le _, Nat.zero_le _⟩ (rn_S (As := [.long ((a4).toInt64), .long 0, .long 999]) (rest := []) X hW hS cw_12_139 ⟨Nat.le_of_ble_eq_true rfl, Nat.le_of_ble_eq_true rfl⟩ rfl hl.1 rfl (Nat.le_of_ble_eq_true rfl) dX12_find_43) (ok_X12_in ((a4).toInt64) 0 999 e1) (fun H locs hW hS => ?_)
    refine lv_if_ne (tgt := 52) hx hb dX12_find_46 (by decide) (fun c86 => ?_) (fun c86 => ?_)
    · have hF := ie c86 hF
      refine lv_aload_n hx hb dX12_find_52 rfl (lv_at hl 0 rfl) ?_
      obtain ⟨o3, e4, hF⟩ := bn hF
      refine r_getr X hW (gq gj36 al_0) fl_12_7 e4 dX12_find_53 (fun al5 => ?_)
      have al5 := qg gj36 al5
      refine lv_iload_n hx hb dX12_find_56 rfl (lv_at hl 1 rfl) ?_
      obtain ⟨x6, e7, hF⟩ := bn hF
      obtain ⟨b8, e7⟩ := ga_s e7
      refine r_iald X hW (gq gj36 al5) rfl b8 dX12_find_57 ?_
      refine nmi e7 ?_
      refine lv_if_ge (tgt := 67) hx hb dX12_find_58 (by decide) (fun c85 => ?_) (fun c85 => ?_)
      · have hF := it c85 hF
        refine lv_aload_n hx hb dX12_find_67 rfl (lv_at hl 0 rfl) ?_
        obtain ⟨o9, e10, hF⟩ := bn hF
        refine r_getr X hW (gq gj36 al_0) fl_12_13 e10 dX12_find_68 (fun al11 => ?_)
        have al11 := qg gj36 al11
        refine lv_iload_n hx hb dX12_find_71 rfl (lv_at hl 1 rfl) ?_
        obtain ⟨x12, e13, hF⟩ := bn hF
        obtain ⟨b14, e13⟩ := ga_s e13
        refine r_iald X hW (gq gj36 al11) rfl b14 dX12_find_72 ?_
        refine nmi e13 ?_
        refine lv_iconst (v := 5) hx hb dX12_find_73 (by decide) ?_
        refine lv_icmp_ge (tgt := 83) hx hb dX12_find_74 (by decide) (fun c77 => ?_) (fun c77 => ?_)
        · have hF := it c77 hF
          refine lv_aload_n hx hb dX12_find_83 rfl (lv_at hl 0 rfl) ?_
          refine r_geti X hW (gq gj36 al_0) fl_12_253 dX12_find_84 ?_
          refine lv_bipush (v := 8) hx hb dX12_find_87 (by decide) ?_
          refine lv_icmp_ne (tgt := 95) hx hb dX12_find_89 (by decide) (fun c69 => ?_) (fun c69 => ?_)
          · have hF := ie c69 hF
            refine lv_iconst (v := 0) hx hb dX12_find_95 (by decide) ?_
            refine lv_istore (lv' := [(5, .int 0), (0, .ref (φ 12 i0)), (1, .int a1), (2, .int a2), (3, .int a3), (4, .int a4)]) hx hb dX12_find_96 hl (by decide) rfl (fun ls hl => ?_)
            obtain ⟨q38, e39, hF⟩ := bn hF
            refine loop_w (f := B_X12_find_98 i0 a1 a2 a3 a4 hj36) (Z := fun q => ∀ (H : Heap) (locs : List Loc) (ls : Array Slot), HW D cA A φ (wd hj36 q.2) H → va_S A s.heap H locs → lv_has ls 7 [(0, .ref (φ 12 i0)), (1, .int a1), (2, .int a2), (3, .int a3), (4, .int a4), (5, .int (q.1))] → W p l e (rmo 2 45 0 0) s m args below meth c H locs 0 0 Q (F0 m 98 ls [])) (K := fun q => ∀ (H : Heap) (locs : List Loc) (ls : Array Slot), HW D cA A φ (wd hj36 q) H → va_S A s.heap H locs → lv_has ls 7 [(0, .ref (φ 12 i0)), (2, .int a2), (3, .int a3), (4, .int a4)] → W p l e (rmo 2 45 0 0) s m args below meth c H locs 0 0 Q (F0 m 157 ls [])) ?_ LF _ q38 e39 ?_ _ _ _ (wdW rfl hW) hS (lv_sub hl [1, 2, 3, 4, 5, 0] rfl)
            · intro q v hF hK H locs ls hW hS hl
              obtain ⟨x15, d18⟩ := q
              unfold B_X12_find_98 at hF
              have hF := u2d hF
              obtain ⟨h16, e40, hF⟩ := nmx hF
              have hW := nmW e40 hW
              have g17 : h16.2.2 = h.2.2 := by rw [e40]; exact gj36
              have hl : lv_has ls 7 [(0, .ref (φ 12 i0)), (1, .int a1), (2, .int a2), (3, .int a3), (4, .int a4), (5, .int x15)] := hl
              have j_150 : ∀ (v5_150 : Int32) (t0_150 : Int32) (t1_150 : Int32) (t2_150 : Nat) (hj150 : HP) (H : Heap) (locs : List Loc) (ls : Array Slot), hj150.2.2 = h.2.2 → t2_150 < gn h 66 → J_X12_find_150 i0 a1 a2 a3 a4 v5_150 t0_150 t1_150 t2_150 hj150 = some v → HW D cA A φ hj150 H → va_S A s.heap H locs → lv_has ls 7 [(0, .ref (φ 12 i0)), (1, .int a1), (2, .int a2), (3, .int a3), (4, .int a4), (5, .int v5_150)] → W p l e (rmo 2 45 0 0) s m args below meth c H locs 0 0 Q (F0 m 150 ls [.int t0_150, .int t1_150, .ref (φ 66 t2_150)]) := by
                intro v5_150 t0_150 t1_150 t2_150 hj150 H locs ls gj150 alt2_150 hF hW hS hl
                unfold J_X12_find_150 at hF
                obtain ⟨h19, e20, hF⟩ := bn hF
                obtain ⟨b21, e20⟩ := sa_s e20
                refine r_iast X hW hS (gq gj150 alt2_150) rfl b21 dX12_find_150 (fun H locs hW hS => ?_)
                have hW := nmW e20 hW
                have g22 : h19.2.2 = h.2.2 := by rw [e20]; exact gj150
                obtain ⟨x23, e24, hF⟩ := nmx hF
                refine lv_iinc (v := x23) (lv' := [(5, .int x23), (0, .ref (φ 12 i0)), (1, .int a1), (2, .int a2), (3, .int a3), (4, .int a4)]) hx hb dX12_find_151 hl (k := 5) rfl (by rw [e24]; rfl) (by decide) rfl (fun ls hl => ?_)
                refine lv_goto (tgt := 98) hx hb dX12_find_154 (by decide) ?_
                obtain rfl := sj hF
                exact hK _ _ _ (wdW (sq g22 gj36) hW) hS (lv_sub hl [1, 2, 3, 4, 5, 0] rfl)
              refine lv_iload hx hb dX12_find_98 (lv_at hl 5 rfl) ?_
              refine lv_iconst (v := 5) hx hb dX12_find_100 (by decide) ?_
              refine lv_icmp_ge (tgt := 157) hx hb dX12_find_101 (by decide) (fun c37 => ?_) (fun c37 => ?_)
              · have hF := it c37 hF
                obtain rfl := sj hF
                exact hK _ _ _ (wdW (sq g17 gj36) hW) hS (lv_sub hl [0, 2, 3, 4] rfl)
              · have hF := ie c37 hF
                refine lv_aload_n hx hb dX12_find_104 rfl (lv_at hl 0 rfl) ?_
                obtain ⟨o25, e26, hF⟩ := bn hF
                refine r_getr X hW (gq g17 al_0) fl_12_16 e26 dX12_find_105 (fun al27 => ?_)
                have al27 := qg g17 al27
                refine lv_bipush (v := 60) hx hb dX12_find_108 (by decide) ?_
                refine lv_iload_n hx hb dX12_find_110 rfl (lv_at hl 1 rfl) ?_
                refine lv_imul hx hb dX12_find_111 ?_
                refine lv_iload hx hb dX12_find_112 (lv_at hl 5 rfl) ?_
                refine lv_iadd hx hb dX12_find_114 ?_
                obtain ⟨x28, e29, hF⟩ := bn hF
                obtain ⟨b30, e29⟩ := ga_s e29
                refine r_iald X hW (gq g17 al27) rfl b30 dX12_find_115 ?_
                refine nmi e29 ?_
                refine lv_istore (lv' := [(6, .int x28), (0, .ref (φ 12 i0)), (1, .int a1), (2, .int a2), (3, .int a3), (4, .int a4), (5, .int x15)]) hx hb dX12_find_116 hl (by decide) rfl (fun ls hl => ?_)
                refine lv_aload_n hx hb dX12_find_118 rfl (lv_at hl 1 rfl) ?_
                obtain ⟨o31, e32, hF⟩ := bn hF
                refine r_getr X hW (gq g17 al_0) fl_12_73 e32 dX12_find_119 (fun al33 => ?_)
                have al33 := qg g17 al33
                refine lv_iconst (v := 5) hx hb dX12_find_122 (by decide) ?_
                refine lv_aload_n hx hb dX12_find_123 rfl (lv_at hl 1 rfl) ?_
                refine r_geti X hW (gq g17 al_0) fl_12_253 dX12_find_124 ?_
                refine lv_imul hx hb dX12_find_127 ?_
                refine lv_iload hx hb dX12_find_128 (lv_at hl 6 rfl) ?_
                refine lv_iadd hx hb dX12_find_130 ?_
                refine lv_iload hx hb dX12_find_131 (lv_at hl 0 rfl) ?_
                refine lv_i2l (v := (x28).toInt64) hx hb dX12_find_133 rfl ?_
                refine lv_lconst (v := 0) hx hb dX12_find_134 (by decide) ?_
                refine lv_ldc2 (v := 9999) hx hb X.2.2.2.1 (X.2.2.2.2.1 _ (AL_of 1229 (by decide +kernel) rfl)) dX12_find_135 ?_
                obtain ⟨x35, e34, hF⟩ := bn hF
                refine rc_i (Af := fun φ => [.long ((x28).toInt64), .long 0, .long 9999]) X hW hS ⟨Nat.zero_le _, Nat.zero_le _⟩ (rn_S (As := [.long ((x28).toInt64), .long 0, .long 9999]) (rest := [.int ((5 * (gi h16 12 i0 28)) + x15), .ref (φ 66 o31)]) X hW hS cw_12_139 ⟨Nat.le_of_ble_eq_true rfl, Nat.le_of_ble_eq_true rfl⟩ rfl hl.1 rfl (Nat.le_of_ble_eq_true rfl) dX12_find_138) (ok_X12_in ((x28).toInt64) 0 9999 e34) (fun H locs hW hS => ?_)
                refine lv_if_eq (tgt := 149) hx hb dX12_find_141 (by decide) (fun c36 => ?_) (fun c36 => ?_)
                · have hF := it c36 hF
                  refine lv_iconst (v := (-1)) hx hb dX12_find_149 (by decide) ?_
                  exact j_150 x15 (-1) ((5 * (gi h16 12 i0 28)) + x15) o31 h16 _ _ _ g17 al33 hF hW hS (lv_sub hl [1, 2, 3, 4, 5, 6] rfl)
                · have hF := ie c36 hF
                  refine lv_iload hx hb dX12_find_144 (lv_at hl 0 rfl) ?_
                  refine lv_goto (tgt := 150) hx hb dX12_find_146 (by decide) ?_
                  exact j_150 x15 x28 ((5 * (gi h16 12 i0 28)) + x15) o31 h16 _ _ _ g17 al33 hF hW hS (lv_sub hl [1, 2, 3, 4, 5, 6] rfl)
            · intro H locs ls hW hS hl
              obtain ⟨d41, rfl⟩ : ∃ z, z = q38 := ⟨_, rfl⟩
              obtain ⟨h42, e68, hF⟩ := nmx hF
              have hW := nmW e68 hW
              have g43 : h42.2.2 = h.2.2 := by rw [e68]; exact gj36
              have hl : lv_has ls 7 [(0, .ref (φ 12 i0)), (2, .int a2), (3, .int a3), (4, .int a4)] := hl
              refine lv_aload_n hx hb dX12_find_157 rfl (lv_at hl 0 rfl) ?_
              obtain ⟨o44, e45, hF⟩ := bn hF
              refine r_getr X hW (gq g43 al_0) fl_12_76 e45 dX12_find_158 (fun al46 => ?_)
              have al46 := qg g43 al46
              refine lv_aload_n hx hb dX12_find_161 rfl (lv_at hl 0 rfl) ?_
              refine r_geti X hW (gq g43 al_0) fl_12_253 dX12_find_162 ?_
              refine lv_iload_n hx hb dX12_find_165 rfl (lv_at hl 1 rfl) ?_
              obtain ⟨h47, e48, hF⟩ := bn hF
              obtain ⟨b49, e48⟩ := sa_s e48
              refine r_iast X hW hS (gq g43 al46) rfl b49 dX12_find_166 (fun H locs hW hS => ?_)
              have hW := nmW e48 hW
              have g50 : h47.2.2 = h.2.2 := by rw [e48]; exact g43
              refine lv_aload_n hx hb dX12_find_167 rfl (lv_at hl 0 rfl) ?_
              obtain ⟨o51, e52, hF⟩ := bn hF
              refine r_getr X hW (gq g50 al_0) fl_12_79 e52 dX12_find_168 (fun al53 => ?_)
              have al53 := qg g50 al53
              refine lv_aload_n hx hb dX12_find_171 rfl (lv_at hl 0 rfl) ?_
              refine r_geti X hW (gq g50 al_0) fl_12_253 dX12_find_172 ?_
              refine lv_iload_n hx hb dX12_find_175 rfl (lv_at hl 2 rfl) ?_
              obtain ⟨h54, e55, hF⟩ := bn hF
              obtain ⟨b56, e55⟩ := sa_s e55
              refine r_iast X hW hS (gq g50 al53) rfl b56 dX12_find_176 (fun H locs hW hS => ?_)
              have hW := nmW e55 hW
              have g57 : h54.2.2 = h.2.2 := by rw [e55]; exact g50
              refine lv_aload_n hx hb dX12_find_177 rfl (lv_at hl 0 rfl) ?_
              obtain ⟨o58, e59, hF⟩ := bn hF
              refine r_getr X hW (gq g57 al_0) fl_12_82 e59 dX12_find_178 (fun al60 => ?_)
              have al60 := qg g57 al60
              refine lv_aload_n hx hb dX12_find_181 rfl (lv_at hl 0 rfl) ?_
              refine r_geti X hW (gq g57 al_0) fl_12_253 dX12_find_182 ?_
              refine lv_iload hx hb dX12_find_185 (lv_at hl 3 rfl) ?_
              obtain ⟨h61, e62, hF⟩ := bn hF
              obtain ⟨b63, e62⟩ := sa_s e62
              refine r_iast X hW hS (gq g57 al60) rfl b63 dX12_find_187 (fun H locs hW hS => ?_)
              have hW := nmW e62 hW
              have g64 : h61.2.2 = h.2.2 := by rw [e62]; exact g57
              refine lv_aload_n hx hb dX12_find_188 rfl (lv_at hl 0 rfl) ?_
              refine lv_dup hx hb dX12_find_189 rfl ?_
              refine r_geti X hW (gq g64 al_0) fl_12_253 dX12_find_190 ?_
              refine lv_iconst (v := 1) hx hb dX12_find_193 (by decide) ?_
              refine lv_iadd hx hb dX12_find_194 ?_
              refine r_puti X hW hS (gq g64 al_0) fp_12_253 rfl rfl dX12_find_195 (fun H locs hW hS => ?_)
              obtain ⟨h65, e66, hF⟩ := nmx hF
              have hW := nmW e66 hW
              have g67 : h65.2.2 = h.2.2 := by rw [e66]; exact g64
              refine lv_aload_n hx hb dX12_find_198 rfl (lv_at hl 0 rfl) ?_
              refine r_geti X hW (gq g67 al_0) fl_12_253 dX12_find_199 ?_
              refine lv_iconst (v := 1) hx hb dX12_find_202 (by decide) ?_
              refine lv_isub hx hb dX12_find_203 ?_
              obtain ⟨rfl, rfl⟩ := sj2 hF
              exact hfin _ _ _ _ (wdW g67 hW) hS dX12_find_204
          · have hF := it c69 hF
            refine lv_bipush (v := (-4)) hx hb dX12_find_92 (by decide) ?_
            obtain ⟨rfl, rfl⟩ := sj2 hF
            exact hfin _ _ _ _ (wdW gj36 hW) hS dX12_find_94
        · have hF := ie c77 hF
          refine lv_aload_n hx hb dX12_find_77 rfl (lv_at hl 0 rfl) ?_
          refine lv_iconst (v := 2) hx hb dX12_find_78 (by decide) ?_
          obtain ⟨q75, e70, hF⟩ := bn hF
          obtain ⟨x76, d74⟩ := q75
          have hF := u2d hF
          refine rc_i (Af := fun φ => [.ref (φ 12 i0), .int 2]) X hW hS ⟨Nat.zero_le _, Nat.zero_le _⟩ (rn_V (As := [.int 2]) (rest := []) X hW hS cw_12_149 (gq gj36 al_0) rfl rfl rfl ⟨Nat.le_of_ble_eq_true rfl, Nat.le_of_ble_eq_true rfl⟩ rfl hl.1 rfl (Nat.le_of_ble_eq_true rfl) dX12_find_79) (ok_X12_met i0 2 (gq gj36 al_0) e70) (fun H locs hW hS => ?_)
          obtain ⟨h71, e73, hF⟩ := nmx hF
          have hW := nmW e73 hW
          have g72 : h71.2.2 = h.2.2 := by rw [e73]; exact gj36
          obtain ⟨rfl, rfl⟩ := sj2 hF
          exact hfin _ _ _ _ (wdW g72 hW) hS dX12_find_82
      · have hF := ie c85 hF
        refine lv_aload_n hx hb dX12_find_61 rfl (lv_at hl 0 rfl) ?_
        refine lv_iconst (v := 1) hx hb dX12_find_62 (by decide) ?_
        obtain ⟨q83, e78, hF⟩ := bn hF
        obtain ⟨x84, d82⟩ := q83
        have hF := u2d hF
        refine rc_i (Af := fun φ => [.ref (φ 12 i0), .int 1]) X hW hS ⟨Nat.zero_le _, Nat.zero_le _⟩ (rn_V (As := [.int 1]) (rest := []) X hW hS cw_12_149 (gq gj36 al_0) rfl rfl rfl ⟨Nat.le_of_ble_eq_true rfl, Nat.le_of_ble_eq_true rfl⟩ rfl hl.1 rfl (Nat.le_of_ble_eq_true rfl) dX12_find_63) (ok_X12_met i0 1 (gq gj36 al_0) e78) (fun H locs hW hS => ?_)
        obtain ⟨h79, e81, hF⟩ := nmx hF
        have hW := nmW e81 hW
        have g80 : h79.2.2 = h.2.2 := by rw [e81]; exact gj36
        obtain ⟨rfl, rfl⟩ := sj2 hF
        exact hfin _ _ _ _ (wdW g80 hW) hS dX12_find_66
    · have hF := it c86 hF
      refine lv_bipush (v := (-2)) hx hb dX12_find_49 (by decide) ?_
      obtain ⟨rfl, rfl⟩ := sj2 hF
      exact hfin _ _ _ _ (wdW gj36 hW) hS dX12_find_51
  refine lv_iload_n hx hb dX12_find_0 rfl (lv_at hl 1 rfl) ?_
  obtain ⟨x88, e87, hF⟩ := bn hF
  refine rc_i (Af := fun φ => [.int a1]) X hW hS ⟨Nat.zero_le _, Nat.zero_le _⟩ (rn_S (As := [.int a1]) (rest := []) X hW hS cw_12_143 ⟨Nat.le_of_ble_eq_true rfl, Nat.le_of_ble_eq_true rfl⟩ rfl hl.1 rfl (Nat.le_of_ble_eq_true rfl) dX12_find_1) (ok_X12_isSheet a1 e87) (fun H locs hW hS => ?_)
  refine lv_if_eq (tgt := 49) hx hb dX12_find_4 (by decide) (fun c96 => ?_) (fun c96 => ?_)
  · have hF := it c96 hF
    refine lv_bipush (v := (-2)) hx hb dX12_find_49 (by decide) ?_
    obtain ⟨rfl, rfl⟩ := sj2 hF
    exact hfin _ _ _ _ (wdW rfl hW) hS dX12_find_51
  · have hF := ie c96 hF
    refine lv_iload_n hx hb dX12_find_7 rfl (lv_at hl 2 rfl) ?_
    refine lv_i2l (v := (a2).toInt64) hx hb dX12_find_8 rfl ?_
    refine lv_lconst (v := 0) hx hb dX12_find_9 (by decide) ?_
    refine lv_ldc2 (v := 99) hx hb X.2.2.2.1 (X.2.2.2.2.1 _ (AL_of 1347 (by decide +kernel) rfl)) dX12_find_10 ?_
    obtain ⟨x90, e89, hF⟩ := bn hF
    refine rc_i (Af := fun φ => [.long ((a2).toInt64), .long 0, .long 99]) X hW hS ⟨Nat.zero_le _, Nat.zero_le _⟩ (rn_S (As := [.long ((a2).toInt64), .long 0, .long 99]) (rest := []) X hW hS cw_12_139 ⟨Nat.le_of_ble_eq_true rfl, Nat.le_of_ble_eq_true rfl⟩ rfl hl.1 rfl (Nat.le_of_ble_eq_true rfl) dX12_find_13) (ok_X12_in ((a2).toInt64) 0 99 e89) (fun H locs hW hS => ?_)
    refine lv_if_eq (tgt := 49) hx hb dX12_find_16 (by decide) (fun c95 => ?_) (fun c95 => ?_)
    · have hF := it c95 hF
      refine lv_bipush (v := (-2)) hx hb dX12_find_49 (by decide) ?_
      obtain ⟨rfl, rfl⟩ := sj2 hF
      exact hfin _ _ _ _ (wdW rfl hW) hS dX12_find_51
    · have hF := ie c95 hF
      refine lv_iload_n hx hb dX12_find_19 rfl (lv_at hl 3 rfl) ?_
      refine lv_iconst (v := (-1)) hx hb dX12_find_20 (by decide) ?_
      refine lv_icmp_eq (tgt := 36) hx hb dX12_find_21 (by decide) (fun c94 => ?_) (fun c94 => ?_)
      · have hF := it c94 hF
        exact j_36 h _ _ _ rfl hF hW hS (lv_sub hl [0, 1, 2, 3, 4] rfl)
      · have hF := ie c94 hF
        refine lv_iload_n hx hb dX12_find_24 rfl (lv_at hl 3 rfl) ?_
        refine lv_i2l (v := (a3).toInt64) hx hb dX12_find_25 rfl ?_
        refine lv_lconst (v := 1) hx hb dX12_find_26 (by decide) ?_
        refine lv_ldc2 (v := 9999) hx hb X.2.2.2.1 (X.2.2.2.2.1 _ (AL_of 1229 (by decide +kernel) rfl)) dX12_find_27 ?_
        obtain ⟨x92, e91, hF⟩ := bn hF
        refine rc_i (Af := fun φ => [.long ((a3).toInt64), .long 1, .long 9999]) X hW hS ⟨Nat.zero_le _, Nat.zero_le _⟩ (rn_S (As := [.long ((a3).toInt64), .long 1, .long 9999]) (rest := []) X hW hS cw_12_139 ⟨Nat.le_of_ble_eq_true rfl, Nat.le_of_ble_eq_true rfl⟩ rfl hl.1 rfl (Nat.le_of_ble_eq_true rfl) dX12_find_30) (ok_X12_in ((a3).toInt64) 1 9999 e91) (fun H locs hW hS => ?_)
        refine lv_if_eq (tgt := 49) hx hb dX12_find_33 (by decide) (fun c93 => ?_) (fun c93 => ?_)
        · have hF := it c93 hF
          refine lv_bipush (v := (-2)) hx hb dX12_find_49 (by decide) ?_
          obtain ⟨rfl, rfl⟩ := sj2 hF
          exact hfin _ _ _ _ (wdW rfl hW) hS dX12_find_51
        · have hF := ie c93 hF
          exact j_36 h _ _ _ rfl hF hW hS (lv_sub hl [0, 1, 2, 3, 4] rfl)
def F_X12_forget (i0 : Nat) (h : HP) : Option (Int32 × DP) :=
  nm ((gi h 12 i0 28)) fun x1 =>
  nm (si h 12 i0 28 0) fun h3 =>
  some (x1, dp h3)
set_option maxHeartbeats 4000000 in
set_option maxRecDepth 100000 in
theorem ok_X12_forget {l : Launch} {D : va_G} {cA : Nat → ClassId} {h : HP} {r : Int32} {d : DP} (i0 : Nat) (al_0 : i0 < gn h 12) (hF : F_X12_forget i0 h = some (r, d)) : MI l D cA yX12_forget cX12_forget 2 (some .int) 0 0 (fun φ => [.ref (φ 12 i0)]) h r (wd h d) := by
  refine mk_I (plainFor_of_name (by decide)) (fun φ => Nat.le_of_ble_eq_true rfl) ?_
  intro p e s m args below meth c ls φ A Q X hW hS hl hfin
  have hx := X.1
  have hb := X.2.1
  have hl : lv_has ls 2 [(0, .ref (φ 12 i0))] := hl
  unfold F_X12_forget at hF
  refine lv_aload_n hx hb dX12_forget_0 rfl (lv_at hl 0 rfl) ?_
  refine r_geti X hW al_0 fl_12_253 dX12_forget_1 ?_
  obtain ⟨x1, e2, hF⟩ := nmx hF
  refine nmi e2 ?_
  refine lv_istore_n (lv' := [(1, .int x1), (0, .ref (φ 12 i0))]) hx hb dX12_forget_4 rfl hl (by decide) rfl (fun ls hl => ?_)
  refine lv_aload_n hx hb dX12_forget_5 rfl (lv_at hl 1 rfl) ?_
  refine lv_iconst (v := 0) hx hb dX12_forget_6 (by decide) ?_
  refine r_puti X hW hS al_0 fp_12_253 rfl rfl dX12_forget_7 (fun H locs hW hS => ?_)
  obtain ⟨h3, e4, hF⟩ := nmx hF
  have hW := nmW e4 hW
  have g5 : h3.2.2 = h.2.2 := by rw [e4]; exact rfl
  refine lv_iload_n hx hb dX12_forget_10 rfl (lv_at hl 0 rfl) ?_
  obtain ⟨rfl, rfl⟩ := sj2 hF
  exact hfin _ _ _ _ (wdW g5 hW) hS dX12_forget_11
def F_X12_apart (a0 : Int32) (a1 : Int32) : Option (Int32) :=
  (if a1 ≤ a0 then
  some (a0 - a1)
  else
  some (a1 - a0))
set_option maxHeartbeats 4000000 in
set_option maxRecDepth 100000 in
theorem ok_X12_apart {l : Launch} {D : va_G} {cA : Nat → ClassId} {h : HP} {r : Int32}  (a0 : Int32) (a1 : Int32)  (hF : F_X12_apart a0 a1 = some r) : MI l D cA yX12_apart cX12_apart 2 (some .int) 0 0 (fun φ => [.int a0, .int a1]) h r h := by
  refine mk_I (plainFor_of_name (by decide)) (fun φ => Nat.le_of_ble_eq_true rfl) ?_
  intro p e s m args below meth c ls φ A Q X hW hS hl hfin
  have hx := X.1
  have hb := X.2.1
  have hl : lv_has ls 2 [(0, .int a0), (1, .int a1)] := hl
  unfold F_X12_apart at hF
  refine lv_iload_n hx hb dX12_apart_0 rfl (lv_at hl 0 rfl) ?_
  refine lv_iload_n hx hb dX12_apart_1 rfl (lv_at hl 1 rfl) ?_
  refine lv_icmp_ge (tgt := 11) hx hb dX12_apart_2 (by decide) (fun c1 => ?_) (fun c1 => ?_)
  · have hF := it c1 hF
    refine lv_iload_n hx hb dX12_apart_11 rfl (lv_at hl 0 rfl) ?_
    refine lv_iload_n hx hb dX12_apart_12 rfl (lv_at hl 1 rfl) ?_
    refine lv_isub hx hb dX12_apart_13 ?_
    obtain rfl := sj hF
    exact hfin _ _ _ _ hW hS dX12_apart_14
  · have hF := ie c1 hF
    refine lv_iload_n hx hb dX12_apart_5 rfl (lv_at hl 1 rfl) ?_
    refine lv_iload_n hx hb dX12_apart_6 rfl (lv_at hl 0 rfl) ?_
    refine lv_isub hx hb dX12_apart_7 ?_
    refine lv_goto (tgt := 14) hx hb dX12_apart_8 (by decide) ?_
    obtain rfl := sj hF
    exact hfin _ _ _ _ hW hS dX12_apart_14
def B_X12_couldBe_52 (i0 : Nat) (a1 : Int32) (a2 : Int32) (h : HP) (q : Int32 × Int32) : Option ((Int32 × Int32) ⊕ (Int32)) :=
  u2 q fun x1 x2 =>
  (if 5 ≤ x2 then
  some (.inr x1)
  else
  (gr h 12 i0 29).bind fun o3 =>
  (ga h 66 o3 40 ((5 * a1) + x2)).bind fun x6 =>
  (gr h 12 i0 13).bind fun o9 =>
  (ga h 54 o9 100 ((5 * a2) + x2)).bind fun x12 =>
  (if x1 = 0 then
  nm (x2 + 1) fun x15 =>
  some (.inl (0, x15))
  else
  (if x6 = (-1) then
  nm (x2 + 1) fun x17 =>
  some (.inl (1, x17))
  else
  (if x12 = (-1) then
  nm (x2 + 1) fun x19 =>
  some (.inl (1, x19))
  else
  (F_X12_apart x6 x12).bind fun x22 =>
  (gr h 12 i0 30).bind fun o23 =>
  (ga h 67 o23 8 a1).bind fun x26 =>
  (if x26 < x22 then
  nm (x2 + 1) fun x29 =>
  some (.inl (0, x29))
  else
  nm (x2 + 1) fun x31 =>
  some (.inl (1, x31)))))))
def J_X12_couldBe_48 (i0 : Nat) (a1 : Int32) (a2 : Int32) (t0_48 : Int32) (h : HP) : Option (Int32) :=
  (loopN LF (B_X12_couldBe_52 i0 a1 a2 h) (t0_48, 0)).bind fun x40 =>
  (bz x40).bind fun x41 => some x41
def F_X12_couldBe (i0 : Nat) (a1 : Int32) (a2 : Int32) (h : HP) : Option (Int32) :=
  (F_X12_stateOf i0 a2 h).bind fun x45 =>
  (if x45 = 3 then
  (gr h 12 i0 31).bind fun o46 =>
  (ga h 68 o46 8 a1).bind fun x49 =>
  (if x49 = (-1) then
  J_X12_couldBe_48 i0 a1 a2 1 h
  else
  (gr h 12 i0 31).bind fun o52 =>
  (ga h 68 o52 8 a1).bind fun x55 =>
  (gr h 12 i0 10).bind fun o58 =>
  (ga h 51 o58 20 a2).bind fun x61 =>
  (F_X12_apart x55 x61).bind fun x65 =>
  (gr h 12 i0 32).bind fun o66 =>
  (ga h 69 o66 8 a1).bind fun x69 =>
  (if x69 < x65 then
  J_X12_couldBe_48 i0 a1 a2 0 h
  else
  J_X12_couldBe_48 i0 a1 a2 1 h))
  else
  J_X12_couldBe_48 i0 a1 a2 0 h)
set_option maxHeartbeats 4000000 in
set_option maxRecDepth 100000 in
theorem ok_X12_couldBe {l : Launch} {D : va_G} {cA : Nat → ClassId} {h : HP} {r : Int32}  (i0 : Nat) (a1 : Int32) (a2 : Int32) (al_0 : i0 < gn h 12) (hF : F_X12_couldBe i0 a1 a2 h = some r) : MI l D cA yX12_couldBe cX12_couldBe 7 (some .boolean) 2 45 (fun φ => [.ref (φ 12 i0), .int a1, .int a2]) h r h := by
  refine mk_Z (plainFor_of_name (by decide)) (fun φ => Nat.le_of_ble_eq_true rfl) ?_
  intro p e s m args below meth c ls φ A Q X hW hS hl hfin
  have hx := X.1
  have hb := X.2.1
  have hl : lv_has ls 7 [(0, .ref (φ 12 i0)), (1, .int a1), (2, .int a2)] := hl
  unfold F_X12_couldBe at hF
  have j_48 : ∀ (t0_48 : Int32) (H : Heap) (locs : List Loc) (ls : Array Slot), J_X12_couldBe_48 i0 a1 a2 t0_48 h = some r → HW D cA A φ h H → va_S A s.heap H locs → lv_has ls 7 [(0, .ref (φ 12 i0)), (1, .int a1), (2, .int a2)] → W p l e (rmo 2 45 0 0) s m args below meth c H locs 0 0 Q (F0 m 48 ls [.int t0_48]) := by
    intro t0_48 H locs ls hF hW hS hl
    unfold J_X12_couldBe_48 at hF
    refine lv_istore_n (lv' := [(3, .int t0_48), (0, .ref (φ 12 i0)), (1, .int a1), (2, .int a2)]) hx hb dX12_couldBe_48 rfl hl (by decide) rfl (fun ls hl => ?_)
    refine lv_iconst (v := 0) hx hb dX12_couldBe_49 (by decide) ?_
    refine lv_istore (lv' := [(4, .int 0), (3, .int t0_48), (0, .ref (φ 12 i0)), (1, .int a1), (2, .int a2)]) hx hb dX12_couldBe_50 hl (by decide) rfl (fun ls hl => ?_)
    obtain ⟨q38, e39, hF⟩ := bn hF
    refine loop_w (f := B_X12_couldBe_52 i0 a1 a2 h) (Z := fun q => ∀ (H : Heap) (locs : List Loc) (ls : Array Slot), HW D cA A φ h H → va_S A s.heap H locs → lv_has ls 7 [(0, .ref (φ 12 i0)), (1, .int a1), (2, .int a2), (3, .int (q.1)), (4, .int (q.2))] → W p l e (rmo 2 45 0 0) s m args below meth c H locs 0 0 Q (F0 m 52 ls [])) (K := fun q => ∀ (H : Heap) (locs : List Loc) (ls : Array Slot), HW D cA A φ h H → va_S A s.heap H locs → lv_has ls 7 [(3, .int q)] → W p l e (rmo 2 45 0 0) s m args below meth c H locs 0 0 Q (F0 m 128 ls [])) ?_ LF _ q38 e39 ?_ _ _ _ hW hS (lv_sub hl [2, 3, 4, 1, 0] rfl)
    · intro q v hF hK H locs ls hW hS hl
      obtain ⟨x1, x2⟩ := q
      unfold B_X12_couldBe_52 at hF
      have hF := u2d hF
      have hl : lv_has ls 7 [(0, .ref (φ 12 i0)), (1, .int a1), (2, .int a2), (3, .int x1), (4, .int x2)] := hl
      refine lv_iload hx hb dX12_couldBe_52 (lv_at hl 4 rfl) ?_
      refine lv_iconst (v := 5) hx hb dX12_couldBe_54 (by decide) ?_
      refine lv_icmp_ge (tgt := 128) hx hb dX12_couldBe_55 (by decide) (fun c37 => ?_) (fun c37 => ?_)
      · have hF := it c37 hF
        obtain rfl := sj hF
        exact hK _ _ _ hW hS (lv_sub hl [3] rfl)
      · have hF := ie c37 hF
        refine lv_aload_n hx hb dX12_couldBe_58 rfl (lv_at hl 0 rfl) ?_
        obtain ⟨o3, e4, hF⟩ := bn hF
        refine r_getr X hW al_0 fl_12_73 e4 dX12_couldBe_59 (fun al5 => ?_)
        refine lv_iconst (v := 5) hx hb dX12_couldBe_62 (by decide) ?_
        refine lv_iload_n hx hb dX12_couldBe_63 rfl (lv_at hl 1 rfl) ?_
        refine lv_imul hx hb dX12_couldBe_64 ?_
        refine lv_iload hx hb dX12_couldBe_65 (lv_at hl 4 rfl) ?_
        refine lv_iadd hx hb dX12_couldBe_67 ?_
        obtain ⟨x6, e7, hF⟩ := bn hF
        obtain ⟨b8, e7⟩ := ga_s e7
        refine r_iald X hW al5 rfl b8 dX12_couldBe_68 ?_
        refine nmi e7 ?_
        refine lv_istore (lv' := [(5, .int x6), (0, .ref (φ 12 i0)), (1, .int a1), (2, .int a2), (3, .int x1), (4, .int x2)]) hx hb dX12_couldBe_69 hl (by decide) rfl (fun ls hl => ?_)
        refine lv_aload_n hx hb dX12_couldBe_71 rfl (lv_at hl 1 rfl) ?_
        obtain ⟨o9, e10, hF⟩ := bn hF
        refine r_getr X hW al_0 fl_12_37 e10 dX12_couldBe_72 (fun al11 => ?_)
        refine lv_iconst (v := 5) hx hb dX12_couldBe_75 (by decide) ?_
        refine lv_iload_n hx hb dX12_couldBe_76 rfl (lv_at hl 3 rfl) ?_
        refine lv_imul hx hb dX12_couldBe_77 ?_
        refine lv_iload hx hb dX12_couldBe_78 (lv_at hl 5 rfl) ?_
        refine lv_iadd hx hb dX12_couldBe_80 ?_
        obtain ⟨x12, e13, hF⟩ := bn hF
        obtain ⟨b14, e13⟩ := ga_s e13
        refine r_iald X hW al11 rfl b14 dX12_couldBe_81 ?_
        refine nmi e13 ?_
        refine lv_istore (lv' := [(6, .int x12), (5, .int x6), (0, .ref (φ 12 i0)), (1, .int a1), (2, .int a2), (3, .int x1), (4, .int x2)]) hx hb dX12_couldBe_82 hl (by decide) rfl (fun ls hl => ?_)
        refine lv_iload_n hx hb dX12_couldBe_84 rfl (lv_at hl 5 rfl) ?_
        refine lv_if_eq (tgt := 120) hx hb dX12_couldBe_85 (by decide) (fun c36 => ?_) (fun c36 => ?_)
        · have hF := it c36 hF
          refine lv_iconst (v := 0) hx hb dX12_couldBe_120 (by decide) ?_
          refine lv_istore_n (lv' := [(3, .int 0), (6, .int x12), (5, .int x6), (0, .ref (φ 12 i0)), (1, .int a1), (2, .int a2), (4, .int x2)]) hx hb dX12_couldBe_121 rfl hl (by decide) rfl (fun ls hl => ?_)
          obtain ⟨x15, e16, hF⟩ := nmx hF
          refine lv_iinc (v := x15) (lv' := [(4, .int x15), (3, .int 0), (6, .int x12), (5, .int x6), (0, .ref (φ 12 i0)), (1, .int a1), (2, .int a2)]) hx hb dX12_couldBe_122 hl (k := 6) rfl (by rw [e16]; rfl) (by decide) rfl (fun ls hl => ?_)
          refine lv_goto (tgt := 52) hx hb dX12_couldBe_125 (by decide) ?_
          obtain rfl := sj hF
          exact hK _ _ _ hW hS (lv_sub hl [4, 5, 6, 1, 0] rfl)
        · have hF := ie c36 hF
          refine lv_iload hx hb dX12_couldBe_88 (lv_at hl 1 rfl) ?_
          refine lv_iconst (v := (-1)) hx hb dX12_couldBe_90 (by decide) ?_
          refine lv_icmp_eq (tgt := 116) hx hb dX12_couldBe_91 (by decide) (fun c35 => ?_) (fun c35 => ?_)
          · have hF := it c35 hF
            refine lv_iconst (v := 1) hx hb dX12_couldBe_116 (by decide) ?_
            refine lv_goto (tgt := 121) hx hb dX12_couldBe_117 (by decide) ?_
            refine lv_istore_n (lv' := [(3, .int 1), (6, .int x12), (5, .int x6), (0, .ref (φ 12 i0)), (1, .int a1), (2, .int a2), (4, .int x2)]) hx hb dX12_couldBe_121 rfl hl (by decide) rfl (fun ls hl => ?_)
            obtain ⟨x17, e18, hF⟩ := nmx hF
            refine lv_iinc (v := x17) (lv' := [(4, .int x17), (3, .int 1), (6, .int x12), (5, .int x6), (0, .ref (φ 12 i0)), (1, .int a1), (2, .int a2)]) hx hb dX12_couldBe_122 hl (k := 6) rfl (by rw [e18]; rfl) (by decide) rfl (fun ls hl => ?_)
            refine lv_goto (tgt := 52) hx hb dX12_couldBe_125 (by decide) ?_
            obtain rfl := sj hF
            exact hK _ _ _ hW hS (lv_sub hl [4, 5, 6, 1, 0] rfl)
          · have hF := ie c35 hF
            refine lv_iload hx hb dX12_couldBe_94 (lv_at hl 0 rfl) ?_
            refine lv_iconst (v := (-1)) hx hb dX12_couldBe_96 (by decide) ?_
            refine lv_icmp_eq (tgt := 116) hx hb dX12_couldBe_97 (by decide) (fun c34 => ?_) (fun c34 => ?_)
            · have hF := it c34 hF
              refine lv_iconst (v := 1) hx hb dX12_couldBe_116 (by decide) ?_
              refine lv_goto (tgt := 121) hx hb dX12_couldBe_117 (by decide) ?_
              refine lv_istore_n (lv' := [(3, .int 1), (6, .int x12), (5, .int x6), (0, .ref (φ 12 i0)), (1, .int a1), (2, .int a2), (4, .int x2)]) hx hb dX12_couldBe_121 rfl hl (by decide) rfl (fun ls hl => ?_)
              obtain ⟨x19, e20, hF⟩ := nmx hF
              refine lv_iinc (v := x19) (lv' := [(4, .int x19), (3, .int 1), (6, .int x12), (5, .int x6), (0, .ref (φ 12 i0)), (1, .int a1), (2, .int a2)]) hx hb dX12_couldBe_122 hl (k := 6) rfl (by rw [e20]; rfl) (by decide) rfl (fun ls hl => ?_)
              refine lv_goto (tgt := 52) hx hb dX12_couldBe_125 (by decide) ?_
              obtain rfl := sj hF
              exact hK _ _ _ hW hS (lv_sub hl [4, 5, 6, 1, 0] rfl)
            · have hF := ie c34 hF
              refine lv_iload hx hb dX12_couldBe_100 (lv_at hl 1 rfl) ?_
              refine lv_iload hx hb dX12_couldBe_102 (lv_at hl 0 rfl) ?_
              obtain ⟨x22, e21, hF⟩ := bn hF
              refine rc_i (Af := fun φ => [.int x6, .int x12]) X hW hS ⟨Nat.zero_le _, Nat.zero_le _⟩ (rn_S (As := [.int x6, .int x12]) (rest := []) X hW hS cw_12_260 ⟨Nat.le_of_ble_eq_true rfl, Nat.le_of_ble_eq_true rfl⟩ rfl hl.1 rfl (Nat.le_of_ble_eq_true rfl) dX12_couldBe_104) (ok_X12_apart x6 x12 e21) (fun H locs hW hS => ?_)
              refine lv_aload_n hx hb dX12_couldBe_107 rfl (lv_at hl 2 rfl) ?_
              obtain ⟨o23, e24, hF⟩ := bn hF
              refine r_getr X hW al_0 fl_12_76 e24 dX12_couldBe_108 (fun al25 => ?_)
              refine lv_iload_n hx hb dX12_couldBe_111 rfl (lv_at hl 3 rfl) ?_
              obtain ⟨x26, e27, hF⟩ := bn hF
              obtain ⟨b28, e27⟩ := ga_s e27
              refine r_iald X hW al25 rfl b28 dX12_couldBe_112 ?_
              refine nmi e27 ?_
              refine lv_icmp_gt (tgt := 120) hx hb dX12_couldBe_113 (by decide) (fun c33 => ?_) (fun c33 => ?_)
              · have hF := it c33 hF
                refine lv_iconst (v := 0) hx hb dX12_couldBe_120 (by decide) ?_
                refine lv_istore_n (lv' := [(3, .int 0), (6, .int x12), (5, .int x6), (0, .ref (φ 12 i0)), (1, .int a1), (2, .int a2), (4, .int x2)]) hx hb dX12_couldBe_121 rfl hl (by decide) rfl (fun ls hl => ?_)
                obtain ⟨x29, e30, hF⟩ := nmx hF
                refine lv_iinc (v := x29) (lv' := [(4, .int x29), (3, .int 0), (6, .int x12), (5, .int x6), (0, .ref (φ 12 i0)), (1, .int a1), (2, .int a2)]) hx hb dX12_couldBe_122 hl (k := 6) rfl (by rw [e30]; rfl) (by decide) rfl (fun ls hl => ?_)
                refine lv_goto (tgt := 52) hx hb dX12_couldBe_125 (by decide) ?_
                obtain rfl := sj hF
                exact hK _ _ _ hW hS (lv_sub hl [4, 5, 6, 1, 0] rfl)
              · have hF := ie c33 hF
                refine lv_iconst (v := 1) hx hb dX12_couldBe_116 (by decide) ?_
                refine lv_goto (tgt := 121) hx hb dX12_couldBe_117 (by decide) ?_
                refine lv_istore_n (lv' := [(3, .int 1), (6, .int x12), (5, .int x6), (0, .ref (φ 12 i0)), (1, .int a1), (2, .int a2), (4, .int x2)]) hx hb dX12_couldBe_121 rfl hl (by decide) rfl (fun ls hl => ?_)
                obtain ⟨x31, e32, hF⟩ := nmx hF
                refine lv_iinc (v := x31) (lv' := [(4, .int x31), (3, .int 1), (6, .int x12), (5, .int x6), (0, .ref (φ 12 i0)), (1, .int a1), (2, .int a2)]) hx hb dX12_couldBe_122 hl (k := 6) rfl (by rw [e32]; rfl) (by decide) rfl (fun ls hl => ?_)
                refine lv_goto (tgt := 52) hx hb dX12_couldBe_125 (by decide) ?_
                obtain rfl := sj hF
                exact hK _ _ _ hW hS (lv_sub hl [4, 5, 6, 1, 0] rfl)
    · intro H locs ls hW hS hl
      obtain ⟨x40, rfl⟩ : ∃ z, z = q38 := ⟨_, rfl⟩
      have hl : lv_has ls 7 [(3, .int x40)] := hl
      refine lv_iload_n hx hb dX12_couldBe_128 rfl (lv_at hl 0 rfl) ?_
      obtain ⟨x41, e42, hF⟩ := bn hF
      obtain ⟨b43, e42⟩ := bz_s e42
      refine nmi e42 ?_
      rw [← e42] at b43
      obtain rfl := sj hF
      exact hfin _ _ _ _ hW hS b43 dX12_couldBe_129
  refine lv_aload_n hx hb dX12_couldBe_0 rfl (lv_at hl 0 rfl) ?_
  refine lv_iload_n hx hb dX12_couldBe_1 rfl (lv_at hl 2 rfl) ?_
  obtain ⟨x45, e44, hF⟩ := bn hF
  refine rc_i (Af := fun φ => [.ref (φ 12 i0), .int a2]) X hW hS ⟨Nat.zero_le _, Nat.zero_le _⟩ (rn_V (As := [.int a2]) (rest := []) X hW hS cw_12_200 al_0 rfl rfl rfl ⟨Nat.le_of_ble_eq_true rfl, Nat.le_of_ble_eq_true rfl⟩ rfl hl.1 rfl (Nat.le_of_ble_eq_true rfl) dX12_couldBe_2) (ok_X12_stateOf i0 a2 al_0 e44) (fun H locs hW hS => ?_)
  refine lv_iconst (v := 3) hx hb dX12_couldBe_5 (by decide) ?_
  refine lv_icmp_ne (tgt := 47) hx hb dX12_couldBe_6 (by decide) (fun c74 => ?_) (fun c74 => ?_)
  · have hF := ie c74 hF
    refine lv_iconst (v := 0) hx hb dX12_couldBe_47 (by decide) ?_
    exact j_48 0 _ _ _ hF hW hS (lv_sub hl [0, 1, 2] rfl)
  · have hF := it c74 hF
    refine lv_aload_n hx hb dX12_couldBe_9 rfl (lv_at hl 0 rfl) ?_
    obtain ⟨o46, e47, hF⟩ := bn hF
    refine r_getr X hW al_0 fl_12_79 e47 dX12_couldBe_10 (fun al48 => ?_)
    refine lv_iload_n hx hb dX12_couldBe_13 rfl (lv_at hl 1 rfl) ?_
    obtain ⟨x49, e50, hF⟩ := bn hF
    obtain ⟨b51, e50⟩ := ga_s e50
    refine r_iald X hW al48 rfl b51 dX12_couldBe_14 ?_
    refine nmi e50 ?_
    refine lv_iconst (v := (-1)) hx hb dX12_couldBe_15 (by decide) ?_
    refine lv_icmp_eq (tgt := 43) hx hb dX12_couldBe_16 (by decide) (fun c73 => ?_) (fun c73 => ?_)
    · have hF := it c73 hF
      refine lv_iconst (v := 1) hx hb dX12_couldBe_43 (by decide) ?_
      refine lv_goto (tgt := 48) hx hb dX12_couldBe_44 (by decide) ?_
      exact j_48 1 _ _ _ hF hW hS (lv_sub hl [0, 1, 2] rfl)
    · have hF := ie c73 hF
      refine lv_aload_n hx hb dX12_couldBe_19 rfl (lv_at hl 0 rfl) ?_
      obtain ⟨o52, e53, hF⟩ := bn hF
      refine r_getr X hW al_0 fl_12_79 e53 dX12_couldBe_20 (fun al54 => ?_)
      refine lv_iload_n hx hb dX12_couldBe_23 rfl (lv_at hl 1 rfl) ?_
      obtain ⟨x55, e56, hF⟩ := bn hF
      obtain ⟨b57, e56⟩ := ga_s e56
      refine r_iald X hW al54 rfl b57 dX12_couldBe_24 ?_
      refine nmi e56 ?_
      refine lv_aload_n hx hb dX12_couldBe_25 rfl (lv_at hl 0 rfl) ?_
      obtain ⟨o58, e59, hF⟩ := bn hF
      refine r_getr X hW al_0 fl_12_28 e59 dX12_couldBe_26 (fun al60 => ?_)
      refine lv_iload_n hx hb dX12_couldBe_29 rfl (lv_at hl 2 rfl) ?_
      obtain ⟨x61, e62, hF⟩ := bn hF
      obtain ⟨b63, e62⟩ := ga_s e62
      refine r_iald X hW al60 rfl b63 dX12_couldBe_30 ?_
      refine nmi e62 ?_
      obtain ⟨x65, e64, hF⟩ := bn hF
      refine rc_i (Af := fun φ => [.int x55, .int x61]) X hW hS ⟨Nat.zero_le _, Nat.zero_le _⟩ (rn_S (As := [.int x55, .int x61]) (rest := []) X hW hS cw_12_260 ⟨Nat.le_of_ble_eq_true rfl, Nat.le_of_ble_eq_true rfl⟩ rfl hl.1 rfl (Nat.le_of_ble_eq_true rfl) dX12_couldBe_31) (ok_X12_apart x55 x61 e64) (fun H locs hW hS => ?_)
      refine lv_aload_n hx hb dX12_couldBe_34 rfl (lv_at hl 0 rfl) ?_
      obtain ⟨o66, e67, hF⟩ := bn hF
      refine r_getr X hW al_0 fl_12_82 e67 dX12_couldBe_35 (fun al68 => ?_)
      refine lv_iload_n hx hb dX12_couldBe_38 rfl (lv_at hl 1 rfl) ?_
      obtain ⟨x69, e70, hF⟩ := bn hF
      obtain ⟨b71, e70⟩ := ga_s e70
      refine r_iald X hW al68 rfl b71 dX12_couldBe_39 ?_
      refine nmi e70 ?_
      refine lv_icmp_gt (tgt := 47) hx hb dX12_couldBe_40 (by decide) (fun c72 => ?_) (fun c72 => ?_)
      · have hF := it c72 hF
        refine lv_iconst (v := 0) hx hb dX12_couldBe_47 (by decide) ?_
        exact j_48 0 _ _ _ hF hW hS (lv_sub hl [0, 1, 2] rfl)
      · have hF := ie c72 hF
        refine lv_iconst (v := 1) hx hb dX12_couldBe_43 (by decide) ?_
        refine lv_goto (tgt := 48) hx hb dX12_couldBe_44 (by decide) ?_
        exact j_48 1 _ _ _ hF hW hS (lv_sub hl [0, 1, 2] rfl)
def B_X12_couldOf_4 (i0 : Nat) (a1 : Int32) (h : HP) (q : Int32 × Int32) : Option ((Int32 × Int32) ⊕ (Int32)) :=
  u2 q fun x1 x2 =>
  (if (gi h 12 i0 8) ≤ x2 then
  some (.inr x1)
  else
  (F_X12_couldBe i0 a1 x2 h).bind fun x4 =>
  (if x4 = 0 then
  nm ((x1 ||| 0)) fun x5 =>
  nm (x2 + 1) fun x7 =>
  some (.inl (x5, x7))
  else
  nm ((x1 ||| (1 <<< (x2 &&& 31)))) fun x9 =>
  nm (x2 + 1) fun x11 =>
  some (.inl (x9, x11))))
def F_X12_couldOf (i0 : Nat) (a1 : Int32) (h : HP) : Option (Int32) :=
  (loopN LF (B_X12_couldOf_4 i0 a1 h) (0, 0)).bind fun x17 =>
  some x17
set_option maxHeartbeats 4000000 in
set_option maxRecDepth 100000 in
theorem ok_X12_couldOf {l : Launch} {D : va_G} {cA : Nat → ClassId} {h : HP} {r : Int32}  (i0 : Nat) (a1 : Int32) (al_0 : i0 < gn h 12) (hF : F_X12_couldOf i0 a1 h = some r) : MI l D cA yX12_couldOf cX12_couldOf 4 (some .int) 3 71 (fun φ => [.ref (φ 12 i0), .int a1]) h r h := by
  refine mk_I (plainFor_of_name (by decide)) (fun φ => Nat.le_of_ble_eq_true rfl) ?_
  intro p e s m args below meth c ls φ A Q X hW hS hl hfin
  have hx := X.1
  have hb := X.2.1
  have hl : lv_has ls 4 [(0, .ref (φ 12 i0)), (1, .int a1)] := hl
  unfold F_X12_couldOf at hF
  refine lv_iconst (v := 0) hx hb dX12_couldOf_0 (by decide) ?_
  refine lv_istore_n (lv' := [(2, .int 0), (0, .ref (φ 12 i0)), (1, .int a1)]) hx hb dX12_couldOf_1 rfl hl (by decide) rfl (fun ls hl => ?_)
  refine lv_iconst (v := 0) hx hb dX12_couldOf_2 (by decide) ?_
  refine lv_istore_n (lv' := [(3, .int 0), (2, .int 0), (0, .ref (φ 12 i0)), (1, .int a1)]) hx hb dX12_couldOf_3 rfl hl (by decide) rfl (fun ls hl => ?_)
  obtain ⟨q15, e16, hF⟩ := bn hF
  refine loop_w (f := B_X12_couldOf_4 i0 a1 h) (Z := fun q => ∀ (H : Heap) (locs : List Loc) (ls : Array Slot), HW D cA A φ h H → va_S A s.heap H locs → lv_has ls 4 [(0, .ref (φ 12 i0)), (1, .int a1), (2, .int (q.1)), (3, .int (q.2))] → W p l e (rmo 3 71 0 0) s m args below meth c H locs 0 0 Q (F0 m 4 ls [])) (K := fun q => ∀ (H : Heap) (locs : List Loc) (ls : Array Slot), HW D cA A φ h H → va_S A s.heap H locs → lv_has ls 4 [(2, .int q)] → W p l e (rmo 3 71 0 0) s m args below meth c H locs 0 0 Q (F0 m 37 ls [])) ?_ LF _ q15 e16 ?_ _ _ _ hW hS (lv_sub hl [2, 3, 1, 0] rfl)
  · intro q v hF hK H locs ls hW hS hl
    obtain ⟨x1, x2⟩ := q
    unfold B_X12_couldOf_4 at hF
    have hF := u2d hF
    have hl : lv_has ls 4 [(0, .ref (φ 12 i0)), (1, .int a1), (2, .int x1), (3, .int x2)] := hl
    refine lv_iload_n hx hb dX12_couldOf_4 rfl (lv_at hl 3 rfl) ?_
    refine lv_aload_n hx hb dX12_couldOf_5 rfl (lv_at hl 0 rfl) ?_
    refine r_geti X hW al_0 fl_12_167 dX12_couldOf_6 ?_
    refine lv_icmp_ge (tgt := 37) hx hb dX12_couldOf_9 (by decide) (fun c14 => ?_) (fun c14 => ?_)
    · have hF := it c14 hF
      obtain rfl := sj hF
      exact hK _ _ _ hW hS (lv_sub hl [2] rfl)
    · have hF := ie c14 hF
      refine lv_iload_n hx hb dX12_couldOf_12 rfl (lv_at hl 2 rfl) ?_
      refine lv_aload_n hx hb dX12_couldOf_13 rfl (lv_at hl 0 rfl) ?_
      refine lv_iload_n hx hb dX12_couldOf_14 rfl (lv_at hl 1 rfl) ?_
      refine lv_iload_n hx hb dX12_couldOf_15 rfl (lv_at hl 3 rfl) ?_
      obtain ⟨x4, e3, hF⟩ := bn hF
      refine rc_i (Af := fun φ => [.ref (φ 12 i0), .int a1, .int x2]) X hW hS ⟨Nat.zero_le _, Nat.zero_le _⟩ (rn_V (As := [.int a1, .int x2]) (rest := [.int x1]) X hW hS cw_12_263 al_0 rfl rfl rfl ⟨Nat.le_of_ble_eq_true rfl, Nat.le_of_ble_eq_true rfl⟩ rfl hl.1 rfl (Nat.le_of_ble_eq_true rfl) dX12_couldOf_16) (ok_X12_couldBe i0 a1 x2 al_0 e3) (fun H locs hW hS => ?_)
      refine lv_if_eq (tgt := 28) hx hb dX12_couldOf_19 (by decide) (fun c13 => ?_) (fun c13 => ?_)
      · have hF := it c13 hF
        refine lv_iconst (v := 0) hx hb dX12_couldOf_28 (by decide) ?_
        refine lv_ior hx hb dX12_couldOf_29 ?_
        obtain ⟨x5, e6, hF⟩ := nmx hF
        refine nmi e6 ?_
        refine lv_istore_n (lv' := [(2, .int x5), (0, .ref (φ 12 i0)), (1, .int a1), (3, .int x2)]) hx hb dX12_couldOf_30 rfl hl (by decide) rfl (fun ls hl => ?_)
        obtain ⟨x7, e8, hF⟩ := nmx hF
        refine lv_iinc (v := x7) (lv' := [(3, .int x7), (2, .int x5), (0, .ref (φ 12 i0)), (1, .int a1)]) hx hb dX12_couldOf_31 hl (k := 3) rfl (by rw [e8]; rfl) (by decide) rfl (fun ls hl => ?_)
        refine lv_goto (tgt := 4) hx hb dX12_couldOf_34 (by decide) ?_
        obtain rfl := sj hF
        exact hK _ _ _ hW hS (lv_sub hl [2, 3, 1, 0] rfl)
      · have hF := ie c13 hF
        refine lv_iconst (v := 1) hx hb dX12_couldOf_22 (by decide) ?_
        refine lv_iload_n hx hb dX12_couldOf_23 rfl (lv_at hl 3 rfl) ?_
        refine lv_ishl hx hb dX12_couldOf_24 ?_
        refine lv_goto (tgt := 29) hx hb dX12_couldOf_25 (by decide) ?_
        refine lv_ior hx hb dX12_couldOf_29 ?_
        obtain ⟨x9, e10, hF⟩ := nmx hF
        refine nmi e10 ?_
        refine lv_istore_n (lv' := [(2, .int x9), (0, .ref (φ 12 i0)), (1, .int a1), (3, .int x2)]) hx hb dX12_couldOf_30 rfl hl (by decide) rfl (fun ls hl => ?_)
        obtain ⟨x11, e12, hF⟩ := nmx hF
        refine lv_iinc (v := x11) (lv' := [(3, .int x11), (2, .int x9), (0, .ref (φ 12 i0)), (1, .int a1)]) hx hb dX12_couldOf_31 hl (k := 3) rfl (by rw [e12]; rfl) (by decide) rfl (fun ls hl => ?_)
        refine lv_goto (tgt := 4) hx hb dX12_couldOf_34 (by decide) ?_
        obtain rfl := sj hF
        exact hK _ _ _ hW hS (lv_sub hl [2, 3, 1, 0] rfl)
  · intro H locs ls hW hS hl
    obtain ⟨x17, rfl⟩ : ∃ z, z = q15 := ⟨_, rfl⟩
    have hl : lv_has ls 4 [(2, .int x17)] := hl
    refine lv_iload_n hx hb dX12_couldOf_37 rfl (lv_at hl 0 rfl) ?_
    obtain rfl := sj hF
    exact hfin _ _ _ _ hW hS dX12_couldOf_38
def F_X12_could (i0 : Nat) (a1 : Int32) (h : HP) : Option (Int32) :=
  (F_X12_isUnnamed i0 a1 h).bind fun x2 =>
  (if x2 = 0 then
  some (-2)
  else
  (F_X12_couldOf i0 a1 h).bind fun x4 =>
  some x4)
set_option maxHeartbeats 4000000 in
set_option maxRecDepth 100000 in
theorem ok_X12_could {l : Launch} {D : va_G} {cA : Nat → ClassId} {h : HP} {r : Int32}  (i0 : Nat) (a1 : Int32) (al_0 : i0 < gn h 12) (hF : F_X12_could i0 a1 h = some r) : MI l D cA yX12_could cX12_could 2 (some .int) 4 94 (fun φ => [.ref (φ 12 i0), .int a1]) h r h := by
  refine mk_I (plainFor_of_name (by decide)) (fun φ => Nat.le_of_ble_eq_true rfl) ?_
  intro p e s m args below meth c ls φ A Q X hW hS hl hfin
  have hx := X.1
  have hb := X.2.1
  have hl : lv_has ls 2 [(0, .ref (φ 12 i0)), (1, .int a1)] := hl
  unfold F_X12_could at hF
  refine lv_aload_n hx hb dX12_could_0 rfl (lv_at hl 0 rfl) ?_
  refine lv_iload_n hx hb dX12_could_1 rfl (lv_at hl 1 rfl) ?_
  obtain ⟨x2, e1, hF⟩ := bn hF
  refine rc_i (Af := fun φ => [.ref (φ 12 i0), .int a1]) X hW hS ⟨Nat.zero_le _, Nat.zero_le _⟩ (rn_V (As := [.int a1]) (rest := []) X hW hS cw_12_266 al_0 rfl rfl rfl ⟨Nat.le_of_ble_eq_true rfl, Nat.le_of_ble_eq_true rfl⟩ rfl hl.1 rfl (Nat.le_of_ble_eq_true rfl) dX12_could_2) (ok_X12_isUnnamed i0 a1 al_0 e1) (fun H locs hW hS => ?_)
  refine lv_if_eq (tgt := 16) hx hb dX12_could_5 (by decide) (fun c5 => ?_) (fun c5 => ?_)
  · have hF := it c5 hF
    refine lv_bipush (v := (-2)) hx hb dX12_could_16 (by decide) ?_
    obtain rfl := sj hF
    exact hfin _ _ _ _ hW hS dX12_could_18
  · have hF := ie c5 hF
    refine lv_aload_n hx hb dX12_could_8 rfl (lv_at hl 0 rfl) ?_
    refine lv_iload_n hx hb dX12_could_9 rfl (lv_at hl 1 rfl) ?_
    obtain ⟨x4, e3, hF⟩ := bn hF
    refine rc_i (Af := fun φ => [.ref (φ 12 i0), .int a1]) X hW hS ⟨Nat.zero_le _, Nat.zero_le _⟩ (rn_V (As := [.int a1]) (rest := []) X hW hS cw_12_269 al_0 rfl rfl rfl ⟨Nat.le_of_ble_eq_true rfl, Nat.le_of_ble_eq_true rfl⟩ rfl hl.1 rfl (Nat.le_of_ble_eq_true rfl) dX12_could_10) (ok_X12_couldOf i0 a1 al_0 e3) (fun H locs hW hS => ?_)
    refine lv_goto (tgt := 18) hx hb dX12_could_13 (by decide) ?_
    obtain rfl := sj hF
    exact hfin _ _ _ _ hW hS dX12_could_18
