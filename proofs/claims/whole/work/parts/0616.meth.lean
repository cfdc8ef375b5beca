def F_X12_peal (i0 : Nat) (a1 : Int32) (a2 : Int32) (h : HP) : Option (Int32) :=
  (F_X12_isParish i0 a1 h).bind fun x2 =>
  (if x2 = 0 then
  some (-1000)
  else
  (F_X12_in ((a2).toInt64) 0 5).bind fun x4 =>
  (if x4 = 0 then
  some (-1000)
  else
  (F_X12_pealOf i0 a1 a2 h).bind fun x6 =>
  some x6))
set_option maxHeartbeats 4000000 in
set_option maxRecDepth 100000 in
theorem ok_X12_peal {l : Launch} {D : va_G} {cA : Nat → ClassId} {h : HP} {r : Int32}  (i0 : Nat) (a1 : Int32) (a2 : Int32) (al_0 : i0 < gn h 12) (hF : F_X12_peal i0 a1 a2 h = some r) : MI l D cA yX12_peal cX12_peal 3 (some .int) 5 123 (fun φ => [.ref (φ 12 i0), .int a1, .int a2]) h r h := by
  refine mk_I (plainFor_of_name (by decide)) (fun φ => Nat.le_of_ble_eq_true rfl) ?_
  intro p e s m args below meth c ls φ A Q X hW hS hl hfin
  have hx := X.1
  have hb := X.2.1
  have hl : lv_has ls 3 [(0, .ref (φ 12 i0)), (1, .int a1), (2, .int a2)] := hl
  unfold F_X12_peal at hF
  refine lv_aload_n hx hb dX12_peal_0 rfl (lv_at hl 0 rfl) ?_
  refine lv_iload_n hx hb dX12_peal_1 rfl (lv_at hl 1 rfl) ?_
  obtain ⟨x2, e1, hF⟩ := bn hF
  refine rc_i (Af := fun φ => [.ref (φ 12 i0), .int a1]) X hW hS ⟨Nat.zero_le _, Nat.zero_le _⟩ (rn_V (As := [.int a1]) (rest := []) X hW hS cw_12_175 al_0 rfl rfl rfl ⟨Nat.le_of_ble_eq_true rfl, Nat.le_of_ble_eq_true rfl⟩ rfl hl.1 rfl (Nat.le_of_ble_eq_true rfl) dX12_peal_2) (ok_X12_isParish i0 a1 al_0 e1) (fun H locs hW hS => ?_)
  refine lv_if_eq (tgt := 29) hx hb dX12_peal_5 (by decide) (fun c8 => ?_) (fun c8 => ?_)
  · have hF := it c8 hF
    refine lv_sipush (v := (-1000)) hx hb dX12_peal_29 (by decide) ?_
    obtain rfl := sj hF
    exact hfin _ _ _ _ hW hS dX12_peal_32
  · have hF := ie c8 hF
    refine lv_iload_n hx hb dX12_peal_8 rfl (lv_at hl 2 rfl) ?_
    refine lv_i2l (v := (a2).toInt64) hx hb dX12_peal_9 rfl ?_
    refine lv_lconst (v := 0) hx hb dX12_peal_10 (by decide) ?_
    refine lv_ldc2 (v := 5) hx hb X.2.2.2.1 (X.2.2.2.2.1 _ (AL_of 1264 (by decide +kernel) rfl)) dX12_peal_11 ?_
    obtain ⟨x4, e3, hF⟩ := bn hF
    refine rc_i (Af := fun φ => [.long ((a2).toInt64), .long 0, .long 5]) X hW hS ⟨Nat.zero_le _, Nat.zero_le _⟩ (rn_S (As := [.long ((a2).toInt64), .long 0, .long 5]) (rest := []) X hW hS cw_12_139 ⟨Nat.le_of_ble_eq_true rfl, Nat.le_of_ble_eq_true rfl⟩ rfl hl.1 rfl (Nat.le_of_ble_eq_true rfl) dX12_peal_14) (ok_X12_in ((a2).toInt64) 0 5 e3) (fun H locs hW hS => ?_)
    refine lv_if_eq (tgt := 29) hx hb dX12_peal_17 (by decide) (fun c7 => ?_) (fun c7 => ?_)
    · have hF := it c7 hF
      refine lv_sipush (v := (-1000)) hx hb dX12_peal_29 (by decide) ?_
      obtain rfl := sj hF
      exact hfin _ _ _ _ hW hS dX12_peal_32
    · have hF := ie c7 hF
      refine lv_aload_n hx hb dX12_peal_20 rfl (lv_at hl 0 rfl) ?_
      refine lv_iload_n hx hb dX12_peal_21 rfl (lv_at hl 1 rfl) ?_
      refine lv_iload_n hx hb dX12_peal_22 rfl (lv_at hl 2 rfl) ?_
      obtain ⟨x6, e5, hF⟩ := bn hF
      refine rc_i (Af := fun φ => [.ref (φ 12 i0), .int a1, .int a2]) X hW hS ⟨Nat.zero_le _, Nat.zero_le _⟩ (rn_V (As := [.int a1, .int a2]) (rest := []) X hW hS cw_12_310 al_0 rfl rfl rfl ⟨Nat.le_of_ble_eq_true rfl, Nat.le_of_ble_eq_true rfl⟩ rfl hl.1 rfl (Nat.le_of_ble_eq_true rfl) dX12_peal_23) (ok_X12_pealOf i0 a1 a2 al_0 e5) (fun H locs hW hS => ?_)
      refine lv_goto (tgt := 32) hx hb dX12_peal_26 (by decide) ?_
      obtain rfl := sj hF
      exact hfin _ _ _ _ hW hS dX12_peal_32
def F_X12_step (i0 : Nat) (a1 : Int32) (a2 : Int32) (h : HP) : Option (Int32) :=
  (F_X12_isParish i0 a1 h).bind fun x2 =>
  (if x2 = 0 then
  some (-2)
  else
  (F_X12_isBell i0 a2 h).bind fun x4 =>
  (if x4 = 0 then
  some (-2)
  else
  (F_X12_groundOf i0 a1 h).bind fun x6 =>
  (F_X12_stepOf i0 a2 x6 h).bind fun x8 =>
  some x8))
set_option maxHeartbeats 4000000 in
set_option maxRecDepth 100000 in
theorem ok_X12_step {l : Launch} {D : va_G} {cA : Nat → ClassId} {h : HP} {r : Int32}  (i0 : Nat) (a1 : Int32) (a2 : Int32) (al_0 : i0 < gn h 12) (hF : F_X12_step i0 a1 a2 h = some r) : MI l D cA yX12_step cX12_step 3 (some .int) 4 91 (fun φ => [.ref (φ 12 i0), .int a1, .int a2]) h r h := by
  refine mk_I (plainFor_of_name (by decide)) (fun φ => Nat.le_of_ble_eq_true rfl) ?_
  intro p e s m args below meth c ls φ A Q X hW hS hl hfin
  have hx := X.1
  have hb := X.2.1
  have hl : lv_has ls 3 [(0, .ref (φ 12 i0)), (1, .int a1), (2, .int a2)] := hl
  unfold F_X12_step at hF
  refine lv_aload_n hx hb dX12_step_0 rfl (lv_at hl 0 rfl) ?_
  refine lv_iload_n hx hb dX12_step_1 rfl (lv_at hl 1 rfl) ?_
  obtain ⟨x2, e1, hF⟩ := bn hF
  refine rc_i (Af := fun φ => [.ref (φ 12 i0), .int a1]) X hW hS ⟨Nat.zero_le _, Nat.zero_le _⟩ (rn_V (As := [.int a1]) (rest := []) X hW hS cw_12_175 al_0 rfl rfl rfl ⟨Nat.le_of_ble_eq_true rfl, Nat.le_of_ble_eq_true rfl⟩ rfl hl.1 rfl (Nat.le_of_ble_eq_true rfl) dX12_step_2) (ok_X12_isParish i0 a1 al_0 e1) (fun H locs hW hS => ?_)
  refine lv_if_eq (tgt := 29) hx hb dX12_step_5 (by decide) (fun c10 => ?_) (fun c10 => ?_)
  · have hF := it c10 hF
    refine lv_bipush (v := (-2)) hx hb dX12_step_29 (by decide) ?_
    obtain rfl := sj hF
    exact hfin _ _ _ _ hW hS dX12_step_31
  · have hF := ie c10 hF
    refine lv_aload_n hx hb dX12_step_8 rfl (lv_at hl 0 rfl) ?_
    refine lv_iload_n hx hb dX12_step_9 rfl (lv_at hl 2 rfl) ?_
    obtain ⟨x4, e3, hF⟩ := bn hF
    refine rc_i (Af := fun φ => [.ref (φ 12 i0), .int a2]) X hW hS ⟨Nat.zero_le _, Nat.zero_le _⟩ (rn_V (As := [.int a2]) (rest := []) X hW hS cw_12_190 al_0 rfl rfl rfl ⟨Nat.le_of_ble_eq_true rfl, Nat.le_of_ble_eq_true rfl⟩ rfl hl.1 rfl (Nat.le_of_ble_eq_true rfl) dX12_step_10) (ok_X12_isBell i0 a2 al_0 e3) (fun H locs hW hS => ?_)
    refine lv_if_eq (tgt := 29) hx hb dX12_step_13 (by decide) (fun c9 => ?_) (fun c9 => ?_)
    · have hF := it c9 hF
      refine lv_bipush (v := (-2)) hx hb dX12_step_29 (by decide) ?_
      obtain rfl := sj hF
      exact hfin _ _ _ _ hW hS dX12_step_31
    · have hF := ie c9 hF
      refine lv_aload_n hx hb dX12_step_16 rfl (lv_at hl 0 rfl) ?_
      refine lv_iload_n hx hb dX12_step_17 rfl (lv_at hl 2 rfl) ?_
      refine lv_aload_n hx hb dX12_step_18 rfl (lv_at hl 0 rfl) ?_
      refine lv_iload_n hx hb dX12_step_19 rfl (lv_at hl 1 rfl) ?_
      obtain ⟨x6, e5, hF⟩ := bn hF
      refine rc_i (Af := fun φ => [.ref (φ 12 i0), .int a1]) X hW hS ⟨Nat.zero_le _, Nat.zero_le _⟩ (rn_V (As := [.int a1]) (rest := [.int a2, .ref (φ 12 i0)]) X hW hS cw_12_304 al_0 rfl rfl rfl ⟨Nat.le_of_ble_eq_true rfl, Nat.le_of_ble_eq_true rfl⟩ rfl hl.1 rfl (Nat.le_of_ble_eq_true rfl) dX12_step_20) (ok_X12_groundOf i0 a1 al_0 e5) (fun H locs hW hS => ?_)
      obtain ⟨x8, e7, hF⟩ := bn hF
      refine rc_i (Af := fun φ => [.ref (φ 12 i0), .int a2, .int x6]) X hW hS ⟨Nat.zero_le _, Nat.zero_le _⟩ (rn_V (As := [.int a2, .int x6]) (rest := []) X hW hS cw_12_307 al_0 rfl rfl rfl ⟨Nat.le_of_ble_eq_true rfl, Nat.le_of_ble_eq_true rfl⟩ rfl hl.1 rfl (Nat.le_of_ble_eq_true rfl) dX12_step_23) (ok_X12_stepOf i0 a2 x6 al_0 e7) (fun H locs hW hS => ?_)
      refine lv_goto (tgt := 31) hx hb dX12_step_26 (by decide) ?_
      obtain rfl := sj hF
      exact hfin _ _ _ _ hW hS dX12_step_31
def F_X12_isBatch (i0 : Nat) (a1 : Int32) (h : HP) : Option (Int32) :=
  (F_X12_in ((a1).toInt64) 0 ((((gi h 12 i0 39) - 1)).toInt64)).bind fun x2 =>
  (bz x2).bind fun x3 => some x3
set_option maxHeartbeats 4000000 in
set_option maxRecDepth 100000 in
theorem ok_X12_isBatch {l : Launch} {D : va_G} {cA : Nat → ClassId} {h : HP} {r : Int32}  (i0 : Nat) (a1 : Int32) (al_0 : i0 < gn h 12) (hF : F_X12_isBatch i0 a1 h = some r) : MI l D cA yX12_isBatch cX12_isBatch 2 (some .boolean) 1 25 (fun φ => [.ref (φ 12 i0), .int a1]) h r h := by
  refine mk_Z (plainFor_of_name (by decide)) (fun φ => Nat.le_of_ble_eq_true rfl) ?_
  intro p e s m args below meth c ls φ A Q X hW hS hl hfin
  have hx := X.1
  have hb := X.2.1
  have hl : lv_has ls 2 [(0, .ref (φ 12 i0)), (1, .int a1)] := hl
  unfold F_X12_isBatch at hF
  refine lv_iload_n hx hb dX12_isBatch_0 rfl (lv_at hl 1 rfl) ?_
  refine lv_i2l (v := (a1).toInt64) hx hb dX12_isBatch_1 rfl ?_
  refine lv_lconst (v := 0) hx hb dX12_isBatch_2 (by decide) ?_
  refine lv_aload_n hx hb dX12_isBatch_3 rfl (lv_at hl 0 rfl) ?_
  refine r_geti X hW al_0 fl_12_313 dX12_isBatch_4 ?_
  refine lv_iconst (v := 1) hx hb dX12_isBatch_7 (by decide) ?_
  refine lv_isub hx hb dX12_isBatch_8 ?_
  refine lv_i2l (v := (((gi h 12 i0 39) - 1)).toInt64) hx hb dX12_isBatch_9 rfl ?_
  obtain ⟨x2, e1, hF⟩ := bn hF
  refine rc_i (Af := fun φ => [.long ((a1).toInt64), .long 0, .long ((((gi h 12 i0 39) - 1)).toInt64)]) X hW hS ⟨Nat.zero_le _, Nat.zero_le _⟩ (rn_S (As := [.long ((a1).toInt64), .long 0, .long ((((gi h 12 i0 39) - 1)).toInt64)]) (rest := []) X hW hS cw_12_139 ⟨Nat.le_of_ble_eq_true rfl, Nat.le_of_ble_eq_true rfl⟩ rfl hl.1 rfl (Nat.le_of_ble_eq_true rfl) dX12_isBatch_10) (ok_X12_in ((a1).toInt64) 0 ((((gi h 12 i0 39) - 1)).toInt64) e1) (fun H locs hW hS => ?_)
  obtain ⟨x3, e4, hF⟩ := bn hF
  obtain ⟨b5, e4⟩ := bz_s e4
  refine nmi e4 ?_
  rw [← e4] at b5
  obtain rfl := sj hF
  exact hfin _ _ _ _ hW hS b5 dX12_isBatch_13
def F_X12_areBells (i0 : Nat) (a1 : Int32) (h : HP) : Option (Int32) :=
  (F_X12_in ((a1).toInt64) 0 ((((1 <<< ((gi h 12 i0 8) &&& 31)) - 1)).toInt64)).bind fun x2 =>
  (bz x2).bind fun x3 => some x3
set_option maxHeartbeats 4000000 in
set_option maxRecDepth 100000 in
theorem ok_X12_areBells {l : Launch} {D : va_G} {cA : Nat → ClassId} {h : HP} {r : Int32}  (i0 : Nat) (a1 : Int32) (al_0 : i0 < gn h 12) (hF : F_X12_areBells i0 a1 h = some r) : MI l D cA yX12_areBells cX12_areBells 2 (some .boolean) 1 25 (fun φ => [.ref (φ 12 i0), .int a1]) h r h := by
  refine mk_Z (plainFor_of_name (by decide)) (fun φ => Nat.le_of_ble_eq_true rfl) ?_
  intro p e s m args below meth c ls φ A Q X hW hS hl hfin
  have hx := X.1
  have hb := X.2.1
  have hl : lv_has ls 2 [(0, .ref (φ 12 i0)), (1, .int a1)] := hl
  unfold F_X12_areBells at hF
  refine lv_iload_n hx hb dX12_areBells_0 rfl (lv_at hl 1 rfl) ?_
  refine lv_i2l (v := (a1).toInt64) hx hb dX12_areBells_1 rfl ?_
  refine lv_lconst (v := 0) hx hb dX12_areBells_2 (by decide) ?_
  refine lv_iconst (v := 1) hx hb dX12_areBells_3 (by decide) ?_
  refine lv_aload_n hx hb dX12_areBells_4 rfl (lv_at hl 0 rfl) ?_
  refine r_geti X hW al_0 fl_12_167 dX12_areBells_5 ?_
  refine lv_ishl hx hb dX12_areBells_8 ?_
  refine lv_iconst (v := 1) hx hb dX12_areBells_9 (by decide) ?_
  refine lv_isub hx hb dX12_areBells_10 ?_
  refine lv_i2l (v := (((1 <<< ((gi h 12 i0 8) &&& 31)) - 1)).toInt64) hx hb dX12_areBells_11 rfl ?_
  obtain ⟨x2, e1, hF⟩ := bn hF
  refine rc_i (Af := fun φ => [.long ((a1).toInt64), .long 0, .long ((((1 <<< ((gi h 12 i0 8) &&& 31)) - 1)).toInt64)]) X hW hS ⟨Nat.zero_le _, Nat.zero_le _⟩ (rn_S (As := [.long ((a1).toInt64), .long 0, .long ((((1 <<< ((gi h 12 i0 8) &&& 31)) - 1)).toInt64)]) (rest := []) X hW hS cw_12_139 ⟨Nat.le_of_ble_eq_true rfl, Nat.le_of_ble_eq_true rfl⟩ rfl hl.1 rfl (Nat.le_of_ble_eq_true rfl) dX12_areBells_12) (ok_X12_in ((a1).toInt64) 0 ((((1 <<< ((gi h 12 i0 8) &&& 31)) - 1)).toInt64) e1) (fun H locs hW hS => ?_)
  obtain ⟨x3, e4, hF⟩ := bn hF
  obtain ⟨b5, e4⟩ := bz_s e4
  refine nmi e4 ?_
  rw [← e4] at b5
  obtain rfl := sj hF
  exact hfin _ _ _ _ hW hS b5 dX12_areBells_15
def F_X12_batch (i0 : Nat) (a1 : Int32) (a2 : Int32) (a3 : Int32) (a4 : Int32) (a5 : Int32) (h : HP) : Option (Int32 × DP) :=
  (F_X12_in ((a1).toInt64) 0 99999).bind fun x2 =>
  (if x2 = 0 then
  some ((-2), dp h)
  else
  (F_X12_in ((a2).toInt64) 0 9999).bind fun x4 =>
  (if x4 = 0 then
  some ((-2), dp h)
  else
  (F_X12_in ((a4).toInt64) 0 100).bind fun x6 =>
  (if x6 = 0 then
  some ((-2), dp h)
  else
  (F_X12_in ((a3).toInt64) 0 ((a4).toInt64)).bind fun x8 =>
  (if x8 = 0 then
  some ((-2), dp h)
  else
  (F_X12_areBells i0 a5 h).bind fun x10 =>
  (if x10 = 0 then
  some ((-2), dp h)
  else
  (F_X12_ones a5).bind fun x12 =>
  (F_X12_in ((x12).toInt64) 1 12).bind fun x14 =>
  (if x14 = 0 then
  some ((-2), dp h)
  else
  (if (gi h 12 i0 39) = 6 then
  some ((-4), dp h)
  else
  (gr h 12 i0 40).bind fun o15 =>
  (sa h 72 o15 6 (gi h 12 i0 39) a1).bind fun h18 =>
  (gr h18 12 i0 41).bind fun o22 =>
  (sa h18 73 o22 6 (gi h18 12 i0 39) a2).bind fun h25 =>
  (gr h25 12 i0 42).bind fun o29 =>
  (sa h25 74 o29 6 (gi h25 12 i0 39) a3).bind fun h32 =>
  (gr h32 12 i0 43).bind fun o36 =>
  (sa h32 75 o36 6 (gi h32 12 i0 39) a4).bind fun h39 =>
  (gr h39 12 i0 44).bind fun o43 =>
  (sa h39 76 o43 6 (gi h39 12 i0 39) a5).bind fun h46 =>
  nm (si h46 12 i0 39 ((gi h46 12 i0 39) + 1)) fun h50 =>
  some (((gi h50 12 i0 39) - 1), dp h50))))))))
set_option maxHeartbeats 4000000 in
set_option maxRecDepth 100000 in
theorem ok_X12_batch {l : Launch} {D : va_G} {cA : Nat → ClassId} {h : HP} {r : Int32} {d : DP} (i0 : Nat) (a1 : Int32) (a2 : Int32) (a3 : Int32) (a4 : Int32) (a5 : Int32) (al_0 : i0 < gn h 12) (hF : F_X12_batch i0 a1 a2 a3 a4 a5 h = some (r, d)) : MI l D cA yX12_batch cX12_batch 6 (some .int) 2 46 (fun φ => [.ref (φ 12 i0), .int a1, .int a2, .int a3, .int a4, .int a5]) h r (wd h d) := by
  refine mk_I (plainFor_of_name (by decide)) (fun φ => Nat.le_of_ble_eq_true rfl) ?_
  intro p e s m args below meth c ls φ A Q X hW hS hl hfin
  have hx := X.1
  have hb := X.2.1
  have hl : lv_has ls 6 [(0, .ref (φ 12 i0)), (1, .int a1), (2, .int a2), (3, .int a3), (4, .int a4), (5, .int a5)] := hl
  unfold F_X12_batch at hF
  refine lv_iload_n hx hb dX12_batch_0 rfl (lv_at hl 1 rfl) ?_
  refine lv_i2l (v := (a1).toInt64) hx hb dX12_batch_1 rfl ?_
  refine lv_lconst (v := 0) hx hb dX12_batch_2 (by decide) ?_
  refine lv_ldc2 (v := 99999) hx hb X.2.2.2.1 (X.2.2.2.2.1 _ (AL_of 1442 (by decide +kernel) rfl)) dX12_batch_3 ?_
  obtain ⟨x2, e1, hF⟩ := bn hF
  refine rc_i (Af := fun φ => [.long ((a1).toInt64), .long 0, .long 99999]) X hW hS ⟨Nat.zero_le _, Nat.zero_le _⟩ (rn_S (As := [.long ((a1).toInt64), .long 0, .long 99999]) (rest := []) X hW hS cw_12_139 ⟨Nat.le_of_ble_eq_true rfl, Nat.le_of_ble_eq_true rfl⟩ rfl hl.1 rfl (Nat.le_of_ble_eq_true rfl) dX12_batch_6) (ok_X12_in ((a1).toInt64) 0 99999 e1) (fun H locs hW hS => ?_)
  refine lv_if_eq (tgt := 74) hx hb dX12_batch_9 (by decide) (fun c59 => ?_) (fun c59 => ?_)
  · have hF := it c59 hF
    refine lv_bipush (v := (-2)) hx hb dX12_batch_74 (by decide) ?_
    obtain ⟨rfl, rfl⟩ := sj2 hF
    exact hfin _ _ _ _ (wdW rfl hW) hS dX12_batch_76
  · have hF := ie c59 hF
    refine lv_iload_n hx hb dX12_batch_12 rfl (lv_at hl 2 rfl) ?_
    refine lv_i2l (v := (a2).toInt64) hx hb dX12_batch_13 rfl ?_
    refine lv_lconst (v := 0) hx hb dX12_batch_14 (by decide) ?_
    refine lv_ldc2 (v := 9999) hx hb X.2.2.2.1 (X.2.2.2.2.1 _ (AL_of 1229 (by decide +kernel) rfl)) dX12_batch_15 ?_
    obtain ⟨x4, e3, hF⟩ := bn hF
    refine rc_i (Af := fun φ => [.long ((a2).toInt64), .long 0, .long 9999]) X hW hS ⟨Nat.zero_le _, Nat.zero_le _⟩ (rn_S (As := [.long ((a2).toInt64), .long 0, .long 9999]) (rest := []) X hW hS cw_12_139 ⟨Nat.le_of_ble_eq_true rfl, Nat.le_of_ble_eq_true rfl⟩ rfl hl.1 rfl (Nat.le_of_ble_eq_true rfl) dX12_batch_18) (ok_X12_in ((a2).toInt64) 0 9999 e3) (fun H locs hW hS => ?_)
    refine lv_if_eq (tgt := 74) hx hb dX12_batch_21 (by decide) (fun c58 => ?_) (fun c58 => ?_)
    · have hF := it c58 hF
      refine lv_bipush (v := (-2)) hx hb dX12_batch_74 (by decide) ?_
      obtain ⟨rfl, rfl⟩ := sj2 hF
      exact hfin _ _ _ _ (wdW rfl hW) hS dX12_batch_76
    · have hF := ie c58 hF
      refine lv_iload hx hb dX12_batch_24 (lv_at hl 4 rfl) ?_
      refine lv_i2l (v := (a4).toInt64) hx hb dX12_batch_26 rfl ?_
      refine lv_lconst (v := 0) hx hb dX12_batch_27 (by decide) ?_
      refine lv_ldc2 (v := 100) hx hb X.2.2.2.1 (X.2.2.2.2.1 _ (AL_of 1212 (by decide +kernel) rfl)) dX12_batch_28 ?_
      obtain ⟨x6, e5, hF⟩ := bn hF
      refine rc_i (Af := fun φ => [.long ((a4).toInt64), .long 0, .long 100]) X hW hS ⟨Nat.zero_le _, Nat.zero_le _⟩ (rn_S (As := [.long ((a4).toInt64), .long 0, .long 100]) (rest := []) X hW hS cw_12_139 ⟨Nat.le_of_ble_eq_true rfl, Nat.le_of_ble_eq_true rfl⟩ rfl hl.1 rfl (Nat.le_of_ble_eq_true rfl) dX12_batch_31) (ok_X12_in ((a4).toInt64) 0 100 e5) (fun H locs hW hS => ?_)
      refine lv_if_eq (tgt := 74) hx hb dX12_batch_34 (by decide) (fun c57 => ?_) (fun c57 => ?_)
      · have hF := it c57 hF
        refine lv_bipush (v := (-2)) hx hb dX12_batch_74 (by decide) ?_
        obtain ⟨rfl, rfl⟩ := sj2 hF
        exact hfin _ _ _ _ (wdW rfl hW) hS dX12_batch_76
      · have hF := ie c57 hF
        refine lv_iload_n hx hb dX12_batch_37 rfl (lv_at hl 3 rfl) ?_
        refine lv_i2l (v := (a3).toInt64) hx hb dX12_batch_38 rfl ?_
        refine lv_lconst (v := 0) hx hb dX12_batch_39 (by decide) ?_
        refine lv_iload hx hb dX12_batch_40 (lv_at hl 4 rfl) ?_
        refine lv_i2l (v := (a4).toInt64) hx hb dX12_batch_42 rfl ?_
        obtain ⟨x8, e7, hF⟩ := bn hF
        refine rc_i (Af := fun φ => [.long ((a3).toInt64), .long 0, .long ((a4).toInt64)]) X hW hS ⟨Nat.zero_le _, Nat.zero_le _⟩ (rn_S (As := [.long ((a3).toInt64), .long 0, .long ((a4).toInt64)]) (rest := []) X hW hS cw_12_139 ⟨Nat.le_of_ble_eq_true rfl, Nat.le_of_ble_eq_true rfl⟩ rfl hl.1 rfl (Nat.le_of_ble_eq_true rfl) dX12_batch_43) (ok_X12_in ((a3).toInt64) 0 ((a4).toInt64) e7) (fun H locs hW hS => ?_)
        refine lv_if_eq (tgt := 74) hx hb dX12_batch_46 (by decide) (fun c56 => ?_) (fun c56 => ?_)
        · have hF := it c56 hF
          refine lv_bipush (v := (-2)) hx hb dX12_batch_74 (by decide) ?_
          obtain ⟨rfl, rfl⟩ := sj2 hF
          exact hfin _ _ _ _ (wdW rfl hW) hS dX12_batch_76
        · have hF := ie c56 hF
          refine lv_aload_n hx hb dX12_batch_49 rfl (lv_at hl 0 rfl) ?_
          refine lv_iload hx hb dX12_batch_50 (lv_at hl 5 rfl) ?_
          obtain ⟨x10, e9, hF⟩ := bn hF
          refine rc_i (Af := fun φ => [.ref (φ 12 i0), .int a5]) X hW hS ⟨Nat.zero_le _, Nat.zero_le _⟩ (rn_V (As := [.int a5]) (rest := []) X hW hS cw_12_318 al_0 rfl rfl rfl ⟨Nat.le_of_ble_eq_true rfl, Nat.le_of_ble_eq_true rfl⟩ rfl hl.1 rfl (Nat.le_of_ble_eq_true rfl) dX12_batch_52) (ok_X12_areBells i0 a5 al_0 e9) (fun H locs hW hS => ?_)
          refine lv_if_eq (tgt := 74) hx hb dX12_batch_55 (by decide) (fun c55 => ?_) (fun c55 => ?_)
          · have hF := it c55 hF
            refine lv_bipush (v := (-2)) hx hb dX12_batch_74 (by decide) ?_
            obtain ⟨rfl, rfl⟩ := sj2 hF
            exact hfin _ _ _ _ (wdW rfl hW) hS dX12_batch_76
          · have hF := ie c55 hF
            refine lv_iload hx hb dX12_batch_58 (lv_at hl 5 rfl) ?_
            obtain ⟨x12, e11, hF⟩ := bn hF
            refine rc_i (Af := fun φ => [.int a5]) X hW hS ⟨Nat.zero_le _, Nat.zero_le _⟩ (rn_S (As := [.int a5]) (rest := []) X hW hS cw_12_272 ⟨Nat.le_of_ble_eq_true rfl, Nat.le_of_ble_eq_true rfl⟩ rfl hl.1 rfl (Nat.le_of_ble_eq_true rfl) dX12_batch_60) (ok_X12_ones a5 e11) (fun H locs hW hS => ?_)
            refine lv_i2l (v := (x12).toInt64) hx hb dX12_batch_63 rfl ?_
            refine lv_lconst (v := 1) hx hb dX12_batch_64 (by decide) ?_
            refine lv_ldc2 (v := 12) hx hb X.2.2.2.1 (X.2.2.2.2.1 _ (AL_of 1447 (by decide +kernel) rfl)) dX12_batch_65 ?_
            obtain ⟨x14, e13, hF⟩ := bn hF
            refine rc_i (Af := fun φ => [.long ((x12).toInt64), .long 1, .long 12]) X hW hS ⟨Nat.zero_le _, Nat.zero_le _⟩ (rn_S (As := [.long ((x12).toInt64), .long 1, .long 12]) (rest := []) X hW hS cw_12_139 ⟨Nat.le_of_ble_eq_true rfl, Nat.le_of_ble_eq_true rfl⟩ rfl hl.1 rfl (Nat.le_of_ble_eq_true rfl) dX12_batch_68) (ok_X12_in ((x12).toInt64) 1 12 e13) (fun H locs hW hS => ?_)
            refine lv_if_ne (tgt := 77) hx hb dX12_batch_71 (by decide) (fun c54 => ?_) (fun c54 => ?_)
            · have hF := ie c54 hF
              refine lv_aload_n hx hb dX12_batch_77 rfl (lv_at hl 0 rfl) ?_
              refine r_geti X hW al_0 fl_12_313 dX12_batch_78 ?_
              refine lv_bipush (v := 6) hx hb dX12_batch_81 (by decide) ?_
              refine lv_icmp_ne (tgt := 89) hx hb dX12_batch_83 (by decide) (fun c53 => ?_) (fun c53 => ?_)
              · have hF := ie c53 hF
                refine lv_aload_n hx hb dX12_batch_89 rfl (lv_at hl 0 rfl) ?_
                obtain ⟨o15, e16, hF⟩ := bn hF
                refine r_getr X hW al_0 fl_12_98 e16 dX12_batch_90 (fun al17 => ?_)
                refine lv_aload_n hx hb dX12_batch_93 rfl (lv_at hl 0 rfl) ?_
                refine r_geti X hW al_0 fl_12_313 dX12_batch_94 ?_
                refine lv_iload_n hx hb dX12_batch_97 rfl (lv_at hl 1 rfl) ?_
                obtain ⟨h18, e19, hF⟩ := bn hF
                obtain ⟨b20, e19⟩ := sa_s e19
                refine r_iast X hW hS al17 rfl b20 dX12_batch_98 (fun H locs hW hS => ?_)
                have hW := nmW e19 hW
                have g21 : h18.2.2 = h.2.2 := by rw [e19]; exact rfl
                refine lv_aload_n hx hb dX12_batch_99 rfl (lv_at hl 0 rfl) ?_
                obtain ⟨o22, e23, hF⟩ := bn hF
                refine r_getr X hW (gq g21 al_0) fl_12_101 e23 dX12_batch_100 (fun al24 => ?_)
                have al24 := qg g21 al24
                refine lv_aload_n hx hb dX12_batch_103 rfl (lv_at hl 0 rfl) ?_
                refine r_geti X hW (gq g21 al_0) fl_12_313 dX12_batch_104 ?_
                refine lv_iload_n hx hb dX12_batch_107 rfl (lv_at hl 2 rfl) ?_
                obtain ⟨h25, e26, hF⟩ := bn hF
                obtain ⟨b27, e26⟩ := sa_s e26
                refine r_iast X hW hS (gq g21 al24) rfl b27 dX12_batch_108 (fun H locs hW hS => ?_)
                have hW := nmW e26 hW
                have g28 : h25.2.2 = h.2.2 := by rw [e26]; exact g21
                refine lv_aload_n hx hb dX12_batch_109 rfl (lv_at hl 0 rfl) ?_
                obtain ⟨o29, e30, hF⟩ := bn hF
                refine r_getr X hW (gq g28 al_0) fl_12_104 e30 dX12_batch_110 (fun al31 => ?_)
                have al31 := qg g28 al31
                refine lv_aload_n hx hb dX12_batch_113 rfl (lv_at hl 0 rfl) ?_
                refine r_geti X hW (gq g28 al_0) fl_12_313 dX12_batch_114 ?_
                refine lv_iload_n hx hb dX12_batch_117 rfl (lv_at hl 3 rfl) ?_
                obtain ⟨h32, e33, hF⟩ := bn hF
                obtain ⟨b34, e33⟩ := sa_s e33
                refine r_iast X hW hS (gq g28 al31) rfl b34 dX12_batch_118 (fun H locs hW hS => ?_)
                have hW := nmW e33 hW
                have g35 : h32.2.2 = h.2.2 := by rw [e33]; exact g28
                refine lv_aload_n hx hb dX12_batch_119 rfl (lv_at hl 0 rfl) ?_
                obtain ⟨o36, e37, hF⟩ := bn hF
                refine r_getr X hW (gq g35 al_0) fl_12_107 e37 dX12_batch_120 (fun al38 => ?_)
                have al38 := qg g35 al38
                refine lv_aload_n hx hb dX12_batch_123 rfl (lv_at hl 0 rfl) ?_
                refine r_geti X hW (gq g35 al_0) fl_12_313 dX12_batch_124 ?_
                refine lv_iload hx hb dX12_batch_127 (lv_at hl 4 rfl) ?_
                obtain ⟨h39, e40, hF⟩ := bn hF
                obtain ⟨b41, e40⟩ := sa_s e40
                refine r_iast X hW hS (gq g35 al38) rfl b41 dX12_batch_129 (fun H locs hW hS => ?_)
                have hW := nmW e40 hW
                have g42 : h39.2.2 = h.2.2 := by rw [e40]; exact g35
                refine lv_aload_n hx hb dX12_batch_130 rfl (lv_at hl 0 rfl) ?_
                obtain ⟨o43, e44, hF⟩ := bn hF
                refine r_getr X hW (gq g42 al_0) fl_12_110 e44 dX12_batch_131 (fun al45 => ?_)
                have al45 := qg g42 al45
                refine lv_aload_n hx hb dX12_batch_134 rfl (lv_at hl 0 rfl) ?_
                refine r_geti X hW (gq g42 al_0) fl_12_313 dX12_batch_135 ?_
                refine lv_iload hx hb dX12_batch_138 (lv_at hl 5 rfl) ?_
                obtain ⟨h46, e47, hF⟩ := bn hF
                obtain ⟨b48, e47⟩ := sa_s e47
                refine r_iast X hW hS (gq g42 al45) rfl b48 dX12_batch_140 (fun H locs hW hS => ?_)
                have hW := nmW e47 hW
                have g49 : h46.2.2 = h.2.2 := by rw [e47]; exact g42
                refine lv_aload_n hx hb dX12_batch_141 rfl (lv_at hl 0 rfl) ?_
                refine lv_dup hx hb dX12_batch_142 rfl ?_
                refine r_geti X hW (gq g49 al_0) fl_12_313 dX12_batch_143 ?_
                refine lv_iconst (v := 1) hx hb dX12_batch_146 (by decide) ?_
                refine lv_iadd hx hb dX12_batch_147 ?_
                refine r_puti X hW hS (gq g49 al_0) fp_12_313 rfl rfl dX12_batch_148 (fun H locs hW hS => ?_)
                obtain ⟨h50, e51, hF⟩ := nmx hF
                have hW := nmW e51 hW
                have g52 : h50.2.2 = h.2.2 := by rw [e51]; exact g49
                refine lv_aload_n hx hb dX12_batch_151 rfl (lv_at hl 0 rfl) ?_
                refine r_geti X hW (gq g52 al_0) fl_12_313 dX12_batch_152 ?_
                refine lv_iconst (v := 1) hx hb dX12_batch_155 (by decide) ?_
                refine lv_isub hx hb dX12_batch_156 ?_
                obtain ⟨rfl, rfl⟩ := sj2 hF
                exact hfin _ _ _ _ (wdW g52 hW) hS dX12_batch_157
              · have hF := it c53 hF
                refine lv_bipush (v := (-4)) hx hb dX12_batch_86 (by decide) ?_
                obtain ⟨rfl, rfl⟩ := sj2 hF
                exact hfin _ _ _ _ (wdW rfl hW) hS dX12_batch_88
            · have hF := it c54 hF
              refine lv_bipush (v := (-2)) hx hb dX12_batch_74 (by decide) ?_
              obtain ⟨rfl, rfl⟩ := sj2 hF
              exact hfin _ _ _ _ (wdW rfl hW) hS dX12_batch_76
def B_X12_isSet_8 (i0 : Nat) (a1 : Int32) (a2 : Int32) (h : HP) (q : Int32 × Int32 × Int32) : Option ((Int32 × Int32 × Int32) ⊕ ((Int32 × Int32))) :=
  u3 q fun x1 x2 x3 =>
  (if (gi h 12 i0 8) ≤ x3 then
  some (.inr (x1, x2))
  else
  (if ((a2 >>> (x3 &&& 31)) &&& 1) = 1 then
  (gr h 12 i0 10).bind fun o6 =>
  (ga h 51 o6 20 x3).bind fun x9 =>
  nm ((x1 + x9)) fun x12 =>
  (gr h 12 i0 10).bind fun o14 =>
  (ga h 51 o14 20 x3).bind fun x17 =>
  (gr h 12 i0 12).bind fun o20 =>
  (ga h 53 o20 20 x3).bind fun x23 =>
  nm ((x2 + (x17 * x23))) fun x26 =>
  nm (x3 + 1) fun x28 =>
  some (.inl (x12, x26, x28))
  else
  nm (x3 + 1) fun x4 =>
  some (.inl (x1, x2, x4))))
def F_X12_isSet (i0 : Nat) (a1 : Int32) (a2 : Int32) (h : HP) : Option (Int32) :=
  (loopN LF (B_X12_isSet_8 i0 a1 a2 h) (0, 0, 0)).bind fun q32 => u2 q32 fun x34 x35 =>
  (gr h 12 i0 40).bind fun o36 =>
  (ga h 72 o36 6 a1).bind fun x39 =>
  (F_X12_apart x34 x39).bind fun x43 =>
  (gr h 12 i0 41).bind fun o44 =>
  (ga h 73 o44 6 a1).bind fun x47 =>
  (if x47 < x43 then
  some 0
  else
  (gr h 12 i0 42).bind fun o50 =>
  (ga h 74 o50 6 a1).bind fun x53 =>
  (if x35 < (x53 * x34) then
  some 0
  else
  (gr h 12 i0 43).bind fun o56 =>
  (ga h 75 o56 6 a1).bind fun x59 =>
  (if (x59 * x34) < x35 then
  some 0
  else
  some 1)))
set_option maxHeartbeats 4000000 in
set_option maxRecDepth 100000 in
theorem ok_X12_isSet {l : Launch} {D : va_G} {cA : Nat → ClassId} {h : HP} {r : Int32}  (i0 : Nat) (a1 : Int32) (a2 : Int32) (al_0 : i0 < gn h 12) (hF : F_X12_isSet i0 a1 a2 h = some r) : MI l D cA yX12_isSet cX12_isSet 6 (some .boolean) 1 21 (fun φ => [.ref (φ 12 i0), .int a1, .int a2]) h r h := by
  refine mk_Z (plainFor_of_name (by decide)) (fun φ => Nat.le_of_ble_eq_true rfl) ?_
  intro p e s m args below meth c ls φ A Q X hW hS hl hfin
  have hx := X.1
  have hb := X.2.1
  have hl : lv_has ls 6 [(0, .ref (φ 12 i0)), (1, .int a1), (2, .int a2)] := hl
  unfold F_X12_isSet at hF
  refine lv_iconst (v := 0) hx hb dX12_isSet_0 (by decide) ?_
  refine lv_istore_n (lv' := [(3, .int 0), (0, .ref (φ 12 i0)), (1, .int a1), (2, .int a2)]) hx hb dX12_isSet_1 rfl hl (by decide) rfl (fun ls hl => ?_)
  refine lv_iconst (v := 0) hx hb dX12_isSet_2 (by decide) ?_
  refine lv_istore (lv' := [(4, .int 0), (3, .int 0), (0, .ref (φ 12 i0)), (1, .int a1), (2, .int a2)]) hx hb dX12_isSet_3 hl (by decide) rfl (fun ls hl => ?_)
  refine lv_iconst (v := 0) hx hb dX12_isSet_5 (by decide) ?_
  refine lv_istore (lv' := [(5, .int 0), (4, .int 0), (3, .int 0), (0, .ref (φ 12 i0)), (1, .int a1), (2, .int a2)]) hx hb dX12_isSet_6 hl (by decide) rfl (fun ls hl => ?_)
  obtain ⟨q32, e33, hF⟩ := bn hF
  refine loop_w (f := B_X12_isSet_8 i0 a1 a2 h) (Z := fun q => ∀ (H : Heap) (locs : List Loc) (ls : Array Slot), HW D cA A φ h H → va_S A s.heap H locs → lv_has ls 6 [(0, .ref (φ 12 i0)), (1, .int a1), (2, .int a2), (3, .int (q.1)), (4, .int (q.2.1)), (5, .int (q.2.2))] → W p l e (rmo 1 21 0 0) s m args below meth c H locs 0 0 Q (F0 m 8 ls [])) (K := fun q => ∀ (H : Heap) (locs : List Loc) (ls : Array Slot), HW D cA A φ h H → va_S A s.heap H locs → lv_has ls 6 [(0, .ref (φ 12 i0)), (1, .int a1), (3, .int (q.1)), (4, .int (q.2))] → W p l e (rmo 1 21 0 0) s m args below meth c H locs 0 0 Q (F0 m 63 ls [])) ?_ LF _ q32 e33 ?_ _ _ _ hW hS (lv_sub hl [3, 4, 5, 2, 1, 0] rfl)
  · intro q v hF hK H locs ls hW hS hl
    obtain ⟨x1, x2, x3⟩ := q
    unfold B_X12_isSet_8 at hF
    have hF := u3d hF
    have hl : lv_has ls 6 [(0, .ref (φ 12 i0)), (1, .int a1), (2, .int a2), (3, .int x1), (4, .int x2), (5, .int x3)] := hl
    refine lv_iload hx hb dX12_isSet_8 (lv_at hl 5 rfl) ?_
    refine lv_aload_n hx hb dX12_isSet_10 rfl (lv_at hl 0 rfl) ?_
    refine r_geti X hW al_0 fl_12_167 dX12_isSet_11 ?_
    refine lv_icmp_ge (tgt := 63) hx hb dX12_isSet_14 (by decide) (fun c31 => ?_) (fun c31 => ?_)
    · have hF := it c31 hF
      obtain rfl := sj hF
      exact hK _ _ _ hW hS (lv_sub hl [0, 1, 3, 4] rfl)
    · have hF := ie c31 hF
      refine lv_iload_n hx hb dX12_isSet_17 rfl (lv_at hl 2 rfl) ?_
      refine lv_iload hx hb dX12_isSet_18 (lv_at hl 5 rfl) ?_
      refine lv_ishr hx hb dX12_isSet_20 ?_
      refine lv_iconst (v := 1) hx hb dX12_isSet_21 (by decide) ?_
      refine lv_iand hx hb dX12_isSet_22 ?_
      refine lv_iconst (v := 1) hx hb dX12_isSet_23 (by decide) ?_
      refine lv_icmp_ne (tgt := 57) hx hb dX12_isSet_24 (by decide) (fun c30 => ?_) (fun c30 => ?_)
      · have hF := ie c30 hF
        obtain ⟨x4, e5, hF⟩ := nmx hF
        refine lv_iinc (v := x4) (lv' := [(5, .int x4), (0, .ref (φ 12 i0)), (1, .int a1), (2, .int a2), (3, .int x1), (4, .int x2)]) hx hb dX12_isSet_57 hl (k := 5) rfl (by rw [e5]; rfl) (by decide) rfl (fun ls hl => ?_)
        refine lv_goto (tgt := 8) hx hb dX12_isSet_60 (by decide) ?_
        obtain rfl := sj hF
        exact hK _ _ _ hW hS (lv_sub hl [1, 2, 3, 4, 5, 0] rfl)
      · have hF := it c30 hF
        refine lv_iload_n hx hb dX12_isSet_27 rfl (lv_at hl 3 rfl) ?_
        refine lv_aload_n hx hb dX12_isSet_28 rfl (lv_at hl 0 rfl) ?_
        obtain ⟨o6, e7, hF⟩ := bn hF
        refine r_getr X hW al_0 fl_12_28 e7 dX12_isSet_29 (fun al8 => ?_)
        refine lv_iload hx hb dX12_isSet_32 (lv_at hl 5 rfl) ?_
        obtain ⟨x9, e10, hF⟩ := bn hF
        obtain ⟨b11, e10⟩ := ga_s e10
        refine r_iald X hW al8 rfl b11 dX12_isSet_34 ?_
        refine nmi e10 ?_
        refine lv_iadd hx hb dX12_isSet_35 ?_
        obtain ⟨x12, e13, hF⟩ := nmx hF
        refine nmi e13 ?_
        refine lv_istore_n (lv' := [(3, .int x12), (0, .ref (φ 12 i0)), (1, .int a1), (2, .int a2), (4, .int x2), (5, .int x3)]) hx hb dX12_isSet_36 rfl hl (by decide) rfl (fun ls hl => ?_)
        refine lv_iload hx hb dX12_isSet_37 (lv_at hl 4 rfl) ?_
        refine lv_aload_n hx hb dX12_isSet_39 rfl (lv_at hl 1 rfl) ?_
        obtain ⟨o14, e15, hF⟩ := bn hF
        refine r_getr X hW al_0 fl_12_28 e15 dX12_isSet_40 (fun al16 => ?_)
        refine lv_iload hx hb dX12_isSet_43 (lv_at hl 5 rfl) ?_
        obtain ⟨x17, e18, hF⟩ := bn hF
        obtain ⟨b19, e18⟩ := ga_s e18
        refine r_iald X hW al16 rfl b19 dX12_isSet_45 ?_
        refine nmi e18 ?_
        refine lv_aload_n hx hb dX12_isSet_46 rfl (lv_at hl 1 rfl) ?_
        obtain ⟨o20, e21, hF⟩ := bn hF
        refine r_getr X hW al_0 fl_12_34 e21 dX12_isSet_47 (fun al22 => ?_)
        refine lv_iload hx hb dX12_isSet_50 (lv_at hl 5 rfl) ?_
        obtain ⟨x23, e24, hF⟩ := bn hF
        obtain ⟨b25, e24⟩ := ga_s e24
        refine r_iald X hW al22 rfl b25 dX12_isSet_52 ?_
        refine nmi e24 ?_
        refine lv_imul hx hb dX12_isSet_53 ?_
        refine lv_iadd hx hb dX12_isSet_54 ?_
        obtain ⟨x26, e27, hF⟩ := nmx hF
        refine nmi e27 ?_
        refine lv_istore (lv' := [(4, .int x26), (3, .int x12), (0, .ref (φ 12 i0)), (1, .int a1), (2, .int a2), (5, .int x3)]) hx hb dX12_isSet_55 hl (by decide) rfl (fun ls hl => ?_)
        obtain ⟨x28, e29, hF⟩ := nmx hF
        refine lv_iinc (v := x28) (lv' := [(5, .int x28), (4, .int x26), (3, .int x12), (0, .ref (φ 12 i0)), (1, .int a1), (2, .int a2)]) hx hb dX12_isSet_57 hl (k := 5) rfl (by rw [e29]; rfl) (by decide) rfl (fun ls hl => ?_)
        refine lv_goto (tgt := 8) hx hb dX12_isSet_60 (by decide) ?_
        obtain rfl := sj hF
        exact hK _ _ _ hW hS (lv_sub hl [3, 4, 5, 2, 1, 0] rfl)
  · intro H locs ls hW hS hl
    obtain ⟨x34, x35⟩ := q32
    have hF := u2d hF
    have hl : lv_has ls 6 [(0, .ref (φ 12 i0)), (1, .int a1), (3, .int x34), (4, .int x35)] := hl
    refine lv_iload_n hx hb dX12_isSet_63 rfl (lv_at hl 2 rfl) ?_
    refine lv_aload_n hx hb dX12_isSet_64 rfl (lv_at hl 0 rfl) ?_
    obtain ⟨o36, e37, hF⟩ := bn hF
    refine r_getr X hW al_0 fl_12_98 e37 dX12_isSet_65 (fun al38 => ?_)
    refine lv_iload_n hx hb dX12_isSet_68 rfl (lv_at hl 1 rfl) ?_
    obtain ⟨x39, e40, hF⟩ := bn hF
    obtain ⟨b41, e40⟩ := ga_s e40
    refine r_iald X hW al38 rfl b41 dX12_isSet_69 ?_
    refine nmi e40 ?_
    obtain ⟨x43, e42, hF⟩ := bn hF
    refine rc_i (Af := fun φ => [.int x34, .int x39]) X hW hS ⟨Nat.zero_le _, Nat.zero_le _⟩ (rn_S (As := [.int x34, .int x39]) (rest := []) X hW hS cw_12_260 ⟨Nat.le_of_ble_eq_true rfl, Nat.le_of_ble_eq_true rfl⟩ rfl hl.1 rfl (Nat.le_of_ble_eq_true rfl) dX12_isSet_70) (ok_X12_apart x34 x39 e42) (fun H locs hW hS => ?_)
    refine lv_aload_n hx hb dX12_isSet_73 rfl (lv_at hl 0 rfl) ?_
    obtain ⟨o44, e45, hF⟩ := bn hF
    refine r_getr X hW al_0 fl_12_101 e45 dX12_isSet_74 (fun al46 => ?_)
    refine lv_iload_n hx hb dX12_isSet_77 rfl (lv_at hl 1 rfl) ?_
    obtain ⟨x47, e48, hF⟩ := bn hF
    obtain ⟨b49, e48⟩ := ga_s e48
    refine r_iald X hW al46 rfl b49 dX12_isSet_78 ?_
    refine nmi e48 ?_
    refine lv_icmp_gt (tgt := 112) hx hb dX12_isSet_79 (by decide) (fun c64 => ?_) (fun c64 => ?_)
    · have hF := it c64 hF
      refine lv_iconst (v := 0) hx hb dX12_isSet_112 (by decide) ?_
      obtain rfl := sj hF
      exact hfin _ _ _ _ hW hS (Or.inl rfl) dX12_isSet_113
    · have hF := ie c64 hF
      refine lv_iload hx hb dX12_isSet_82 (lv_at hl 3 rfl) ?_
      refine lv_aload_n hx hb dX12_isSet_84 rfl (lv_at hl 0 rfl) ?_
      obtain ⟨o50, e51, hF⟩ := bn hF
      refine r_getr X hW al_0 fl_12_104 e51 dX12_isSet_85 (fun al52 => ?_)
      refine lv_iload_n hx hb dX12_isSet_88 rfl (lv_at hl 1 rfl) ?_
      obtain ⟨x53, e54, hF⟩ := bn hF
      obtain ⟨b55, e54⟩ := ga_s e54
      refine r_iald X hW al52 rfl b55 dX12_isSet_89 ?_
      refine nmi e54 ?_
      refine lv_iload_n hx hb dX12_isSet_90 rfl (lv_at hl 2 rfl) ?_
      refine lv_imul hx hb dX12_isSet_91 ?_
      refine lv_icmp_lt (tgt := 112) hx hb dX12_isSet_92 (by decide) (fun c63 => ?_) (fun c63 => ?_)
      · have hF := it c63 hF
        refine lv_iconst (v := 0) hx hb dX12_isSet_112 (by decide) ?_
        obtain rfl := sj hF
        exact hfin _ _ _ _ hW hS (Or.inl rfl) dX12_isSet_113
      · have hF := ie c63 hF
        refine lv_iload hx hb dX12_isSet_95 (lv_at hl 3 rfl) ?_
        refine lv_aload_n hx hb dX12_isSet_97 rfl (lv_at hl 0 rfl) ?_
        obtain ⟨o56, e57, hF⟩ := bn hF
        refine r_getr X hW al_0 fl_12_107 e57 dX12_isSet_98 (fun al58 => ?_)
        refine lv_iload_n hx hb dX12_isSet_101 rfl (lv_at hl 1 rfl) ?_
        obtain ⟨x59, e60, hF⟩ := bn hF
        obtain ⟨b61, e60⟩ := ga_s e60
        refine r_iald X hW al58 rfl b61 dX12_isSet_102 ?_
        refine nmi e60 ?_
        refine lv_iload_n hx hb dX12_isSet_103 rfl (lv_at hl 2 rfl) ?_
        refine lv_imul hx hb dX12_isSet_104 ?_
        refine lv_icmp_gt (tgt := 112) hx hb dX12_isSet_105 (by decide) (fun c62 => ?_) (fun c62 => ?_)
        · have hF := it c62 hF
          refine lv_iconst (v := 0) hx hb dX12_isSet_112 (by decide) ?_
          obtain rfl := sj hF
          exact hfin _ _ _ _ hW hS (Or.inl rfl) dX12_isSet_113
        · have hF := ie c62 hF
          refine lv_iconst (v := 1) hx hb dX12_isSet_108 (by decide) ?_
          refine lv_goto (tgt := 113) hx hb dX12_isSet_109 (by decide) ?_
          obtain rfl := sj hF
          exact hfin _ _ _ _ hW hS (Or.inr rfl) dX12_isSet_113
def J_X12_findSets_92 (i0 : Nat) (a1 : Int32) (v2_92 : Int32) (hj92 : HP) : Option ((Int32 × Int32 × DP) ⊕ (DP)) :=
  (gr hj92 12 i0 44).bind fun o24 =>
  (ga hj92 76 o24 6 a1).bind fun x27 =>
  (gr hj92 12 i0 44).bind fun o30 =>
  (ga hj92 76 o30 6 a1).bind fun x33 =>
  nm (((v2_92 - x27) &&& x33)) fun x36 =>
  (if x36 = 0 then
  some (.inl (x36, 0, (dp hj92)))
  else
  some (.inl (x36, 1, (dp hj92))))
def J_X12_findSets_69 (i0 : Nat) (a1 : Int32) (v2_69 : Int32) (t0_69 : Int32) (t1_69 : Nat) (hj69 : HP) : Option ((Int32 × Int32 × DP) ⊕ (DP)) :=
  nm (si hj69 12 t1_69 46 t0_69) fun h39 =>
  nm (si h39 12 i0 47 ((gi h39 12 i0 47) &&& v2_69)) fun h42 =>
  nm (si h42 12 i0 48 ((gi h42 12 i0 48) ||| v2_69)) fun h45 =>
  J_X12_findSets_92 i0 a1 v2_69 h45
def B_X12_findSets_29 (i0 : Nat) (a1 : Int32) (h16 : HP) (q : Int32 × Int32 × DP) : Option ((Int32 × Int32 × DP) ⊕ (DP)) :=
  u3 q fun x19 x20 d23 =>
  nm (wd h16 d23) fun h21 =>
  (if x20 = 0 then
  some (.inr (dp h21))
  else
  (F_X12_isSet i0 a1 x19 h21).bind fun x49 =>
  (if x49 = 0 then
  J_X12_findSets_92 i0 a1 x19 h21
  else
  nm (si h21 12 i0 45 ((gi h21 12 i0 45) + 1)) fun h50 =>
  (if (gi h50 12 i0 46) = (-1) then
  J_X12_findSets_69 i0 a1 x19 x19 i0 h50
  else
  J_X12_findSets_69 i0 a1 x19 (gi h50 12 i0 46) i0 h50)))
def F_X12_findSets (i0 : Nat) (a1 : Int32) (h : HP) : Option (DP) :=
  nm (si h 12 i0 45 0) fun h1 =>
  nm (si h1 12 i0 46 (-1)) fun h4 =>
  (gr h4 12 i0 44).bind fun o7 =>
  (ga h4 76 o7 6 a1).bind fun x10 =>
  nm (si h4 12 i0 47 x10) fun h13 =>
  nm (si h13 12 i0 48 0) fun h16 =>
  (loopN LF (B_X12_findSets_29 i0 a1 h16) (0, 1, (dp h16))).bind fun d59 =>
  nm (wd h16 d59) fun h60 =>
  some (dp h60)
set_option maxHeartbeats 4000000 in
set_option maxRecDepth 100000 in
theorem ok_X12_findSets {l : Launch} {D : va_G} {cA : Nat → ClassId} {h : HP}  {d : DP} (i0 : Nat) (a1 : Int32) (al_0 : i0 < gn h 12) (hF : F_X12_findSets i0 a1 h = some d) : MV l D cA yX12_findSets cX12_findSets 4 none 2 46 (fun φ => [.ref (φ 12 i0), .int a1]) h (wd h d) := by
  refine mk_V (plainFor_of_name (by decide)) (fun φ => Nat.le_of_ble_eq_true rfl) ?_
  intro p e s m args below meth c ls φ A Q X hW hS hl hfin
  have hx := X.1
  have hb := X.2.1
  have hl : lv_has ls 4 [(0, .ref (φ 12 i0)), (1, .int a1)] := hl
  unfold F_X12_findSets at hF
  refine lv_aload_n hx hb dX12_findSets_0 rfl (lv_at hl 0 rfl) ?_
  refine lv_iconst (v := 0) hx hb dX12_findSets_1 (by decide) ?_
  refine r_puti X hW hS al_0 fp_12_323 rfl rfl dX12_findSets_2 (fun H locs hW hS => ?_)
  obtain ⟨h1, e2, hF⟩ := nmx hF
  have hW := nmW e2 hW
  have g3 : h1.2.2 = h.2.2 := by rw [e2]; exact rfl
  refine lv_aload_n hx hb dX12_findSets_5 rfl (lv_at hl 0 rfl) ?_
  refine lv_iconst (v := (-1)) hx hb dX12_findSets_6 (by decide) ?_
  refine r_puti X hW hS (gq g3 al_0) fp_12_326 rfl rfl dX12_findSets_7 (fun H locs hW hS => ?_)
  obtain ⟨h4, e5, hF⟩ := nmx hF
  have hW := nmW e5 hW
  have g6 : h4.2.2 = h.2.2 := by rw [e5]; exact g3
  refine lv_aload_n hx hb dX12_findSets_10 rfl (lv_at hl 0 rfl) ?_
  refine lv_aload_n hx hb dX12_findSets_11 rfl (lv_at hl 0 rfl) ?_
  obtain ⟨o7, e8, hF⟩ := bn hF
  refine r_getr X hW (gq g6 al_0) fl_12_110 e8 dX12_findSets_12 (fun al9 => ?_)
  have al9 := qg g6 al9
  refine lv_iload_n hx hb dX12_findSets_15 rfl (lv_at hl 1 rfl) ?_
  obtain ⟨x10, e11, hF⟩ := bn hF
  obtain ⟨b12, e11⟩ := ga_s e11
  refine r_iald X hW (gq g6 al9) rfl b12 dX12_findSets_16 ?_
  refine nmi e11 ?_
  refine r_puti X hW hS (gq g6 al_0) fp_12_329 rfl rfl dX12_findSets_17 (fun H locs hW hS => ?_)
  obtain ⟨h13, e14, hF⟩ := nmx hF
  have hW := nmW e14 hW
  have g15 : h13.2.2 = h.2.2 := by rw [e14]; exact g6
  refine lv_aload_n hx hb dX12_findSets_20 rfl (lv_at hl 0 rfl) ?_
  refine lv_iconst (v := 0) hx hb dX12_findSets_21 (by decide) ?_
  refine r_puti X hW hS (gq g15 al_0) fp_12_332 rfl rfl dX12_findSets_22 (fun H locs hW hS => ?_)
  obtain ⟨h16, e17, hF⟩ := nmx hF
  have hW := nmW e17 hW
  have g18 : h16.2.2 = h.2.2 := by rw [e17]; exact g15
  refine lv_iconst (v := 0) hx hb dX12_findSets_25 (by decide) ?_
  refine lv_istore_n (lv' := [(2, .int 0), (0, .ref (φ 12 i0)), (1, .int a1)]) hx hb dX12_findSets_26 rfl hl (by decide) rfl (fun ls hl => ?_)
  refine lv_iconst (v := 1) hx hb dX12_findSets_27 (by decide) ?_
  refine lv_istore_n (lv' := [(3, .int 1), (2, .int 0), (0, .ref (φ 12 i0)), (1, .int a1)]) hx hb dX12_findSets_28 rfl hl (by decide) rfl (fun ls hl => ?_)
  obtain ⟨q56, e57, hF⟩ := bn hF
  refine loop_w (f := B_X12_findSets_29 i0 a1 h16) (Z := fun q => ∀ (H : Heap) (locs : List Loc) (ls : Array Slot), HW D cA A φ (wd h16 q.2.2) H → va_S A s.heap H locs → lv_has ls 4 [(0, .ref (φ 12 i0)), (1, .int a1), (2, .int (q.1)), (3, .int (q.2.1))] → W p l e (rmo 2 46 0 0) s m args below meth c H locs 0 0 Q (F0 m 29 ls [])) (K := fun q => ∀ (H : Heap) (locs : List Loc) (ls : Array Slot), HW D cA A φ (wd h16 q) H → va_S A s.heap H locs → lv_has ls 4 [] → W p l e (rmo 2 46 0 0) s m args below meth c H locs 0 0 Q (F0 m 121 ls [])) ?_ LF _ q56 e57 ?_ _ _ _ (wdW rfl hW) hS (lv_sub hl [2, 3, 1, 0] rfl)
  · intro q v hF hK H locs ls hW hS hl
    obtain ⟨x19, x20, d23⟩ := q
    unfold B_X12_findSets_29 at hF
    have hF := u3d hF
    obtain ⟨h21, e58, hF⟩ := nmx hF
    have hW := nmW e58 hW
    have g22 : h21.2.2 = h.2.2 := by rw [e58]; exact g18
    have hl : lv_has ls 4 [(0, .ref (φ 12 i0)), (1, .int a1), (2, .int x19), (3, .int x20)] := hl
    have j_92 : ∀ (v2_92 : Int32) (hj92 : HP) (H : Heap) (locs : List Loc) (ls : Array Slot), hj92.2.2 = h.2.2 → J_X12_findSets_92 i0 a1 v2_92 hj92 = some v → HW D cA A φ hj92 H → va_S A s.heap H locs → lv_has ls 4 [(0, .ref (φ 12 i0)), (1, .int a1), (2, .int v2_92)] → W p l e (rmo 2 46 0 0) s m args below meth c H locs 0 0 Q (F0 m 92 ls []) := by
      intro v2_92 hj92 H locs ls gj92 hF hW hS hl
      unfold J_X12_findSets_92 at hF
      refine lv_iload_n hx hb dX12_findSets_92 rfl (lv_at hl 2 rfl) ?_
      refine lv_aload_n hx hb dX12_findSets_93 rfl (lv_at hl 0 rfl) ?_
      obtain ⟨o24, e25, hF⟩ := bn hF
      refine r_getr X hW (gq gj92 al_0) fl_12_110 e25 dX12_findSets_94 (fun al26 => ?_)
      have al26 := qg gj92 al26
      refine lv_iload_n hx hb dX12_findSets_97 rfl (lv_at hl 1 rfl) ?_
      obtain ⟨x27, e28, hF⟩ := bn hF
      obtain ⟨b29, e28⟩ := ga_s e28
      refine r_iald X hW (gq gj92 al26) rfl b29 dX12_findSets_98 ?_
      refine nmi e28 ?_
      refine lv_isub hx hb dX12_findSets_99 ?_
      refine lv_aload_n hx hb dX12_findSets_100 rfl (lv_at hl 0 rfl) ?_
      obtain ⟨o30, e31, hF⟩ := bn hF
      refine r_getr X hW (gq gj92 al_0) fl_12_110 e31 dX12_findSets_101 (fun al32 => ?_)
      have al32 := qg gj92 al32
      refine lv_iload_n hx hb dX12_findSets_104 rfl (lv_at hl 1 rfl) ?_
      obtain ⟨x33, e34, hF⟩ := bn hF
      obtain ⟨b35, e34⟩ := ga_s e34
      refine r_iald X hW (gq gj92 al32) rfl b35 dX12_findSets_105 ?_
      refine nmi e34 ?_
      refine lv_iand hx hb dX12_findSets_106 ?_
      obtain ⟨x36, e37, hF⟩ := nmx hF
      refine nmi e37 ?_
      refine lv_istore_n (lv' := [(2, .int x36), (0, .ref (φ 12 i0)), (1, .int a1)]) hx hb dX12_findSets_107 rfl hl (by decide) rfl (fun ls hl => ?_)
      refine lv_iload_n hx hb dX12_findSets_108 rfl (lv_at hl 0 rfl) ?_
      refine lv_if_eq (tgt := 116) hx hb dX12_findSets_109 (by decide) (fun c38 => ?_) (fun c38 => ?_)
      · have hF := it c38 hF
        refine lv_iconst (v := 0) hx hb dX12_findSets_116 (by decide) ?_
        refine lv_istore_n (lv' := [(3, .int 0), (2, .int x36), (0, .ref (φ 12 i0)), (1, .int a1)]) hx hb dX12_findSets_117 rfl hl (by decide) rfl (fun ls hl => ?_)
        refine lv_goto (tgt := 29) hx hb dX12_findSets_118 (by decide) ?_
        obtain rfl := sj hF
        exact hK _ _ _ (wdW (sq gj92 g18) hW) hS (lv_sub hl [2, 3, 1, 0] rfl)
      · have hF := ie c38 hF
        refine lv_iconst (v := 1) hx hb dX12_findSets_112 (by decide) ?_
        refine lv_goto (tgt := 117) hx hb dX12_findSets_113 (by decide) ?_
        refine lv_istore_n (lv' := [(3, .int 1), (2, .int x36), (0, .ref (φ 12 i0)), (1, .int a1)]) hx hb dX12_findSets_117 rfl hl (by decide) rfl (fun ls hl => ?_)
        refine lv_goto (tgt := 29) hx hb dX12_findSets_118 (by decide) ?_
        obtain rfl := sj hF
        exact hK _ _ _ (wdW (sq gj92 g18) hW) hS (lv_sub hl [2, 3, 1, 0] rfl)
    have j_69 : ∀ (v2_69 : Int32) (t0_69 : Int32) (t1_69 : Nat) (hj69 : HP) (H : Heap) (locs : List Loc) (ls : Array Slot), hj69.2.2 = h.2.2 → t1_69 < gn h 12 → J_X12_findSets_69 i0 a1 v2_69 t0_69 t1_69 hj69 = some v → HW D cA A φ hj69 H → va_S A s.heap H locs → lv_has ls 4 [(0, .ref (φ 12 i0)), (1, .int a1), (2, .int v2_69)] → W p l e (rmo 2 46 0 0) s m args below meth c H locs 0 0 Q (F0 m 69 ls [.int t0_69, .ref (φ 12 t1_69)]) := by
      intro v2_69 t0_69 t1_69 hj69 H locs ls gj69 alt1_69 hF hW hS hl
      unfold J_X12_findSets_69 at hF
      refine r_puti X hW hS (gq gj69 alt1_69) fp_12_326 rfl rfl dX12_findSets_69 (fun H locs hW hS => ?_)
      obtain ⟨h39, e40, hF⟩ := nmx hF
      have hW := nmW e40 hW
      have g41 : h39.2.2 = h.2.2 := by rw [e40]; exact gj69
      refine lv_aload_n hx hb dX12_findSets_72 rfl (lv_at hl 0 rfl) ?_
      refine lv_dup hx hb dX12_findSets_73 rfl ?_
      refine r_geti X hW (gq g41 al_0) fl_12_329 dX12_findSets_74 ?_
      refine lv_iload_n hx hb dX12_findSets_77 rfl (lv_at hl 2 rfl) ?_
      refine lv_iand hx hb dX12_findSets_78 ?_
      refine r_puti X hW hS (gq g41 al_0) fp_12_329 rfl rfl dX12_findSets_79 (fun H locs hW hS => ?_)
      obtain ⟨h42, e43, hF⟩ := nmx hF
      have hW := nmW e43 hW
      have g44 : h42.2.2 = h.2.2 := by rw [e43]; exact g41
      refine lv_aload_n hx hb dX12_findSets_82 rfl (lv_at hl 0 rfl) ?_
      refine lv_dup hx hb dX12_findSets_83 rfl ?_
      refine r_geti X hW (gq g44 al_0) fl_12_332 dX12_findSets_84 ?_
      refine lv_iload_n hx hb dX12_findSets_87 rfl (lv_at hl 2 rfl) ?_
      refine lv_ior hx hb dX12_findSets_88 ?_
      refine r_puti X hW hS (gq g44 al_0) fp_12_332 rfl rfl dX12_findSets_89 (fun H locs hW hS => ?_)
      obtain ⟨h45, e46, hF⟩ := nmx hF
      have hW := nmW e46 hW
      have g47 : h45.2.2 = h.2.2 := by rw [e46]; exact g44
      exact j_92 v2_69 h45 _ _ _ g47 hF hW hS (lv_sub hl [0, 1, 2] rfl)
    refine lv_iload_n hx hb dX12_findSets_29 rfl (lv_at hl 3 rfl) ?_
    refine lv_if_eq (tgt := 121) hx hb dX12_findSets_30 (by decide) (fun c55 => ?_) (fun c55 => ?_)
    · have hF := it c55 hF
      obtain rfl := sj hF
      exact hK _ _ _ (wdW (sq g22 g18) hW) hS (lv_sub hl [] rfl)
    · have hF := ie c55 hF
      refine lv_aload_n hx hb dX12_findSets_33 rfl (lv_at hl 0 rfl) ?_
      refine lv_iload_n hx hb dX12_findSets_34 rfl (lv_at hl 1 rfl) ?_
      refine lv_iload_n hx hb dX12_findSets_35 rfl (lv_at hl 2 rfl) ?_
      obtain ⟨x49, e48, hF⟩ := bn hF
      refine rc_i (Af := fun φ => [.ref (φ 12 i0), .int a1, .int x19]) X hW hS ⟨Nat.zero_le _, Nat.zero_le _⟩ (rn_V (As := [.int a1, .int x19]) (rest := []) X hW hS cw_12_335 (gq g22 al_0) rfl rfl rfl ⟨Nat.le_of_ble_eq_true rfl, Nat.le_of_ble_eq_true rfl⟩ rfl hl.1 rfl (Nat.le_of_ble_eq_true rfl) dX12_findSets_36) (ok_X12_isSet i0 a1 x19 (gq g22 al_0) e48) (fun H locs hW hS => ?_)
      refine lv_if_eq (tgt := 92) hx hb dX12_findSets_39 (by decide) (fun c54 => ?_) (fun c54 => ?_)
      · have hF := it c54 hF
        exact j_92 x19 h21 _ _ _ g22 hF hW hS (lv_sub hl [0, 1, 2] rfl)
      · have hF := ie c54 hF
        refine lv_aload_n hx hb dX12_findSets_42 rfl (lv_at hl 0 rfl) ?_
        refine lv_dup hx hb dX12_findSets_43 rfl ?_
        refine r_geti X hW (gq g22 al_0) fl_12_323 dX12_findSets_44 ?_
        refine lv_iconst (v := 1) hx hb dX12_findSets_47 (by decide) ?_
        refine lv_iadd hx hb dX12_findSets_48 ?_
        refine r_puti X hW hS (gq g22 al_0) fp_12_323 rfl rfl dX12_findSets_49 (fun H locs hW hS => ?_)
        obtain ⟨h50, e51, hF⟩ := nmx hF
        have hW := nmW e51 hW
        have g52 : h50.2.2 = h.2.2 := by rw [e51]; exact g22
        refine lv_aload_n hx hb dX12_findSets_52 rfl (lv_at hl 0 rfl) ?_
        refine lv_aload_n hx hb dX12_findSets_53 rfl (lv_at hl 0 rfl) ?_
        refine r_geti X hW (gq g52 al_0) fl_12_326 dX12_findSets_54 ?_
        refine lv_iconst (v := (-1)) hx hb dX12_findSets_57 (by decide) ?_
        refine lv_icmp_ne (tgt := 65) hx hb dX12_findSets_58 (by decide) (fun c53 => ?_) (fun c53 => ?_)
        · have hF := ie c53 hF
          refine lv_aload_n hx hb dX12_findSets_65 rfl (lv_at hl 0 rfl) ?_
          refine r_geti X hW (gq g52 al_0) fl_12_326 dX12_findSets_66 ?_
          exact j_69 x19 (gi h50 12 i0 46) i0 h50 _ _ _ g52 al_0 hF hW hS (lv_sub hl [0, 1, 2] rfl)
        · have hF := it c53 hF
          refine lv_iload_n hx hb dX12_findSets_61 rfl (lv_at hl 2 rfl) ?_
          refine lv_goto (tgt := 69) hx hb dX12_findSets_62 (by decide) ?_
          exact j_69 x19 x19 i0 h50 _ _ _ g52 al_0 hF hW hS (lv_sub hl [0, 1, 2] rfl)
  · intro H locs ls hW hS hl
    obtain ⟨d59, rfl⟩ : ∃ z, z = q56 := ⟨_, rfl⟩
    obtain ⟨h60, e62, hF⟩ := nmx hF
    have hW := nmW e62 hW
    have g61 : h60.2.2 = h.2.2 := by rw [e62]; exact g18
    have hl : lv_has ls 4 [] := hl
    obtain rfl := sj hF
    exact hfin _ _ _ _ (wdW g61 hW) hS dX12_findSets_121
def F_X12_sets (i0 : Nat) (a1 : Int32) (a2 : Int32) (h : HP) : Option (Int32 × DP) :=
  (F_X12_isBatch i0 a1 h).bind fun x2 =>
  (if x2 = 0 then
  some ((-2), dp h)
  else
  (F_X12_in ((a2).toInt64) 0 1).bind fun x4 =>
  (if x4 = 0 then
  some ((-2), dp h)
  else
  (F_X12_findSets i0 a1 h).bind fun d9 => nm (wd h d9) fun h6 =>
  (if a2 = 0 then
  some ((gi h6 12 i0 45), dp h6)
  else
  some ((gi h6 12 i0 46), dp h6))))
set_option maxHeartbeats 4000000 in
set_option maxRecDepth 100000 in
theorem ok_X12_sets {l : Launch} {D : va_G} {cA : Nat → ClassId} {h : HP} {r : Int32} {d : DP} (i0 : Nat) (a1 : Int32) (a2 : Int32) (al_0 : i0 < gn h 12) (hF : F_X12_sets i0 a1 a2 h = some (r, d)) : MI l D cA yX12_sets cX12_sets 3 (some .int) 3 69 (fun φ => [.ref (φ 12 i0), .int a1, .int a2]) h r (wd h d) := by
  refine mk_I (plainFor_of_name (by decide)) (fun φ => Nat.le_of_ble_eq_true rfl) ?_
  intro p e s m args below meth c ls φ A Q X hW hS hl hfin
  have hx := X.1
  have hb := X.2.1
  have hl : lv_has ls 3 [(0, .ref (φ 12 i0)), (1, .int a1), (2, .int a2)] := hl
  unfold F_X12_sets at hF
  refine lv_aload_n hx hb dX12_sets_0 rfl (lv_at hl 0 rfl) ?_
  refine lv_iload_n hx hb dX12_sets_1 rfl (lv_at hl 1 rfl) ?_
  obtain ⟨x2, e1, hF⟩ := bn hF
  refine rc_i (Af := fun φ => [.ref (φ 12 i0), .int a1]) X hW hS ⟨Nat.zero_le _, Nat.zero_le _⟩ (rn_V (As := [.int a1]) (rest := []) X hW hS cw_12_338 al_0 rfl rfl rfl ⟨Nat.le_of_ble_eq_true rfl, Nat.le_of_ble_eq_true rfl⟩ rfl hl.1 rfl (Nat.le_of_ble_eq_true rfl) dX12_sets_2) (ok_X12_isBatch i0 a1 al_0 e1) (fun H locs hW hS => ?_)
  refine lv_if_eq (tgt := 18) hx hb dX12_sets_5 (by decide) (fun c12 => ?_) (fun c12 => ?_)
  · have hF := it c12 hF
    refine lv_bipush (v := (-2)) hx hb dX12_sets_18 (by decide) ?_
    obtain ⟨rfl, rfl⟩ := sj2 hF
    exact hfin _ _ _ _ (wdW rfl hW) hS dX12_sets_20
  · have hF := ie c12 hF
    refine lv_iload_n hx hb dX12_sets_8 rfl (lv_at hl 2 rfl) ?_
    refine lv_i2l (v := (a2).toInt64) hx hb dX12_sets_9 rfl ?_
    refine lv_lconst (v := 0) hx hb dX12_sets_10 (by decide) ?_
    refine lv_lconst (v := 1) hx hb dX12_sets_11 (by decide) ?_
    obtain ⟨x4, e3, hF⟩ := bn hF
    refine rc_i (Af := fun φ => [.long ((a2).toInt64), .long 0, .long 1]) X hW hS ⟨Nat.zero_le _, Nat.zero_le _⟩ (rn_S (As := [.long ((a2).toInt64), .long 0, .long 1]) (rest := []) X hW hS cw_12_139 ⟨Nat.le_of_ble_eq_true rfl, Nat.le_of_ble_eq_true rfl⟩ rfl hl.1 rfl (Nat.le_of_ble_eq_true rfl) dX12_sets_12) (ok_X12_in ((a2).toInt64) 0 1 e3) (fun H locs hW hS => ?_)
    refine lv_if_ne (tgt := 21) hx hb dX12_sets_15 (by decide) (fun c11 => ?_) (fun c11 => ?_)
    · have hF := ie c11 hF
      refine lv_aload_n hx hb dX12_sets_21 rfl (lv_at hl 0 rfl) ?_
      refine lv_iload_n hx hb dX12_sets_22 rfl (lv_at hl 1 rfl) ?_
      obtain ⟨d9, e5, hF⟩ := bn hF
      refine rc_v (Af := fun φ => [.ref (φ 12 i0), .int a1]) X hW hS ⟨Nat.zero_le _, Nat.zero_le _⟩ (rn_V (As := [.int a1]) (rest := []) X hW hS cw_12_341 al_0 rfl rfl rfl ⟨Nat.le_of_ble_eq_true rfl, Nat.le_of_ble_eq_true rfl⟩ rfl hl.1 rfl (Nat.le_of_ble_eq_true rfl) dX12_sets_23) (ok_X12_findSets i0 a1 al_0 e5) (fun H locs hW hS => ?_)
      obtain ⟨h6, e8, hF⟩ := nmx hF
      have hW := nmW e8 hW
      have g7 : h6.2.2 = h.2.2 := by rw [e8]; exact rfl
      refine lv_iload_n hx hb dX12_sets_26 rfl (lv_at hl 2 rfl) ?_
      refine lv_if_ne (tgt := 37) hx hb dX12_sets_27 (by decide) (fun c10 => ?_) (fun c10 => ?_)
      · have hF := ie c10 hF
        refine lv_aload_n hx hb dX12_sets_37 rfl (lv_at hl 0 rfl) ?_
        refine r_geti X hW (gq g7 al_0) fl_12_326 dX12_sets_38 ?_
        obtain ⟨rfl, rfl⟩ := sj2 hF
        exact hfin _ _ _ _ (wdW g7 hW) hS dX12_sets_41
      · have hF := it c10 hF
        refine lv_aload_n hx hb dX12_sets_30 rfl (lv_at hl 0 rfl) ?_
        refine r_geti X hW (gq g7 al_0) fl_12_323 dX12_sets_31 ?_
        refine lv_goto (tgt := 41) hx hb dX12_sets_34 (by decide) ?_
        obtain ⟨rfl, rfl⟩ := sj2 hF
        exact hfin _ _ _ _ (wdW g7 hW) hS dX12_sets_41
    · have hF := it c11 hF
      refine lv_bipush (v := (-2)) hx hb dX12_sets_18 (by decide) ?_
      obtain ⟨rfl, rfl⟩ := sj2 hF
      exact hfin _ _ _ _ (wdW rfl hW) hS dX12_sets_20
def F_X12_held (i0 : Nat) (a1 : Int32) (a2 : Int32) (h : HP) : Option (Int32 × DP) :=
  (F_X12_isBatch i0 a1 h).bind fun x2 =>
  (if x2 = 0 then
  some ((-2), dp h)
  else
  (F_X12_isBell i0 a2 h).bind fun x4 =>
  (if x4 = 0 then
  some ((-2), dp h)
  else
  (F_X12_findSets i0 a1 h).bind fun d9 => nm (wd h d9) fun h6 =>
  (if (gi h6 12 i0 45) = 0 then
  some (0, dp h6)
  else
  (if (((gi h6 12 i0 48) >>> (a2 &&& 31)) &&& 1) = 0 then
  some (0, dp h6)
  else
  (if (((gi h6 12 i0 47) >>> (a2 &&& 31)) &&& 1) = 1 then
  some (2, dp h6)
  else
  some (1, dp h6))))))
set_option maxHeartbeats 4000000 in
set_option maxRecDepth 100000 in
theorem ok_X12_held {l : Launch} {D : va_G} {cA : Nat → ClassId} {h : HP} {r : Int32} {d : DP} (i0 : Nat) (a1 : Int32) (a2 : Int32) (al_0 : i0 < gn h 12) (hF : F_X12_held i0 a1 a2 h = some (r, d)) : MI l D cA yX12_held cX12_held 3 (some .int) 3 69 (fun φ => [.ref (φ 12 i0), .int a1, .int a2]) h r (wd h d) := by
  refine mk_I (plainFor_of_name (by decide)) (fun φ => Nat.le_of_ble_eq_true rfl) ?_
  intro p e s m args below meth c ls φ A Q X hW hS hl hfin
  have hx := X.1
  have hb := X.2.1
  have hl : lv_has ls 3 [(0, .ref (φ 12 i0)), (1, .int a1), (2, .int a2)] := hl
  unfold F_X12_held at hF
  refine lv_aload_n hx hb dX12_held_0 rfl (lv_at hl 0 rfl) ?_
  refine lv_iload_n hx hb dX12_held_1 rfl (lv_at hl 1 rfl) ?_
  obtain ⟨x2, e1, hF⟩ := bn hF
  refine rc_i (Af := fun φ => [.ref (φ 12 i0), .int a1]) X hW hS ⟨Nat.zero_le _, Nat.zero_le _⟩ (rn_V (As := [.int a1]) (rest := []) X hW hS cw_12_338 al_0 rfl rfl rfl ⟨Nat.le_of_ble_eq_true rfl, Nat.le_of_ble_eq_true rfl⟩ rfl hl.1 rfl (Nat.le_of_ble_eq_true rfl) dX12_held_2) (ok_X12_isBatch i0 a1 al_0 e1) (fun H locs hW hS => ?_)
  refine lv_if_eq (tgt := 16) hx hb dX12_held_5 (by decide) (fun c14 => ?_) (fun c14 => ?_)
  · have hF := it c14 hF
    refine lv_bipush (v := (-2)) hx hb dX12_held_16 (by decide) ?_
    obtain ⟨rfl, rfl⟩ := sj2 hF
    exact hfin _ _ _ _ (wdW rfl hW) hS dX12_held_18
  · have hF := ie c14 hF
    refine lv_aload_n hx hb dX12_held_8 rfl (lv_at hl 0 rfl) ?_
    refine lv_iload_n hx hb dX12_held_9 rfl (lv_at hl 2 rfl) ?_
    obtain ⟨x4, e3, hF⟩ := bn hF
    refine rc_i (Af := fun φ => [.ref (φ 12 i0), .int a2]) X hW hS ⟨Nat.zero_le _, Nat.zero_le _⟩ (rn_V (As := [.int a2]) (rest := []) X hW hS cw_12_190 al_0 rfl rfl rfl ⟨Nat.le_of_ble_eq_true rfl, Nat.le_of_ble_eq_true rfl⟩ rfl hl.1 rfl (Nat.le_of_ble_eq_true rfl) dX12_held_10) (ok_X12_isBell i0 a2 al_0 e3) (fun H locs hW hS => ?_)
    refine lv_if_ne (tgt := 19) hx hb dX12_held_13 (by decide) (fun c13 => ?_) (fun c13 => ?_)
    · have hF := ie c13 hF
      refine lv_aload_n hx hb dX12_held_19 rfl (lv_at hl 0 rfl) ?_
      refine lv_iload_n hx hb dX12_held_20 rfl (lv_at hl 1 rfl) ?_
      obtain ⟨d9, e5, hF⟩ := bn hF
      refine rc_v (Af := fun φ => [.ref (φ 12 i0), .int a1]) X hW hS ⟨Nat.zero_le _, Nat.zero_le _⟩ (rn_V (As := [.int a1]) (rest := []) X hW hS cw_12_341 al_0 rfl rfl rfl ⟨Nat.le_of_ble_eq_true rfl, Nat.le_of_ble_eq_true rfl⟩ rfl hl.1 rfl (Nat.le_of_ble_eq_true rfl) dX12_held_21) (ok_X12_findSets i0 a1 al_0 e5) (fun H locs hW hS => ?_)
      obtain ⟨h6, e8, hF⟩ := nmx hF
      have hW := nmW e8 hW
      have g7 : h6.2.2 = h.2.2 := by rw [e8]; exact rfl
      refine lv_aload_n hx hb dX12_held_24 rfl (lv_at hl 0 rfl) ?_
      refine r_geti X hW (gq g7 al_0) fl_12_323 dX12_held_25 ?_
      refine lv_if_eq (tgt := 42) hx hb dX12_held_28 (by decide) (fun c12 => ?_) (fun c12 => ?_)
      · have hF := it c12 hF
        refine lv_iconst (v := 0) hx hb dX12_held_42 (by decide) ?_
        refine lv_goto (tgt := 63) hx hb dX12_held_43 (by decide) ?_
        obtain ⟨rfl, rfl⟩ := sj2 hF
        exact hfin _ _ _ _ (wdW g7 hW) hS dX12_held_63
      · have hF := ie c12 hF
        refine lv_aload_n hx hb dX12_held_31 rfl (lv_at hl 0 rfl) ?_
        refine r_geti X hW (gq g7 al_0) fl_12_332 dX12_held_32 ?_
        refine lv_iload_n hx hb dX12_held_35 rfl (lv_at hl 2 rfl) ?_
        refine lv_ishr hx hb dX12_held_36 ?_
        refine lv_iconst (v := 1) hx hb dX12_held_37 (by decide) ?_
        refine lv_iand hx hb dX12_held_38 ?_
        refine lv_if_ne (tgt := 46) hx hb dX12_held_39 (by decide) (fun c11 => ?_) (fun c11 => ?_)
        · have hF := ie c11 hF
          refine lv_aload_n hx hb dX12_held_46 rfl (lv_at hl 0 rfl) ?_
          refine r_geti X hW (gq g7 al_0) fl_12_329 dX12_held_47 ?_
          refine lv_iload_n hx hb dX12_held_50 rfl (lv_at hl 2 rfl) ?_
          refine lv_ishr hx hb dX12_held_51 ?_
          refine lv_iconst (v := 1) hx hb dX12_held_52 (by decide) ?_
          refine lv_iand hx hb dX12_held_53 ?_
          refine lv_iconst (v := 1) hx hb dX12_held_54 (by decide) ?_
          refine lv_icmp_ne (tgt := 62) hx hb dX12_held_55 (by decide) (fun c10 => ?_) (fun c10 => ?_)
          · have hF := ie c10 hF
            refine lv_iconst (v := 1) hx hb dX12_held_62 (by decide) ?_
            obtain ⟨rfl, rfl⟩ := sj2 hF
            exact hfin _ _ _ _ (wdW g7 hW) hS dX12_held_63
          · have hF := it c10 hF
            refine lv_iconst (v := 2) hx hb dX12_held_58 (by decide) ?_
            refine lv_goto (tgt := 63) hx hb dX12_held_59 (by decide) ?_
            obtain ⟨rfl, rfl⟩ := sj2 hF
            exact hfin _ _ _ _ (wdW g7 hW) hS dX12_held_63
        · have hF := it c11 hF
          refine lv_iconst (v := 0) hx hb dX12_held_42 (by decide) ?_
          refine lv_goto (tgt := 63) hx hb dX12_held_43 (by decide) ?_
          obtain ⟨rfl, rfl⟩ := sj2 hF
          exact hfin _ _ _ _ (wdW g7 hW) hS dX12_held_63
    · have hF := it c13 hF
      refine lv_bipush (v := (-2)) hx hb dX12_held_16 (by decide) ?_
      obtain ⟨rfl, rfl⟩ := sj2 hF
      exact hfin _ _ _ _ (wdW rfl hW) hS dX12_held_18
def J_X12_nextMelt_63 (i0 : Nat) (a1 : Int32) (v2_63 : Int32) (v3_63 : Int32) (t0_63 : Int32) (h : HP) : Option ((Int32 × Int32) ⊕ (Int32)) :=
  (if t0_63 < 0 then
  nm (v3_63 + 1) fun x3 =>
  some (.inl (v3_63, x3))
  else
  (if t0_63 = 0 then
  (gr h 12 i0 10).bind fun o7 =>
  (ga h 51 o7 20 v3_63).bind fun x10 =>
  (gr h 12 i0 10).bind fun o13 =>
  (ga h 51 o13 20 v2_63).bind fun x16 =>
  (if x10 ≤ x16 then
  nm (v3_63 + 1) fun x19 =>
  some (.inl (v2_63, x19))
  else
  nm (v3_63 + 1) fun x21 =>
  some (.inl (v3_63, x21)))
  else
  nm (v3_63 + 1) fun x5 =>
  some (.inl (v2_63, x5))))
def J_X12_nextMelt_41 (i0 : Nat) (a1 : Int32) (v2_41 : Int32) (v3_41 : Int32) (h : HP) : Option ((Int32 × Int32) ⊕ (Int32)) :=
  (if v2_41 = (-1) then
  J_X12_nextMelt_63 i0 a1 v2_41 v3_41 (-1) h
  else
  (F_X12_letterOf i0 v3_41 a1 h).bind fun x27 =>
  (F_X12_letterOf i0 v2_41 a1 h).bind fun x29 =>
  J_X12_nextMelt_63 i0 a1 v2_41 v3_41 (x27 - x29) h)
def B_X12_nextMelt_4 (i0 : Nat) (a1 : Int32) (h : HP) (q : Int32 × Int32) : Option ((Int32 × Int32) ⊕ (Int32)) :=
  u2 q fun x1 x2 =>
  (if (gi h 12 i0 8) ≤ x2 then
  some (.inr x1)
  else
  (F_X12_stateOf i0 x2 h).bind fun x32 =>
  (gr h 12 i0 49).bind fun o33 =>
  (ga h 77 o33 20 x2).bind fun x36 =>
  (if x36 = (-1) then
  (if x32 = 2 then
  J_X12_nextMelt_41 i0 a1 x1 x2 h
  else
  (if x32 = 3 then
  J_X12_nextMelt_41 i0 a1 x1 x2 h
  else
  nm (x2 + 1) fun x41 =>
  some (.inl (x1, x41))))
  else
  nm (x2 + 1) fun x39 =>
  some (.inl (x1, x39))))
def F_X12_nextMelt (i0 : Nat) (a1 : Int32) (h : HP) : Option (Int32) :=
  (loopN LF (B_X12_nextMelt_4 i0 a1 h) ((-1), 0)).bind fun x49 =>
  some x49
set_option maxHeartbeats 4000000 in
set_option maxRecDepth 100000 in
theorem ok_X12_nextMelt {l : Launch} {D : va_G} {cA : Nat → ClassId} {h : HP} {r : Int32}  (i0 : Nat) (a1 : Int32) (al_0 : i0 < gn h 12) (hF : F_X12_nextMelt i0 a1 h = some r) : MI l D cA yX12_nextMelt cX12_nextMelt 6 (some .int) 3 71 (fun φ => [.ref (φ 12 i0), .int a1]) h r h := by
  refine mk_I (plainFor_of_name (by decide)) (fun φ => Nat.le_of_ble_eq_true rfl) ?_
  intro p e s m args below meth c ls φ A Q X hW hS hl hfin
  have hx := X.1
  have hb := X.2.1
  have hl : lv_has ls 6 [(0, .ref (φ 12 i0)), (1, .int a1)] := hl
  unfold F_X12_nextMelt at hF
  refine lv_iconst (v := (-1)) hx hb dX12_nextMelt_0 (by decide) ?_
  refine lv_istore_n (lv' := [(2, .int (-1)), (0, .ref (φ 12 i0)), (1, .int a1)]) hx hb dX12_nextMelt_1 rfl hl (by decide) rfl (fun ls hl => ?_)
  refine lv_iconst (v := 0) hx hb dX12_nextMelt_2 (by decide) ?_
  refine lv_istore_n (lv' := [(3, .int 0), (2, .int (-1)), (0, .ref (φ 12 i0)), (1, .int a1)]) hx hb dX12_nextMelt_3 rfl hl (by decide) rfl (fun ls hl => ?_)
  obtain ⟨q47, e48, hF⟩ := bn hF
  refine loop_w (f := B_X12_nextMelt_4 i0 a1 h) (Z := fun q => ∀ (H : Heap) (locs : List Loc) (ls : Array Slot), HW D cA A φ h H → va_S A s.heap H locs → lv_has ls 6 [(0, .ref (φ 12 i0)), (1, .int a1), (2, .int (q.1)), (3, .int (q.2))] → W p l e (rmo 3 71 0 0) s m args below meth c H locs 0 0 Q (F0 m 4 ls [])) (K := fun q => ∀ (H : Heap) (locs : List Loc) (ls : Array Slot), HW D cA A φ h H → va_S A s.heap H locs → lv_has ls 6 [(2, .int q)] → W p l e (rmo 3 71 0 0) s m args below meth c H locs 0 0 Q (F0 m 102 ls [])) ?_ LF _ q47 e48 ?_ _ _ _ hW hS (lv_sub hl [2, 3, 1, 0] rfl)
  · intro q v hF hK H locs ls hW hS hl
    obtain ⟨x1, x2⟩ := q
    unfold B_X12_nextMelt_4 at hF
    have hF := u2d hF
    have hl : lv_has ls 6 [(0, .ref (φ 12 i0)), (1, .int a1), (2, .int x1), (3, .int x2)] := hl
    have j_63 : ∀ (v2_63 : Int32) (v3_63 : Int32) (t0_63 : Int32) (H : Heap) (locs : List Loc) (ls : Array Slot), J_X12_nextMelt_63 i0 a1 v2_63 v3_63 t0_63 h = some v → HW D cA A φ h H → va_S A s.heap H locs → lv_has ls 6 [(0, .ref (φ 12 i0)), (1, .int a1), (2, .int v2_63), (3, .int v3_63)] → W p l e (rmo 3 71 0 0) s m args below meth c H locs 0 0 Q (F0 m 63 ls [.int t0_63]) := by
      intro v2_63 v3_63 t0_63 H locs ls hF hW hS hl
      unfold J_X12_nextMelt_63 at hF
      refine lv_istore (lv' := [(5, .int t0_63), (0, .ref (φ 12 i0)), (1, .int a1), (2, .int v2_63), (3, .int v3_63)]) hx hb dX12_nextMelt_63 hl (by decide) rfl (fun ls hl => ?_)
      refine lv_iload hx hb dX12_nextMelt_65 (lv_at hl 0 rfl) ?_
      refine lv_if_lt (tgt := 90) hx hb dX12_nextMelt_67 (by decide) (fun c25 => ?_) (fun c25 => ?_)
      · have hF := it c25 hF
        refine lv_iload_n hx hb dX12_nextMelt_90 rfl (lv_at hl 4 rfl) ?_
        refine lv_goto (tgt := 95) hx hb dX12_nextMelt_91 (by decide) ?_
        refine lv_istore_n (lv' := [(2, .int v3_63), (5, .int t0_63), (0, .ref (φ 12 i0)), (1, .int a1), (3, .int v3_63)]) hx hb dX12_nextMelt_95 rfl hl (by decide) rfl (fun ls hl => ?_)
        obtain ⟨x3, e4, hF⟩ := nmx hF
        refine lv_iinc (v := x3) (lv' := [(3, .int x3), (2, .int v3_63), (5, .int t0_63), (0, .ref (φ 12 i0)), (1, .int a1)]) hx hb dX12_nextMelt_96 hl (k := 4) rfl (by rw [e4]; rfl) (by decide) rfl (fun ls hl => ?_)
        refine lv_goto (tgt := 4) hx hb dX12_nextMelt_99 (by decide) ?_
        obtain rfl := sj hF
        exact hK _ _ _ hW hS (lv_sub hl [3, 4, 1, 0] rfl)
      · have hF := ie c25 hF
        refine lv_iload hx hb dX12_nextMelt_70 (lv_at hl 0 rfl) ?_
        refine lv_if_ne (tgt := 94) hx hb dX12_nextMelt_72 (by decide) (fun c24 => ?_) (fun c24 => ?_)
        · have hF := ie c24 hF
          refine lv_iload_n hx hb dX12_nextMelt_94 rfl (lv_at hl 3 rfl) ?_
          refine lv_istore_n (lv' := [(2, .int v2_63), (5, .int t0_63), (0, .ref (φ 12 i0)), (1, .int a1), (3, .int v3_63)]) hx hb dX12_nextMelt_95 rfl hl (by decide) rfl (fun ls hl => ?_)
          obtain ⟨x5, e6, hF⟩ := nmx hF
          refine lv_iinc (v := x5) (lv' := [(3, .int x5), (2, .int v2_63), (5, .int t0_63), (0, .ref (φ 12 i0)), (1, .int a1)]) hx hb dX12_nextMelt_96 hl (k := 4) rfl (by rw [e6]; rfl) (by decide) rfl (fun ls hl => ?_)
          refine lv_goto (tgt := 4) hx hb dX12_nextMelt_99 (by decide) ?_
          obtain rfl := sj hF
          exact hK _ _ _ hW hS (lv_sub hl [3, 4, 1, 0] rfl)
        · have hF := it c24 hF
          refine lv_aload_n hx hb dX12_nextMelt_75 rfl (lv_at hl 1 rfl) ?_
          obtain ⟨o7, e8, hF⟩ := bn hF
          refine r_getr X hW al_0 fl_12_28 e8 dX12_nextMelt_76 (fun al9 => ?_)
          refine lv_iload_n hx hb dX12_nextMelt_79 rfl (lv_at hl 4 rfl) ?_
          obtain ⟨x10, e11, hF⟩ := bn hF
          obtain ⟨b12, e11⟩ := ga_s e11
          refine r_iald X hW al9 rfl b12 dX12_nextMelt_80 ?_
          refine nmi e11 ?_
          refine lv_aload_n hx hb dX12_nextMelt_81 rfl (lv_at hl 1 rfl) ?_
          obtain ⟨o13, e14, hF⟩ := bn hF
          refine r_getr X hW al_0 fl_12_28 e14 dX12_nextMelt_82 (fun al15 => ?_)
          refine lv_iload_n hx hb dX12_nextMelt_85 rfl (lv_at hl 3 rfl) ?_
          obtain ⟨x16, e17, hF⟩ := bn hF
          obtain ⟨b18, e17⟩ := ga_s e17
          refine r_iald X hW al15 rfl b18 dX12_nextMelt_86 ?_
          refine nmi e17 ?_
          refine lv_icmp_le (tgt := 94) hx hb dX12_nextMelt_87 (by decide) (fun c23 => ?_) (fun c23 => ?_)
          · have hF := it c23 hF
            refine lv_iload_n hx hb dX12_nextMelt_94 rfl (lv_at hl 3 rfl) ?_
            refine lv_istore_n (lv' := [(2, .int v2_63), (5, .int t0_63), (0, .ref (φ 12 i0)), (1, .int a1), (3, .int v3_63)]) hx hb dX12_nextMelt_95 rfl hl (by decide) rfl (fun ls hl => ?_)
            obtain ⟨x19, e20, hF⟩ := nmx hF
            refine lv_iinc (v := x19) (lv' := [(3, .int x19), (2, .int v2_63), (5, .int t0_63), (0, .ref (φ 12 i0)), (1, .int a1)]) hx hb dX12_nextMelt_96 hl (k := 4) rfl (by rw [e20]; rfl) (by decide) rfl (fun ls hl => ?_)
            refine lv_goto (tgt := 4) hx hb dX12_nextMelt_99 (by decide) ?_
            obtain rfl := sj hF
            exact hK _ _ _ hW hS (lv_sub hl [3, 4, 1, 0] rfl)
          · have hF := ie c23 hF
            refine lv_iload_n hx hb dX12_nextMelt_90 rfl (lv_at hl 4 rfl) ?_
            refine lv_goto (tgt := 95) hx hb dX12_nextMelt_91 (by decide) ?_
            refine lv_istore_n (lv' := [(2, .int v3_63), (5, .int t0_63), (0, .ref (φ 12 i0)), (1, .int a1), (3, .int v3_63)]) hx hb dX12_nextMelt_95 rfl hl (by decide) rfl (fun ls hl => ?_)
            obtain ⟨x21, e22, hF⟩ := nmx hF
            refine lv_iinc (v := x21) (lv' := [(3, .int x21), (2, .int v3_63), (5, .int t0_63), (0, .ref (φ 12 i0)), (1, .int a1)]) hx hb dX12_nextMelt_96 hl (k := 4) rfl (by rw [e22]; rfl) (by decide) rfl (fun ls hl => ?_)
            refine lv_goto (tgt := 4) hx hb dX12_nextMelt_99 (by decide) ?_
            obtain rfl := sj hF
            exact hK _ _ _ hW hS (lv_sub hl [3, 4, 1, 0] rfl)
    have j_41 : ∀ (v2_41 : Int32) (v3_41 : Int32) (H : Heap) (locs : List Loc) (ls : Array Slot), J_X12_nextMelt_41 i0 a1 v2_41 v3_41 h = some v → HW D cA A φ h H → va_S A s.heap H locs → lv_has ls 6 [(0, .ref (φ 12 i0)), (1, .int a1), (2, .int v2_41), (3, .int v3_41)] → W p l e (rmo 3 71 0 0) s m args below meth c H locs 0 0 Q (F0 m 41 ls []) := by
      intro v2_41 v3_41 H locs ls hF hW hS hl
      unfold J_X12_nextMelt_41 at hF
      refine lv_iload_n hx hb dX12_nextMelt_41 rfl (lv_at hl 2 rfl) ?_
      refine lv_iconst (v := (-1)) hx hb dX12_nextMelt_42 (by decide) ?_
      refine lv_icmp_ne (tgt := 50) hx hb dX12_nextMelt_43 (by decide) (fun c30 => ?_) (fun c30 => ?_)
      · have hF := ie c30 hF
        refine lv_aload_n hx hb dX12_nextMelt_50 rfl (lv_at hl 0 rfl) ?_
        refine lv_iload_n hx hb dX12_nextMelt_51 rfl (lv_at hl 3 rfl) ?_
        refine lv_iload_n hx hb dX12_nextMelt_52 rfl (lv_at hl 1 rfl) ?_
        obtain ⟨x27, e26, hF⟩ := bn hF
        refine rc_i (Af := fun φ => [.ref (φ 12 i0), .int v3_41, .int a1]) X hW hS ⟨Nat.zero_le _, Nat.zero_le _⟩ (rn_V (As := [.int v3_41, .int a1]) (rest := []) X hW hS cw_12_247 al_0 rfl rfl rfl ⟨Nat.le_of_ble_eq_true rfl, Nat.le_of_ble_eq_true rfl⟩ rfl hl.1 rfl (Nat.le_of_ble_eq_true rfl) dX12_nextMelt_53) (ok_X12_letterOf i0 v3_41 a1 al_0 e26) (fun H locs hW hS => ?_)
        refine lv_aload_n hx hb dX12_nextMelt_56 rfl (lv_at hl 0 rfl) ?_
        refine lv_iload_n hx hb dX12_nextMelt_57 rfl (lv_at hl 2 rfl) ?_
        refine lv_iload_n hx hb dX12_nextMelt_58 rfl (lv_at hl 1 rfl) ?_
        obtain ⟨x29, e28, hF⟩ := bn hF
        refine rc_i (Af := fun φ => [.ref (φ 12 i0), .int v2_41, .int a1]) X hW hS ⟨Nat.zero_le _, Nat.zero_le _⟩ (rn_V (As := [.int v2_41, .int a1]) (rest := [.int x27]) X hW hS cw_12_247 al_0 rfl rfl rfl ⟨Nat.le_of_ble_eq_true rfl, Nat.le_of_ble_eq_true rfl⟩ rfl hl.1 rfl (Nat.le_of_ble_eq_true rfl) dX12_nextMelt_59) (ok_X12_letterOf i0 v2_41 a1 al_0 e28) (fun H locs hW hS => ?_)
        refine lv_isub hx hb dX12_nextMelt_62 ?_
        exact j_63 v2_41 v3_41 (x27 - x29) _ _ _ hF hW hS (lv_sub hl [0, 1, 2, 3] rfl)
      · have hF := it c30 hF
        refine lv_iconst (v := (-1)) hx hb dX12_nextMelt_46 (by decide) ?_
        refine lv_goto (tgt := 63) hx hb dX12_nextMelt_47 (by decide) ?_
        exact j_63 v2_41 v3_41 (-1) _ _ _ hF hW hS (lv_sub hl [0, 1, 2, 3] rfl)
    refine lv_iload_n hx hb dX12_nextMelt_4 rfl (lv_at hl 3 rfl) ?_
    refine lv_aload_n hx hb dX12_nextMelt_5 rfl (lv_at hl 0 rfl) ?_
    refine r_geti X hW al_0 fl_12_167 dX12_nextMelt_6 ?_
    refine lv_icmp_ge (tgt := 102) hx hb dX12_nextMelt_9 (by decide) (fun c46 => ?_) (fun c46 => ?_)
    · have hF := it c46 hF
      obtain rfl := sj hF
      exact hK _ _ _ hW hS (lv_sub hl [2] rfl)
    · have hF := ie c46 hF
      refine lv_aload_n hx hb dX12_nextMelt_12 rfl (lv_at hl 0 rfl) ?_
      refine lv_iload_n hx hb dX12_nextMelt_13 rfl (lv_at hl 3 rfl) ?_
      obtain ⟨x32, e31, hF⟩ := bn hF
      refine rc_i (Af := fun φ => [.ref (φ 12 i0), .int x2]) X hW hS ⟨Nat.zero_le _, Nat.zero_le _⟩ (rn_V (As := [.int x2]) (rest := []) X hW hS cw_12_200 al_0 rfl rfl rfl ⟨Nat.le_of_ble_eq_true rfl, Nat.le_of_ble_eq_true rfl⟩ rfl hl.1 rfl (Nat.le_of_ble_eq_true rfl) dX12_nextMelt_14) (ok_X12_stateOf i0 x2 al_0 e31) (fun H locs hW hS => ?_)
      refine lv_istore (lv' := [(4, .int x32), (0, .ref (φ 12 i0)), (1, .int a1), (2, .int x1), (3, .int x2)]) hx hb dX12_nextMelt_17 hl (by decide) rfl (fun ls hl => ?_)
      refine lv_aload_n hx hb dX12_nextMelt_19 rfl (lv_at hl 1 rfl) ?_
      obtain ⟨o33, e34, hF⟩ := bn hF
      refine r_getr X hW al_0 fl_12_113 e34 dX12_nextMelt_20 (fun al35 => ?_)
      refine lv_iload_n hx hb dX12_nextMelt_23 rfl (lv_at hl 4 rfl) ?_
      obtain ⟨x36, e37, hF⟩ := bn hF
      obtain ⟨b38, e37⟩ := ga_s e37
      refine r_iald X hW al35 rfl b38 dX12_nextMelt_24 ?_
      refine nmi e37 ?_
      refine lv_iconst (v := (-1)) hx hb dX12_nextMelt_25 (by decide) ?_
      refine lv_icmp_ne (tgt := 96) hx hb dX12_nextMelt_26 (by decide) (fun c45 => ?_) (fun c45 => ?_)
      · have hF := ie c45 hF
        obtain ⟨x39, e40, hF⟩ := nmx hF
        refine lv_iinc (v := x39) (lv' := [(3, .int x39), (4, .int x32), (0, .ref (φ 12 i0)), (1, .int a1), (2, .int x1)]) hx hb dX12_nextMelt_96 hl (k := 4) rfl (by rw [e40]; rfl) (by decide) rfl (fun ls hl => ?_)
        refine lv_goto (tgt := 4) hx hb dX12_nextMelt_99 (by decide) ?_
        obtain rfl := sj hF
        exact hK _ _ _ hW hS (lv_sub hl [2, 3, 4, 0] rfl)
      · have hF := it c45 hF
        refine lv_iload hx hb dX12_nextMelt_29 (lv_at hl 0 rfl) ?_
        refine lv_iconst (v := 2) hx hb dX12_nextMelt_31 (by decide) ?_
        refine lv_icmp_eq (tgt := 41) hx hb dX12_nextMelt_32 (by decide) (fun c44 => ?_) (fun c44 => ?_)
        · have hF := it c44 hF
          exact j_41 x1 x2 _ _ _ hF hW hS (lv_sub hl [1, 2, 3, 4] rfl)
        · have hF := ie c44 hF
          refine lv_iload hx hb dX12_nextMelt_35 (lv_at hl 0 rfl) ?_
          refine lv_iconst (v := 3) hx hb dX12_nextMelt_37 (by decide) ?_
          refine lv_icmp_ne (tgt := 96) hx hb dX12_nextMelt_38 (by decide) (fun c43 => ?_) (fun c43 => ?_)
          · have hF := ie c43 hF
            obtain ⟨x41, e42, hF⟩ := nmx hF
            refine lv_iinc (v := x41) (lv' := [(3, .int x41), (4, .int x32), (0, .ref (φ 12 i0)), (1, .int a1), (2, .int x1)]) hx hb dX12_nextMelt_96 hl (k := 4) rfl (by rw [e42]; rfl) (by decide) rfl (fun ls hl => ?_)
            refine lv_goto (tgt := 4) hx hb dX12_nextMelt_99 (by decide) ?_
            obtain rfl := sj hF
            exact hK _ _ _ hW hS (lv_sub hl [2, 3, 4, 0] rfl)
          · have hF := it c43 hF
            exact j_41 x1 x2 _ _ _ hF hW hS (lv_sub hl [1, 2, 3, 4] rfl)
  · intro H locs ls hW hS hl
    obtain ⟨x49, rfl⟩ : ∃ z, z = q47 := ⟨_, rfl⟩
    have hl : lv_has ls 6 [(2, .int x49)] := hl
    refine lv_iload_n hx hb dX12_nextMelt_102 rfl (lv_at hl 0 rfl) ?_
    obtain rfl := sj hF
    exact hfin _ _ _ _ hW hS dX12_nextMelt_103
