def B_X12_ones_4  (q : Int32 × Int32) : Option ((Int32 × Int32) ⊕ (Int32)) :=
  u2 q fun x1 x2 =>
  (if x2 = 0 then
  some (.inr x1)
  else
  nm (x1 + 1) fun x3 =>
  nm ((x2 &&& (x2 - 1))) fun x5 =>
  some (.inl (x3, x5)))
def F_X12_ones (a0 : Int32) : Option (Int32) :=
  (loopN LF (B_X12_ones_4) (0, a0)).bind fun x10 =>
  some x10
set_option maxHeartbeats 4000000 in
set_option maxRecDepth 100000 in
theorem ok_X12_ones {l : Launch} {D : va_G} {cA : Nat → ClassId} {h : HP} {r : Int32}  (a0 : Int32)  (hF : F_X12_ones a0 = some r) : MI l D cA yX12_ones cX12_ones 3 (some .int) 0 0 (fun φ => [.int a0]) h r h := by
  refine mk_I (plainFor_of_name (by decide)) (fun φ => Nat.le_of_ble_eq_true rfl) ?_
  intro p e s m args below meth c ls φ A Q X hW hS hl hfin
  have hx := X.1
  have hb := X.2.1
  have hl : lv_has ls 3 [(0, .int a0)] := hl
  unfold F_X12_ones at hF
  refine lv_iconst (v := 0) hx hb dX12_ones_0 (by decide) ?_
  refine lv_istore_n (lv' := [(1, .int 0), (0, .int a0)]) hx hb dX12_ones_1 rfl hl (by decide) rfl (fun ls hl => ?_)
  refine lv_iload_n hx hb dX12_ones_2 rfl (lv_at hl 1 rfl) ?_
  refine lv_istore_n (lv' := [(2, .int a0), (1, .int 0), (0, .int a0)]) hx hb dX12_ones_3 rfl hl (by decide) rfl (fun ls hl => ?_)
  obtain ⟨q8, e9, hF⟩ := bn hF
  refine loop_w (f := B_X12_ones_4) (Z := fun q => ∀ (H : Heap) (locs : List Loc) (ls : Array Slot), HW D cA A φ h H → va_S A s.heap H locs → lv_has ls 3 [(1, .int (q.1)), (2, .int (q.2))] → W p l e (rmo 0 0 0 0) s m args below meth c H locs 0 0 Q (F0 m 4 ls [])) (K := fun q => ∀ (H : Heap) (locs : List Loc) (ls : Array Slot), HW D cA A φ h H → va_S A s.heap H locs → lv_has ls 3 [(1, .int q)] → W p l e (rmo 0 0 0 0) s m args below meth c H locs 0 0 Q (F0 m 20 ls [])) ?_ LF _ q8 e9 ?_ _ _ _ hW hS (lv_sub hl [1, 0] rfl)
  · intro q v hF hK H locs ls hW hS hl
    obtain ⟨x1, x2⟩ := q
    unfold B_X12_ones_4 at hF
    have hF := u2d hF
    have hl : lv_has ls 3 [(1, .int x1), (2, .int x2)] := hl
    refine lv_iload_n hx hb dX12_ones_4 rfl (lv_at hl 1 rfl) ?_
    refine lv_if_eq (tgt := 20) hx hb dX12_ones_5 (by decide) (fun c7 => ?_) (fun c7 => ?_)
    · have hF := it c7 hF
      obtain rfl := sj hF
      exact hK _ _ _ hW hS (lv_sub hl [0] rfl)
    · have hF := ie c7 hF
      obtain ⟨x3, e4, hF⟩ := nmx hF
      refine lv_iinc (v := x3) (lv' := [(1, .int x3), (2, .int x2)]) hx hb dX12_ones_8 hl (k := 0) rfl (by rw [e4]; rfl) (by decide) rfl (fun ls hl => ?_)
      refine lv_iload_n hx hb dX12_ones_11 rfl (lv_at hl 1 rfl) ?_
      refine lv_iload_n hx hb dX12_ones_12 rfl (lv_at hl 1 rfl) ?_
      refine lv_iconst (v := 1) hx hb dX12_ones_13 (by decide) ?_
      refine lv_isub hx hb dX12_ones_14 ?_
      refine lv_iand hx hb dX12_ones_15 ?_
      obtain ⟨x5, e6, hF⟩ := nmx hF
      refine nmi e6 ?_
      refine lv_istore_n (lv' := [(2, .int x5), (1, .int x3)]) hx hb dX12_ones_16 rfl hl (by decide) rfl (fun ls hl => ?_)
      refine lv_goto (tgt := 4) hx hb dX12_ones_17 (by decide) ?_
      obtain rfl := sj hF
      exact hK _ _ _ hW hS (lv_sub hl [1, 0] rfl)
  · intro H locs ls hW hS hl
    obtain ⟨x10, rfl⟩ : ∃ z, z = q8 := ⟨_, rfl⟩
    have hl : lv_has ls 3 [(1, .int x10)] := hl
    refine lv_iload_n hx hb dX12_ones_20 rfl (lv_at hl 0 rfl) ?_
    obtain rfl := sj hF
    exact hfin _ _ _ _ hW hS dX12_ones_21
def F_X12_partOfTone (i0 : Nat) (a1 : Int32) (a2 : Int32) (a3 : Int32) (h : HP) : Option (Int32) :=
  (gr h 12 i0 13).bind fun o1 =>
  (ga h 54 o1 100 ((5 * a2) + a3)).bind fun x4 =>
  (if x4 = (-1) then
  some (-1)
  else
  (gr h 12 i0 30).bind fun o7 =>
  (ga h 67 o7 8 a1).bind fun x10 =>
  (dz x4 ((2 * x10) + 1)).bind fun x13 =>
  some x13)
set_option maxHeartbeats 4000000 in
set_option maxRecDepth 100000 in
theorem ok_X12_partOfTone {l : Launch} {D : va_G} {cA : Nat → ClassId} {h : HP} {r : Int32}  (i0 : Nat) (a1 : Int32) (a2 : Int32) (a3 : Int32) (al_0 : i0 < gn h 12) (hF : F_X12_partOfTone i0 a1 a2 a3 h = some r) : MI l D cA yX12_partOfTone cX12_partOfTone 5 (some .int) 0 0 (fun φ => [.ref (φ 12 i0), .int a1, .int a2, .int a3]) h r h := by
  refine mk_I (plainFor_of_name (by decide)) (fun φ => Nat.le_of_ble_eq_true rfl) ?_
  intro p e s m args below meth c ls φ A Q X hW hS hl hfin
  have hx := X.1
  have hb := X.2.1
  have hl : lv_has ls 5 [(0, .ref (φ 12 i0)), (1, .int a1), (2, .int a2), (3, .int a3)] := hl
  unfold F_X12_partOfTone at hF
  refine lv_aload_n hx hb dX12_partOfTone_0 rfl (lv_at hl 0 rfl) ?_
  obtain ⟨o1, e2, hF⟩ := bn hF
  refine r_getr X hW al_0 fl_12_37 e2 dX12_partOfTone_1 (fun al3 => ?_)
  refine lv_iconst (v := 5) hx hb dX12_partOfTone_4 (by decide) ?_
  refine lv_iload_n hx hb dX12_partOfTone_5 rfl (lv_at hl 2 rfl) ?_
  refine lv_imul hx hb dX12_partOfTone_6 ?_
  refine lv_iload_n hx hb dX12_partOfTone_7 rfl (lv_at hl 3 rfl) ?_
  refine lv_iadd hx hb dX12_partOfTone_8 ?_
  obtain ⟨x4, e5, hF⟩ := bn hF
  obtain ⟨b6, e5⟩ := ga_s e5
  refine r_iald X hW al3 rfl b6 dX12_partOfTone_9 ?_
  refine nmi e5 ?_
  refine lv_istore (lv' := [(4, .int x4), (0, .ref (φ 12 i0)), (1, .int a1), (2, .int a2), (3, .int a3)]) hx hb dX12_partOfTone_10 hl (by decide) rfl (fun ls hl => ?_)
  refine lv_iload hx hb dX12_partOfTone_12 (lv_at hl 0 rfl) ?_
  refine lv_iconst (v := (-1)) hx hb dX12_partOfTone_14 (by decide) ?_
  refine lv_icmp_ne (tgt := 22) hx hb dX12_partOfTone_15 (by decide) (fun c16 => ?_) (fun c16 => ?_)
  · have hF := ie c16 hF
    refine lv_iload hx hb dX12_partOfTone_22 (lv_at hl 0 rfl) ?_
    refine lv_iconst (v := 2) hx hb dX12_partOfTone_24 (by decide) ?_
    refine lv_aload_n hx hb dX12_partOfTone_25 rfl (lv_at hl 1 rfl) ?_
    obtain ⟨o7, e8, hF⟩ := bn hF
    refine r_getr X hW al_0 fl_12_76 e8 dX12_partOfTone_26 (fun al9 => ?_)
    refine lv_iload_n hx hb dX12_partOfTone_29 rfl (lv_at hl 2 rfl) ?_
    obtain ⟨x10, e11, hF⟩ := bn hF
    obtain ⟨b12, e11⟩ := ga_s e11
    refine r_iald X hW al9 rfl b12 dX12_partOfTone_30 ?_
    refine nmi e11 ?_
    refine lv_imul hx hb dX12_partOfTone_31 ?_
    refine lv_iconst (v := 1) hx hb dX12_partOfTone_32 (by decide) ?_
    refine lv_iadd hx hb dX12_partOfTone_33 ?_
    obtain ⟨x13, e14, hF⟩ := bn hF
    obtain ⟨b15, e14⟩ := dz_s e14
    refine lv_idiv hx hb dX12_partOfTone_34 b15 ?_
    refine nmi e14 ?_
    obtain rfl := sj hF
    exact hfin _ _ _ _ hW hS dX12_partOfTone_35
  · have hF := it c16 hF
    refine lv_iconst (v := (-1)) hx hb dX12_partOfTone_18 (by decide) ?_
    refine lv_goto (tgt := 35) hx hb dX12_partOfTone_19 (by decide) ?_
    obtain rfl := sj hF
    exact hfin _ _ _ _ hW hS dX12_partOfTone_35
def B_X12_next_77 (i0 : Nat) (a1 : Int32) (x4 : Int32) (x7 : Int32) (x8 : Int32) (x9 : Int32) (x18 : Int32) (x19 : Int32) (h : HP) (q : Int32 × Int32) : Option ((Int32 × Int32) ⊕ (Int32)) :=
  u2 q fun x20 x21 =>
  (if (gi h 12 i0 8) ≤ x21 then
  some (.inr x20)
  else
  (if ((x4 >>> (x21 &&& 31)) &&& 1) = 1 then
  (F_X12_partOfTone i0 a1 x19 x9 h).bind fun x27 =>
  (F_X12_partOfTone i0 a1 x21 x9 h).bind fun x29 =>
  (if x27 = x29 then
  nm ((x20 + 1)) fun x34 =>
  nm (x21 + 1) fun x36 =>
  some (.inl (x34, x36))
  else
  nm ((x20 + 0)) fun x30 =>
  nm (x21 + 1) fun x32 =>
  some (.inl (x30, x32)))
  else
  nm ((x20 + 0)) fun x22 =>
  nm (x21 + 1) fun x24 =>
  some (.inl (x22, x24))))
def B_X12_next_62 (i0 : Nat) (a1 : Int32) (x4 : Int32) (x7 : Int32) (x8 : Int32) (x9 : Int32) (h : HP) (q : Int32 × Int32) : Option ((Int32 × Int32) ⊕ (Int32)) :=
  u2 q fun x18 x19 =>
  (if (gi h 12 i0 8) ≤ x19 then
  some (.inr x18)
  else
  (loopN LF (B_X12_next_77 i0 a1 x4 x7 x8 x9 x18 x19 h) (0, 0)).bind fun x43 =>
  (if ((x4 >>> (x19 &&& 31)) &&& 1) = 1 then
  (if x43 ≤ x18 then
  nm (x19 + 1) fun x46 =>
  some (.inl (x18, x46))
  else
  nm (x19 + 1) fun x48 =>
  some (.inl (x43, x48)))
  else
  nm (x19 + 1) fun x44 =>
  some (.inl (x18, x44))))
def B_X12_next_35 (i0 : Nat) (a1 : Int32) (x4 : Int32) (h : HP) (q : Int32 × Int32 × Int32) : Option ((Int32 × Int32 × Int32) ⊕ (Int32)) :=
  u3 q fun x7 x8 x9 =>
  (if 5 ≤ x9 then
  some (.inr x7)
  else
  (gr h 12 i0 29).bind fun o10 =>
  (ga h 66 o10 40 ((5 * a1) + x9)).bind fun x13 =>
  (if x13 = (-1) then
  (loopN LF (B_X12_next_62 i0 a1 x4 x7 x8 x9 h) (0, 0)).bind fun x55 =>
  (if x7 = (-1) then
  nm (x9 + 1) fun x56 =>
  some (.inl (x9, x55, x56))
  else
  (if x8 ≤ x55 then
  nm (x9 + 1) fun x58 =>
  some (.inl (x7, x8, x58))
  else
  nm (x9 + 1) fun x60 =>
  some (.inl (x9, x55, x60))))
  else
  nm (x9 + 1) fun x16 =>
  some (.inl (x7, x8, x16))))
def F_X12_next (i0 : Nat) (a1 : Int32) (h : HP) : Option (Int32) :=
  (F_X12_isUnnamed i0 a1 h).bind fun x2 =>
  (if x2 = 0 then
  some (-2)
  else
  (F_X12_couldOf i0 a1 h).bind fun x4 =>
  (F_X12_ones x4).bind fun x6 =>
  (if 2 ≤ x6 then
  (loopN LF (B_X12_next_35 i0 a1 x4 h) ((-1), 0, 0)).bind fun x68 =>
  some x68
  else
  some (-1)))
set_option maxHeartbeats 4000000 in
set_option maxRecDepth 100000 in
theorem ok_X12_next {l : Launch} {D : va_G} {cA : Nat → ClassId} {h : HP} {r : Int32}  (i0 : Nat) (a1 : Int32) (al_0 : i0 < gn h 12) (hF : F_X12_next i0 a1 h = some r) : MI l D cA yX12_next cX12_next 10 (some .int) 4 94 (fun φ => [.ref (φ 12 i0), .int a1]) h r h := by
  refine mk_I (plainFor_of_name (by decide)) (fun φ => Nat.le_of_ble_eq_true rfl) ?_
  intro p e s m args below meth c ls φ A Q X hW hS hl hfin
  have hx := X.1
  have hb := X.2.1
  have hl : lv_has ls 10 [(0, .ref (φ 12 i0)), (1, .int a1)] := hl
  unfold F_X12_next at hF
  refine lv_aload_n hx hb dX12_next_0 rfl (lv_at hl 0 rfl) ?_
  refine lv_iload_n hx hb dX12_next_1 rfl (lv_at hl 1 rfl) ?_
  obtain ⟨x2, e1, hF⟩ := bn hF
  refine rc_i (Af := fun φ => [.ref (φ 12 i0), .int a1]) X hW hS ⟨Nat.zero_le _, Nat.zero_le _⟩ (rn_V (As := [.int a1]) (rest := []) X hW hS cw_12_266 al_0 rfl rfl rfl ⟨Nat.le_of_ble_eq_true rfl, Nat.le_of_ble_eq_true rfl⟩ rfl hl.1 rfl (Nat.le_of_ble_eq_true rfl) dX12_next_2) (ok_X12_isUnnamed i0 a1 al_0 e1) (fun H locs hW hS => ?_)
  refine lv_if_ne (tgt := 11) hx hb dX12_next_5 (by decide) (fun c70 => ?_) (fun c70 => ?_)
  · have hF := ie c70 hF
    refine lv_aload_n hx hb dX12_next_11 rfl (lv_at hl 0 rfl) ?_
    refine lv_iload_n hx hb dX12_next_12 rfl (lv_at hl 1 rfl) ?_
    obtain ⟨x4, e3, hF⟩ := bn hF
    refine rc_i (Af := fun φ => [.ref (φ 12 i0), .int a1]) X hW hS ⟨Nat.zero_le _, Nat.zero_le _⟩ (rn_V (As := [.int a1]) (rest := []) X hW hS cw_12_269 al_0 rfl rfl rfl ⟨Nat.le_of_ble_eq_true rfl, Nat.le_of_ble_eq_true rfl⟩ rfl hl.1 rfl (Nat.le_of_ble_eq_true rfl) dX12_next_13) (ok_X12_couldOf i0 a1 al_0 e3) (fun H locs hW hS => ?_)
    refine lv_istore_n (lv' := [(2, .int x4), (0, .ref (φ 12 i0)), (1, .int a1)]) hx hb dX12_next_16 rfl hl (by decide) rfl (fun ls hl => ?_)
    refine lv_iload_n hx hb dX12_next_17 rfl (lv_at hl 0 rfl) ?_
    obtain ⟨x6, e5, hF⟩ := bn hF
    refine rc_i (Af := fun φ => [.int x4]) X hW hS ⟨Nat.zero_le _, Nat.zero_le _⟩ (rn_S (As := [.int x4]) (rest := []) X hW hS cw_12_272 ⟨Nat.le_of_ble_eq_true rfl, Nat.le_of_ble_eq_true rfl⟩ rfl hl.1 rfl (Nat.le_of_ble_eq_true rfl) dX12_next_18) (ok_X12_ones x4 e5) (fun H locs hW hS => ?_)
    refine lv_iconst (v := 2) hx hb dX12_next_21 (by decide) ?_
    refine lv_icmp_ge (tgt := 27) hx hb dX12_next_22 (by decide) (fun c69 => ?_) (fun c69 => ?_)
    · have hF := it c69 hF
      refine lv_iconst (v := (-1)) hx hb dX12_next_27 (by decide) ?_
      refine lv_istore_n (lv' := [(3, .int (-1)), (2, .int x4), (0, .ref (φ 12 i0)), (1, .int a1)]) hx hb dX12_next_28 rfl hl (by decide) rfl (fun ls hl => ?_)
      refine lv_iconst (v := 0) hx hb dX12_next_29 (by decide) ?_
      refine lv_istore (lv' := [(4, .int 0), (3, .int (-1)), (2, .int x4), (0, .ref (φ 12 i0)), (1, .int a1)]) hx hb dX12_next_30 hl (by decide) rfl (fun ls hl => ?_)
      refine lv_iconst (v := 0) hx hb dX12_next_32 (by decide) ?_
      refine lv_istore (lv' := [(5, .int 0), (4, .int 0), (3, .int (-1)), (2, .int x4), (0, .ref (φ 12 i0)), (1, .int a1)]) hx hb dX12_next_33 hl (by decide) rfl (fun ls hl => ?_)
      obtain ⟨q66, e67, hF⟩ := bn hF
      refine loop_w (f := B_X12_next_35 i0 a1 x4 h) (Z := fun q => ∀ (H : Heap) (locs : List Loc) (ls : Array Slot), HW D cA A φ h H → va_S A s.heap H locs → lv_has ls 10 [(0, .ref (φ 12 i0)), (1, .int a1), (2, .int x4), (3, .int (q.1)), (4, .int (q.2.1)), (5, .int (q.2.2))] → W p l e (rmo 4 94 0 0) s m args below meth c H locs 0 0 Q (F0 m 35 ls [])) (K := fun q => ∀ (H : Heap) (locs : List Loc) (ls : Array Slot), HW D cA A φ h H → va_S A s.heap H locs → lv_has ls 10 [(3, .int q)] → W p l e (rmo 4 94 0 0) s m args below meth c H locs 0 0 Q (F0 m 190 ls [])) ?_ LF _ q66 e67 ?_ _ _ _ hW hS (lv_sub hl [4, 5, 3, 2, 1, 0] rfl)
      · intro q v hF hK H locs ls hW hS hl
        obtain ⟨x7, x8, x9⟩ := q
        unfold B_X12_next_35 at hF
        have hF := u3d hF
        have hl : lv_has ls 10 [(0, .ref (φ 12 i0)), (1, .int a1), (2, .int x4), (3, .int x7), (4, .int x8), (5, .int x9)] := hl
        refine lv_iload hx hb dX12_next_35 (lv_at hl 5 rfl) ?_
        refine lv_iconst (v := 5) hx hb dX12_next_37 (by decide) ?_
        refine lv_icmp_ge (tgt := 190) hx hb dX12_next_38 (by decide) (fun c65 => ?_) (fun c65 => ?_)
        · have hF := it c65 hF
          obtain rfl := sj hF
          exact hK _ _ _ hW hS (lv_sub hl [3] rfl)
        · have hF := ie c65 hF
          refine lv_aload_n hx hb dX12_next_41 rfl (lv_at hl 0 rfl) ?_
          obtain ⟨o10, e11, hF⟩ := bn hF
          refine r_getr X hW al_0 fl_12_73 e11 dX12_next_42 (fun al12 => ?_)
          refine lv_iconst (v := 5) hx hb dX12_next_45 (by decide) ?_
          refine lv_iload_n hx hb dX12_next_46 rfl (lv_at hl 1 rfl) ?_
          refine lv_imul hx hb dX12_next_47 ?_
          refine lv_iload hx hb dX12_next_48 (lv_at hl 5 rfl) ?_
          refine lv_iadd hx hb dX12_next_50 ?_
          obtain ⟨x13, e14, hF⟩ := bn hF
          obtain ⟨b15, e14⟩ := ga_s e14
          refine r_iald X hW al12 rfl b15 dX12_next_51 ?_
          refine nmi e14 ?_
          refine lv_iconst (v := (-1)) hx hb dX12_next_52 (by decide) ?_
          refine lv_icmp_ne (tgt := 184) hx hb dX12_next_53 (by decide) (fun c64 => ?_) (fun c64 => ?_)
          · have hF := ie c64 hF
            obtain ⟨x16, e17, hF⟩ := nmx hF
            refine lv_iinc (v := x16) (lv' := [(5, .int x16), (0, .ref (φ 12 i0)), (1, .int a1), (2, .int x4), (3, .int x7), (4, .int x8)]) hx hb dX12_next_184 hl (k := 5) rfl (by rw [e17]; rfl) (by decide) rfl (fun ls hl => ?_)
            refine lv_goto (tgt := 35) hx hb dX12_next_187 (by decide) ?_
            obtain rfl := sj hF
            exact hK _ _ _ hW hS (lv_sub hl [1, 2, 3, 4, 5, 0] rfl)
          · have hF := it c64 hF
            refine lv_iconst (v := 0) hx hb dX12_next_56 (by decide) ?_
            refine lv_istore (lv' := [(6, .int 0), (0, .ref (φ 12 i0)), (1, .int a1), (2, .int x4), (3, .int x7), (4, .int x8), (5, .int x9)]) hx hb dX12_next_57 hl (by decide) rfl (fun ls hl => ?_)
            refine lv_iconst (v := 0) hx hb dX12_next_59 (by decide) ?_
            refine lv_istore (lv' := [(7, .int 0), (6, .int 0), (0, .ref (φ 12 i0)), (1, .int a1), (2, .int x4), (3, .int x7), (4, .int x8), (5, .int x9)]) hx hb dX12_next_60 hl (by decide) rfl (fun ls hl => ?_)
            obtain ⟨q53, e54, hF⟩ := bn hF
            refine loop_w (f := B_X12_next_62 i0 a1 x4 x7 x8 x9 h) (Z := fun q => ∀ (H : Heap) (locs : List Loc) (ls : Array Slot), HW D cA A φ h H → va_S A s.heap H locs → lv_has ls 10 [(0, .ref (φ 12 i0)), (1, .int a1), (2, .int x4), (3, .int x7), (4, .int x8), (5, .int x9), (6, .int (q.1)), (7, .int (q.2))] → W p l e (rmo 4 94 0 0) s m args below meth c H locs 0 0 Q (F0 m 62 ls [])) (K := fun q => ∀ (H : Heap) (locs : List Loc) (ls : Array Slot), HW D cA A φ h H → va_S A s.heap H locs → lv_has ls 10 [(0, .ref (φ 12 i0)), (1, .int a1), (2, .int x4), (3, .int x7), (4, .int x8), (5, .int x9), (6, .int q)] → W p l e (rmo 4 94 0 0) s m args below meth c H locs 0 0 Q (F0 m 165 ls [])) ?_ LF _ q53 e54 ?_ _ _ _ hW hS (lv_sub hl [2, 3, 4, 5, 6, 7, 1, 0] rfl)
            · intro q v hF hK H locs ls hW hS hl
              obtain ⟨x18, x19⟩ := q
              unfold B_X12_next_62 at hF
              have hF := u2d hF
              have hl : lv_has ls 10 [(0, .ref (φ 12 i0)), (1, .int a1), (2, .int x4), (3, .int x7), (4, .int x8), (5, .int x9), (6, .int x18), (7, .int x19)] := hl
              refine lv_iload hx hb dX12_next_62 (lv_at hl 7 rfl) ?_
              refine lv_aload_n hx hb dX12_next_64 rfl (lv_at hl 0 rfl) ?_
              refine r_geti X hW al_0 fl_12_167 dX12_next_65 ?_
              refine lv_icmp_ge (tgt := 165) hx hb dX12_next_68 (by decide) (fun c52 => ?_) (fun c52 => ?_)
              · have hF := it c52 hF
                obtain rfl := sj hF
                exact hK _ _ _ hW hS (lv_sub hl [0, 1, 2, 3, 4, 5, 6] rfl)
              · have hF := ie c52 hF
                refine lv_iconst (v := 0) hx hb dX12_next_71 (by decide) ?_
                refine lv_istore (lv' := [(8, .int 0), (0, .ref (φ 12 i0)), (1, .int a1), (2, .int x4), (3, .int x7), (4, .int x8), (5, .int x9), (6, .int x18), (7, .int x19)]) hx hb dX12_next_72 hl (by decide) rfl (fun ls hl => ?_)
                refine lv_iconst (v := 0) hx hb dX12_next_74 (by decide) ?_
                refine lv_istore (lv' := [(9, .int 0), (8, .int 0), (0, .ref (φ 12 i0)), (1, .int a1), (2, .int x4), (3, .int x7), (4, .int x8), (5, .int x9), (6, .int x18), (7, .int x19)]) hx hb dX12_next_75 hl (by decide) rfl (fun ls hl => ?_)
                obtain ⟨q41, e42, hF⟩ := bn hF
                refine loop_w (f := B_X12_next_77 i0 a1 x4 x7 x8 x9 x18 x19 h) (Z := fun q => ∀ (H : Heap) (locs : List Loc) (ls : Array Slot), HW D cA A φ h H → va_S A s.heap H locs → lv_has ls 10 [(0, .ref (φ 12 i0)), (1, .int a1), (2, .int x4), (3, .int x7), (4, .int x8), (5, .int x9), (6, .int x18), (7, .int x19), (8, .int (q.1)), (9, .int (q.2))] → W p l e (rmo 4 94 0 0) s m args below meth c H locs 0 0 Q (F0 m 77 ls [])) (K := fun q => ∀ (H : Heap) (locs : List Loc) (ls : Array Slot), HW D cA A φ h H → va_S A s.heap H locs → lv_has ls 10 [(0, .ref (φ 12 i0)), (1, .int a1), (2, .int x4), (3, .int x7), (4, .int x8), (5, .int x9), (6, .int x18), (7, .int x19), (8, .int q)] → W p l e (rmo 4 94 0 0) s m args below meth c H locs 0 0 Q (F0 m 133 ls [])) ?_ LF _ q41 e42 ?_ _ _ _ hW hS (lv_sub hl [2, 3, 4, 5, 6, 7, 8, 9, 1, 0] rfl)
                · intro q v hF hK H locs ls hW hS hl
                  obtain ⟨x20, x21⟩ := q
                  unfold B_X12_next_77 at hF
                  have hF := u2d hF
                  have hl : lv_has ls 10 [(0, .ref (φ 12 i0)), (1, .int a1), (2, .int x4), (3, .int x7), (4, .int x8), (5, .int x9), (6, .int x18), (7, .int x19), (8, .int x20), (9, .int x21)] := hl
                  refine lv_iload hx hb dX12_next_77 (lv_at hl 9 rfl) ?_
                  refine lv_aload_n hx hb dX12_next_79 rfl (lv_at hl 0 rfl) ?_
                  refine r_geti X hW al_0 fl_12_167 dX12_next_80 ?_
                  refine lv_icmp_ge (tgt := 133) hx hb dX12_next_83 (by decide) (fun c40 => ?_) (fun c40 => ?_)
                  · have hF := it c40 hF
                    obtain rfl := sj hF
                    exact hK _ _ _ hW hS (lv_sub hl [0, 1, 2, 3, 4, 5, 6, 7, 8] rfl)
                  · have hF := ie c40 hF
                    refine lv_iload hx hb dX12_next_86 (lv_at hl 8 rfl) ?_
                    refine lv_iload_n hx hb dX12_next_88 rfl (lv_at hl 2 rfl) ?_
                    refine lv_iload hx hb dX12_next_89 (lv_at hl 9 rfl) ?_
                    refine lv_ishr hx hb dX12_next_91 ?_
                    refine lv_iconst (v := 1) hx hb dX12_next_92 (by decide) ?_
                    refine lv_iand hx hb dX12_next_93 ?_
                    refine lv_iconst (v := 1) hx hb dX12_next_94 (by decide) ?_
                    refine lv_icmp_ne (tgt := 123) hx hb dX12_next_95 (by decide) (fun c39 => ?_) (fun c39 => ?_)
                    · have hF := ie c39 hF
                      refine lv_iconst (v := 0) hx hb dX12_next_123 (by decide) ?_
                      refine lv_iadd hx hb dX12_next_124 ?_
                      obtain ⟨x22, e23, hF⟩ := nmx hF
                      refine nmi e23 ?_
                      refine lv_istore (lv' := [(8, .int x22), (0, .ref (φ 12 i0)), (1, .int a1), (2, .int x4), (3, .int x7), (4, .int x8), (5, .int x9), (6, .int x18), (7, .int x19), (9, .int x21)]) hx hb dX12_next_125 hl (by decide) rfl (fun ls hl => ?_)
                      obtain ⟨x24, e25, hF⟩ := nmx hF
                      refine lv_iinc (v := x24) (lv' := [(9, .int x24), (8, .int x22), (0, .ref (φ 12 i0)), (1, .int a1), (2, .int x4), (3, .int x7), (4, .int x8), (5, .int x9), (6, .int x18), (7, .int x19)]) hx hb dX12_next_127 hl (k := 9) rfl (by rw [e25]; rfl) (by decide) rfl (fun ls hl => ?_)
                      refine lv_goto (tgt := 77) hx hb dX12_next_130 (by decide) ?_
                      obtain rfl := sj hF
                      exact hK _ _ _ hW hS (lv_sub hl [2, 3, 4, 5, 6, 7, 8, 9, 1, 0] rfl)
                    · have hF := it c39 hF
                      refine lv_aload_n hx hb dX12_next_98 rfl (lv_at hl 0 rfl) ?_
                      refine lv_iload_n hx hb dX12_next_99 rfl (lv_at hl 1 rfl) ?_
                      refine lv_iload hx hb dX12_next_100 (lv_at hl 7 rfl) ?_
                      refine lv_iload hx hb dX12_next_102 (lv_at hl 5 rfl) ?_
                      obtain ⟨x27, e26, hF⟩ := bn hF
                      refine rc_i (Af := fun φ => [.ref (φ 12 i0), .int a1, .int x19, .int x9]) X hW hS ⟨Nat.zero_le _, Nat.zero_le _⟩ (rn_V (As := [.int a1, .int x19, .int x9]) (rest := [.int x20]) X hW hS cw_12_275 al_0 rfl rfl rfl ⟨Nat.le_of_ble_eq_true rfl, Nat.le_of_ble_eq_true rfl⟩ rfl hl.1 rfl (Nat.le_of_ble_eq_true rfl) dX12_next_104) (ok_X12_partOfTone i0 a1 x19 x9 al_0 e26) (fun H locs hW hS => ?_)
                      refine lv_aload_n hx hb dX12_next_107 rfl (lv_at hl 0 rfl) ?_
                      refine lv_iload_n hx hb dX12_next_108 rfl (lv_at hl 1 rfl) ?_
                      refine lv_iload hx hb dX12_next_109 (lv_at hl 9 rfl) ?_
                      refine lv_iload hx hb dX12_next_111 (lv_at hl 5 rfl) ?_
                      obtain ⟨x29, e28, hF⟩ := bn hF
                      refine rc_i (Af := fun φ => [.ref (φ 12 i0), .int a1, .int x21, .int x9]) X hW hS ⟨Nat.zero_le _, Nat.zero_le _⟩ (rn_V (As := [.int a1, .int x21, .int x9]) (rest := [.int x27, .int x20]) X hW hS cw_12_275 al_0 rfl rfl rfl ⟨Nat.le_of_ble_eq_true rfl, Nat.le_of_ble_eq_true rfl⟩ rfl hl.1 rfl (Nat.le_of_ble_eq_true rfl) dX12_next_113) (ok_X12_partOfTone i0 a1 x21 x9 al_0 e28) (fun H locs hW hS => ?_)
                      refine lv_icmp_ne (tgt := 123) hx hb dX12_next_116 (by decide) (fun c38 => ?_) (fun c38 => ?_)
                      · have hF := ie c38 hF
                        refine lv_iconst (v := 0) hx hb dX12_next_123 (by decide) ?_
                        refine lv_iadd hx hb dX12_next_124 ?_
                        obtain ⟨x30, e31, hF⟩ := nmx hF
                        refine nmi e31 ?_
                        refine lv_istore (lv' := [(8, .int x30), (0, .ref (φ 12 i0)), (1, .int a1), (2, .int x4), (3, .int x7), (4, .int x8), (5, .int x9), (6, .int x18), (7, .int x19), (9, .int x21)]) hx hb dX12_next_125 hl (by decide) rfl (fun ls hl => ?_)
                        obtain ⟨x32, e33, hF⟩ := nmx hF
                        refine lv_iinc (v := x32) (lv' := [(9, .int x32), (8, .int x30), (0, .ref (φ 12 i0)), (1, .int a1), (2, .int x4), (3, .int x7), (4, .int x8), (5, .int x9), (6, .int x18), (7, .int x19)]) hx hb dX12_next_127 hl (k := 9) rfl (by rw [e33]; rfl) (by decide) rfl (fun ls hl => ?_)
                        refine lv_goto (tgt := 77) hx hb dX12_next_130 (by decide) ?_
                        obtain rfl := sj hF
                        exact hK _ _ _ hW hS (lv_sub hl [2, 3, 4, 5, 6, 7, 8, 9, 1, 0] rfl)
                      · have hF := it c38 hF
                        refine lv_iconst (v := 1) hx hb dX12_next_119 (by decide) ?_
                        refine lv_goto (tgt := 124) hx hb dX12_next_120 (by decide) ?_
                        refine lv_iadd hx hb dX12_next_124 ?_
                        obtain ⟨x34, e35, hF⟩ := nmx hF
                        refine nmi e35 ?_
                        refine lv_istore (lv' := [(8, .int x34), (0, .ref (φ 12 i0)), (1, .int a1), (2, .int x4), (3, .int x7), (4, .int x8), (5, .int x9), (6, .int x18), (7, .int x19), (9, .int x21)]) hx hb dX12_next_125 hl (by decide) rfl (fun ls hl => ?_)
                        obtain ⟨x36, e37, hF⟩ := nmx hF
                        refine lv_iinc (v := x36) (lv' := [(9, .int x36), (8, .int x34), (0, .ref (φ 12 i0)), (1, .int a1), (2, .int x4), (3, .int x7), (4, .int x8), (5, .int x9), (6, .int x18), (7, .int x19)]) hx hb dX12_next_127 hl (k := 9) rfl (by rw [e37]; rfl) (by decide) rfl (fun ls hl => ?_)
                        refine lv_goto (tgt := 77) hx hb dX12_next_130 (by decide) ?_
                        obtain rfl := sj hF
                        exact hK _ _ _ hW hS (lv_sub hl [2, 3, 4, 5, 6, 7, 8, 9, 1, 0] rfl)
                · intro H locs ls hW hS hl
                  obtain ⟨x43, rfl⟩ : ∃ z, z = q41 := ⟨_, rfl⟩
                  have hl : lv_has ls 10 [(0, .ref (φ 12 i0)), (1, .int a1), (2, .int x4), (3, .int x7), (4, .int x8), (5, .int x9), (6, .int x18), (7, .int x19), (8, .int x43)] := hl
                  refine lv_iload_n hx hb dX12_next_133 rfl (lv_at hl 2 rfl) ?_
                  refine lv_iload hx hb dX12_next_134 (lv_at hl 7 rfl) ?_
                  refine lv_ishr hx hb dX12_next_136 ?_
                  refine lv_iconst (v := 1) hx hb dX12_next_137 (by decide) ?_
                  refine lv_iand hx hb dX12_next_138 ?_
                  refine lv_iconst (v := 1) hx hb dX12_next_139 (by decide) ?_
                  refine lv_icmp_ne (tgt := 155) hx hb dX12_next_140 (by decide) (fun c51 => ?_) (fun c51 => ?_)
                  · have hF := ie c51 hF
                    refine lv_iload hx hb dX12_next_155 (lv_at hl 6 rfl) ?_
                    refine lv_istore (lv' := [(6, .int x18), (0, .ref (φ 12 i0)), (1, .int a1), (2, .int x4), (3, .int x7), (4, .int x8), (5, .int x9), (7, .int x19), (8, .int x43)]) hx hb dX12_next_157 hl (by decide) rfl (fun ls hl => ?_)
                    obtain ⟨x44, e45, hF⟩ := nmx hF
                    refine lv_iinc (v := x44) (lv' := [(7, .int x44), (6, .int x18), (0, .ref (φ 12 i0)), (1, .int a1), (2, .int x4), (3, .int x7), (4, .int x8), (5, .int x9), (8, .int x43)]) hx hb dX12_next_159 hl (k := 7) rfl (by rw [e45]; rfl) (by decide) rfl (fun ls hl => ?_)
                    refine lv_goto (tgt := 62) hx hb dX12_next_162 (by decide) ?_
                    obtain rfl := sj hF
                    exact hK _ _ _ hW hS (lv_sub hl [2, 3, 4, 5, 6, 7, 1, 0] rfl)
                  · have hF := it c51 hF
                    refine lv_iload hx hb dX12_next_143 (lv_at hl 8 rfl) ?_
                    refine lv_iload hx hb dX12_next_145 (lv_at hl 6 rfl) ?_
                    refine lv_icmp_le (tgt := 155) hx hb dX12_next_147 (by decide) (fun c50 => ?_) (fun c50 => ?_)
                    · have hF := it c50 hF
                      refine lv_iload hx hb dX12_next_155 (lv_at hl 6 rfl) ?_
                      refine lv_istore (lv' := [(6, .int x18), (0, .ref (φ 12 i0)), (1, .int a1), (2, .int x4), (3, .int x7), (4, .int x8), (5, .int x9), (7, .int x19), (8, .int x43)]) hx hb dX12_next_157 hl (by decide) rfl (fun ls hl => ?_)
                      obtain ⟨x46, e47, hF⟩ := nmx hF
                      refine lv_iinc (v := x46) (lv' := [(7, .int x46), (6, .int x18), (0, .ref (φ 12 i0)), (1, .int a1), (2, .int x4), (3, .int x7), (4, .int x8), (5, .int x9), (8, .int x43)]) hx hb dX12_next_159 hl (k := 7) rfl (by rw [e47]; rfl) (by decide) rfl (fun ls hl => ?_)
                      refine lv_goto (tgt := 62) hx hb dX12_next_162 (by decide) ?_
                      obtain rfl := sj hF
                      exact hK _ _ _ hW hS (lv_sub hl [2, 3, 4, 5, 6, 7, 1, 0] rfl)
                    · have hF := ie c50 hF
                      refine lv_iload hx hb dX12_next_150 (lv_at hl 8 rfl) ?_
                      refine lv_goto (tgt := 157) hx hb dX12_next_152 (by decide) ?_
                      refine lv_istore (lv' := [(6, .int x43), (0, .ref (φ 12 i0)), (1, .int a1), (2, .int x4), (3, .int x7), (4, .int x8), (5, .int x9), (7, .int x19), (8, .int x43)]) hx hb dX12_next_157 hl (by decide) rfl (fun ls hl => ?_)
                      obtain ⟨x48, e49, hF⟩ := nmx hF
                      refine lv_iinc (v := x48) (lv' := [(7, .int x48), (6, .int x43), (0, .ref (φ 12 i0)), (1, .int a1), (2, .int x4), (3, .int x7), (4, .int x8), (5, .int x9), (8, .int x43)]) hx hb dX12_next_159 hl (k := 7) rfl (by rw [e49]; rfl) (by decide) rfl (fun ls hl => ?_)
                      refine lv_goto (tgt := 62) hx hb dX12_next_162 (by decide) ?_
                      obtain rfl := sj hF
                      exact hK _ _ _ hW hS (lv_sub hl [2, 3, 4, 5, 6, 7, 1, 0] rfl)
            · intro H locs ls hW hS hl
              obtain ⟨x55, rfl⟩ : ∃ z, z = q53 := ⟨_, rfl⟩
              have hl : lv_has ls 10 [(0, .ref (φ 12 i0)), (1, .int a1), (2, .int x4), (3, .int x7), (4, .int x8), (5, .int x9), (6, .int x55)] := hl
              refine lv_iload_n hx hb dX12_next_165 rfl (lv_at hl 3 rfl) ?_
              refine lv_iconst (v := (-1)) hx hb dX12_next_166 (by decide) ?_
              refine lv_icmp_eq (tgt := 177) hx hb dX12_next_167 (by decide) (fun c63 => ?_) (fun c63 => ?_)
              · have hF := it c63 hF
                refine lv_iload hx hb dX12_next_177 (lv_at hl 5 rfl) ?_
                refine lv_istore_n (lv' := [(3, .int x9), (0, .ref (φ 12 i0)), (1, .int a1), (2, .int x4), (4, .int x8), (5, .int x9), (6, .int x55)]) hx hb dX12_next_179 rfl hl (by decide) rfl (fun ls hl => ?_)
                refine lv_iload hx hb dX12_next_180 (lv_at hl 6 rfl) ?_
                refine lv_istore (lv' := [(4, .int x55), (3, .int x9), (0, .ref (φ 12 i0)), (1, .int a1), (2, .int x4), (5, .int x9), (6, .int x55)]) hx hb dX12_next_182 hl (by decide) rfl (fun ls hl => ?_)
                obtain ⟨x56, e57, hF⟩ := nmx hF
                refine lv_iinc (v := x56) (lv' := [(5, .int x56), (4, .int x55), (3, .int x9), (0, .ref (φ 12 i0)), (1, .int a1), (2, .int x4), (6, .int x55)]) hx hb dX12_next_184 hl (k := 5) rfl (by rw [e57]; rfl) (by decide) rfl (fun ls hl => ?_)
                refine lv_goto (tgt := 35) hx hb dX12_next_187 (by decide) ?_
                obtain rfl := sj hF
                exact hK _ _ _ hW hS (lv_sub hl [3, 4, 5, 2, 1, 0] rfl)
              · have hF := ie c63 hF
                refine lv_iload hx hb dX12_next_170 (lv_at hl 6 rfl) ?_
                refine lv_iload hx hb dX12_next_172 (lv_at hl 4 rfl) ?_
                refine lv_icmp_ge (tgt := 184) hx hb dX12_next_174 (by decide) (fun c62 => ?_) (fun c62 => ?_)
                · have hF := it c62 hF
                  obtain ⟨x58, e59, hF⟩ := nmx hF
                  refine lv_iinc (v := x58) (lv' := [(5, .int x58), (0, .ref (φ 12 i0)), (1, .int a1), (2, .int x4), (3, .int x7), (4, .int x8), (6, .int x55)]) hx hb dX12_next_184 hl (k := 5) rfl (by rw [e59]; rfl) (by decide) rfl (fun ls hl => ?_)
                  refine lv_goto (tgt := 35) hx hb dX12_next_187 (by decide) ?_
                  obtain rfl := sj hF
                  exact hK _ _ _ hW hS (lv_sub hl [1, 2, 3, 4, 5, 0] rfl)
                · have hF := ie c62 hF
                  refine lv_iload hx hb dX12_next_177 (lv_at hl 5 rfl) ?_
                  refine lv_istore_n (lv' := [(3, .int x9), (0, .ref (φ 12 i0)), (1, .int a1), (2, .int x4), (4, .int x8), (5, .int x9), (6, .int x55)]) hx hb dX12_next_179 rfl hl (by decide) rfl (fun ls hl => ?_)
                  refine lv_iload hx hb dX12_next_180 (lv_at hl 6 rfl) ?_
                  refine lv_istore (lv' := [(4, .int x55), (3, .int x9), (0, .ref (φ 12 i0)), (1, .int a1), (2, .int x4), (5, .int x9), (6, .int x55)]) hx hb dX12_next_182 hl (by decide) rfl (fun ls hl => ?_)
                  obtain ⟨x60, e61, hF⟩ := nmx hF
                  refine lv_iinc (v := x60) (lv' := [(5, .int x60), (4, .int x55), (3, .int x9), (0, .ref (φ 12 i0)), (1, .int a1), (2, .int x4), (6, .int x55)]) hx hb dX12_next_184 hl (k := 5) rfl (by rw [e61]; rfl) (by decide) rfl (fun ls hl => ?_)
                  refine lv_goto (tgt := 35) hx hb dX12_next_187 (by decide) ?_
                  obtain rfl := sj hF
                  exact hK _ _ _ hW hS (lv_sub hl [3, 4, 5, 2, 1, 0] rfl)
      · intro H locs ls hW hS hl
        obtain ⟨x68, rfl⟩ : ∃ z, z = q66 := ⟨_, rfl⟩
        have hl : lv_has ls 10 [(3, .int x68)] := hl
        refine lv_iload_n hx hb dX12_next_190 rfl (lv_at hl 0 rfl) ?_
        obtain rfl := sj hF
        exact hfin _ _ _ _ hW hS dX12_next_191
    · have hF := ie c69 hF
      refine lv_iconst (v := (-1)) hx hb dX12_next_25 (by decide) ?_
      obtain rfl := sj hF
      exact hfin _ _ _ _ hW hS dX12_next_26
  · have hF := it c70 hF
    refine lv_bipush (v := (-2)) hx hb dX12_next_8 (by decide) ?_
    obtain rfl := sj hF
    exact hfin _ _ _ _ hW hS dX12_next_10
def B_X12_differences_5 (i0 : Nat) (a1 : Int32) (a2 : Int32) (h : HP) (q : Int32 × Int32) : Option ((Int32 × Int32) ⊕ (Int32)) :=
  u2 q fun x1 x2 =>
  (if 5 ≤ x2 then
  some (.inr x1)
  else
  (gr h 12 i0 29).bind fun o3 =>
  (ga h 66 o3 40 ((5 * a1) + x2)).bind fun x6 =>
  (gr h 12 i0 13).bind fun o9 =>
  (ga h 54 o9 100 ((5 * a2) + x2)).bind fun x12 =>
  (if x6 = (-1) then
  nm ((x1 + 0)) fun x15 =>
  nm (x2 + 1) fun x17 =>
  some (.inl (x15, x17))
  else
  (if x12 = (-1) then
  nm ((x1 + 0)) fun x25 =>
  nm (x2 + 1) fun x27 =>
  some (.inl (x25, x27))
  else
  (F_X12_apart x6 x12).bind fun x20 =>
  nm ((x1 + x20)) fun x21 =>
  nm (x2 + 1) fun x23 =>
  some (.inl (x21, x23)))))
def F_X12_differences (i0 : Nat) (a1 : Int32) (a2 : Int32) (h : HP) : Option (Int32) :=
  (loopN LF (B_X12_differences_5 i0 a1 a2 h) (0, 0)).bind fun x34 =>
  some x34
set_option maxHeartbeats 4000000 in
set_option maxRecDepth 100000 in
theorem ok_X12_differences {l : Launch} {D : va_G} {cA : Nat → ClassId} {h : HP} {r : Int32}  (i0 : Nat) (a1 : Int32) (a2 : Int32) (al_0 : i0 < gn h 12) (hF : F_X12_differences i0 a1 a2 h = some r) : MI l D cA yX12_differences cX12_differences 7 (some .int) 1 21 (fun φ => [.ref (φ 12 i0), .int a1, .int a2]) h r h := by
  refine mk_I (plainFor_of_name (by decide)) (fun φ => Nat.le_of_ble_eq_true rfl) ?_
  intro p e s m args below meth c ls φ A Q X hW hS hl hfin
  have hx := X.1
  have hb := X.2.1
  have hl : lv_has ls 7 [(0, .ref (φ 12 i0)), (1, .int a1), (2, .int a2)] := hl
  unfold F_X12_differences at hF
  refine lv_iconst (v := 0) hx hb dX12_differences_0 (by decide) ?_
  refine lv_istore_n (lv' := [(3, .int 0), (0, .ref (φ 12 i0)), (1, .int a1), (2, .int a2)]) hx hb dX12_differences_1 rfl hl (by decide) rfl (fun ls hl => ?_)
  refine lv_iconst (v := 0) hx hb dX12_differences_2 (by decide) ?_
  refine lv_istore (lv' := [(4, .int 0), (3, .int 0), (0, .ref (φ 12 i0)), (1, .int a1), (2, .int a2)]) hx hb dX12_differences_3 hl (by decide) rfl (fun ls hl => ?_)
  obtain ⟨q32, e33, hF⟩ := bn hF
  refine loop_w (f := B_X12_differences_5 i0 a1 a2 h) (Z := fun q => ∀ (H : Heap) (locs : List Loc) (ls : Array Slot), HW D cA A φ h H → va_S A s.heap H locs → lv_has ls 7 [(0, .ref (φ 12 i0)), (1, .int a1), (2, .int a2), (3, .int (q.1)), (4, .int (q.2))] → W p l e (rmo 1 21 0 0) s m args below meth c H locs 0 0 Q (F0 m 5 ls [])) (K := fun q => ∀ (H : Heap) (locs : List Loc) (ls : Array Slot), HW D cA A φ h H → va_S A s.heap H locs → lv_has ls 7 [(3, .int q)] → W p l e (rmo 1 21 0 0) s m args below meth c H locs 0 0 Q (F0 m 69 ls [])) ?_ LF _ q32 e33 ?_ _ _ _ hW hS (lv_sub hl [2, 3, 4, 1, 0] rfl)
  · intro q v hF hK H locs ls hW hS hl
    obtain ⟨x1, x2⟩ := q
    unfold B_X12_differences_5 at hF
    have hF := u2d hF
    have hl : lv_has ls 7 [(0, .ref (φ 12 i0)), (1, .int a1), (2, .int a2), (3, .int x1), (4, .int x2)] := hl
    refine lv_iload hx hb dX12_differences_5 (lv_at hl 4 rfl) ?_
    refine lv_iconst (v := 5) hx hb dX12_differences_7 (by decide) ?_
    refine lv_icmp_ge (tgt := 69) hx hb dX12_differences_8 (by decide) (fun c31 => ?_) (fun c31 => ?_)
    · have hF := it c31 hF
      obtain rfl := sj hF
      exact hK _ _ _ hW hS (lv_sub hl [3] rfl)
    · have hF := ie c31 hF
      refine lv_aload_n hx hb dX12_differences_11 rfl (lv_at hl 0 rfl) ?_
      obtain ⟨o3, e4, hF⟩ := bn hF
      refine r_getr X hW al_0 fl_12_73 e4 dX12_differences_12 (fun al5 => ?_)
      refine lv_iconst (v := 5) hx hb dX12_differences_15 (by decide) ?_
      refine lv_iload_n hx hb dX12_differences_16 rfl (lv_at hl 1 rfl) ?_
      refine lv_imul hx hb dX12_differences_17 ?_
      refine lv_iload hx hb dX12_differences_18 (lv_at hl 4 rfl) ?_
      refine lv_iadd hx hb dX12_differences_20 ?_
      obtain ⟨x6, e7, hF⟩ := bn hF
      obtain ⟨b8, e7⟩ := ga_s e7
      refine r_iald X hW al5 rfl b8 dX12_differences_21 ?_
      refine nmi e7 ?_
      refine lv_istore (lv' := [(5, .int x6), (0, .ref (φ 12 i0)), (1, .int a1), (2, .int a2), (3, .int x1), (4, .int x2)]) hx hb dX12_differences_22 hl (by decide) rfl (fun ls hl => ?_)
      refine lv_aload_n hx hb dX12_differences_24 rfl (lv_at hl 1 rfl) ?_
      obtain ⟨o9, e10, hF⟩ := bn hF
      refine r_getr X hW al_0 fl_12_37 e10 dX12_differences_25 (fun al11 => ?_)
      refine lv_iconst (v := 5) hx hb dX12_differences_28 (by decide) ?_
      refine lv_iload_n hx hb dX12_differences_29 rfl (lv_at hl 3 rfl) ?_
      refine lv_imul hx hb dX12_differences_30 ?_
      refine lv_iload hx hb dX12_differences_31 (lv_at hl 5 rfl) ?_
      refine lv_iadd hx hb dX12_differences_33 ?_
      obtain ⟨x12, e13, hF⟩ := bn hF
      obtain ⟨b14, e13⟩ := ga_s e13
      refine r_iald X hW al11 rfl b14 dX12_differences_34 ?_
      refine nmi e13 ?_
      refine lv_istore (lv' := [(6, .int x12), (5, .int x6), (0, .ref (φ 12 i0)), (1, .int a1), (2, .int a2), (3, .int x1), (4, .int x2)]) hx hb dX12_differences_35 hl (by decide) rfl (fun ls hl => ?_)
      refine lv_iload_n hx hb dX12_differences_37 rfl (lv_at hl 5 rfl) ?_
      refine lv_iload hx hb dX12_differences_38 (lv_at hl 1 rfl) ?_
      refine lv_iconst (v := (-1)) hx hb dX12_differences_40 (by decide) ?_
      refine lv_icmp_eq (tgt := 50) hx hb dX12_differences_41 (by decide) (fun c30 => ?_) (fun c30 => ?_)
      · have hF := it c30 hF
        refine lv_iconst (v := 0) hx hb dX12_differences_50 (by decide) ?_
        refine lv_goto (tgt := 61) hx hb dX12_differences_51 (by decide) ?_
        refine lv_iadd hx hb dX12_differences_61 ?_
        obtain ⟨x15, e16, hF⟩ := nmx hF
        refine nmi e16 ?_
        refine lv_istore_n (lv' := [(3, .int x15), (6, .int x12), (5, .int x6), (0, .ref (φ 12 i0)), (1, .int a1), (2, .int a2), (4, .int x2)]) hx hb dX12_differences_62 rfl hl (by decide) rfl (fun ls hl => ?_)
        obtain ⟨x17, e18, hF⟩ := nmx hF
        refine lv_iinc (v := x17) (lv' := [(4, .int x17), (3, .int x15), (6, .int x12), (5, .int x6), (0, .ref (φ 12 i0)), (1, .int a1), (2, .int a2)]) hx hb dX12_differences_63 hl (k := 6) rfl (by rw [e18]; rfl) (by decide) rfl (fun ls hl => ?_)
        refine lv_goto (tgt := 5) hx hb dX12_differences_66 (by decide) ?_
        obtain rfl := sj hF
        exact hK _ _ _ hW hS (lv_sub hl [4, 5, 6, 1, 0] rfl)
      · have hF := ie c30 hF
        refine lv_iload hx hb dX12_differences_44 (lv_at hl 0 rfl) ?_
        refine lv_iconst (v := (-1)) hx hb dX12_differences_46 (by decide) ?_
        refine lv_icmp_ne (tgt := 54) hx hb dX12_differences_47 (by decide) (fun c29 => ?_) (fun c29 => ?_)
        · have hF := ie c29 hF
          refine lv_iload hx hb dX12_differences_54 (lv_at hl 1 rfl) ?_
          refine lv_iload hx hb dX12_differences_56 (lv_at hl 0 rfl) ?_
          obtain ⟨x20, e19, hF⟩ := bn hF
          refine rc_i (Af := fun φ => [.int x6, .int x12]) X hW hS ⟨Nat.zero_le _, Nat.zero_le _⟩ (rn_S (As := [.int x6, .int x12]) (rest := [.int x1]) X hW hS cw_12_260 ⟨Nat.le_of_ble_eq_true rfl, Nat.le_of_ble_eq_true rfl⟩ rfl hl.1 rfl (Nat.le_of_ble_eq_true rfl) dX12_differences_58) (ok_X12_apart x6 x12 e19) (fun H locs hW hS => ?_)
          refine lv_iadd hx hb dX12_differences_61 ?_
          obtain ⟨x21, e22, hF⟩ := nmx hF
          refine nmi e22 ?_
          refine lv_istore_n (lv' := [(3, .int x21), (6, .int x12), (5, .int x6), (0, .ref (φ 12 i0)), (1, .int a1), (2, .int a2), (4, .int x2)]) hx hb dX12_differences_62 rfl hl (by decide) rfl (fun ls hl => ?_)
          obtain ⟨x23, e24, hF⟩ := nmx hF
          refine lv_iinc (v := x23) (lv' := [(4, .int x23), (3, .int x21), (6, .int x12), (5, .int x6), (0, .ref (φ 12 i0)), (1, .int a1), (2, .int a2)]) hx hb dX12_differences_63 hl (k := 6) rfl (by rw [e24]; rfl) (by decide) rfl (fun ls hl => ?_)
          refine lv_goto (tgt := 5) hx hb dX12_differences_66 (by decide) ?_
          obtain rfl := sj hF
          exact hK _ _ _ hW hS (lv_sub hl [4, 5, 6, 1, 0] rfl)
        · have hF := it c29 hF
          refine lv_iconst (v := 0) hx hb dX12_differences_50 (by decide) ?_
          refine lv_goto (tgt := 61) hx hb dX12_differences_51 (by decide) ?_
          refine lv_iadd hx hb dX12_differences_61 ?_
          obtain ⟨x25, e26, hF⟩ := nmx hF
          refine nmi e26 ?_
          refine lv_istore_n (lv' := [(3, .int x25), (6, .int x12), (5, .int x6), (0, .ref (φ 12 i0)), (1, .int a1), (2, .int a2), (4, .int x2)]) hx hb dX12_differences_62 rfl hl (by decide) rfl (fun ls hl => ?_)
          obtain ⟨x27, e28, hF⟩ := nmx hF
          refine lv_iinc (v := x27) (lv' := [(4, .int x27), (3, .int x25), (6, .int x12), (5, .int x6), (0, .ref (φ 12 i0)), (1, .int a1), (2, .int a2)]) hx hb dX12_differences_63 hl (k := 6) rfl (by rw [e28]; rfl) (by decide) rfl (fun ls hl => ?_)
          refine lv_goto (tgt := 5) hx hb dX12_differences_66 (by decide) ?_
          obtain rfl := sj hF
          exact hK _ _ _ hW hS (lv_sub hl [4, 5, 6, 1, 0] rfl)
  · intro H locs ls hW hS hl
    obtain ⟨x34, rfl⟩ : ∃ z, z = q32 := ⟨_, rfl⟩
    have hl : lv_has ls 7 [(3, .int x34)] := hl
    refine lv_iload_n hx hb dX12_differences_69 rfl (lv_at hl 0 rfl) ?_
    obtain rfl := sj hF
    exact hfin _ _ _ _ hW hS dX12_differences_70
def B_X12_isFixed_4 (i0 : Nat) (a1 : Int32) (h : HP) (q : Int32 × Int32) : Option ((Int32 × Int32) ⊕ (Int32)) :=
  u2 q fun x1 x2 =>
  (if (gi h 12 i0 28) ≤ x2 then
  some (.inr x1)
  else
  (if x1 = 0 then
  (gr h 12 i0 34).bind fun o5 =>
  (ga h 71 o5 8 x2).bind fun x8 =>
  (if x8 = a1 then
  nm (x2 + 1) fun x13 =>
  some (.inl (1, x13))
  else
  nm (x2 + 1) fun x11 =>
  some (.inl (0, x11)))
  else
  nm (x2 + 1) fun x3 =>
  some (.inl (1, x3))))
def F_X12_isFixed (i0 : Nat) (a1 : Int32) (h : HP) : Option (Int32) :=
  (loopN LF (B_X12_isFixed_4 i0 a1 h) (0, 0)).bind fun x20 =>
  (bz x20).bind fun x21 => some x21
set_option maxHeartbeats 4000000 in
set_option maxRecDepth 100000 in
theorem ok_X12_isFixed {l : Launch} {D : va_G} {cA : Nat → ClassId} {h : HP} {r : Int32}  (i0 : Nat) (a1 : Int32) (al_0 : i0 < gn h 12) (hF : F_X12_isFixed i0 a1 h = some r) : MI l D cA yX12_isFixed cX12_isFixed 4 (some .boolean) 0 0 (fun φ => [.ref (φ 12 i0), .int a1]) h r h := by
  refine mk_Z (plainFor_of_name (by decide)) (fun φ => Nat.le_of_ble_eq_true rfl) ?_
  intro p e s m args below meth c ls φ A Q X hW hS hl hfin
  have hx := X.1
  have hb := X.2.1
  have hl : lv_has ls 4 [(0, .ref (φ 12 i0)), (1, .int a1)] := hl
  unfold F_X12_isFixed at hF
  refine lv_iconst (v := 0) hx hb dX12_isFixed_0 (by decide) ?_
  refine lv_istore_n (lv' := [(2, .int 0), (0, .ref (φ 12 i0)), (1, .int a1)]) hx hb dX12_isFixed_1 rfl hl (by decide) rfl (fun ls hl => ?_)
  refine lv_iconst (v := 0) hx hb dX12_isFixed_2 (by decide) ?_
  refine lv_istore_n (lv' := [(3, .int 0), (2, .int 0), (0, .ref (φ 12 i0)), (1, .int a1)]) hx hb dX12_isFixed_3 rfl hl (by decide) rfl (fun ls hl => ?_)
  obtain ⟨q18, e19, hF⟩ := bn hF
  refine loop_w (f := B_X12_isFixed_4 i0 a1 h) (Z := fun q => ∀ (H : Heap) (locs : List Loc) (ls : Array Slot), HW D cA A φ h H → va_S A s.heap H locs → lv_has ls 4 [(0, .ref (φ 12 i0)), (1, .int a1), (2, .int (q.1)), (3, .int (q.2))] → W p l e (rmo 0 0 0 0) s m args below meth c H locs 0 0 Q (F0 m 4 ls [])) (K := fun q => ∀ (H : Heap) (locs : List Loc) (ls : Array Slot), HW D cA A φ h H → va_S A s.heap H locs → lv_has ls 4 [(2, .int q)] → W p l e (rmo 0 0 0 0) s m args below meth c H locs 0 0 Q (F0 m 38 ls [])) ?_ LF _ q18 e19 ?_ _ _ _ hW hS (lv_sub hl [2, 3, 1, 0] rfl)
  · intro q v hF hK H locs ls hW hS hl
    obtain ⟨x1, x2⟩ := q
    unfold B_X12_isFixed_4 at hF
    have hF := u2d hF
    have hl : lv_has ls 4 [(0, .ref (φ 12 i0)), (1, .int a1), (2, .int x1), (3, .int x2)] := hl
    refine lv_iload_n hx hb dX12_isFixed_4 rfl (lv_at hl 3 rfl) ?_
    refine lv_aload_n hx hb dX12_isFixed_5 rfl (lv_at hl 0 rfl) ?_
    refine r_geti X hW al_0 fl_12_253 dX12_isFixed_6 ?_
    refine lv_icmp_ge (tgt := 38) hx hb dX12_isFixed_9 (by decide) (fun c17 => ?_) (fun c17 => ?_)
    · have hF := it c17 hF
      obtain rfl := sj hF
      exact hK _ _ _ hW hS (lv_sub hl [2] rfl)
    · have hF := ie c17 hF
      refine lv_iload_n hx hb dX12_isFixed_12 rfl (lv_at hl 2 rfl) ?_
      refine lv_if_ne (tgt := 26) hx hb dX12_isFixed_13 (by decide) (fun c16 => ?_) (fun c16 => ?_)
      · have hF := ie c16 hF
        refine lv_iconst (v := 1) hx hb dX12_isFixed_26 (by decide) ?_
        refine lv_goto (tgt := 31) hx hb dX12_isFixed_27 (by decide) ?_
        refine lv_istore_n (lv' := [(2, .int 1), (0, .ref (φ 12 i0)), (1, .int a1), (3, .int x2)]) hx hb dX12_isFixed_31 rfl hl (by decide) rfl (fun ls hl => ?_)
        obtain ⟨x3, e4, hF⟩ := nmx hF
        refine lv_iinc (v := x3) (lv' := [(3, .int x3), (2, .int 1), (0, .ref (φ 12 i0)), (1, .int a1)]) hx hb dX12_isFixed_32 hl (k := 3) rfl (by rw [e4]; rfl) (by decide) rfl (fun ls hl => ?_)
        refine lv_goto (tgt := 4) hx hb dX12_isFixed_35 (by decide) ?_
        obtain rfl := sj hF
        exact hK _ _ _ hW hS (lv_sub hl [2, 3, 1, 0] rfl)
      · have hF := it c16 hF
        refine lv_aload_n hx hb dX12_isFixed_16 rfl (lv_at hl 0 rfl) ?_
        obtain ⟨o5, e6, hF⟩ := bn hF
        refine r_getr X hW al_0 fl_12_88 e6 dX12_isFixed_17 (fun al7 => ?_)
        refine lv_iload_n hx hb dX12_isFixed_20 rfl (lv_at hl 3 rfl) ?_
        obtain ⟨x8, e9, hF⟩ := bn hF
        obtain ⟨b10, e9⟩ := ga_s e9
        refine r_iald X hW al7 rfl b10 dX12_isFixed_21 ?_
        refine nmi e9 ?_
        refine lv_iload_n hx hb dX12_isFixed_22 rfl (lv_at hl 1 rfl) ?_
        refine lv_icmp_ne (tgt := 30) hx hb dX12_isFixed_23 (by decide) (fun c15 => ?_) (fun c15 => ?_)
        · have hF := ie c15 hF
          refine lv_iconst (v := 0) hx hb dX12_isFixed_30 (by decide) ?_
          refine lv_istore_n (lv' := [(2, .int 0), (0, .ref (φ 12 i0)), (1, .int a1), (3, .int x2)]) hx hb dX12_isFixed_31 rfl hl (by decide) rfl (fun ls hl => ?_)
          obtain ⟨x11, e12, hF⟩ := nmx hF
          refine lv_iinc (v := x11) (lv' := [(3, .int x11), (2, .int 0), (0, .ref (φ 12 i0)), (1, .int a1)]) hx hb dX12_isFixed_32 hl (k := 3) rfl (by rw [e12]; rfl) (by decide) rfl (fun ls hl => ?_)
          refine lv_goto (tgt := 4) hx hb dX12_isFixed_35 (by decide) ?_
          obtain rfl := sj hF
          exact hK _ _ _ hW hS (lv_sub hl [2, 3, 1, 0] rfl)
        · have hF := it c15 hF
          refine lv_iconst (v := 1) hx hb dX12_isFixed_26 (by decide) ?_
          refine lv_goto (tgt := 31) hx hb dX12_isFixed_27 (by decide) ?_
          refine lv_istore_n (lv' := [(2, .int 1), (0, .ref (φ 12 i0)), (1, .int a1), (3, .int x2)]) hx hb dX12_isFixed_31 rfl hl (by decide) rfl (fun ls hl => ?_)
          obtain ⟨x13, e14, hF⟩ := nmx hF
          refine lv_iinc (v := x13) (lv' := [(3, .int x13), (2, .int 1), (0, .ref (φ 12 i0)), (1, .int a1)]) hx hb dX12_isFixed_32 hl (k := 3) rfl (by rw [e14]; rfl) (by decide) rfl (fun ls hl => ?_)
          refine lv_goto (tgt := 4) hx hb dX12_isFixed_35 (by decide) ?_
          obtain rfl := sj hF
          exact hK _ _ _ hW hS (lv_sub hl [2, 3, 1, 0] rfl)
  · intro H locs ls hW hS hl
    obtain ⟨x20, rfl⟩ : ∃ z, z = q18 := ⟨_, rfl⟩
    have hl : lv_has ls 4 [(2, .int x20)] := hl
    refine lv_iload_n hx hb dX12_isFixed_38 rfl (lv_at hl 0 rfl) ?_
    obtain ⟨x21, e22, hF⟩ := bn hF
    obtain ⟨b23, e22⟩ := bz_s e22
    refine nmi e22 ?_
    rw [← e22] at b23
    obtain rfl := sj hF
    exact hfin _ _ _ _ hW hS b23 dX12_isFixed_39
def J_X12_lays_25 (i0 : Nat) (v1_25 : Int32) (t0_25 : Int32) (t1_25 : Int32) (t2_25 : Nat) (hj25 : HP) : Option ((Int32 × DP) ⊕ (DP)) :=
  (sa hj25 70 t2_25 256 t1_25 t0_25).bind fun h5 =>
  nm (v1_25 + 1) fun x9 =>
  some (.inl (x9, (dp h5)))
def B_X12_lays_2 (i0 : Nat) (h : HP) (q : Int32 × DP) : Option ((Int32 × DP) ⊕ (DP)) :=
  u2 q fun x1 d4 =>
  nm (wd h d4) fun h2 =>
  (if 256 ≤ x1 then
  some (.inr (dp h2))
  else
  (gr h2 12 i0 33).bind fun o11 =>
  (if x1 = 0 then
  J_X12_lays_25 i0 x1 0 x1 o11 h2
  else
  J_X12_lays_25 i0 x1 1000000000 x1 o11 h2))
def J_X12_lays_177 (i0 : Nat) (x22 : Int32) (x28 : Int32) (v3_177 : Int32) (t0_177 : Int32) (t1_177 : Int32) (t2_177 : Nat) (hj177 : HP) : Option ((Int32 × DP) ⊕ (DP)) :=
  (sa hj177 70 t2_177 256 t1_177 t0_177).bind fun h36 =>
  nm (v3_177 + 1) fun x40 =>
  some (.inl (x40, (dp h36)))
def J_X12_lays_114 (i0 : Nat) (x22 : Int32) (x28 : Int32) (v3_114 : Int32) (hj114 : HP) : Option ((Int32 × DP) ⊕ (DP)) :=
  (F_X12_couldBe i0 v3_114 x22 hj114).bind fun x43 =>
  (if x43 = 0 then
  nm (v3_114 + 1) fun x44 =>
  some (.inl (x44, (dp hj114)))
  else
  (gr hj114 12 i0 33).bind fun o46 =>
  (ga hj114 70 o46 256 x28).bind fun x49 =>
  (F_X12_differences i0 v3_114 x22 hj114).bind fun x53 =>
  nm ((x49 + x53)) fun x54 =>
  (gr hj114 12 i0 33).bind fun o56 =>
  (gr hj114 12 i0 33).bind fun o59 =>
  (ga hj114 70 o59 256 (x28 ||| (1 <<< (v3_114 &&& 31)))).bind fun x62 =>
  (if x62 ≤ x54 then
  (gr hj114 12 i0 33).bind fun o65 =>
  (ga hj114 70 o65 256 (x28 ||| (1 <<< (v3_114 &&& 31)))).bind fun x68 =>
  J_X12_lays_177 i0 x22 x28 v3_114 x68 (x28 ||| (1 <<< (v3_114 &&& 31))) o56 hj114
  else
  J_X12_lays_177 i0 x22 x28 v3_114 x54 (x28 ||| (1 <<< (v3_114 &&& 31))) o56 hj114))
def B_X12_lays_57 (i0 : Nat) (x22 : Int32) (x28 : Int32) (h29 : HP) (q : Int32 × DP) : Option ((Int32 × DP) ⊕ (DP)) :=
  u2 q fun x32 d35 =>
  nm (wd h29 d35) fun h33 =>
  (if (gi h33 12 i0 28) ≤ x32 then
  some (.inr (dp h33))
  else
  (gr h33 12 i0 33).bind fun o73 =>
  (ga h33 70 o73 256 x28).bind fun x76 =>
  (if 1000000000 ≤ x76 then
  some (.inr (dp h33))
  else
  (if ((x28 >>> (x32 &&& 31)) &&& 1) = 0 then
  (gr h33 12 i0 34).bind fun o81 =>
  (ga h33 71 o81 8 x32).bind fun x84 =>
  (if x84 = x22 then
  J_X12_lays_114 i0 x22 x28 x32 h33
  else
  (gr h33 12 i0 34).bind fun o87 =>
  (ga h33 71 o87 8 x32).bind fun x90 =>
  (if x90 = 21 then
  (F_X12_isFixed i0 x22 h33).bind fun x96 =>
  (if x96 = 0 then
  J_X12_lays_114 i0 x22 x28 x32 h33
  else
  nm (x32 + 1) fun x97 =>
  some (.inl (x97, (dp h33))))
  else
  nm (x32 + 1) fun x93 =>
  some (.inl (x93, (dp h33)))))
  else
  nm (x32 + 1) fun x79 =>
  some (.inl (x79, (dp h33))))))
def B_X12_lays_51 (i0 : Nat) (x22 : Int32) (h23 : HP) (q : Int32 × DP) : Option ((Int32 × DP) ⊕ (DP)) :=
  u2 q fun x28 d31 =>
  nm (wd h23 d31) fun h29 =>
  (if x28 < 0 then
  some (.inr (dp h29))
  else
  (loopN LF (B_X12_lays_57 i0 x22 x28 h29) (0, (dp h29))).bind fun d108 =>
  nm (wd h29 d108) fun h109 =>
  nm (x28 + (-1)) fun x111 =>
  some (.inl (x111, (dp h109))))
def B_X12_lays_34 (i0 : Nat) (h20 : HP) (q : Int32 × DP) : Option ((Int32 × DP) ⊕ (DP)) :=
  u2 q fun x22 d25 =>
  nm (wd h20 d25) fun h23 =>
  (if (gi h23 12 i0 8) ≤ x22 then
  some (.inr (dp h23))
  else
  nm (((1 <<< ((gi h23 12 i0 28) &&& 31)) - 1)) fun x26 =>
  (loopN LF (B_X12_lays_51 i0 x22 h23) (x26, (dp h23))).bind fun d118 =>
  nm (wd h23 d118) fun h119 =>
  nm (x22 + 1) fun x121 =>
  some (.inl (x121, (dp h119))))
def J_X12_lays_265 (i0 : Nat) (v1_265 : Int32) (hj265 : HP) : Option ((Int32 × DP) ⊕ (DP)) :=
  (F_X12_ones v1_265).bind fun x142 =>
  nm (si hj265 12 i0 35 x142) fun h143 =>
  (gr h143 12 i0 33).bind fun o146 =>
  (ga h143 70 o146 256 v1_265).bind fun x149 =>
  nm (si h143 12 i0 36 x149) fun h152 =>
  nm (v1_265 + 1) fun x155 =>
  some (.inl (x155, (dp h152)))
def B_X12_lays_208 (i0 : Nat) (h134 : HP) (q : Int32 × DP) : Option ((Int32 × DP) ⊕ (DP)) :=
  u2 q fun x137 d140 =>
  nm (wd h134 d140) fun h138 =>
  (if (1 <<< ((gi h138 12 i0 28) &&& 31)) ≤ x137 then
  some (.inr (dp h138))
  else
  (gr h138 12 i0 33).bind fun o157 =>
  (ga h138 70 o157 256 x137).bind fun x160 =>
  (if 1000000000 ≤ x160 then
  nm (x137 + 1) fun x163 =>
  some (.inl (x163, (dp h138)))
  else
  (F_X12_ones x137).bind fun x166 =>
  (if (gi h138 12 i0 35) < x166 then
  J_X12_lays_265 i0 x137 h138
  else
  (F_X12_ones x137).bind fun x168 =>
  (if x168 = (gi h138 12 i0 35) then
  (gr h138 12 i0 33).bind fun o171 =>
  (ga h138 70 o171 256 x137).bind fun x174 =>
  (if (gi h138 12 i0 36) ≤ x174 then
  nm (x137 + 1) fun x177 =>
  some (.inl (x177, (dp h138)))
  else
  J_X12_lays_265 i0 x137 h138)
  else
  nm (x137 + 1) fun x169 =>
  some (.inl (x169, (dp h138)))))))
def F_X12_lays (i0 : Nat) (h : HP) : Option (DP) :=
  (loopN LF (B_X12_lays_2 i0 h) (0, (dp h))).bind fun d19 =>
  nm (wd h d19) fun h20 =>
  (loopN LF (B_X12_lays_34 i0 h20) (0, (dp h20))).bind fun d128 =>
  nm (wd h20 d128) fun h129 =>
  nm (si h129 12 i0 35 0) fun h131 =>
  nm (si h131 12 i0 36 0) fun h134 =>
  (loopN LF (B_X12_lays_208 i0 h134) (1, (dp h134))).bind fun d187 =>
  nm (wd h134 d187) fun h188 =>
  some (dp h188)
set_option maxHeartbeats 4000000 in
set_option maxRecDepth 100000 in
theorem ok_X12_lays {l : Launch} {D : va_G} {cA : Nat → ClassId} {h : HP}  {d : DP} (i0 : Nat) (al_0 : i0 < gn h 12) (hF : F_X12_lays i0 h = some d) : MV l D cA yX12_lays cX12_lays 5 none 3 71 (fun φ => [.ref (φ 12 i0)]) h (wd h d) := by
  refine mk_V (plainFor_of_name (by decide)) (fun φ => Nat.le_of_ble_eq_true rfl) ?_
  intro p e s m args below meth c ls φ A Q X hW hS hl hfin
  have hx := X.1
  have hb := X.2.1
  have hl : lv_has ls 5 [(0, .ref (φ 12 i0))] := hl
  unfold F_X12_lays at hF
  refine lv_iconst (v := 0) hx hb dX12_lays_0 (by decide) ?_
  refine lv_istore_n (lv' := [(1, .int 0), (0, .ref (φ 12 i0))]) hx hb dX12_lays_1 rfl hl (by decide) rfl (fun ls hl => ?_)
  obtain ⟨q16, e17, hF⟩ := bn hF
  refine loop_w (f := B_X12_lays_2 i0 h) (Z := fun q => ∀ (H : Heap) (locs : List Loc) (ls : Array Slot), HW D cA A φ (wd h q.2) H → va_S A s.heap H locs → lv_has ls 5 [(0, .ref (φ 12 i0)), (1, .int (q.1))] → W p l e (rmo 3 71 0 0) s m args below meth c H locs 0 0 Q (F0 m 2 ls [])) (K := fun q => ∀ (H : Heap) (locs : List Loc) (ls : Array Slot), HW D cA A φ (wd h q) H → va_S A s.heap H locs → lv_has ls 5 [(0, .ref (φ 12 i0))] → W p l e (rmo 3 71 0 0) s m args below meth c H locs 0 0 Q (F0 m 32 ls [])) ?_ LF _ q16 e17 ?_ _ _ _ (wdW rfl hW) hS (lv_sub hl [1, 0] rfl)
  · intro q v hF hK H locs ls hW hS hl
    obtain ⟨x1, d4⟩ := q
    unfold B_X12_lays_2 at hF
    have hF := u2d hF
    obtain ⟨h2, e18, hF⟩ := nmx hF
    have hW := nmW e18 hW
    have g3 : h2.2.2 = h.2.2 := by rw [e18]; exact rfl
    have hl : lv_has ls 5 [(0, .ref (φ 12 i0)), (1, .int x1)] := hl
    have j_25 : ∀ (v1_25 : Int32) (t0_25 : Int32) (t1_25 : Int32) (t2_25 : Nat) (hj25 : HP) (H : Heap) (locs : List Loc) (ls : Array Slot), hj25.2.2 = h.2.2 → t2_25 < gn h 70 → J_X12_lays_25 i0 v1_25 t0_25 t1_25 t2_25 hj25 = some v → HW D cA A φ hj25 H → va_S A s.heap H locs → lv_has ls 5 [(0, .ref (φ 12 i0)), (1, .int v1_25)] → W p l e (rmo 3 71 0 0) s m args below meth c H locs 0 0 Q (F0 m 25 ls [.int t0_25, .int t1_25, .ref (φ 70 t2_25)]) := by
      intro v1_25 t0_25 t1_25 t2_25 hj25 H locs ls gj25 alt2_25 hF hW hS hl
      unfold J_X12_lays_25 at hF
      obtain ⟨h5, e6, hF⟩ := bn hF
      obtain ⟨b7, e6⟩ := sa_s e6
      refine r_iast X hW hS (gq gj25 alt2_25) rfl b7 dX12_lays_25 (fun H locs hW hS => ?_)
      have hW := nmW e6 hW
      have g8 : h5.2.2 = h.2.2 := by rw [e6]; exact gj25
      obtain ⟨x9, e10, hF⟩ := nmx hF
      refine lv_iinc (v := x9) (lv' := [(1, .int x9), (0, .ref (φ 12 i0))]) hx hb dX12_lays_26 hl (k := 1) rfl (by rw [e10]; rfl) (by decide) rfl (fun ls hl => ?_)
      refine lv_goto (tgt := 2) hx hb dX12_lays_29 (by decide) ?_
      obtain rfl := sj hF
      exact hK _ _ _ (wdW (sq g8 rfl) hW) hS (lv_sub hl [1, 0] rfl)
    refine lv_iload_n hx hb dX12_lays_2 rfl (lv_at hl 1 rfl) ?_
    refine lv_sipush (v := 256) hx hb dX12_lays_3 (by decide) ?_
    refine lv_icmp_ge (tgt := 32) hx hb dX12_lays_6 (by decide) (fun c15 => ?_) (fun c15 => ?_)
    · have hF := it c15 hF
      obtain rfl := sj hF
      exact hK _ _ _ (wdW (sq g3 rfl) hW) hS (lv_sub hl [0] rfl)
    · have hF := ie c15 hF
      refine lv_aload_n hx hb dX12_lays_9 rfl (lv_at hl 0 rfl) ?_
      obtain ⟨o11, e12, hF⟩ := bn hF
      refine r_getr X hW (gq g3 al_0) fl_12_85 e12 dX12_lays_10 (fun al13 => ?_)
      have al13 := qg g3 al13
      refine lv_iload_n hx hb dX12_lays_13 rfl (lv_at hl 1 rfl) ?_
      refine lv_iload_n hx hb dX12_lays_14 rfl (lv_at hl 1 rfl) ?_
      refine lv_if_ne (tgt := 22) hx hb dX12_lays_15 (by decide) (fun c14 => ?_) (fun c14 => ?_)
      · have hF := ie c14 hF
        refine lv_ldcw (v := 1000000000) hx hb X.2.2.2.1 (X.2.2.2.2.1 _ (AL_of 1395 (by decide +kernel) rfl)) dX12_lays_22 ?_
        exact j_25 x1 1000000000 x1 o11 h2 _ _ _ g3 al13 hF hW hS (lv_sub hl [0, 1] rfl)
      · have hF := it c14 hF
        refine lv_iconst (v := 0) hx hb dX12_lays_18 (by decide) ?_
        refine lv_goto (tgt := 25) hx hb dX12_lays_19 (by decide) ?_
        exact j_25 x1 0 x1 o11 h2 _ _ _ g3 al13 hF hW hS (lv_sub hl [0, 1] rfl)
  · intro H locs ls hW hS hl
    obtain ⟨d19, rfl⟩ : ∃ z, z = q16 := ⟨_, rfl⟩
    obtain ⟨h20, e192, hF⟩ := nmx hF
    have hW := nmW e192 hW
    have g21 : h20.2.2 = h.2.2 := by rw [e192]; exact rfl
    have hl : lv_has ls 5 [(0, .ref (φ 12 i0))] := hl
    refine lv_iconst (v := 0) hx hb dX12_lays_32 (by decide) ?_
    refine lv_istore_n (lv' := [(1, .int 0), (0, .ref (φ 12 i0))]) hx hb dX12_lays_33 rfl hl (by decide) rfl (fun ls hl => ?_)
    obtain ⟨q125, e126, hF⟩ := bn hF
    refine loop_w (f := B_X12_lays_34 i0 h20) (Z := fun q => ∀ (H : Heap) (locs : List Loc) (ls : Array Slot), HW D cA A φ (wd h20 q.2) H → va_S A s.heap H locs → lv_has ls 5 [(0, .ref (φ 12 i0)), (1, .int (q.1))] → W p l e (rmo 3 71 0 0) s m args below meth c H locs 0 0 Q (F0 m 34 ls [])) (K := fun q => ∀ (H : Heap) (locs : List Loc) (ls : Array Slot), HW D cA A φ (wd h20 q) H → va_S A s.heap H locs → lv_has ls 5 [(0, .ref (φ 12 i0))] → W p l e (rmo 3 71 0 0) s m args below meth c H locs 0 0 Q (F0 m 196 ls [])) ?_ LF _ q125 e126 ?_ _ _ _ (wdW rfl hW) hS (lv_sub hl [1, 0] rfl)
    · intro q v hF hK H locs ls hW hS hl
      obtain ⟨x22, d25⟩ := q
      unfold B_X12_lays_34 at hF
      have hF := u2d hF
      obtain ⟨h23, e127, hF⟩ := nmx hF
      have hW := nmW e127 hW
      have g24 : h23.2.2 = h.2.2 := by rw [e127]; exact g21
      have hl : lv_has ls 5 [(0, .ref (φ 12 i0)), (1, .int x22)] := hl
      refine lv_iload_n hx hb dX12_lays_34 rfl (lv_at hl 1 rfl) ?_
      refine lv_aload_n hx hb dX12_lays_35 rfl (lv_at hl 0 rfl) ?_
      refine r_geti X hW (gq g24 al_0) fl_12_167 dX12_lays_36 ?_
      refine lv_icmp_ge (tgt := 196) hx hb dX12_lays_39 (by decide) (fun c124 => ?_) (fun c124 => ?_)
      · have hF := it c124 hF
        obtain rfl := sj hF
        exact hK _ _ _ (wdW (sq g24 g21) hW) hS (lv_sub hl [0] rfl)
      · have hF := ie c124 hF
        refine lv_iconst (v := 1) hx hb dX12_lays_42 (by decide) ?_
        refine lv_aload_n hx hb dX12_lays_43 rfl (lv_at hl 0 rfl) ?_
        refine r_geti X hW (gq g24 al_0) fl_12_253 dX12_lays_44 ?_
        refine lv_ishl hx hb dX12_lays_47 ?_
        refine lv_iconst (v := 1) hx hb dX12_lays_48 (by decide) ?_
        refine lv_isub hx hb dX12_lays_49 ?_
        obtain ⟨x26, e27, hF⟩ := nmx hF
        refine nmi e27 ?_
        refine lv_istore_n (lv' := [(2, .int x26), (0, .ref (φ 12 i0)), (1, .int x22)]) hx hb dX12_lays_50 rfl hl (by decide) rfl (fun ls hl => ?_)
        obtain ⟨q115, e116, hF⟩ := bn hF
        refine loop_w (f := B_X12_lays_51 i0 x22 h23) (Z := fun q => ∀ (H : Heap) (locs : List Loc) (ls : Array Slot), HW D cA A φ (wd h23 q.2) H → va_S A s.heap H locs → lv_has ls 5 [(0, .ref (φ 12 i0)), (1, .int x22), (2, .int (q.1))] → W p l e (rmo 3 71 0 0) s m args below meth c H locs 0 0 Q (F0 m 51 ls [])) (K := fun q => ∀ (H : Heap) (locs : List Loc) (ls : Array Slot), HW D cA A φ (wd h23 q) H → va_S A s.heap H locs → lv_has ls 5 [(0, .ref (φ 12 i0)), (1, .int x22)] → W p l e (rmo 3 71 0 0) s m args below meth c H locs 0 0 Q (F0 m 190 ls [])) ?_ LF _ q115 e116 ?_ _ _ _ (wdW rfl hW) hS (lv_sub hl [1, 2, 0] rfl)
        · intro q v hF hK H locs ls hW hS hl
          obtain ⟨x28, d31⟩ := q
          unfold B_X12_lays_51 at hF
          have hF := u2d hF
          obtain ⟨h29, e117, hF⟩ := nmx hF
          have hW := nmW e117 hW
          have g30 : h29.2.2 = h.2.2 := by rw [e117]; exact g24
          have hl : lv_has ls 5 [(0, .ref (φ 12 i0)), (1, .int x22), (2, .int x28)] := hl
          refine lv_iload_n hx hb dX12_lays_51 rfl (lv_at hl 2 rfl) ?_
          refine lv_if_lt (tgt := 190) hx hb dX12_lays_52 (by decide) (fun c114 => ?_) (fun c114 => ?_)
          · have hF := it c114 hF
            obtain rfl := sj hF
            exact hK _ _ _ (wdW (sq g30 g24) hW) hS (lv_sub hl [0, 1] rfl)
          · have hF := ie c114 hF
            refine lv_iconst (v := 0) hx hb dX12_lays_55 (by decide) ?_
            refine lv_istore_n (lv' := [(3, .int 0), (0, .ref (φ 12 i0)), (1, .int x22), (2, .int x28)]) hx hb dX12_lays_56 rfl hl (by decide) rfl (fun ls hl => ?_)
            obtain ⟨q105, e106, hF⟩ := bn hF
            refine loop_w (f := B_X12_lays_57 i0 x22 x28 h29) (Z := fun q => ∀ (H : Heap) (locs : List Loc) (ls : Array Slot), HW D cA A φ (wd h29 q.2) H → va_S A s.heap H locs → lv_has ls 5 [(0, .ref (φ 12 i0)), (1, .int x22), (2, .int x28), (3, .int (q.1))] → W p l e (rmo 3 71 0 0) s m args below meth c H locs 0 0 Q (F0 m 57 ls [])) (K := fun q => ∀ (H : Heap) (locs : List Loc) (ls : Array Slot), HW D cA A φ (wd h29 q) H → va_S A s.heap H locs → lv_has ls 5 [(0, .ref (φ 12 i0)), (1, .int x22), (2, .int x28)] → W p l e (rmo 3 71 0 0) s m args below meth c H locs 0 0 Q (F0 m 184 ls [])) ?_ LF _ q105 e106 ?_ _ _ _ (wdW rfl hW) hS (lv_sub hl [1, 2, 3, 0] rfl)
            · intro q v hF hK H locs ls hW hS hl
              obtain ⟨x32, d35⟩ := q
              unfold B_X12_lays_57 at hF
              have hF := u2d hF
              obtain ⟨h33, e107, hF⟩ := nmx hF
              have hW := nmW e107 hW
              have g34 : h33.2.2 = h.2.2 := by rw [e107]; exact g30
              have hl : lv_has ls 5 [(0, .ref (φ 12 i0)), (1, .int x22), (2, .int x28), (3, .int x32)] := hl
              have j_177 : ∀ (v3_177 : Int32) (t0_177 : Int32) (t1_177 : Int32) (t2_177 : Nat) (hj177 : HP) (H : Heap) (locs : List Loc) (ls : Array Slot), hj177.2.2 = h.2.2 → t2_177 < gn h 70 → J_X12_lays_177 i0 x22 x28 v3_177 t0_177 t1_177 t2_177 hj177 = some v → HW D cA A φ hj177 H → va_S A s.heap H locs → lv_has ls 5 [(0, .ref (φ 12 i0)), (1, .int x22), (2, .int x28), (3, .int v3_177)] → W p l e (rmo 3 71 0 0) s m args below meth c H locs 0 0 Q (F0 m 177 ls [.int t0_177, .int t1_177, .ref (φ 70 t2_177)]) := by
                intro v3_177 t0_177 t1_177 t2_177 hj177 H locs ls gj177 alt2_177 hF hW hS hl
                unfold J_X12_lays_177 at hF
                obtain ⟨h36, e37, hF⟩ := bn hF
                obtain ⟨b38, e37⟩ := sa_s e37
                refine r_iast X hW hS (gq gj177 alt2_177) rfl b38 dX12_lays_177 (fun H locs hW hS => ?_)
                have hW := nmW e37 hW
                have g39 : h36.2.2 = h.2.2 := by rw [e37]; exact gj177
                obtain ⟨x40, e41, hF⟩ := nmx hF
                refine lv_iinc (v := x40) (lv' := [(3, .int x40), (0, .ref (φ 12 i0)), (1, .int x22), (2, .int x28)]) hx hb dX12_lays_178 hl (k := 3) rfl (by rw [e41]; rfl) (by decide) rfl (fun ls hl => ?_)
                refine lv_goto (tgt := 57) hx hb dX12_lays_181 (by decide) ?_
                obtain rfl := sj hF
                exact hK _ _ _ (wdW (sq g39 g30) hW) hS (lv_sub hl [1, 2, 3, 0] rfl)
              have j_114 : ∀ (v3_114 : Int32) (hj114 : HP) (H : Heap) (locs : List Loc) (ls : Array Slot), hj114.2.2 = h.2.2 → J_X12_lays_114 i0 x22 x28 v3_114 hj114 = some v → HW D cA A φ hj114 H → va_S A s.heap H locs → lv_has ls 5 [(0, .ref (φ 12 i0)), (1, .int x22), (2, .int x28), (3, .int v3_114)] → W p l e (rmo 3 71 0 0) s m args below meth c H locs 0 0 Q (F0 m 114 ls []) := by
                intro v3_114 hj114 H locs ls gj114 hF hW hS hl
                unfold J_X12_lays_114 at hF
                refine lv_aload_n hx hb dX12_lays_114 rfl (lv_at hl 0 rfl) ?_
                refine lv_iload_n hx hb dX12_lays_115 rfl (lv_at hl 3 rfl) ?_
                refine lv_iload_n hx hb dX12_lays_116 rfl (lv_at hl 1 rfl) ?_
                obtain ⟨x43, e42, hF⟩ := bn hF
                refine rc_i (Af := fun φ => [.ref (φ 12 i0), .int v3_114, .int x22]) X hW hS ⟨Nat.zero_le _, Nat.zero_le _⟩ (rn_V (As := [.int v3_114, .int x22]) (rest := []) X hW hS cw_12_263 (gq gj114 al_0) rfl rfl rfl ⟨Nat.le_of_ble_eq_true rfl, Nat.le_of_ble_eq_true rfl⟩ rfl hl.1 rfl (Nat.le_of_ble_eq_true rfl) dX12_lays_117) (ok_X12_couldBe i0 v3_114 x22 (gq gj114 al_0) e42) (fun H locs hW hS => ?_)
                refine lv_if_eq (tgt := 178) hx hb dX12_lays_120 (by decide) (fun c72 => ?_) (fun c72 => ?_)
                · have hF := it c72 hF
                  obtain ⟨x44, e45, hF⟩ := nmx hF
                  refine lv_iinc (v := x44) (lv' := [(3, .int x44), (0, .ref (φ 12 i0)), (1, .int x22), (2, .int x28)]) hx hb dX12_lays_178 hl (k := 3) rfl (by rw [e45]; rfl) (by decide) rfl (fun ls hl => ?_)
                  refine lv_goto (tgt := 57) hx hb dX12_lays_181 (by decide) ?_
                  obtain rfl := sj hF
                  exact hK _ _ _ (wdW (sq gj114 g30) hW) hS (lv_sub hl [1, 2, 3, 0] rfl)
                · have hF := ie c72 hF
                  refine lv_aload_n hx hb dX12_lays_123 rfl (lv_at hl 0 rfl) ?_
                  obtain ⟨o46, e47, hF⟩ := bn hF
                  refine r_getr X hW (gq gj114 al_0) fl_12_85 e47 dX12_lays_124 (fun al48 => ?_)
                  have al48 := qg gj114 al48
                  refine lv_iload_n hx hb dX12_lays_127 rfl (lv_at hl 2 rfl) ?_
                  obtain ⟨x49, e50, hF⟩ := bn hF
                  obtain ⟨b51, e50⟩ := ga_s e50
                  refine r_iald X hW (gq gj114 al48) rfl b51 dX12_lays_128 ?_
                  refine nmi e50 ?_
                  refine lv_aload_n hx hb dX12_lays_129 rfl (lv_at hl 0 rfl) ?_
                  refine lv_iload_n hx hb dX12_lays_130 rfl (lv_at hl 3 rfl) ?_
                  refine lv_iload_n hx hb dX12_lays_131 rfl (lv_at hl 1 rfl) ?_
                  obtain ⟨x53, e52, hF⟩ := bn hF
                  refine rc_i (Af := fun φ => [.ref (φ 12 i0), .int v3_114, .int x22]) X hW hS ⟨Nat.zero_le _, Nat.zero_le _⟩ (rn_V (As := [.int v3_114, .int x22]) (rest := [.int x49]) X hW hS cw_12_282 (gq gj114 al_0) rfl rfl rfl ⟨Nat.le_of_ble_eq_true rfl, Nat.le_of_ble_eq_true rfl⟩ rfl hl.1 rfl (Nat.le_of_ble_eq_true rfl) dX12_lays_132) (ok_X12_differences i0 v3_114 x22 (gq gj114 al_0) e52) (fun H locs hW hS => ?_)
                  refine lv_iadd hx hb dX12_lays_135 ?_
                  obtain ⟨x54, e55, hF⟩ := nmx hF
                  refine nmi e55 ?_
                  refine lv_istore (lv' := [(4, .int x54), (0, .ref (φ 12 i0)), (1, .int x22), (2, .int x28), (3, .int v3_114)]) hx hb dX12_lays_136 hl (by decide) rfl (fun ls hl => ?_)
                  refine lv_aload_n hx hb dX12_lays_138 rfl (lv_at hl 1 rfl) ?_
                  obtain ⟨o56, e57, hF⟩ := bn hF
                  refine r_getr X hW (gq gj114 al_0) fl_12_85 e57 dX12_lays_139 (fun al58 => ?_)
                  have al58 := qg gj114 al58
                  refine lv_iload_n hx hb dX12_lays_142 rfl (lv_at hl 3 rfl) ?_
                  refine lv_iconst (v := 1) hx hb dX12_lays_143 (by decide) ?_
                  refine lv_iload_n hx hb dX12_lays_144 rfl (lv_at hl 4 rfl) ?_
                  refine lv_ishl hx hb dX12_lays_145 ?_
                  refine lv_ior hx hb dX12_lays_146 ?_
                  refine lv_iload hx hb dX12_lays_147 (lv_at hl 0 rfl) ?_
                  refine lv_aload_n hx hb dX12_lays_149 rfl (lv_at hl 1 rfl) ?_
                  obtain ⟨o59, e60, hF⟩ := bn hF
                  refine r_getr X hW (gq gj114 al_0) fl_12_85 e60 dX12_lays_150 (fun al61 => ?_)
                  have al61 := qg gj114 al61
                  refine lv_iload_n hx hb dX12_lays_153 rfl (lv_at hl 3 rfl) ?_
                  refine lv_iconst (v := 1) hx hb dX12_lays_154 (by decide) ?_
                  refine lv_iload_n hx hb dX12_lays_155 rfl (lv_at hl 4 rfl) ?_
                  refine lv_ishl hx hb dX12_lays_156 ?_
                  refine lv_ior hx hb dX12_lays_157 ?_
                  obtain ⟨x62, e63, hF⟩ := bn hF
                  obtain ⟨b64, e63⟩ := ga_s e63
                  refine r_iald X hW (gq gj114 al61) rfl b64 dX12_lays_158 ?_
                  refine nmi e63 ?_
                  refine lv_icmp_ge (tgt := 167) hx hb dX12_lays_159 (by decide) (fun c71 => ?_) (fun c71 => ?_)
                  · have hF := it c71 hF
                    refine lv_aload_n hx hb dX12_lays_167 rfl (lv_at hl 1 rfl) ?_
                    obtain ⟨o65, e66, hF⟩ := bn hF
                    refine r_getr X hW (gq gj114 al_0) fl_12_85 e66 dX12_lays_168 (fun al67 => ?_)
                    have al67 := qg gj114 al67
                    refine lv_iload_n hx hb dX12_lays_171 rfl (lv_at hl 3 rfl) ?_
                    refine lv_iconst (v := 1) hx hb dX12_lays_172 (by decide) ?_
                    refine lv_iload_n hx hb dX12_lays_173 rfl (lv_at hl 4 rfl) ?_
                    refine lv_ishl hx hb dX12_lays_174 ?_
                    refine lv_ior hx hb dX12_lays_175 ?_
                    obtain ⟨x68, e69, hF⟩ := bn hF
                    obtain ⟨b70, e69⟩ := ga_s e69
                    refine r_iald X hW (gq gj114 al67) rfl b70 dX12_lays_176 ?_
                    refine nmi e69 ?_
                    exact j_177 v3_114 x68 (x28 ||| (1 <<< (v3_114 &&& 31))) o56 hj114 _ _ _ gj114 al58 hF hW hS (lv_sub hl [1, 2, 3, 4] rfl)
                  · have hF := ie c71 hF
                    refine lv_iload hx hb dX12_lays_162 (lv_at hl 0 rfl) ?_
                    refine lv_goto (tgt := 177) hx hb dX12_lays_164 (by decide) ?_
                    exact j_177 v3_114 x54 (x28 ||| (1 <<< (v3_114 &&& 31))) o56 hj114 _ _ _ gj114 al58 hF hW hS (lv_sub hl [1, 2, 3, 4] rfl)
              refine lv_iload_n hx hb dX12_lays_57 rfl (lv_at hl 3 rfl) ?_
              refine lv_aload_n hx hb dX12_lays_58 rfl (lv_at hl 0 rfl) ?_
              refine r_geti X hW (gq g34 al_0) fl_12_253 dX12_lays_59 ?_
              refine lv_icmp_ge (tgt := 184) hx hb dX12_lays_62 (by decide) (fun c104 => ?_) (fun c104 => ?_)
              · have hF := it c104 hF
                obtain rfl := sj hF
                exact hK _ _ _ (wdW (sq g34 g30) hW) hS (lv_sub hl [0, 1, 2] rfl)
              · have hF := ie c104 hF
                refine lv_aload_n hx hb dX12_lays_65 rfl (lv_at hl 0 rfl) ?_
                obtain ⟨o73, e74, hF⟩ := bn hF
                refine r_getr X hW (gq g34 al_0) fl_12_85 e74 dX12_lays_66 (fun al75 => ?_)
                have al75 := qg g34 al75
                refine lv_iload_n hx hb dX12_lays_69 rfl (lv_at hl 2 rfl) ?_
                obtain ⟨x76, e77, hF⟩ := bn hF
                obtain ⟨b78, e77⟩ := ga_s e77
                refine r_iald X hW (gq g34 al75) rfl b78 dX12_lays_70 ?_
                refine nmi e77 ?_
                refine lv_ldcw (v := 1000000000) hx hb X.2.2.2.1 (X.2.2.2.2.1 _ (AL_of 1395 (by decide +kernel) rfl)) dX12_lays_71 ?_
                refine lv_icmp_ge (tgt := 184) hx hb dX12_lays_74 (by decide) (fun c103 => ?_) (fun c103 => ?_)
                · have hF := it c103 hF
                  obtain rfl := sj hF
                  exact hK _ _ _ (wdW (sq g34 g30) hW) hS (lv_sub hl [0, 1, 2] rfl)
                · have hF := ie c103 hF
                  refine lv_iload_n hx hb dX12_lays_77 rfl (lv_at hl 2 rfl) ?_
                  refine lv_iload_n hx hb dX12_lays_78 rfl (lv_at hl 3 rfl) ?_
                  refine lv_ishr hx hb dX12_lays_79 ?_
                  refine lv_iconst (v := 1) hx hb dX12_lays_80 (by decide) ?_
                  refine lv_iand hx hb dX12_lays_81 ?_
                  refine lv_if_ne (tgt := 178) hx hb dX12_lays_82 (by decide) (fun c102 => ?_) (fun c102 => ?_)
                  · have hF := ie c102 hF
                    obtain ⟨x79, e80, hF⟩ := nmx hF
                    refine lv_iinc (v := x79) (lv' := [(3, .int x79), (0, .ref (φ 12 i0)), (1, .int x22), (2, .int x28)]) hx hb dX12_lays_178 hl (k := 3) rfl (by rw [e80]; rfl) (by decide) rfl (fun ls hl => ?_)
                    refine lv_goto (tgt := 57) hx hb dX12_lays_181 (by decide) ?_
                    obtain rfl := sj hF
                    exact hK _ _ _ (wdW (sq g34 g30) hW) hS (lv_sub hl [1, 2, 3, 0] rfl)
                  · have hF := it c102 hF
                    refine lv_aload_n hx hb dX12_lays_85 rfl (lv_at hl 0 rfl) ?_
                    obtain ⟨o81, e82, hF⟩ := bn hF
                    refine r_getr X hW (gq g34 al_0) fl_12_88 e82 dX12_lays_86 (fun al83 => ?_)
                    have al83 := qg g34 al83
                    refine lv_iload_n hx hb dX12_lays_89 rfl (lv_at hl 3 rfl) ?_
                    obtain ⟨x84, e85, hF⟩ := bn hF
                    obtain ⟨b86, e85⟩ := ga_s e85
                    refine r_iald X hW (gq g34 al83) rfl b86 dX12_lays_90 ?_
                    refine nmi e85 ?_
                    refine lv_iload_n hx hb dX12_lays_91 rfl (lv_at hl 1 rfl) ?_
                    refine lv_icmp_eq (tgt := 114) hx hb dX12_lays_92 (by decide) (fun c101 => ?_) (fun c101 => ?_)
                    · have hF := it c101 hF
                      exact j_114 x32 h33 _ _ _ g34 hF hW hS (lv_sub hl [0, 1, 2, 3] rfl)
                    · have hF := ie c101 hF
                      refine lv_aload_n hx hb dX12_lays_95 rfl (lv_at hl 0 rfl) ?_
                      obtain ⟨o87, e88, hF⟩ := bn hF
                      refine r_getr X hW (gq g34 al_0) fl_12_88 e88 dX12_lays_96 (fun al89 => ?_)
                      have al89 := qg g34 al89
                      refine lv_iload_n hx hb dX12_lays_99 rfl (lv_at hl 3 rfl) ?_
                      obtain ⟨x90, e91, hF⟩ := bn hF
                      obtain ⟨b92, e91⟩ := ga_s e91
                      refine r_iald X hW (gq g34 al89) rfl b92 dX12_lays_100 ?_
                      refine nmi e91 ?_
                      refine lv_bipush (v := 21) hx hb dX12_lays_101 (by decide) ?_
                      refine lv_icmp_ne (tgt := 178) hx hb dX12_lays_103 (by decide) (fun c100 => ?_) (fun c100 => ?_)
                      · have hF := ie c100 hF
                        obtain ⟨x93, e94, hF⟩ := nmx hF
                        refine lv_iinc (v := x93) (lv' := [(3, .int x93), (0, .ref (φ 12 i0)), (1, .int x22), (2, .int x28)]) hx hb dX12_lays_178 hl (k := 3) rfl (by rw [e94]; rfl) (by decide) rfl (fun ls hl => ?_)
                        refine lv_goto (tgt := 57) hx hb dX12_lays_181 (by decide) ?_
                        obtain rfl := sj hF
                        exact hK _ _ _ (wdW (sq g34 g30) hW) hS (lv_sub hl [1, 2, 3, 0] rfl)
                      · have hF := it c100 hF
                        refine lv_aload_n hx hb dX12_lays_106 rfl (lv_at hl 0 rfl) ?_
                        refine lv_iload_n hx hb dX12_lays_107 rfl (lv_at hl 1 rfl) ?_
                        obtain ⟨x96, e95, hF⟩ := bn hF
                        refine rc_i (Af := fun φ => [.ref (φ 12 i0), .int x22]) X hW hS ⟨Nat.zero_le _, Nat.zero_le _⟩ (rn_V (As := [.int x22]) (rest := []) X hW hS cw_12_279 (gq g34 al_0) rfl rfl rfl ⟨Nat.le_of_ble_eq_true rfl, Nat.le_of_ble_eq_true rfl⟩ rfl hl.1 rfl (Nat.le_of_ble_eq_true rfl) dX12_lays_108) (ok_X12_isFixed i0 x22 (gq g34 al_0) e95) (fun H locs hW hS => ?_)
                        refine lv_if_ne (tgt := 178) hx hb dX12_lays_111 (by decide) (fun c99 => ?_) (fun c99 => ?_)
                        · have hF := ie c99 hF
                          obtain ⟨x97, e98, hF⟩ := nmx hF
                          refine lv_iinc (v := x97) (lv' := [(3, .int x97), (0, .ref (φ 12 i0)), (1, .int x22), (2, .int x28)]) hx hb dX12_lays_178 hl (k := 3) rfl (by rw [e98]; rfl) (by decide) rfl (fun ls hl => ?_)
                          refine lv_goto (tgt := 57) hx hb dX12_lays_181 (by decide) ?_
                          obtain rfl := sj hF
                          exact hK _ _ _ (wdW (sq g34 g30) hW) hS (lv_sub hl [1, 2, 3, 0] rfl)
                        · have hF := it c99 hF
                          exact j_114 x32 h33 _ _ _ g34 hF hW hS (lv_sub hl [0, 1, 2, 3] rfl)
            · intro H locs ls hW hS hl
              obtain ⟨d108, rfl⟩ : ∃ z, z = q105 := ⟨_, rfl⟩
              obtain ⟨h109, e113, hF⟩ := nmx hF
              have hW := nmW e113 hW
              have g110 : h109.2.2 = h.2.2 := by rw [e113]; exact g30
              have hl : lv_has ls 5 [(0, .ref (φ 12 i0)), (1, .int x22), (2, .int x28)] := hl
              obtain ⟨x111, e112, hF⟩ := nmx hF
              refine lv_iinc (v := x111) (lv' := [(2, .int x111), (0, .ref (φ 12 i0)), (1, .int x22)]) hx hb dX12_lays_184 hl (k := 2) rfl (by rw [e112]; rfl) (by decide) rfl (fun ls hl => ?_)
              refine lv_goto (tgt := 51) hx hb dX12_lays_187 (by decide) ?_
              obtain rfl := sj hF
              exact hK _ _ _ (wdW (sq g110 g24) hW) hS (lv_sub hl [1, 2, 0] rfl)
        · intro H locs ls hW hS hl
          obtain ⟨d118, rfl⟩ : ∃ z, z = q115 := ⟨_, rfl⟩
          obtain ⟨h119, e123, hF⟩ := nmx hF
          have hW := nmW e123 hW
          have g120 : h119.2.2 = h.2.2 := by rw [e123]; exact g24
          have hl : lv_has ls 5 [(0, .ref (φ 12 i0)), (1, .int x22)] := hl
          obtain ⟨x121, e122, hF⟩ := nmx hF
          refine lv_iinc (v := x121) (lv' := [(1, .int x121), (0, .ref (φ 12 i0))]) hx hb dX12_lays_190 hl (k := 1) rfl (by rw [e122]; rfl) (by decide) rfl (fun ls hl => ?_)
          refine lv_goto (tgt := 34) hx hb dX12_lays_193 (by decide) ?_
          obtain rfl := sj hF
          exact hK _ _ _ (wdW (sq g120 g21) hW) hS (lv_sub hl [1, 0] rfl)
    · intro H locs ls hW hS hl
      obtain ⟨d128, rfl⟩ : ∃ z, z = q125 := ⟨_, rfl⟩
      obtain ⟨h129, e191, hF⟩ := nmx hF
      have hW := nmW e191 hW
      have g130 : h129.2.2 = h.2.2 := by rw [e191]; exact g21
      have hl : lv_has ls 5 [(0, .ref (φ 12 i0))] := hl
      refine lv_aload_n hx hb dX12_lays_196 rfl (lv_at hl 0 rfl) ?_
      refine lv_iconst (v := 0) hx hb dX12_lays_197 (by decide) ?_
      refine r_puti X hW hS (gq g130 al_0) fp_12_285 rfl rfl dX12_lays_198 (fun H locs hW hS => ?_)
      obtain ⟨h131, e132, hF⟩ := nmx hF
      have hW := nmW e132 hW
      have g133 : h131.2.2 = h.2.2 := by rw [e132]; exact g130
      refine lv_aload_n hx hb dX12_lays_201 rfl (lv_at hl 0 rfl) ?_
      refine lv_iconst (v := 0) hx hb dX12_lays_202 (by decide) ?_
      refine r_puti X hW hS (gq g133 al_0) fp_12_288 rfl rfl dX12_lays_203 (fun H locs hW hS => ?_)
      obtain ⟨h134, e135, hF⟩ := nmx hF
      have hW := nmW e135 hW
      have g136 : h134.2.2 = h.2.2 := by rw [e135]; exact g133
      refine lv_iconst (v := 1) hx hb dX12_lays_206 (by decide) ?_
      refine lv_istore_n (lv' := [(1, .int 1), (0, .ref (φ 12 i0))]) hx hb dX12_lays_207 rfl hl (by decide) rfl (fun ls hl => ?_)
      obtain ⟨q184, e185, hF⟩ := bn hF
      refine loop_w (f := B_X12_lays_208 i0 h134) (Z := fun q => ∀ (H : Heap) (locs : List Loc) (ls : Array Slot), HW D cA A φ (wd h134 q.2) H → va_S A s.heap H locs → lv_has ls 5 [(0, .ref (φ 12 i0)), (1, .int (q.1))] → W p l e (rmo 3 71 0 0) s m args below meth c H locs 0 0 Q (F0 m 208 ls [])) (K := fun q => ∀ (H : Heap) (locs : List Loc) (ls : Array Slot), HW D cA A φ (wd h134 q) H → va_S A s.heap H locs → lv_has ls 5 [] → W p l e (rmo 3 71 0 0) s m args below meth c H locs 0 0 Q (F0 m 289 ls [])) ?_ LF _ q184 e185 ?_ _ _ _ (wdW rfl hW) hS (lv_sub hl [1, 0] rfl)
      · intro q v hF hK H locs ls hW hS hl
        obtain ⟨x137, d140⟩ := q
        unfold B_X12_lays_208 at hF
        have hF := u2d hF
        obtain ⟨h138, e186, hF⟩ := nmx hF
        have hW := nmW e186 hW
        have g139 : h138.2.2 = h.2.2 := by rw [e186]; exact g136
        have hl : lv_has ls 5 [(0, .ref (φ 12 i0)), (1, .int x137)] := hl
        have j_265 : ∀ (v1_265 : Int32) (hj265 : HP) (H : Heap) (locs : List Loc) (ls : Array Slot), hj265.2.2 = h.2.2 → J_X12_lays_265 i0 v1_265 hj265 = some v → HW D cA A φ hj265 H → va_S A s.heap H locs → lv_has ls 5 [(0, .ref (φ 12 i0)), (1, .int v1_265)] → W p l e (rmo 3 71 0 0) s m args below meth c H locs 0 0 Q (F0 m 265 ls []) := by
          intro v1_265 hj265 H locs ls gj265 hF hW hS hl
          unfold J_X12_lays_265 at hF
          refine lv_aload_n hx hb dX12_lays_265 rfl (lv_at hl 0 rfl) ?_
          refine lv_iload_n hx hb dX12_lays_266 rfl (lv_at hl 1 rfl) ?_
          obtain ⟨x142, e141, hF⟩ := bn hF
          refine rc_i (Af := fun φ => [.int v1_265]) X hW hS ⟨Nat.zero_le _, Nat.zero_le _⟩ (rn_S (As := [.int v1_265]) (rest := [.ref (φ 12 i0)]) X hW hS cw_12_272 ⟨Nat.le_of_ble_eq_true rfl, Nat.le_of_ble_eq_true rfl⟩ rfl hl.1 rfl (Nat.le_of_ble_eq_true rfl) dX12_lays_267) (ok_X12_ones v1_265 e141) (fun H locs hW hS => ?_)
          refine r_puti X hW hS (gq gj265 al_0) fp_12_285 rfl rfl dX12_lays_270 (fun H locs hW hS => ?_)
          obtain ⟨h143, e144, hF⟩ := nmx hF
          have hW := nmW e144 hW
          have g145 : h143.2.2 = h.2.2 := by rw [e144]; exact gj265
          refine lv_aload_n hx hb dX12_lays_273 rfl (lv_at hl 0 rfl) ?_
          refine lv_aload_n hx hb dX12_lays_274 rfl (lv_at hl 0 rfl) ?_
          obtain ⟨o146, e147, hF⟩ := bn hF
          refine r_getr X hW (gq g145 al_0) fl_12_85 e147 dX12_lays_275 (fun al148 => ?_)
          have al148 := qg g145 al148
          refine lv_iload_n hx hb dX12_lays_278 rfl (lv_at hl 1 rfl) ?_
          obtain ⟨x149, e150, hF⟩ := bn hF
          obtain ⟨b151, e150⟩ := ga_s e150
          refine r_iald X hW (gq g145 al148) rfl b151 dX12_lays_279 ?_
          refine nmi e150 ?_
          refine r_puti X hW hS (gq g145 al_0) fp_12_288 rfl rfl dX12_lays_280 (fun H locs hW hS => ?_)
          obtain ⟨h152, e153, hF⟩ := nmx hF
          have hW := nmW e153 hW
          have g154 : h152.2.2 = h.2.2 := by rw [e153]; exact g145
          obtain ⟨x155, e156, hF⟩ := nmx hF
          refine lv_iinc (v := x155) (lv' := [(1, .int x155), (0, .ref (φ 12 i0))]) hx hb dX12_lays_283 hl (k := 1) rfl (by rw [e156]; rfl) (by decide) rfl (fun ls hl => ?_)
          refine lv_goto (tgt := 208) hx hb dX12_lays_286 (by decide) ?_
          obtain rfl := sj hF
          exact hK _ _ _ (wdW (sq g154 g136) hW) hS (lv_sub hl [1, 0] rfl)
        refine lv_iload_n hx hb dX12_lays_208 rfl (lv_at hl 1 rfl) ?_
        refine lv_iconst (v := 1) hx hb dX12_lays_209 (by decide) ?_
        refine lv_aload_n hx hb dX12_lays_210 rfl (lv_at hl 0 rfl) ?_
        refine r_geti X hW (gq g139 al_0) fl_12_253 dX12_lays_211 ?_
        refine lv_ishl hx hb dX12_lays_214 ?_
        refine lv_icmp_ge (tgt := 289) hx hb dX12_lays_215 (by decide) (fun c183 => ?_) (fun c183 => ?_)
        · have hF := it c183 hF
          obtain rfl := sj hF
          exact hK _ _ _ (wdW (sq g139 g136) hW) hS (lv_sub hl [] rfl)
        · have hF := ie c183 hF
          refine lv_aload_n hx hb dX12_lays_218 rfl (lv_at hl 0 rfl) ?_
          obtain ⟨o157, e158, hF⟩ := bn hF
          refine r_getr X hW (gq g139 al_0) fl_12_85 e158 dX12_lays_219 (fun al159 => ?_)
          have al159 := qg g139 al159
          refine lv_iload_n hx hb dX12_lays_222 rfl (lv_at hl 1 rfl) ?_
          obtain ⟨x160, e161, hF⟩ := bn hF
          obtain ⟨b162, e161⟩ := ga_s e161
          refine r_iald X hW (gq g139 al159) rfl b162 dX12_lays_223 ?_
          refine nmi e161 ?_
          refine lv_ldcw (v := 1000000000) hx hb X.2.2.2.1 (X.2.2.2.2.1 _ (AL_of 1395 (by decide +kernel) rfl)) dX12_lays_224 ?_
          refine lv_icmp_ge (tgt := 283) hx hb dX12_lays_227 (by decide) (fun c182 => ?_) (fun c182 => ?_)
          · have hF := it c182 hF
            obtain ⟨x163, e164, hF⟩ := nmx hF
            refine lv_iinc (v := x163) (lv' := [(1, .int x163), (0, .ref (φ 12 i0))]) hx hb dX12_lays_283 hl (k := 1) rfl (by rw [e164]; rfl) (by decide) rfl (fun ls hl => ?_)
            refine lv_goto (tgt := 208) hx hb dX12_lays_286 (by decide) ?_
            obtain rfl := sj hF
            exact hK _ _ _ (wdW (sq g139 g136) hW) hS (lv_sub hl [1, 0] rfl)
          · have hF := ie c182 hF
            refine lv_iload_n hx hb dX12_lays_230 rfl (lv_at hl 1 rfl) ?_
            obtain ⟨x166, e165, hF⟩ := bn hF
            refine rc_i (Af := fun φ => [.int x137]) X hW hS ⟨Nat.zero_le _, Nat.zero_le _⟩ (rn_S (As := [.int x137]) (rest := []) X hW hS cw_12_272 ⟨Nat.le_of_ble_eq_true rfl, Nat.le_of_ble_eq_true rfl⟩ rfl hl.1 rfl (Nat.le_of_ble_eq_true rfl) dX12_lays_231) (ok_X12_ones x137 e165) (fun H locs hW hS => ?_)
            refine lv_aload_n hx hb dX12_lays_234 rfl (lv_at hl 0 rfl) ?_
            refine r_geti X hW (gq g139 al_0) fl_12_285 dX12_lays_235 ?_
            refine lv_icmp_gt (tgt := 265) hx hb dX12_lays_238 (by decide) (fun c181 => ?_) (fun c181 => ?_)
            · have hF := it c181 hF
              exact j_265 x137 h138 _ _ _ g139 hF hW hS (lv_sub hl [0, 1] rfl)
            · have hF := ie c181 hF
              refine lv_iload_n hx hb dX12_lays_241 rfl (lv_at hl 1 rfl) ?_
              obtain ⟨x168, e167, hF⟩ := bn hF
              refine rc_i (Af := fun φ => [.int x137]) X hW hS ⟨Nat.zero_le _, Nat.zero_le _⟩ (rn_S (As := [.int x137]) (rest := []) X hW hS cw_12_272 ⟨Nat.le_of_ble_eq_true rfl, Nat.le_of_ble_eq_true rfl⟩ rfl hl.1 rfl (Nat.le_of_ble_eq_true rfl) dX12_lays_242) (ok_X12_ones x137 e167) (fun H locs hW hS => ?_)
              refine lv_aload_n hx hb dX12_lays_245 rfl (lv_at hl 0 rfl) ?_
              refine r_geti X hW (gq g139 al_0) fl_12_285 dX12_lays_246 ?_
              refine lv_icmp_ne (tgt := 283) hx hb dX12_lays_249 (by decide) (fun c180 => ?_) (fun c180 => ?_)
              · have hF := ie c180 hF
                obtain ⟨x169, e170, hF⟩ := nmx hF
                refine lv_iinc (v := x169) (lv' := [(1, .int x169), (0, .ref (φ 12 i0))]) hx hb dX12_lays_283 hl (k := 1) rfl (by rw [e170]; rfl) (by decide) rfl (fun ls hl => ?_)
                refine lv_goto (tgt := 208) hx hb dX12_lays_286 (by decide) ?_
                obtain rfl := sj hF
                exact hK _ _ _ (wdW (sq g139 g136) hW) hS (lv_sub hl [1, 0] rfl)
              · have hF := it c180 hF
                refine lv_aload_n hx hb dX12_lays_252 rfl (lv_at hl 0 rfl) ?_
                obtain ⟨o171, e172, hF⟩ := bn hF
                refine r_getr X hW (gq g139 al_0) fl_12_85 e172 dX12_lays_253 (fun al173 => ?_)
                have al173 := qg g139 al173
                refine lv_iload_n hx hb dX12_lays_256 rfl (lv_at hl 1 rfl) ?_
                obtain ⟨x174, e175, hF⟩ := bn hF
                obtain ⟨b176, e175⟩ := ga_s e175
                refine r_iald X hW (gq g139 al173) rfl b176 dX12_lays_257 ?_
                refine nmi e175 ?_
                refine lv_aload_n hx hb dX12_lays_258 rfl (lv_at hl 0 rfl) ?_
                refine r_geti X hW (gq g139 al_0) fl_12_288 dX12_lays_259 ?_
                refine lv_icmp_ge (tgt := 283) hx hb dX12_lays_262 (by decide) (fun c179 => ?_) (fun c179 => ?_)
                · have hF := it c179 hF
                  obtain ⟨x177, e178, hF⟩ := nmx hF
                  refine lv_iinc (v := x177) (lv' := [(1, .int x177), (0, .ref (φ 12 i0))]) hx hb dX12_lays_283 hl (k := 1) rfl (by rw [e178]; rfl) (by decide) rfl (fun ls hl => ?_)
                  refine lv_goto (tgt := 208) hx hb dX12_lays_286 (by decide) ?_
                  obtain rfl := sj hF
                  exact hK _ _ _ (wdW (sq g139 g136) hW) hS (lv_sub hl [1, 0] rfl)
                · have hF := ie c179 hF
                  exact j_265 x137 h138 _ _ _ g139 hF hW hS (lv_sub hl [0, 1] rfl)
      · intro H locs ls hW hS hl
        obtain ⟨d187, rfl⟩ : ∃ z, z = q184 := ⟨_, rfl⟩
        obtain ⟨h188, e190, hF⟩ := nmx hF
        have hW := nmW e190 hW
        have g189 : h188.2.2 = h.2.2 := by rw [e190]; exact g136
        have hl : lv_has ls 5 [] := hl
        obtain rfl := sj hF
        exact hfin _ _ _ _ (wdW g189 hW) hS dX12_lays_289
