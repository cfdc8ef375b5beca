def B_X3_ownerOf_10 (i0 : Nat) (a1 : Int32) (a2 : Int32) (h : HP) (q : Int32 × Int32 × Int32) : Option ((Int32 × Int32 × Int32) ⊕ (Int32)) :=
  u3 q fun x1 x2 x3 =>
  (if (gi h 3 i0 5) ≤ x3 then
  some (.inr x1)
  else
  (F_X3_isTold i0 x3 a1 a2 h).bind fun x5 =>
  (if x5 = 0 then
  nm (x3 + 1) fun x6 =>
  some (.inl (x1, x2, x6))
  else
  (gr h 3 i0 4).bind fun o8 =>
  (gr h 3 i0 2).bind fun o11 =>
  (ga h 26 o11 30 x3).bind fun x14 =>
  (ga h 28 o8 5 x14).bind fun x17 =>
  (if x2 ≤ x17 then
  (if x17 = x2 then
  (gr h 3 i0 0).bind fun o22 =>
  (ga h 24 o22 30 x3).bind fun x25 =>
  (if x1 = x25 then
  nm (x3 + 1) fun x28 =>
  some (.inl (x1, x2, x28))
  else
  nm (x3 + 1) fun x30 =>
  some (.inl ((-1), x2, x30)))
  else
  nm (x3 + 1) fun x20 =>
  some (.inl (x1, x2, x20)))
  else
  (gr h 3 i0 0).bind fun o34 =>
  (ga h 24 o34 30 x3).bind fun x37 =>
  nm (x3 + 1) fun x40 =>
  some (.inl (x37, x17, x40)))))
def F_X3_ownerOf (i0 : Nat) (a1 : Int32) (a2 : Int32) (h : HP) : Option (Int32) :=
  (loopN LF (B_X3_ownerOf_10 i0 a1 a2 h) ((-3), 10, 0)).bind fun x47 =>
  some x47
set_option maxHeartbeats 4000000 in
set_option maxRecDepth 100000 in
theorem ok_X3_ownerOf {l : Launch} {D : va_G} {cA : Nat → ClassId} {h : HP} {r : Int32}  (i0 : Nat) (a1 : Int32) (a2 : Int32) (al_0 : i0 < gn h 3) (hF : F_X3_ownerOf i0 a1 a2 h = some r) : MI l D cA yX3_ownerOf cX3_ownerOf 7 (some .int) 1 23 (fun φ => [.ref (φ 3 i0), .int a1, .int a2]) h r h := by
  refine mk_I (plainFor_of_name (by decide)) (fun φ => Nat.le_of_ble_eq_true rfl) ?_
  intro p e s m args below meth c ls φ A Q X hW hS hl hfin
  have hx := X.1
  have hb := X.2.1
  have hl : lv_has ls 7 [(0, .ref (φ 3 i0)), (1, .int a1), (2, .int a2)] := hl
  unfold F_X3_ownerOf at hF
  refine lv_bipush (v := (-3)) hx hb dX3_ownerOf_0 (by decide) ?_
  refine lv_istore_n (lv' := [(3, .int (-3)), (0, .ref (φ 3 i0)), (1, .int a1), (2, .int a2)]) hx hb dX3_ownerOf_2 rfl hl (by decide) rfl (fun ls hl => ?_)
  refine lv_bipush (v := 10) hx hb dX3_ownerOf_3 (by decide) ?_
  refine lv_istore (lv' := [(4, .int 10), (3, .int (-3)), (0, .ref (φ 3 i0)), (1, .int a1), (2, .int a2)]) hx hb dX3_ownerOf_5 hl (by decide) rfl (fun ls hl => ?_)
  refine lv_iconst (v := 0) hx hb dX3_ownerOf_7 (by decide) ?_
  refine lv_istore (lv' := [(5, .int 0), (4, .int 10), (3, .int (-3)), (0, .ref (φ 3 i0)), (1, .int a1), (2, .int a2)]) hx hb dX3_ownerOf_8 hl (by decide) rfl (fun ls hl => ?_)
  obtain ⟨q45, e46, hF⟩ := bn hF
  refine loop_w (f := B_X3_ownerOf_10 i0 a1 a2 h) (Z := fun q => ∀ (H : Heap) (locs : List Loc) (ls : Array Slot), HW D cA A φ h H → va_S A s.heap H locs → lv_has ls 7 [(0, .ref (φ 3 i0)), (1, .int a1), (2, .int a2), (3, .int (q.1)), (4, .int (q.2.1)), (5, .int (q.2.2))] → W p l e (rmo 1 23 0 0) s m args below meth c H locs 0 0 Q (F0 m 10 ls [])) (K := fun q => ∀ (H : Heap) (locs : List Loc) (ls : Array Slot), HW D cA A φ h H → va_S A s.heap H locs → lv_has ls 7 [(3, .int q)] → W p l e (rmo 1 23 0 0) s m args below meth c H locs 0 0 Q (F0 m 92 ls [])) ?_ LF _ q45 e46 ?_ _ _ _ hW hS (lv_sub hl [3, 4, 5, 2, 1, 0] rfl)
  · intro q v hF hK H locs ls hW hS hl
    obtain ⟨x1, x2, x3⟩ := q
    unfold B_X3_ownerOf_10 at hF
    have hF := u3d hF
    have hl : lv_has ls 7 [(0, .ref (φ 3 i0)), (1, .int a1), (2, .int a2), (3, .int x1), (4, .int x2), (5, .int x3)] := hl
    refine lv_iload hx hb dX3_ownerOf_10 (lv_at hl 5 rfl) ?_
    refine lv_aload_n hx hb dX3_ownerOf_12 rfl (lv_at hl 0 rfl) ?_
    refine r_geti X hW al_0 fl_3_27 dX3_ownerOf_13 ?_
    refine lv_icmp_ge (tgt := 92) hx hb dX3_ownerOf_16 (by decide) (fun c44 => ?_) (fun c44 => ?_)
    · have hF := it c44 hF
      obtain rfl := sj hF
      exact hK _ _ _ hW hS (lv_sub hl [3] rfl)
    · have hF := ie c44 hF
      refine lv_aload_n hx hb dX3_ownerOf_19 rfl (lv_at hl 0 rfl) ?_
      refine lv_iload hx hb dX3_ownerOf_20 (lv_at hl 5 rfl) ?_
      refine lv_iload_n hx hb dX3_ownerOf_22 rfl (lv_at hl 1 rfl) ?_
      refine lv_iload_n hx hb dX3_ownerOf_23 rfl (lv_at hl 2 rfl) ?_
      obtain ⟨x5, e4, hF⟩ := bn hF
      refine rc_i (Af := fun φ => [.ref (φ 3 i0), .int x3, .int a1, .int a2]) X hW hS ⟨Nat.zero_le _, Nat.zero_le _⟩ (rn_V (As := [.int x3, .int a1, .int a2]) (rest := []) X hW hS cw_3_31 al_0 rfl rfl rfl ⟨Nat.le_of_ble_eq_true rfl, Nat.le_of_ble_eq_true rfl⟩ rfl hl.1 rfl (Nat.le_of_ble_eq_true rfl) dX3_ownerOf_24) (ok_X3_isTold i0 x3 a1 a2 al_0 e4) (fun H locs hW hS => ?_)
      refine lv_if_eq (tgt := 86) hx hb dX3_ownerOf_27 (by decide) (fun c43 => ?_) (fun c43 => ?_)
      · have hF := it c43 hF
        obtain ⟨x6, e7, hF⟩ := nmx hF
        refine lv_iinc (v := x6) (lv' := [(5, .int x6), (0, .ref (φ 3 i0)), (1, .int a1), (2, .int a2), (3, .int x1), (4, .int x2)]) hx hb dX3_ownerOf_86 hl (k := 5) rfl (by rw [e7]; rfl) (by decide) rfl (fun ls hl => ?_)
        refine lv_goto (tgt := 10) hx hb dX3_ownerOf_89 (by decide) ?_
        obtain rfl := sj hF
        exact hK _ _ _ hW hS (lv_sub hl [1, 2, 3, 4, 5, 0] rfl)
      · have hF := ie c43 hF
        refine lv_aload_n hx hb dX3_ownerOf_30 rfl (lv_at hl 0 rfl) ?_
        obtain ⟨o8, e9, hF⟩ := bn hF
        refine r_getr X hW al_0 fl_3_24 e9 dX3_ownerOf_31 (fun al10 => ?_)
        refine lv_aload_n hx hb dX3_ownerOf_34 rfl (lv_at hl 0 rfl) ?_
        obtain ⟨o11, e12, hF⟩ := bn hF
        refine r_getr X hW al_0 fl_3_18 e12 dX3_ownerOf_35 (fun al13 => ?_)
        refine lv_iload hx hb dX3_ownerOf_38 (lv_at hl 5 rfl) ?_
        obtain ⟨x14, e15, hF⟩ := bn hF
        obtain ⟨b16, e15⟩ := ga_s e15
        refine r_iald X hW al13 rfl b16 dX3_ownerOf_40 ?_
        refine nmi e15 ?_
        obtain ⟨x17, e18, hF⟩ := bn hF
        obtain ⟨b19, e18⟩ := ga_s e18
        refine r_iald X hW al10 rfl b19 dX3_ownerOf_41 ?_
        refine nmi e18 ?_
        refine lv_istore (lv' := [(6, .int x17), (0, .ref (φ 3 i0)), (1, .int a1), (2, .int a2), (3, .int x1), (4, .int x2), (5, .int x3)]) hx hb dX3_ownerOf_42 hl (by decide) rfl (fun ls hl => ?_)
        refine lv_iload hx hb dX3_ownerOf_44 (lv_at hl 0 rfl) ?_
        refine lv_iload hx hb dX3_ownerOf_46 (lv_at hl 5 rfl) ?_
        refine lv_icmp_ge (tgt := 66) hx hb dX3_ownerOf_48 (by decide) (fun c42 => ?_) (fun c42 => ?_)
        · have hF := it c42 hF
          refine lv_iload hx hb dX3_ownerOf_66 (lv_at hl 0 rfl) ?_
          refine lv_iload hx hb dX3_ownerOf_68 (lv_at hl 5 rfl) ?_
          refine lv_icmp_ne (tgt := 86) hx hb dX3_ownerOf_70 (by decide) (fun c33 => ?_) (fun c33 => ?_)
          · have hF := ie c33 hF
            obtain ⟨x20, e21, hF⟩ := nmx hF
            refine lv_iinc (v := x20) (lv' := [(5, .int x20), (6, .int x17), (0, .ref (φ 3 i0)), (1, .int a1), (2, .int a2), (3, .int x1), (4, .int x2)]) hx hb dX3_ownerOf_86 hl (k := 6) rfl (by rw [e21]; rfl) (by decide) rfl (fun ls hl => ?_)
            refine lv_goto (tgt := 10) hx hb dX3_ownerOf_89 (by decide) ?_
            obtain rfl := sj hF
            exact hK _ _ _ hW hS (lv_sub hl [2, 3, 4, 5, 6, 0] rfl)
          · have hF := it c33 hF
            refine lv_iload_n hx hb dX3_ownerOf_73 rfl (lv_at hl 4 rfl) ?_
            refine lv_aload_n hx hb dX3_ownerOf_74 rfl (lv_at hl 1 rfl) ?_
            obtain ⟨o22, e23, hF⟩ := bn hF
            refine r_getr X hW al_0 fl_3_9 e23 dX3_ownerOf_75 (fun al24 => ?_)
            refine lv_iload hx hb dX3_ownerOf_78 (lv_at hl 6 rfl) ?_
            obtain ⟨x25, e26, hF⟩ := bn hF
            obtain ⟨b27, e26⟩ := ga_s e26
            refine r_iald X hW al24 rfl b27 dX3_ownerOf_80 ?_
            refine nmi e26 ?_
            refine lv_icmp_eq (tgt := 86) hx hb dX3_ownerOf_81 (by decide) (fun c32 => ?_) (fun c32 => ?_)
            · have hF := it c32 hF
              obtain ⟨x28, e29, hF⟩ := nmx hF
              refine lv_iinc (v := x28) (lv' := [(5, .int x28), (6, .int x17), (0, .ref (φ 3 i0)), (1, .int a1), (2, .int a2), (3, .int x1), (4, .int x2)]) hx hb dX3_ownerOf_86 hl (k := 6) rfl (by rw [e29]; rfl) (by decide) rfl (fun ls hl => ?_)
              refine lv_goto (tgt := 10) hx hb dX3_ownerOf_89 (by decide) ?_
              obtain rfl := sj hF
              exact hK _ _ _ hW hS (lv_sub hl [2, 3, 4, 5, 6, 0] rfl)
            · have hF := ie c32 hF
              refine lv_iconst (v := (-1)) hx hb dX3_ownerOf_84 (by decide) ?_
              refine lv_istore_n (lv' := [(3, .int (-1)), (6, .int x17), (0, .ref (φ 3 i0)), (1, .int a1), (2, .int a2), (4, .int x2), (5, .int x3)]) hx hb dX3_ownerOf_85 rfl hl (by decide) rfl (fun ls hl => ?_)
              obtain ⟨x30, e31, hF⟩ := nmx hF
              refine lv_iinc (v := x30) (lv' := [(5, .int x30), (3, .int (-1)), (6, .int x17), (0, .ref (φ 3 i0)), (1, .int a1), (2, .int a2), (4, .int x2)]) hx hb dX3_ownerOf_86 hl (k := 6) rfl (by rw [e31]; rfl) (by decide) rfl (fun ls hl => ?_)
              refine lv_goto (tgt := 10) hx hb dX3_ownerOf_89 (by decide) ?_
              obtain rfl := sj hF
              exact hK _ _ _ hW hS (lv_sub hl [3, 4, 5, 1, 6, 0] rfl)
        · have hF := ie c42 hF
          refine lv_iload hx hb dX3_ownerOf_51 (lv_at hl 0 rfl) ?_
          refine lv_istore (lv' := [(4, .int x17), (6, .int x17), (0, .ref (φ 3 i0)), (1, .int a1), (2, .int a2), (3, .int x1), (5, .int x3)]) hx hb dX3_ownerOf_53 hl (by decide) rfl (fun ls hl => ?_)
          refine lv_aload_n hx hb dX3_ownerOf_55 rfl (lv_at hl 2 rfl) ?_
          obtain ⟨o34, e35, hF⟩ := bn hF
          refine r_getr X hW al_0 fl_3_9 e35 dX3_ownerOf_56 (fun al36 => ?_)
          refine lv_iload hx hb dX3_ownerOf_59 (lv_at hl 6 rfl) ?_
          obtain ⟨x37, e38, hF⟩ := bn hF
          obtain ⟨b39, e38⟩ := ga_s e38
          refine r_iald X hW al36 rfl b39 dX3_ownerOf_61 ?_
          refine nmi e38 ?_
          refine lv_istore_n (lv' := [(3, .int x37), (4, .int x17), (6, .int x17), (0, .ref (φ 3 i0)), (1, .int a1), (2, .int a2), (5, .int x3)]) hx hb dX3_ownerOf_62 rfl hl (by decide) rfl (fun ls hl => ?_)
          refine lv_goto (tgt := 86) hx hb dX3_ownerOf_63 (by decide) ?_
          obtain ⟨x40, e41, hF⟩ := nmx hF
          refine lv_iinc (v := x40) (lv' := [(5, .int x40), (3, .int x37), (4, .int x17), (6, .int x17), (0, .ref (φ 3 i0)), (1, .int a1), (2, .int a2)]) hx hb dX3_ownerOf_86 hl (k := 6) rfl (by rw [e41]; rfl) (by decide) rfl (fun ls hl => ?_)
          refine lv_goto (tgt := 10) hx hb dX3_ownerOf_89 (by decide) ?_
          obtain rfl := sj hF
          exact hK _ _ _ hW hS (lv_sub hl [4, 5, 6, 1, 2, 0] rfl)
  · intro H locs ls hW hS hl
    obtain ⟨x47, rfl⟩ : ∃ z, z = q45 := ⟨_, rfl⟩
    have hl : lv_has ls 7 [(3, .int x47)] := hl
    refine lv_iload_n hx hb dX3_ownerOf_92 rfl (lv_at hl 0 rfl) ?_
    obtain rfl := sj hF
    exact hfin _ _ _ _ hW hS dX3_ownerOf_93
def F_X11_whose (i0 : Nat) (a1 : Int32) (a2 : Int32) (h : HP) : Option (Int32) :=
  (gr h 11 i0 3).bind fun o1 =>
  (F_X2_has o1 a1 h).bind fun x5 =>
  (if x5 = 0 then
  some (-2)
  else
  (F_X11_isWeek a2).bind fun x7 =>
  (if x7 = 0 then
  some (-2)
  else
  (gr h 11 i0 13).bind fun o8 =>
  (F_X3_ownerOf o8 a1 a2 h).bind fun x12 =>
  some x12))
set_option maxHeartbeats 4000000 in
set_option maxRecDepth 100000 in
theorem ok_X11_whose {l : Launch} {D : va_G} {cA : Nat → ClassId} {h : HP} {r : Int32}  (i0 : Nat) (a1 : Int32) (a2 : Int32) (al_0 : i0 < gn h 11) (hF : F_X11_whose i0 a1 a2 h = some r) : MI l D cA yX11_whose cX11_whose 3 (some .int) 2 49 (fun φ => [.ref (φ 11 i0), .int a1, .int a2]) h r h := by
  refine mk_I (plainFor_of_name (by decide)) (fun φ => Nat.le_of_ble_eq_true rfl) ?_
  intro p e s m args below meth c ls φ A Q X hW hS hl hfin
  have hx := X.1
  have hb := X.2.1
  have hl : lv_has ls 3 [(0, .ref (φ 11 i0)), (1, .int a1), (2, .int a2)] := hl
  unfold F_X11_whose at hF
  refine lv_aload_n hx hb dX11_whose_0 rfl (lv_at hl 0 rfl) ?_
  obtain ⟨o1, e2, hF⟩ := bn hF
  refine r_getr X hW al_0 fl_11_16 e2 dX11_whose_1 (fun al3 => ?_)
  refine lv_iload_n hx hb dX11_whose_4 rfl (lv_at hl 1 rfl) ?_
  obtain ⟨x5, e4, hF⟩ := bn hF
  refine rc_i (Af := fun φ => [.ref (φ 2 o1), .int a1]) X hW hS ⟨Nat.zero_le _, Nat.zero_le _⟩ (rn_V (As := [.int a1]) (rest := []) X hW hS cw_11_137 al3 rfl rfl rfl ⟨Nat.le_of_ble_eq_true rfl, Nat.le_of_ble_eq_true rfl⟩ rfl hl.1 rfl (Nat.le_of_ble_eq_true rfl) dX11_whose_5) (ok_X2_has o1 a1 al3 e4) (fun H locs hW hS => ?_)
  refine lv_if_eq (tgt := 18) hx hb dX11_whose_8 (by decide) (fun c14 => ?_) (fun c14 => ?_)
  · have hF := it c14 hF
    refine lv_bipush (v := (-2)) hx hb dX11_whose_18 (by decide) ?_
    obtain rfl := sj hF
    exact hfin _ _ _ _ hW hS dX11_whose_20
  · have hF := ie c14 hF
    refine lv_iload_n hx hb dX11_whose_11 rfl (lv_at hl 2 rfl) ?_
    obtain ⟨x7, e6, hF⟩ := bn hF
    refine rc_i (Af := fun φ => [.int a2]) X hW hS ⟨Nat.zero_le _, Nat.zero_le _⟩ (rn_S (As := [.int a2]) (rest := []) X hW hS cw_11_199 ⟨Nat.le_of_ble_eq_true rfl, Nat.le_of_ble_eq_true rfl⟩ rfl hl.1 rfl (Nat.le_of_ble_eq_true rfl) dX11_whose_12) (ok_X11_isWeek a2 e6) (fun H locs hW hS => ?_)
    refine lv_if_ne (tgt := 21) hx hb dX11_whose_15 (by decide) (fun c13 => ?_) (fun c13 => ?_)
    · have hF := ie c13 hF
      refine lv_aload_n hx hb dX11_whose_21 rfl (lv_at hl 0 rfl) ?_
      obtain ⟨o8, e9, hF⟩ := bn hF
      refine r_getr X hW al_0 fl_11_70 e9 dX11_whose_22 (fun al10 => ?_)
      refine lv_iload_n hx hb dX11_whose_25 rfl (lv_at hl 1 rfl) ?_
      refine lv_iload_n hx hb dX11_whose_26 rfl (lv_at hl 2 rfl) ?_
      obtain ⟨x12, e11, hF⟩ := bn hF
      refine rc_i (Af := fun φ => [.ref (φ 3 o8), .int a1, .int a2]) X hW hS ⟨Nat.zero_le _, Nat.zero_le _⟩ (rn_V (As := [.int a1, .int a2]) (rest := []) X hW hS cw_11_342 al10 rfl rfl rfl ⟨Nat.le_of_ble_eq_true rfl, Nat.le_of_ble_eq_true rfl⟩ rfl hl.1 rfl (Nat.le_of_ble_eq_true rfl) dX11_whose_27) (ok_X3_ownerOf o8 a1 a2 al10 e11) (fun H locs hW hS => ?_)
      obtain rfl := sj hF
      exact hfin _ _ _ _ hW hS dX11_whose_30
    · have hF := it c13 hF
      refine lv_bipush (v := (-2)) hx hb dX11_whose_18 (by decide) ?_
      obtain rfl := sj hF
      exact hfin _ _ _ _ hW hS dX11_whose_20
def B_X3_landCount_6 (i0 : Nat) (a1 : Int32) (a2 : Int32) (i3 : Nat) (h : HP) (q : Int32 × Int32) : Option ((Int32 × Int32) ⊕ (Int32)) :=
  u2 q fun x1 x2 =>
  (if (gi h 3 i0 5) ≤ x2 then
  some (.inr x1)
  else
  (F_X3_isTold i0 x2 a1 a2 h).bind fun x4 =>
  (if x4 = 0 then
  nm (x2 + 1) fun x5 =>
  some (.inl (x1, x5))
  else
  (gr h 3 i0 0).bind fun o7 =>
  (ga h 24 o7 30 x2).bind fun x10 =>
  (ga h 41 i3 8 x10).bind fun x13 =>
  nm ((x1 ||| (1 <<< (x13 &&& 31)))) fun x16 =>
  nm (x2 + 1) fun x18 =>
  some (.inl (x16, x18))))
def F_X3_landCount (i0 : Nat) (a1 : Int32) (a2 : Int32) (i3 : Nat) (h : HP) : Option (Int32) :=
  (loopN LF (B_X3_landCount_6 i0 a1 a2 i3 h) (0, 0)).bind fun x24 =>
  (F_J_bitCount x24).bind fun x26 =>
  some x26
set_option maxHeartbeats 4000000 in
set_option maxRecDepth 100000 in
theorem ok_X3_landCount {l : Launch} {D : va_G} {cA : Nat → ClassId} {h : HP} {r : Int32}  (i0 : Nat) (a1 : Int32) (a2 : Int32) (i3 : Nat) (al_0 : i0 < gn h 3) (al_3 : i3 < gn h 41) (hF : F_X3_landCount i0 a1 a2 i3 h = some r) : MI l D cA yX3_landCount cX3_landCount 6 (some .int) 1 23 (fun φ => [.ref (φ 3 i0), .int a1, .int a2, .ref (φ 41 i3)]) h r h := by
  refine mk_I (plainFor_of_name (by decide)) (fun φ => Nat.le_of_ble_eq_true rfl) ?_
  intro p e s m args below meth c ls φ A Q X hW hS hl hfin
  have hx := X.1
  have hb := X.2.1
  have hl : lv_has ls 6 [(0, .ref (φ 3 i0)), (1, .int a1), (2, .int a2), (3, .ref (φ 41 i3))] := hl
  unfold F_X3_landCount at hF
  refine lv_iconst (v := 0) hx hb dX3_landCount_0 (by decide) ?_
  refine lv_istore (lv' := [(4, .int 0), (0, .ref (φ 3 i0)), (1, .int a1), (2, .int a2), (3, .ref (φ 41 i3))]) hx hb dX3_landCount_1 hl (by decide) rfl (fun ls hl => ?_)
  refine lv_iconst (v := 0) hx hb dX3_landCount_3 (by decide) ?_
  refine lv_istore (lv' := [(5, .int 0), (4, .int 0), (0, .ref (φ 3 i0)), (1, .int a1), (2, .int a2), (3, .ref (φ 41 i3))]) hx hb dX3_landCount_4 hl (by decide) rfl (fun ls hl => ?_)
  obtain ⟨q22, e23, hF⟩ := bn hF
  refine loop_w (f := B_X3_landCount_6 i0 a1 a2 i3 h) (Z := fun q => ∀ (H : Heap) (locs : List Loc) (ls : Array Slot), HW D cA A φ h H → va_S A s.heap H locs → lv_has ls 6 [(0, .ref (φ 3 i0)), (1, .int a1), (2, .int a2), (3, .ref (φ 41 i3)), (4, .int (q.1)), (5, .int (q.2))] → W p l e (rmo 1 23 0 0) s m args below meth c H locs 0 0 Q (F0 m 6 ls [])) (K := fun q => ∀ (H : Heap) (locs : List Loc) (ls : Array Slot), HW D cA A φ h H → va_S A s.heap H locs → lv_has ls 6 [(4, .int q)] → W p l e (rmo 1 23 0 0) s m args below meth c H locs 0 0 Q (F0 m 48 ls [])) ?_ LF _ q22 e23 ?_ _ _ _ hW hS (lv_sub hl [2, 3, 4, 5, 1, 0] rfl)
  · intro q v hF hK H locs ls hW hS hl
    obtain ⟨x1, x2⟩ := q
    unfold B_X3_landCount_6 at hF
    have hF := u2d hF
    have hl : lv_has ls 6 [(0, .ref (φ 3 i0)), (1, .int a1), (2, .int a2), (3, .ref (φ 41 i3)), (4, .int x1), (5, .int x2)] := hl
    refine lv_iload hx hb dX3_landCount_6 (lv_at hl 5 rfl) ?_
    refine lv_aload_n hx hb dX3_landCount_8 rfl (lv_at hl 0 rfl) ?_
    refine r_geti X hW al_0 fl_3_27 dX3_landCount_9 ?_
    refine lv_icmp_ge (tgt := 48) hx hb dX3_landCount_12 (by decide) (fun c21 => ?_) (fun c21 => ?_)
    · have hF := it c21 hF
      obtain rfl := sj hF
      exact hK _ _ _ hW hS (lv_sub hl [4] rfl)
    · have hF := ie c21 hF
      refine lv_aload_n hx hb dX3_landCount_15 rfl (lv_at hl 0 rfl) ?_
      refine lv_iload hx hb dX3_landCount_16 (lv_at hl 5 rfl) ?_
      refine lv_iload_n hx hb dX3_landCount_18 rfl (lv_at hl 1 rfl) ?_
      refine lv_iload_n hx hb dX3_landCount_19 rfl (lv_at hl 2 rfl) ?_
      obtain ⟨x4, e3, hF⟩ := bn hF
      refine rc_i (Af := fun φ => [.ref (φ 3 i0), .int x2, .int a1, .int a2]) X hW hS ⟨Nat.zero_le _, Nat.zero_le _⟩ (rn_V (As := [.int x2, .int a1, .int a2]) (rest := []) X hW hS cw_3_31 al_0 rfl rfl rfl ⟨Nat.le_of_ble_eq_true rfl, Nat.le_of_ble_eq_true rfl⟩ rfl hl.1 rfl (Nat.le_of_ble_eq_true rfl) dX3_landCount_20) (ok_X3_isTold i0 x2 a1 a2 al_0 e3) (fun H locs hW hS => ?_)
      refine lv_if_eq (tgt := 42) hx hb dX3_landCount_23 (by decide) (fun c20 => ?_) (fun c20 => ?_)
      · have hF := it c20 hF
        obtain ⟨x5, e6, hF⟩ := nmx hF
        refine lv_iinc (v := x5) (lv' := [(5, .int x5), (0, .ref (φ 3 i0)), (1, .int a1), (2, .int a2), (3, .ref (φ 41 i3)), (4, .int x1)]) hx hb dX3_landCount_42 hl (k := 5) rfl (by rw [e6]; rfl) (by decide) rfl (fun ls hl => ?_)
        refine lv_goto (tgt := 6) hx hb dX3_landCount_45 (by decide) ?_
        obtain rfl := sj hF
        exact hK _ _ _ hW hS (lv_sub hl [1, 2, 3, 4, 5, 0] rfl)
      · have hF := ie c20 hF
        refine lv_iload hx hb dX3_landCount_26 (lv_at hl 4 rfl) ?_
        refine lv_iconst (v := 1) hx hb dX3_landCount_28 (by decide) ?_
        refine lv_aload_n hx hb dX3_landCount_29 rfl (lv_at hl 3 rfl) ?_
        refine lv_aload_n hx hb dX3_landCount_30 rfl (lv_at hl 0 rfl) ?_
        obtain ⟨o7, e8, hF⟩ := bn hF
        refine r_getr X hW al_0 fl_3_9 e8 dX3_landCount_31 (fun al9 => ?_)
        refine lv_iload hx hb dX3_landCount_34 (lv_at hl 5 rfl) ?_
        obtain ⟨x10, e11, hF⟩ := bn hF
        obtain ⟨b12, e11⟩ := ga_s e11
        refine r_iald X hW al9 rfl b12 dX3_landCount_36 ?_
        refine nmi e11 ?_
        obtain ⟨x13, e14, hF⟩ := bn hF
        obtain ⟨b15, e14⟩ := ga_s e14
        refine r_iald X hW al_3 rfl b15 dX3_landCount_37 ?_
        refine nmi e14 ?_
        refine lv_ishl hx hb dX3_landCount_38 ?_
        refine lv_ior hx hb dX3_landCount_39 ?_
        obtain ⟨x16, e17, hF⟩ := nmx hF
        refine nmi e17 ?_
        refine lv_istore (lv' := [(4, .int x16), (0, .ref (φ 3 i0)), (1, .int a1), (2, .int a2), (3, .ref (φ 41 i3)), (5, .int x2)]) hx hb dX3_landCount_40 hl (by decide) rfl (fun ls hl => ?_)
        obtain ⟨x18, e19, hF⟩ := nmx hF
        refine lv_iinc (v := x18) (lv' := [(5, .int x18), (4, .int x16), (0, .ref (φ 3 i0)), (1, .int a1), (2, .int a2), (3, .ref (φ 41 i3))]) hx hb dX3_landCount_42 hl (k := 5) rfl (by rw [e19]; rfl) (by decide) rfl (fun ls hl => ?_)
        refine lv_goto (tgt := 6) hx hb dX3_landCount_45 (by decide) ?_
        obtain rfl := sj hF
        exact hK _ _ _ hW hS (lv_sub hl [2, 3, 4, 5, 1, 0] rfl)
  · intro H locs ls hW hS hl
    obtain ⟨x24, rfl⟩ : ∃ z, z = q22 := ⟨_, rfl⟩
    have hl : lv_has ls 6 [(4, .int x24)] := hl
    refine lv_iload hx hb dX3_landCount_48 (lv_at hl 0 rfl) ?_
    obtain ⟨x26, e25, hF⟩ := bn hF
    refine rc_i (Af := fun φ => [.int x24]) X hW hS ⟨Nat.zero_le _, Nat.zero_le _⟩ (rn_S (As := [.int x24]) (rest := []) X hW hS cw_3_35 ⟨Nat.le_of_ble_eq_true rfl, Nat.le_of_ble_eq_true rfl⟩ rfl hl.1 rfl (Nat.le_of_ble_eq_true rfl) dX3_landCount_50) (ok_J_bitCount x24 e25) (fun H locs hW hS => ?_)
    obtain rfl := sj hF
    exact hfin _ _ _ _ hW hS dX3_landCount_53
def F_X11_lands (i0 : Nat) (a1 : Int32) (a2 : Int32) (h : HP) : Option (Int32) :=
  (gr h 11 i0 3).bind fun o1 =>
  (F_X2_has o1 a1 h).bind fun x5 =>
  (if x5 = 0 then
  some (-2)
  else
  (F_X11_isWeek a2).bind fun x7 =>
  (if x7 = 0 then
  some (-2)
  else
  (gr h 11 i0 13).bind fun o8 =>
  (gr h 11 i0 1).bind fun o11 =>
  (F_X3_landCount o8 a1 a2 o11 h).bind fun x15 =>
  some x15))
set_option maxHeartbeats 4000000 in
set_option maxRecDepth 100000 in
theorem ok_X11_lands {l : Launch} {D : va_G} {cA : Nat → ClassId} {h : HP} {r : Int32}  (i0 : Nat) (a1 : Int32) (a2 : Int32) (al_0 : i0 < gn h 11) (hF : F_X11_lands i0 a1 a2 h = some r) : MI l D cA yX11_lands cX11_lands 3 (some .int) 2 48 (fun φ => [.ref (φ 11 i0), .int a1, .int a2]) h r h := by
  refine mk_I (plainFor_of_name (by decide)) (fun φ => Nat.le_of_ble_eq_true rfl) ?_
  intro p e s m args below meth c ls φ A Q X hW hS hl hfin
  have hx := X.1
  have hb := X.2.1
  have hl : lv_has ls 3 [(0, .ref (φ 11 i0)), (1, .int a1), (2, .int a2)] := hl
  unfold F_X11_lands at hF
  refine lv_aload_n hx hb dX11_lands_0 rfl (lv_at hl 0 rfl) ?_
  obtain ⟨o1, e2, hF⟩ := bn hF
  refine r_getr X hW al_0 fl_11_16 e2 dX11_lands_1 (fun al3 => ?_)
  refine lv_iload_n hx hb dX11_lands_4 rfl (lv_at hl 1 rfl) ?_
  obtain ⟨x5, e4, hF⟩ := bn hF
  refine rc_i (Af := fun φ => [.ref (φ 2 o1), .int a1]) X hW hS ⟨Nat.zero_le _, Nat.zero_le _⟩ (rn_V (As := [.int a1]) (rest := []) X hW hS cw_11_137 al3 rfl rfl rfl ⟨Nat.le_of_ble_eq_true rfl, Nat.le_of_ble_eq_true rfl⟩ rfl hl.1 rfl (Nat.le_of_ble_eq_true rfl) dX11_lands_5) (ok_X2_has o1 a1 al3 e4) (fun H locs hW hS => ?_)
  refine lv_if_eq (tgt := 18) hx hb dX11_lands_8 (by decide) (fun c17 => ?_) (fun c17 => ?_)
  · have hF := it c17 hF
    refine lv_bipush (v := (-2)) hx hb dX11_lands_18 (by decide) ?_
    obtain rfl := sj hF
    exact hfin _ _ _ _ hW hS dX11_lands_20
  · have hF := ie c17 hF
    refine lv_iload_n hx hb dX11_lands_11 rfl (lv_at hl 2 rfl) ?_
    obtain ⟨x7, e6, hF⟩ := bn hF
    refine rc_i (Af := fun φ => [.int a2]) X hW hS ⟨Nat.zero_le _, Nat.zero_le _⟩ (rn_S (As := [.int a2]) (rest := []) X hW hS cw_11_199 ⟨Nat.le_of_ble_eq_true rfl, Nat.le_of_ble_eq_true rfl⟩ rfl hl.1 rfl (Nat.le_of_ble_eq_true rfl) dX11_lands_12) (ok_X11_isWeek a2 e6) (fun H locs hW hS => ?_)
    refine lv_if_ne (tgt := 21) hx hb dX11_lands_15 (by decide) (fun c16 => ?_) (fun c16 => ?_)
    · have hF := ie c16 hF
      refine lv_aload_n hx hb dX11_lands_21 rfl (lv_at hl 0 rfl) ?_
      obtain ⟨o8, e9, hF⟩ := bn hF
      refine r_getr X hW al_0 fl_11_70 e9 dX11_lands_22 (fun al10 => ?_)
      refine lv_iload_n hx hb dX11_lands_25 rfl (lv_at hl 1 rfl) ?_
      refine lv_iload_n hx hb dX11_lands_26 rfl (lv_at hl 2 rfl) ?_
      refine lv_aload_n hx hb dX11_lands_27 rfl (lv_at hl 0 rfl) ?_
      obtain ⟨o11, e12, hF⟩ := bn hF
      refine r_getr X hW al_0 fl_11_9 e12 dX11_lands_28 (fun al13 => ?_)
      obtain ⟨x15, e14, hF⟩ := bn hF
      refine rc_i (Af := fun φ => [.ref (φ 3 o8), .int a1, .int a2, .ref (φ 41 o11)]) X hW hS ⟨Nat.zero_le _, Nat.zero_le _⟩ (rn_V (As := [.int a1, .int a2, .ref (φ 41 o11)]) (rest := []) X hW hS cw_11_346 al10 rfl rfl rfl ⟨Nat.le_of_ble_eq_true rfl, Nat.le_of_ble_eq_true rfl⟩ rfl hl.1 rfl (Nat.le_of_ble_eq_true rfl) dX11_lands_31) (ok_X3_landCount o8 a1 a2 o11 al10 al13 e14) (fun H locs hW hS => ?_)
      obtain rfl := sj hF
      exact hfin _ _ _ _ hW hS dX11_lands_34
    · have hF := it c16 hF
      refine lv_bipush (v := (-2)) hx hb dX11_lands_18 (by decide) ?_
      obtain rfl := sj hF
      exact hfin _ _ _ _ hW hS dX11_lands_20
def F_X11_isForm (a0 : Int32) : Option (Int32) :=
  (F_X11_isFrom a0 0 2).bind fun x2 =>
  (bz x2).bind fun x3 => some x3
set_option maxHeartbeats 4000000 in
set_option maxRecDepth 100000 in
theorem ok_X11_isForm {l : Launch} {D : va_G} {cA : Nat → ClassId} {h : HP} {r : Int32}  (a0 : Int32)  (hF : F_X11_isForm a0 = some r) : MI l D cA yX11_isForm cX11_isForm 1 (some .boolean) 1 22 (fun φ => [.int a0]) h r h := by
  refine mk_Z (plainFor_of_name (by decide)) (fun φ => Nat.le_of_ble_eq_true rfl) ?_
  intro p e s m args below meth c ls φ A Q X hW hS hl hfin
  have hx := X.1
  have hb := X.2.1
  have hl : lv_has ls 1 [(0, .int a0)] := hl
  unfold F_X11_isForm at hF
  refine lv_iload_n hx hb dX11_isForm_0 rfl (lv_at hl 0 rfl) ?_
  refine lv_iconst (v := 0) hx hb dX11_isForm_1 (by decide) ?_
  refine lv_iconst (v := 2) hx hb dX11_isForm_2 (by decide) ?_
  obtain ⟨x2, e1, hF⟩ := bn hF
  refine rc_i (Af := fun φ => [.int a0, .int 0, .int 2]) X hW hS ⟨Nat.zero_le _, Nat.zero_le _⟩ (rn_S (As := [.int a0, .int 0, .int 2]) (rest := []) X hW hS cw_11_81 ⟨Nat.le_of_ble_eq_true rfl, Nat.le_of_ble_eq_true rfl⟩ rfl hl.1 rfl (Nat.le_of_ble_eq_true rfl) dX11_isForm_3) (ok_X11_isFrom a0 0 2 e1) (fun H locs hW hS => ?_)
  obtain ⟨x3, e4, hF⟩ := bn hF
  obtain ⟨b5, e4⟩ := bz_s e4
  refine nmi e4 ?_
  rw [← e4] at b5
  obtain rfl := sj hF
  exact hfin _ _ _ _ hW hS b5 dX11_isForm_6
def B_J_fill_39_5 (i0 : Nat) (a1 : Int32) (h : HP) (q : Int32 × DP) : Option ((Int32 × DP) ⊕ (DP)) :=
  u2 q fun x1 d4 =>
  nm (wd h d4) fun h2 =>
  (if 60 ≤ x1 then
  some (.inr (dp h2))
  else
  (sa h2 39 i0 60 x1 a1).bind fun h5 =>
  nm (x1 + 1) fun x9 =>
  some (.inl (x9, (dp h5))))
def F_J_fill_39 (i0 : Nat) (a1 : Int32) (h : HP) : Option (DP) :=
  (loopN LF (B_J_fill_39_5 i0 a1 h) (0, (dp h))).bind fun d15 =>
  nm (wd h d15) fun h16 =>
  some (dp h16)
set_option maxHeartbeats 4000000 in
set_option maxRecDepth 100000 in
theorem ok_J_fill_39 {l : Launch} {D : va_G} {cA : Nat → ClassId} {h : HP}  {d : DP} (i0 : Nat) (a1 : Int32) (al_0 : i0 < gn h 39) (hF : F_J_fill_39 i0 a1 h = some d) : MV l D cA yJ_fill cJ_fill 4 none 0 0 (fun φ => [.ref (φ 39 i0), .int a1]) h (wd h d) := by
  refine mk_V (by decide +kernel) (fun φ => Nat.le_of_ble_eq_true rfl) ?_
  intro p e s m args below meth c ls φ A Q X hW hS hl hfin
  have hx := X.1
  have hb := X.2.1
  have hl : lv_has ls 4 [(0, .ref (φ 39 i0)), (1, .int a1)] := hl
  unfold F_J_fill_39 at hF
  refine lv_iconst (v := 0) hx hb dJ_fill_0 (by decide) ?_
  refine lv_istore_n (lv' := [(2, .int 0), (0, .ref (φ 39 i0)), (1, .int a1)]) hx hb dJ_fill_1 rfl hl (by decide) rfl (fun ls hl => ?_)
  refine lv_aload_n hx hb dJ_fill_2 rfl (lv_at hl 1 rfl) ?_
  refine r_alen (t0 := 0) (v := 60) X hW al_0 rfl rfl rfl dJ_fill_3 ?_
  refine lv_istore_n (lv' := [(3, .int 60), (2, .int 0), (0, .ref (φ 39 i0)), (1, .int a1)]) hx hb dJ_fill_4 rfl hl (by decide) rfl (fun ls hl => ?_)
  obtain ⟨q12, e13, hF⟩ := bn hF
  refine loop_w (f := B_J_fill_39_5 i0 a1 h) (Z := fun q => ∀ (H : Heap) (locs : List Loc) (ls : Array Slot), HW D cA A φ (wd h q.2) H → va_S A s.heap H locs → lv_has ls 4 [(0, .ref (φ 39 i0)), (1, .int a1), (2, .int (q.1)), (3, .int 60)] → W p l e (rmo 0 0 0 0) s m args below meth c H locs 0 0 Q (F0 m 5 ls [])) (K := fun q => ∀ (H : Heap) (locs : List Loc) (ls : Array Slot), HW D cA A φ (wd h q) H → va_S A s.heap H locs → lv_has ls 4 [] → W p l e (rmo 0 0 0 0) s m args below meth c H locs 0 0 Q (F0 m 20 ls [])) ?_ LF _ q12 e13 ?_ _ _ _ (wdW rfl hW) hS (lv_sub hl [2, 3, 1, 0] rfl)
  · intro q v hF hK H locs ls hW hS hl
    obtain ⟨x1, d4⟩ := q
    unfold B_J_fill_39_5 at hF
    have hF := u2d hF
    obtain ⟨h2, e14, hF⟩ := nmx hF
    have hW := nmW e14 hW
    have g3 : h2.2.2 = h.2.2 := by rw [e14]; exact rfl
    have hl : lv_has ls 4 [(0, .ref (φ 39 i0)), (1, .int a1), (2, .int x1), (3, .int 60)] := hl
    refine lv_iload_n hx hb dJ_fill_5 rfl (lv_at hl 2 rfl) ?_
    refine lv_iload_n hx hb dJ_fill_6 rfl (lv_at hl 3 rfl) ?_
    refine lv_icmp_ge (tgt := 20) hx hb dJ_fill_7 (by decide) (fun c11 => ?_) (fun c11 => ?_)
    · have hF := it c11 hF
      obtain rfl := sj hF
      exact hK _ _ _ (wdW (sq g3 rfl) hW) hS (lv_sub hl [] rfl)
    · have hF := ie c11 hF
      refine lv_aload_n hx hb dJ_fill_10 rfl (lv_at hl 0 rfl) ?_
      refine lv_iload_n hx hb dJ_fill_11 rfl (lv_at hl 2 rfl) ?_
      refine lv_iload_n hx hb dJ_fill_12 rfl (lv_at hl 1 rfl) ?_
      obtain ⟨h5, e6, hF⟩ := bn hF
      obtain ⟨b7, e6⟩ := sa_s e6
      refine r_iast X hW hS (gq g3 al_0) rfl b7 dJ_fill_13 (fun H locs hW hS => ?_)
      have hW := nmW e6 hW
      have g8 : h5.2.2 = h.2.2 := by rw [e6]; exact g3
      obtain ⟨x9, e10, hF⟩ := nmx hF
      refine lv_iinc (v := x9) (lv' := [(2, .int x9), (0, .ref (φ 39 i0)), (1, .int a1), (3, .int 60)]) hx hb dJ_fill_14 hl (k := 2) rfl (by rw [e10]; rfl) (by decide) rfl (fun ls hl => ?_)
      refine lv_goto (tgt := 5) hx hb dJ_fill_17 (by decide) ?_
      obtain rfl := sj hF
      exact hK _ _ _ (wdW (sq g8 rfl) hW) hS (lv_sub hl [1, 2, 0, 3] rfl)
  · intro H locs ls hW hS hl
    obtain ⟨d15, rfl⟩ : ∃ z, z = q12 := ⟨_, rfl⟩
    obtain ⟨h16, e18, hF⟩ := nmx hF
    have hW := nmW e18 hW
    have g17 : h16.2.2 = h.2.2 := by rw [e18]; exact rfl
    have hl : lv_has ls 4 [] := hl
    obtain rfl := sj hF
    exact hfin _ _ _ _ (wdW g17 hW) hS dJ_fill_20
def F_X9_renew (i0 : Nat) (a1 : Int32) (a2 : Int32) (h : HP) : Option (DP) :=
  nm (si h 9 i0 0 0) fun h1 =>
  nm (si h1 9 i0 1 a1) fun h4 =>
  nm (si h4 9 i0 2 a2) fun h7 =>
  (gr h7 9 i0 3).bind fun o10 =>
  (F_J_fill_39 o10 0 h7).bind fun d17 => nm (wd h7 d17) fun h14 =>
  some (dp h14)
set_option maxHeartbeats 4000000 in
set_option maxRecDepth 100000 in
theorem ok_X9_renew {l : Launch} {D : va_G} {cA : Nat → ClassId} {h : HP}  {d : DP} (i0 : Nat) (a1 : Int32) (a2 : Int32) (al_0 : i0 < gn h 9) (hF : F_X9_renew i0 a1 a2 h = some d) : MV l D cA yX9_renew cX9_renew 3 none 1 23 (fun φ => [.ref (φ 9 i0), .int a1, .int a2]) h (wd h d) := by
  refine mk_V (plainFor_of_name (by decide)) (fun φ => Nat.le_of_ble_eq_true rfl) ?_
  intro p e s m args below meth c ls φ A Q X hW hS hl hfin
  have hx := X.1
  have hb := X.2.1
  have hl : lv_has ls 3 [(0, .ref (φ 9 i0)), (1, .int a1), (2, .int a2)] := hl
  unfold F_X9_renew at hF
  refine lv_aload_n hx hb dX9_renew_0 rfl (lv_at hl 0 rfl) ?_
  refine lv_iconst (v := 0) hx hb dX9_renew_1 (by decide) ?_
  refine r_puti X hW hS al_0 fp_9_9 rfl rfl dX9_renew_2 (fun H locs hW hS => ?_)
  obtain ⟨h1, e2, hF⟩ := nmx hF
  have hW := nmW e2 hW
  have g3 : h1.2.2 = h.2.2 := by rw [e2]; exact rfl
  refine lv_aload_n hx hb dX9_renew_5 rfl (lv_at hl 0 rfl) ?_
  refine lv_iload_n hx hb dX9_renew_6 rfl (lv_at hl 1 rfl) ?_
  refine r_puti X hW hS (gq g3 al_0) fp_9_19 rfl rfl dX9_renew_7 (fun H locs hW hS => ?_)
  obtain ⟨h4, e5, hF⟩ := nmx hF
  have hW := nmW e5 hW
  have g6 : h4.2.2 = h.2.2 := by rw [e5]; exact g3
  refine lv_aload_n hx hb dX9_renew_10 rfl (lv_at hl 0 rfl) ?_
  refine lv_iload_n hx hb dX9_renew_11 rfl (lv_at hl 2 rfl) ?_
  refine r_puti X hW hS (gq g6 al_0) fp_9_23 rfl rfl dX9_renew_12 (fun H locs hW hS => ?_)
  obtain ⟨h7, e8, hF⟩ := nmx hF
  have hW := nmW e8 hW
  have g9 : h7.2.2 = h.2.2 := by rw [e8]; exact g6
  refine lv_aload_n hx hb dX9_renew_15 rfl (lv_at hl 0 rfl) ?_
  obtain ⟨o10, e11, hF⟩ := bn hF
  refine r_getr X hW (gq g9 al_0) fl_9_15 e11 dX9_renew_16 (fun al12 => ?_)
  have al12 := qg g9 al12
  refine lv_iconst (v := 0) hx hb dX9_renew_19 (by decide) ?_
  obtain ⟨d17, e13, hF⟩ := bn hF
  refine rc_v (Af := fun φ => [.ref (φ 39 o10), .int 0]) X hW hS ⟨Nat.zero_le _, Nat.zero_le _⟩ (rn_S (As := [.ref (φ 39 o10), .int 0]) (rest := []) X hW hS cw_9_26 ⟨Nat.le_of_ble_eq_true rfl, Nat.le_of_ble_eq_true rfl⟩ rfl hl.1 rfl (Nat.le_of_ble_eq_true rfl) dX9_renew_20) (ok_J_fill_39 o10 0 (gq g9 al12) e13) (fun H locs hW hS => ?_)
  obtain ⟨h14, e16, hF⟩ := nmx hF
  have hW := nmW e16 hW
  have g15 : h14.2.2 = h.2.2 := by rw [e16]; exact g9
  obtain rfl := sj hF
  exact hfin _ _ _ _ (wdW g15 hW) hS dX9_renew_23
def F_X11_sheet (i0 : Nat) (a1 : Int32) (a2 : Int32) (a3 : Int32) (h : HP) : Option (Int32 × DP) :=
  (F_X11_isSheet a1).bind fun x2 =>
  (if x2 = 0 then
  some ((-2), dp h)
  else
  (F_X11_isForm a2).bind fun x4 =>
  (if x4 = 0 then
  some ((-2), dp h)
  else
  (if a3 ≤ 60 then
  (if 0 ≤ a3 then
  (gr h 11 i0 14).bind fun o5 =>
  (gar h 44 o5 4 a1).bind fun o8 =>
  (F_X9_renew o8 a2 a3 h).bind fun d16 => nm (wd h d16) fun h13 =>
  some (a3, dp h13)
  else
  (F_X11_finding i0 5 h).bind fun q22 => u2 q22 fun x23 d21 => nm (wd h d21) fun h18 =>
  some (x23, dp h18))
  else
  some ((-2), dp h))))
set_option maxHeartbeats 4000000 in
set_option maxRecDepth 100000 in
theorem ok_X11_sheet {l : Launch} {D : va_G} {cA : Nat → ClassId} {h : HP} {r : Int32} {d : DP} (i0 : Nat) (a1 : Int32) (a2 : Int32) (a3 : Int32) (al_0 : i0 < gn h 11) (hF : F_X11_sheet i0 a1 a2 a3 h = some (r, d)) : MI l D cA yX11_sheet cX11_sheet 4 (some .int) 2 45 (fun φ => [.ref (φ 11 i0), .int a1, .int a2, .int a3]) h r (wd h d) := by
  refine mk_I (plainFor_of_name (by decide)) (fun φ => Nat.le_of_ble_eq_true rfl) ?_
  intro p e s m args below meth c ls φ A Q X hW hS hl hfin
  have hx := X.1
  have hb := X.2.1
  have hl : lv_has ls 4 [(0, .ref (φ 11 i0)), (1, .int a1), (2, .int a2), (3, .int a3)] := hl
  unfold F_X11_sheet at hF
  refine lv_iload_n hx hb dX11_sheet_0 rfl (lv_at hl 1 rfl) ?_
  obtain ⟨x2, e1, hF⟩ := bn hF
  refine rc_i (Af := fun φ => [.int a1]) X hW hS ⟨Nat.zero_le _, Nat.zero_le _⟩ (rn_S (As := [.int a1]) (rest := []) X hW hS cw_11_116 ⟨Nat.le_of_ble_eq_true rfl, Nat.le_of_ble_eq_true rfl⟩ rfl hl.1 rfl (Nat.le_of_ble_eq_true rfl) dX11_sheet_1) (ok_X11_isSheet a1 e1) (fun H locs hW hS => ?_)
  refine lv_if_eq (tgt := 20) hx hb dX11_sheet_4 (by decide) (fun c27 => ?_) (fun c27 => ?_)
  · have hF := it c27 hF
    refine lv_bipush (v := (-2)) hx hb dX11_sheet_20 (by decide) ?_
    obtain ⟨rfl, rfl⟩ := sj2 hF
    exact hfin _ _ _ _ (wdW rfl hW) hS dX11_sheet_22
  · have hF := ie c27 hF
    refine lv_iload_n hx hb dX11_sheet_7 rfl (lv_at hl 2 rfl) ?_
    obtain ⟨x4, e3, hF⟩ := bn hF
    refine rc_i (Af := fun φ => [.int a2]) X hW hS ⟨Nat.zero_le _, Nat.zero_le _⟩ (rn_S (As := [.int a2]) (rest := []) X hW hS cw_11_350 ⟨Nat.le_of_ble_eq_true rfl, Nat.le_of_ble_eq_true rfl⟩ rfl hl.1 rfl (Nat.le_of_ble_eq_true rfl) dX11_sheet_8) (ok_X11_isForm a2 e3) (fun H locs hW hS => ?_)
    refine lv_if_eq (tgt := 20) hx hb dX11_sheet_11 (by decide) (fun c26 => ?_) (fun c26 => ?_)
    · have hF := it c26 hF
      refine lv_bipush (v := (-2)) hx hb dX11_sheet_20 (by decide) ?_
      obtain ⟨rfl, rfl⟩ := sj2 hF
      exact hfin _ _ _ _ (wdW rfl hW) hS dX11_sheet_22
    · have hF := ie c26 hF
      refine lv_iload_n hx hb dX11_sheet_14 rfl (lv_at hl 3 rfl) ?_
      refine lv_bipush (v := 60) hx hb dX11_sheet_15 (by decide) ?_
      refine lv_icmp_le (tgt := 23) hx hb dX11_sheet_17 (by decide) (fun c25 => ?_) (fun c25 => ?_)
      · have hF := it c25 hF
        refine lv_iload_n hx hb dX11_sheet_23 rfl (lv_at hl 3 rfl) ?_
        refine lv_if_ge (tgt := 33) hx hb dX11_sheet_24 (by decide) (fun c24 => ?_) (fun c24 => ?_)
        · have hF := it c24 hF
          refine lv_aload_n hx hb dX11_sheet_33 rfl (lv_at hl 0 rfl) ?_
          obtain ⟨o5, e6, hF⟩ := bn hF
          refine r_getr X hW al_0 fl_11_76 e6 dX11_sheet_34 (fun al7 => ?_)
          refine lv_iload_n hx hb dX11_sheet_37 rfl (lv_at hl 1 rfl) ?_
          obtain ⟨o8, e9, hF⟩ := bn hF
          obtain ⟨b10, e9⟩ := gar_s e9
          refine r_aald (t0 := 6) X hW al7 rfl rfl b10 e9 dX11_sheet_38 (fun al11 => ?_)
          refine lv_iload_n hx hb dX11_sheet_39 rfl (lv_at hl 2 rfl) ?_
          refine lv_iload_n hx hb dX11_sheet_40 rfl (lv_at hl 3 rfl) ?_
          obtain ⟨d16, e12, hF⟩ := bn hF
          refine rc_v (Af := fun φ => [.ref (φ 9 o8), .int a2, .int a3]) X hW hS ⟨Nat.zero_le _, Nat.zero_le _⟩ (rn_V (As := [.int a2, .int a3]) (rest := []) X hW hS cw_11_353 al11 rfl rfl rfl ⟨Nat.le_of_ble_eq_true rfl, Nat.le_of_ble_eq_true rfl⟩ rfl hl.1 rfl (Nat.le_of_ble_eq_true rfl) dX11_sheet_41) (ok_X9_renew o8 a2 a3 al11 e12) (fun H locs hW hS => ?_)
          obtain ⟨h13, e15, hF⟩ := nmx hF
          have hW := nmW e15 hW
          have g14 : h13.2.2 = h.2.2 := by rw [e15]; exact rfl
          refine lv_iload_n hx hb dX11_sheet_44 rfl (lv_at hl 3 rfl) ?_
          obtain ⟨rfl, rfl⟩ := sj2 hF
          exact hfin _ _ _ _ (wdW g14 hW) hS dX11_sheet_45
        · have hF := ie c24 hF
          refine lv_aload_n hx hb dX11_sheet_27 rfl (lv_at hl 0 rfl) ?_
          refine lv_iconst (v := 5) hx hb dX11_sheet_28 (by decide) ?_
          obtain ⟨q22, e17, hF⟩ := bn hF
          obtain ⟨x23, d21⟩ := q22
          have hF := u2d hF
          refine rc_i (Af := fun φ => [.ref (φ 11 i0), .int 5]) X hW hS ⟨Nat.zero_le _, Nat.zero_le _⟩ (rn_V (As := [.int 5]) (rest := []) X hW hS cw_11_123 al_0 rfl rfl rfl ⟨Nat.le_of_ble_eq_true rfl, Nat.le_of_ble_eq_true rfl⟩ rfl hl.1 rfl (Nat.le_of_ble_eq_true rfl) dX11_sheet_29) (ok_X11_finding i0 5 al_0 e17) (fun H locs hW hS => ?_)
          obtain ⟨h18, e20, hF⟩ := nmx hF
          have hW := nmW e20 hW
          have g19 : h18.2.2 = h.2.2 := by rw [e20]; exact rfl
          obtain ⟨rfl, rfl⟩ := sj2 hF
          exact hfin _ _ _ _ (wdW g19 hW) hS dX11_sheet_32
      · have hF := ie c25 hF
        refine lv_bipush (v := (-2)) hx hb dX11_sheet_20 (by decide) ?_
        obtain ⟨rfl, rfl⟩ := sj2 hF
        exact hfin _ _ _ _ (wdW rfl hW) hS dX11_sheet_22
def F_X11_lose (i0 : Nat) (a1 : Int32) (h : HP) : Option (Int32 × DP) :=
  (F_X11_isSheet a1).bind fun x2 =>
  (if x2 = 0 then
  some ((-2), dp h)
  else
  (gr h 11 i0 14).bind fun o3 =>
  (gar h 44 o3 4 a1).bind fun o6 =>
  (if (gi h 9 o6 0) = 0 then
  (gr h 11 i0 14).bind fun o10 =>
  (gar h 44 o10 4 a1).bind fun o13 =>
  nm (si h 9 o13 0 1) fun h17 =>
  (gr h17 11 i0 14).bind fun o20 =>
  (gar h17 44 o20 4 a1).bind fun o23 =>
  some ((gi h17 9 o23 2), dp h17)
  else
  (F_X11_finding i0 1 h).bind fun q32 => u2 q32 fun x33 d31 => nm (wd h d31) fun h28 =>
  some (x33, dp h28)))
set_option maxHeartbeats 4000000 in
set_option maxRecDepth 100000 in
theorem ok_X11_lose {l : Launch} {D : va_G} {cA : Nat → ClassId} {h : HP} {r : Int32} {d : DP} (i0 : Nat) (a1 : Int32) (al_0 : i0 < gn h 11) (hF : F_X11_lose i0 a1 h = some (r, d)) : MI l D cA yX11_lose cX11_lose 2 (some .int) 2 42 (fun φ => [.ref (φ 11 i0), .int a1]) h r (wd h d) := by
  refine mk_I (plainFor_of_name (by decide)) (fun φ => Nat.le_of_ble_eq_true rfl) ?_
  intro p e s m args below meth c ls φ A Q X hW hS hl hfin
  have hx := X.1
  have hb := X.2.1
  have hl : lv_has ls 2 [(0, .ref (φ 11 i0)), (1, .int a1)] := hl
  unfold F_X11_lose at hF
  refine lv_iload_n hx hb dX11_lose_0 rfl (lv_at hl 1 rfl) ?_
  obtain ⟨x2, e1, hF⟩ := bn hF
  refine rc_i (Af := fun φ => [.int a1]) X hW hS ⟨Nat.zero_le _, Nat.zero_le _⟩ (rn_S (As := [.int a1]) (rest := []) X hW hS cw_11_116 ⟨Nat.le_of_ble_eq_true rfl, Nat.le_of_ble_eq_true rfl⟩ rfl hl.1 rfl (Nat.le_of_ble_eq_true rfl) dX11_lose_1) (ok_X11_isSheet a1 e1) (fun H locs hW hS => ?_)
  refine lv_if_ne (tgt := 10) hx hb dX11_lose_4 (by decide) (fun c35 => ?_) (fun c35 => ?_)
  · have hF := ie c35 hF
    refine lv_aload_n hx hb dX11_lose_10 rfl (lv_at hl 0 rfl) ?_
    obtain ⟨o3, e4, hF⟩ := bn hF
    refine r_getr X hW al_0 fl_11_76 e4 dX11_lose_11 (fun al5 => ?_)
    refine lv_iload_n hx hb dX11_lose_14 rfl (lv_at hl 1 rfl) ?_
    obtain ⟨o6, e7, hF⟩ := bn hF
    obtain ⟨b8, e7⟩ := gar_s e7
    refine r_aald (t0 := 6) X hW al5 rfl rfl b8 e7 dX11_lose_15 (fun al9 => ?_)
    refine r_geti X hW al9 fl_11_119 dX11_lose_16 ?_
    refine lv_if_eq (tgt := 28) hx hb dX11_lose_19 (by decide) (fun c34 => ?_) (fun c34 => ?_)
    · have hF := it c34 hF
      refine lv_aload_n hx hb dX11_lose_28 rfl (lv_at hl 0 rfl) ?_
      obtain ⟨o10, e11, hF⟩ := bn hF
      refine r_getr X hW al_0 fl_11_76 e11 dX11_lose_29 (fun al12 => ?_)
      refine lv_iload_n hx hb dX11_lose_32 rfl (lv_at hl 1 rfl) ?_
      obtain ⟨o13, e14, hF⟩ := bn hF
      obtain ⟨b15, e14⟩ := gar_s e14
      refine r_aald (t0 := 6) X hW al12 rfl rfl b15 e14 dX11_lose_33 (fun al16 => ?_)
      refine lv_iconst (v := 1) hx hb dX11_lose_34 (by decide) ?_
      refine r_puti X hW hS al16 fp_11_119 rfl rfl dX11_lose_35 (fun H locs hW hS => ?_)
      obtain ⟨h17, e18, hF⟩ := nmx hF
      have hW := nmW e18 hW
      have g19 : h17.2.2 = h.2.2 := by rw [e18]; exact rfl
      refine lv_aload_n hx hb dX11_lose_38 rfl (lv_at hl 0 rfl) ?_
      obtain ⟨o20, e21, hF⟩ := bn hF
      refine r_getr X hW (gq g19 al_0) fl_11_76 e21 dX11_lose_39 (fun al22 => ?_)
      have al22 := qg g19 al22
      refine lv_iload_n hx hb dX11_lose_42 rfl (lv_at hl 1 rfl) ?_
      obtain ⟨o23, e24, hF⟩ := bn hF
      obtain ⟨b25, e24⟩ := gar_s e24
      refine r_aald (t0 := 6) X hW (gq g19 al22) rfl rfl b25 e24 dX11_lose_43 (fun al26 => ?_)
      have al26 := qg g19 al26
      refine r_geti X hW (gq g19 al26) fl_11_127 dX11_lose_44 ?_
      obtain ⟨rfl, rfl⟩ := sj2 hF
      exact hfin _ _ _ _ (wdW g19 hW) hS dX11_lose_47
    · have hF := ie c34 hF
      refine lv_aload_n hx hb dX11_lose_22 rfl (lv_at hl 0 rfl) ?_
      refine lv_iconst (v := 1) hx hb dX11_lose_23 (by decide) ?_
      obtain ⟨q32, e27, hF⟩ := bn hF
      obtain ⟨x33, d31⟩ := q32
      have hF := u2d hF
      refine rc_i (Af := fun φ => [.ref (φ 11 i0), .int 1]) X hW hS ⟨Nat.zero_le _, Nat.zero_le _⟩ (rn_V (As := [.int 1]) (rest := []) X hW hS cw_11_123 al_0 rfl rfl rfl ⟨Nat.le_of_ble_eq_true rfl, Nat.le_of_ble_eq_true rfl⟩ rfl hl.1 rfl (Nat.le_of_ble_eq_true rfl) dX11_lose_24) (ok_X11_finding i0 1 al_0 e27) (fun H locs hW hS => ?_)
      obtain ⟨h28, e30, hF⟩ := nmx hF
      have hW := nmW e30 hW
      have g29 : h28.2.2 = h.2.2 := by rw [e30]; exact rfl
      obtain ⟨rfl, rfl⟩ := sj2 hF
      exact hfin _ _ _ _ (wdW g29 hW) hS dX11_lose_27
  · have hF := it c35 hF
    refine lv_bipush (v := (-2)) hx hb dX11_lose_7 (by decide) ?_
    obtain ⟨rfl, rfl⟩ := sj2 hF
    exact hfin _ _ _ _ (wdW rfl hW) hS dX11_lose_9
def F_X9_hasItems (i0 : Nat) (a1 : Int32) (a2 : Int32) (h : HP) : Option (Int32) :=
  (if a1 < 0 then
  some 0
  else
  (if a2 < 0 then
  some 0
  else
  (if ((gi h 9 i0 2) - a1) < a2 then
  some 0
  else
  some 1)))
set_option maxHeartbeats 4000000 in
set_option maxRecDepth 100000 in
theorem ok_X9_hasItems {l : Launch} {D : va_G} {cA : Nat → ClassId} {h : HP} {r : Int32}  (i0 : Nat) (a1 : Int32) (a2 : Int32) (al_0 : i0 < gn h 9) (hF : F_X9_hasItems i0 a1 a2 h = some r) : MI l D cA yX9_hasItems cX9_hasItems 3 (some .boolean) 0 0 (fun φ => [.ref (φ 9 i0), .int a1, .int a2]) h r h := by
  refine mk_Z (plainFor_of_name (by decide)) (fun φ => Nat.le_of_ble_eq_true rfl) ?_
  intro p e s m args below meth c ls φ A Q X hW hS hl hfin
  have hx := X.1
  have hb := X.2.1
  have hl : lv_has ls 3 [(0, .ref (φ 9 i0)), (1, .int a1), (2, .int a2)] := hl
  unfold F_X9_hasItems at hF
  refine lv_iload_n hx hb dX9_hasItems_0 rfl (lv_at hl 1 rfl) ?_
  refine lv_if_lt (tgt := 22) hx hb dX9_hasItems_1 (by decide) (fun c3 => ?_) (fun c3 => ?_)
  · have hF := it c3 hF
    refine lv_iconst (v := 0) hx hb dX9_hasItems_22 (by decide) ?_
    obtain rfl := sj hF
    exact hfin _ _ _ _ hW hS (Or.inl rfl) dX9_hasItems_23
  · have hF := ie c3 hF
    refine lv_iload_n hx hb dX9_hasItems_4 rfl (lv_at hl 2 rfl) ?_
    refine lv_if_lt (tgt := 22) hx hb dX9_hasItems_5 (by decide) (fun c2 => ?_) (fun c2 => ?_)
    · have hF := it c2 hF
      refine lv_iconst (v := 0) hx hb dX9_hasItems_22 (by decide) ?_
      obtain rfl := sj hF
      exact hfin _ _ _ _ hW hS (Or.inl rfl) dX9_hasItems_23
    · have hF := ie c2 hF
      refine lv_iload_n hx hb dX9_hasItems_8 rfl (lv_at hl 2 rfl) ?_
      refine lv_aload_n hx hb dX9_hasItems_9 rfl (lv_at hl 0 rfl) ?_
      refine r_geti X hW al_0 fl_9_23 dX9_hasItems_10 ?_
      refine lv_iload_n hx hb dX9_hasItems_13 rfl (lv_at hl 1 rfl) ?_
      refine lv_isub hx hb dX9_hasItems_14 ?_
      refine lv_icmp_gt (tgt := 22) hx hb dX9_hasItems_15 (by decide) (fun c1 => ?_) (fun c1 => ?_)
      · have hF := it c1 hF
        refine lv_iconst (v := 0) hx hb dX9_hasItems_22 (by decide) ?_
        obtain rfl := sj hF
        exact hfin _ _ _ _ hW hS (Or.inl rfl) dX9_hasItems_23
      · have hF := ie c1 hF
        refine lv_iconst (v := 1) hx hb dX9_hasItems_18 (by decide) ?_
        refine lv_goto (tgt := 23) hx hb dX9_hasItems_19 (by decide) ?_
        obtain rfl := sj hF
        exact hfin _ _ _ _ hW hS (Or.inr rfl) dX9_hasItems_23
def F_X11_findingAt (i0 : Nat) (a1 : Int32) (a2 : Int32) (a3 : Int32) (h : HP) : Option (Int32) :=
  (gr h 11 i0 14).bind fun o1 =>
  (gar h 44 o1 4 a1).bind fun o4 =>
  (if (gi h 9 o4 0) = 0 then
  (if (gi h 9 o4 1) = a2 then
  (F_X9_hasItems o4 a3 1 h).bind fun x9 =>
  (if x9 = 0 then
  some 2
  else
  some 0)
  else
  some 3)
  else
  some 1)
set_option maxHeartbeats 4000000 in
set_option maxRecDepth 100000 in
theorem ok_X11_findingAt {l : Launch} {D : va_G} {cA : Nat → ClassId} {h : HP} {r : Int32}  (i0 : Nat) (a1 : Int32) (a2 : Int32) (a3 : Int32) (al_0 : i0 < gn h 11) (hF : F_X11_findingAt i0 a1 a2 a3 h = some r) : MI l D cA yX11_findingAt cX11_findingAt 5 (some .int) 1 22 (fun φ => [.ref (φ 11 i0), .int a1, .int a2, .int a3]) h r h := by
  refine mk_I (plainFor_of_name (by decide)) (fun φ => Nat.le_of_ble_eq_true rfl) ?_
  intro p e s m args below meth c ls φ A Q X hW hS hl hfin
  have hx := X.1
  have hb := X.2.1
  have hl : lv_has ls 5 [(0, .ref (φ 11 i0)), (1, .int a1), (2, .int a2), (3, .int a3)] := hl
  unfold F_X11_findingAt at hF
  refine lv_aload_n hx hb dX11_findingAt_0 rfl (lv_at hl 0 rfl) ?_
  obtain ⟨o1, e2, hF⟩ := bn hF
  refine r_getr X hW al_0 fl_11_76 e2 dX11_findingAt_1 (fun al3 => ?_)
  refine lv_iload_n hx hb dX11_findingAt_4 rfl (lv_at hl 1 rfl) ?_
  obtain ⟨o4, e5, hF⟩ := bn hF
  obtain ⟨b6, e5⟩ := gar_s e5
  refine r_aald (t0 := 6) X hW al3 rfl rfl b6 e5 dX11_findingAt_5 (fun al7 => ?_)
  refine lv_astore (lv' := [(4, .ref (φ 9 o4)), (0, .ref (φ 11 i0)), (1, .int a1), (2, .int a2), (3, .int a3)]) hx hb dX11_findingAt_6 hl (by decide) rfl (fun ls hl => ?_)
  refine lv_aload hx hb dX11_findingAt_8 (lv_at hl 0 rfl) ?_
  refine r_geti X hW al7 fl_11_119 dX11_findingAt_10 ?_
  refine lv_if_eq (tgt := 18) hx hb dX11_findingAt_13 (by decide) (fun c12 => ?_) (fun c12 => ?_)
  · have hF := it c12 hF
    refine lv_aload hx hb dX11_findingAt_18 (lv_at hl 0 rfl) ?_
    refine r_geti X hW al7 fl_11_365 dX11_findingAt_20 ?_
    refine lv_iload_n hx hb dX11_findingAt_23 rfl (lv_at hl 3 rfl) ?_
    refine lv_icmp_eq (tgt := 29) hx hb dX11_findingAt_24 (by decide) (fun c11 => ?_) (fun c11 => ?_)
    · have hF := it c11 hF
      refine lv_aload hx hb dX11_findingAt_29 (lv_at hl 0 rfl) ?_
      refine lv_iload_n hx hb dX11_findingAt_31 rfl (lv_at hl 4 rfl) ?_
      refine lv_iconst (v := 1) hx hb dX11_findingAt_32 (by decide) ?_
      obtain ⟨x9, e8, hF⟩ := bn hF
      refine rc_i (Af := fun φ => [.ref (φ 9 o4), .int a3, .int 1]) X hW hS ⟨Nat.zero_le _, Nat.zero_le _⟩ (rn_V (As := [.int a3, .int 1]) (rest := []) X hW hS cw_11_368 al7 rfl rfl rfl ⟨Nat.le_of_ble_eq_true rfl, Nat.le_of_ble_eq_true rfl⟩ rfl hl.1 rfl (Nat.le_of_ble_eq_true rfl) dX11_findingAt_33) (ok_X9_hasItems o4 a3 1 al7 e8) (fun H locs hW hS => ?_)
      refine lv_if_eq (tgt := 43) hx hb dX11_findingAt_36 (by decide) (fun c10 => ?_) (fun c10 => ?_)
      · have hF := it c10 hF
        refine lv_iconst (v := 2) hx hb dX11_findingAt_43 (by decide) ?_
        obtain rfl := sj hF
        exact hfin _ _ _ _ hW hS dX11_findingAt_44
      · have hF := ie c10 hF
        refine lv_iconst (v := 0) hx hb dX11_findingAt_39 (by decide) ?_
        refine lv_goto (tgt := 44) hx hb dX11_findingAt_40 (by decide) ?_
        obtain rfl := sj hF
        exact hfin _ _ _ _ hW hS dX11_findingAt_44
    · have hF := ie c11 hF
      refine lv_iconst (v := 3) hx hb dX11_findingAt_27 (by decide) ?_
      obtain rfl := sj hF
      exact hfin _ _ _ _ hW hS dX11_findingAt_28
  · have hF := ie c12 hF
    refine lv_iconst (v := 1) hx hb dX11_findingAt_16 (by decide) ?_
    obtain rfl := sj hF
    exact hfin _ _ _ _ hW hS dX11_findingAt_17
def J_X9_store_31 (t0_31 : Int32) (t1_31 : Int32) (t2_31 : Nat) (hj31 : HP) : Option (DP) :=
  (sa hj31 39 t2_31 60 t1_31 t0_31).bind fun h1 =>
  some (dp h1)
def F_X9_store (i0 : Nat) (a1 : Int32) (a2 : Int32) (h : HP) : Option (DP) :=
  (gr h 9 i0 3).bind fun o5 =>
  (if (gi h 9 i0 1) = 0 then
  J_X9_store_31 ((a2).toInt8.toInt32) a1 o5 h
  else
  (if (gi h 9 i0 1) = 1 then
  J_X9_store_31 ((a2).toInt16.toInt32) a1 o5 h
  else
  J_X9_store_31 a2 a1 o5 h))
set_option maxHeartbeats 4000000 in
set_option maxRecDepth 100000 in
theorem ok_X9_store {l : Launch} {D : va_G} {cA : Nat → ClassId} {h : HP}  {d : DP} (i0 : Nat) (a1 : Int32) (a2 : Int32) (al_0 : i0 < gn h 9) (hF : F_X9_store i0 a1 a2 h = some d) : MV l D cA yX9_store cX9_store 3 none 0 0 (fun φ => [.ref (φ 9 i0), .int a1, .int a2]) h (wd h d) := by
  refine mk_V (plainFor_of_name (by decide)) (fun φ => Nat.le_of_ble_eq_true rfl) ?_
  intro p e s m args below meth c ls φ A Q X hW hS hl hfin
  have hx := X.1
  have hb := X.2.1
  have hl : lv_has ls 3 [(0, .ref (φ 9 i0)), (1, .int a1), (2, .int a2)] := hl
  unfold F_X9_store at hF
  have j_31 : ∀ (t0_31 : Int32) (t1_31 : Int32) (t2_31 : Nat) (hj31 : HP) (H : Heap) (locs : List Loc) (ls : Array Slot), hj31.2.2 = h.2.2 → t2_31 < gn h 39 → J_X9_store_31 t0_31 t1_31 t2_31 hj31 = some d → HW D cA A φ hj31 H → va_S A s.heap H locs → lv_has ls 3 [] → W p l e (rmo 0 0 0 0) s m args below meth c H locs 0 0 Q (F0 m 31 ls [.int t0_31, .int t1_31, .ref (φ 39 t2_31)]) := by
    intro t0_31 t1_31 t2_31 hj31 H locs ls gj31 alt2_31 hF hW hS hl
    unfold J_X9_store_31 at hF
    obtain ⟨h1, e2, hF⟩ := bn hF
    obtain ⟨b3, e2⟩ := sa_s e2
    refine r_iast X hW hS (gq gj31 alt2_31) rfl b3 dX9_store_31 (fun H locs hW hS => ?_)
    have hW := nmW e2 hW
    have g4 : h1.2.2 = h.2.2 := by rw [e2]; exact gj31
    obtain rfl := sj hF
    exact hfin _ _ _ _ (wdW g4 hW) hS dX9_store_32
  refine lv_aload_n hx hb dX9_store_0 rfl (lv_at hl 0 rfl) ?_
  obtain ⟨o5, e6, hF⟩ := bn hF
  refine r_getr X hW al_0 fl_9_15 e6 dX9_store_1 (fun al7 => ?_)
  refine lv_iload_n hx hb dX9_store_4 rfl (lv_at hl 1 rfl) ?_
  refine lv_aload_n hx hb dX9_store_5 rfl (lv_at hl 0 rfl) ?_
  refine r_geti X hW al_0 fl_9_19 dX9_store_6 ?_
  refine lv_if_ne (tgt := 17) hx hb dX9_store_9 (by decide) (fun c9 => ?_) (fun c9 => ?_)
  · have hF := ie c9 hF
    refine lv_aload_n hx hb dX9_store_17 rfl (lv_at hl 0 rfl) ?_
    refine r_geti X hW al_0 fl_9_19 dX9_store_18 ?_
    refine lv_iconst (v := 1) hx hb dX9_store_21 (by decide) ?_
    refine lv_icmp_ne (tgt := 30) hx hb dX9_store_22 (by decide) (fun c8 => ?_) (fun c8 => ?_)
    · have hF := ie c8 hF
      refine lv_iload_n hx hb dX9_store_30 rfl (lv_at hl 2 rfl) ?_
      exact j_31 a2 a1 o5 h _ _ _ rfl al7 hF hW hS (lv_sub hl [] rfl)
    · have hF := it c8 hF
      refine lv_iload_n hx hb dX9_store_25 rfl (lv_at hl 2 rfl) ?_
      refine lv_i2s (v := (a2).toInt16.toInt32) hx hb dX9_store_26 rfl ?_
      refine lv_goto (tgt := 31) hx hb dX9_store_27 (by decide) ?_
      exact j_31 ((a2).toInt16.toInt32) a1 o5 h _ _ _ rfl al7 hF hW hS (lv_sub hl [] rfl)
  · have hF := it c9 hF
    refine lv_iload_n hx hb dX9_store_12 rfl (lv_at hl 2 rfl) ?_
    refine lv_i2b (v := (a2).toInt8.toInt32) hx hb dX9_store_13 rfl ?_
    refine lv_goto (tgt := 31) hx hb dX9_store_14 (by decide) ?_
    exact j_31 ((a2).toInt8.toInt32) a1 o5 h _ _ _ rfl al7 hF hW hS (lv_sub hl [] rfl)
def F_X11_put (i0 : Nat) (a1 : Int32) (a2 : Int32) (a3 : Int32) (a4 : Int32) (h : HP) : Option (Int32 × DP) :=
  (F_X11_isSheet a1).bind fun x2 =>
  (if x2 = 0 then
  some ((-2), dp h)
  else
  (F_X11_isForm a2).bind fun x4 =>
  (if x4 = 0 then
  some ((-2), dp h)
  else
  (F_X11_findingAt i0 a1 a2 a3 h).bind fun x6 =>
  (if x6 = 0 then
  (gr h 11 i0 14).bind fun o7 =>
  (gar h 44 o7 4 a1).bind fun o10 =>
  (F_X9_store o10 a3 a4 h).bind fun d18 => nm (wd h d18) fun h15 =>
  some (1, dp h15)
  else
  (F_X11_finding i0 x6 h).bind fun q24 => u2 q24 fun x25 d23 => nm (wd h d23) fun h20 =>
  some (x25, dp h20))))
set_option maxHeartbeats 4000000 in
set_option maxRecDepth 100000 in
theorem ok_X11_put {l : Launch} {D : va_G} {cA : Nat → ClassId} {h : HP} {r : Int32} {d : DP} (i0 : Nat) (a1 : Int32) (a2 : Int32) (a3 : Int32) (a4 : Int32) (al_0 : i0 < gn h 11) (hF : F_X11_put i0 a1 a2 a3 a4 h = some (r, d)) : MI l D cA yX11_put cX11_put 6 (some .int) 2 46 (fun φ => [.ref (φ 11 i0), .int a1, .int a2, .int a3, .int a4]) h r (wd h d) := by
  refine mk_I (plainFor_of_name (by decide)) (fun φ => Nat.le_of_ble_eq_true rfl) ?_
  intro p e s m args below meth c ls φ A Q X hW hS hl hfin
  have hx := X.1
  have hb := X.2.1
  have hl : lv_has ls 6 [(0, .ref (φ 11 i0)), (1, .int a1), (2, .int a2), (3, .int a3), (4, .int a4)] := hl
  unfold F_X11_put at hF
  refine lv_iload_n hx hb dX11_put_0 rfl (lv_at hl 1 rfl) ?_
  obtain ⟨x2, e1, hF⟩ := bn hF
  refine rc_i (Af := fun φ => [.int a1]) X hW hS ⟨Nat.zero_le _, Nat.zero_le _⟩ (rn_S (As := [.int a1]) (rest := []) X hW hS cw_11_116 ⟨Nat.le_of_ble_eq_true rfl, Nat.le_of_ble_eq_true rfl⟩ rfl hl.1 rfl (Nat.le_of_ble_eq_true rfl) dX11_put_1) (ok_X11_isSheet a1 e1) (fun H locs hW hS => ?_)
  refine lv_if_eq (tgt := 14) hx hb dX11_put_4 (by decide) (fun c28 => ?_) (fun c28 => ?_)
  · have hF := it c28 hF
    refine lv_bipush (v := (-2)) hx hb dX11_put_14 (by decide) ?_
    obtain ⟨rfl, rfl⟩ := sj2 hF
    exact hfin _ _ _ _ (wdW rfl hW) hS dX11_put_16
  · have hF := ie c28 hF
    refine lv_iload_n hx hb dX11_put_7 rfl (lv_at hl 2 rfl) ?_
    obtain ⟨x4, e3, hF⟩ := bn hF
    refine rc_i (Af := fun φ => [.int a2]) X hW hS ⟨Nat.zero_le _, Nat.zero_le _⟩ (rn_S (As := [.int a2]) (rest := []) X hW hS cw_11_350 ⟨Nat.le_of_ble_eq_true rfl, Nat.le_of_ble_eq_true rfl⟩ rfl hl.1 rfl (Nat.le_of_ble_eq_true rfl) dX11_put_8) (ok_X11_isForm a2 e3) (fun H locs hW hS => ?_)
    refine lv_if_ne (tgt := 17) hx hb dX11_put_11 (by decide) (fun c27 => ?_) (fun c27 => ?_)
    · have hF := ie c27 hF
      refine lv_aload_n hx hb dX11_put_17 rfl (lv_at hl 0 rfl) ?_
      refine lv_iload_n hx hb dX11_put_18 rfl (lv_at hl 1 rfl) ?_
      refine lv_iload_n hx hb dX11_put_19 rfl (lv_at hl 2 rfl) ?_
      refine lv_iload_n hx hb dX11_put_20 rfl (lv_at hl 3 rfl) ?_
      obtain ⟨x6, e5, hF⟩ := bn hF
      refine rc_i (Af := fun φ => [.ref (φ 11 i0), .int a1, .int a2, .int a3]) X hW hS ⟨Nat.zero_le _, Nat.zero_le _⟩ (rn_V (As := [.int a1, .int a2, .int a3]) (rest := []) X hW hS cw_11_356 al_0 rfl rfl rfl ⟨Nat.le_of_ble_eq_true rfl, Nat.le_of_ble_eq_true rfl⟩ rfl hl.1 rfl (Nat.le_of_ble_eq_true rfl) dX11_put_21) (ok_X11_findingAt i0 a1 a2 a3 al_0 e5) (fun H locs hW hS => ?_)
      refine lv_istore (lv' := [(5, .int x6), (0, .ref (φ 11 i0)), (1, .int a1), (2, .int a2), (3, .int a3), (4, .int a4)]) hx hb dX11_put_24 hl (by decide) rfl (fun ls hl => ?_)
      refine lv_iload hx hb dX11_put_26 (lv_at hl 0 rfl) ?_
      refine lv_if_eq (tgt := 38) hx hb dX11_put_28 (by decide) (fun c26 => ?_) (fun c26 => ?_)
      · have hF := it c26 hF
        refine lv_aload_n hx hb dX11_put_38 rfl (lv_at hl 1 rfl) ?_
        obtain ⟨o7, e8, hF⟩ := bn hF
        refine r_getr X hW al_0 fl_11_76 e8 dX11_put_39 (fun al9 => ?_)
        refine lv_iload_n hx hb dX11_put_42 rfl (lv_at hl 2 rfl) ?_
        obtain ⟨o10, e11, hF⟩ := bn hF
        obtain ⟨b12, e11⟩ := gar_s e11
        refine r_aald (t0 := 6) X hW al9 rfl rfl b12 e11 dX11_put_43 (fun al13 => ?_)
        refine lv_iload_n hx hb dX11_put_44 rfl (lv_at hl 4 rfl) ?_
        refine lv_iload hx hb dX11_put_45 (lv_at hl 5 rfl) ?_
        obtain ⟨d18, e14, hF⟩ := bn hF
        refine rc_v (Af := fun φ => [.ref (φ 9 o10), .int a3, .int a4]) X hW hS ⟨Nat.zero_le _, Nat.zero_le _⟩ (rn_V (As := [.int a3, .int a4]) (rest := []) X hW hS cw_11_359 al13 rfl rfl rfl ⟨Nat.le_of_ble_eq_true rfl, Nat.le_of_ble_eq_true rfl⟩ rfl hl.1 rfl (Nat.le_of_ble_eq_true rfl) dX11_put_47) (ok_X9_store o10 a3 a4 al13 e14) (fun H locs hW hS => ?_)
        obtain ⟨h15, e17, hF⟩ := nmx hF
        have hW := nmW e17 hW
        have g16 : h15.2.2 = h.2.2 := by rw [e17]; exact rfl
        refine lv_iconst (v := 1) hx hb dX11_put_50 (by decide) ?_
        obtain ⟨rfl, rfl⟩ := sj2 hF
        exact hfin _ _ _ _ (wdW g16 hW) hS dX11_put_51
      · have hF := ie c26 hF
        refine lv_aload_n hx hb dX11_put_31 rfl (lv_at hl 1 rfl) ?_
        refine lv_iload hx hb dX11_put_32 (lv_at hl 0 rfl) ?_
        obtain ⟨q24, e19, hF⟩ := bn hF
        obtain ⟨x25, d23⟩ := q24
        have hF := u2d hF
        refine rc_i (Af := fun φ => [.ref (φ 11 i0), .int x6]) X hW hS ⟨Nat.zero_le _, Nat.zero_le _⟩ (rn_V (As := [.int x6]) (rest := []) X hW hS cw_11_123 al_0 rfl rfl rfl ⟨Nat.le_of_ble_eq_true rfl, Nat.le_of_ble_eq_true rfl⟩ rfl hl.1 rfl (Nat.le_of_ble_eq_true rfl) dX11_put_34) (ok_X11_finding i0 x6 al_0 e19) (fun H locs hW hS => ?_)
        obtain ⟨h20, e22, hF⟩ := nmx hF
        have hW := nmW e22 hW
        have g21 : h20.2.2 = h.2.2 := by rw [e22]; exact rfl
        obtain ⟨rfl, rfl⟩ := sj2 hF
        exact hfin _ _ _ _ (wdW g21 hW) hS dX11_put_37
    · have hF := it c27 hF
      refine lv_bipush (v := (-2)) hx hb dX11_put_14 (by decide) ?_
      obtain ⟨rfl, rfl⟩ := sj2 hF
      exact hfin _ _ _ _ (wdW rfl hW) hS dX11_put_16
def F_X11_get (i0 : Nat) (a1 : Int32) (a2 : Int32) (a3 : Int32) (h : HP) : Option (Int32 × DP) :=
  (F_X11_isSheet a1).bind fun x2 =>
  (if x2 = 0 then
  some ((-2147483648), dp h)
  else
  (F_X11_isForm a2).bind fun x4 =>
  (if x4 = 0 then
  some ((-2147483648), dp h)
  else
  (F_X11_findingAt i0 a1 a2 a3 h).bind fun x6 =>
  (if x6 = 0 then
  (gr h 11 i0 14).bind fun o7 =>
  (gar h 44 o7 4 a1).bind fun o10 =>
  (gr h 9 o10 3).bind fun o14 =>
  (ga h 39 o14 60 a3).bind fun x17 =>
  some (x17, dp h)
  else
  nm (si h 11 i0 15 x6) fun h20 =>
  some ((-2147483648), dp h20))))
set_option maxHeartbeats 4000000 in
set_option maxRecDepth 100000 in
theorem ok_X11_get {l : Launch} {D : va_G} {cA : Nat → ClassId} {h : HP} {r : Int32} {d : DP} (i0 : Nat) (a1 : Int32) (a2 : Int32) (a3 : Int32) (al_0 : i0 < gn h 11) (hF : F_X11_get i0 a1 a2 a3 h = some (r, d)) : MI l D cA yX11_get cX11_get 5 (some .int) 2 46 (fun φ => [.ref (φ 11 i0), .int a1, .int a2, .int a3]) h r (wd h d) := by
  refine mk_I (plainFor_of_name (by decide)) (fun φ => Nat.le_of_ble_eq_true rfl) ?_
  intro p e s m args below meth c ls φ A Q X hW hS hl hfin
  have hx := X.1
  have hb := X.2.1
  have hl : lv_has ls 5 [(0, .ref (φ 11 i0)), (1, .int a1), (2, .int a2), (3, .int a3)] := hl
  unfold F_X11_get at hF
  refine lv_iload_n hx hb dX11_get_0 rfl (lv_at hl 1 rfl) ?_
  obtain ⟨x2, e1, hF⟩ := bn hF
  refine rc_i (Af := fun φ => [.int a1]) X hW hS ⟨Nat.zero_le _, Nat.zero_le _⟩ (rn_S (As := [.int a1]) (rest := []) X hW hS cw_11_116 ⟨Nat.le_of_ble_eq_true rfl, Nat.le_of_ble_eq_true rfl⟩ rfl hl.1 rfl (Nat.le_of_ble_eq_true rfl) dX11_get_1) (ok_X11_isSheet a1 e1) (fun H locs hW hS => ?_)
  refine lv_if_eq (tgt := 14) hx hb dX11_get_4 (by decide) (fun c25 => ?_) (fun c25 => ?_)
  · have hF := it c25 hF
    refine lv_ldc (v := (-2147483648)) hx hb X.2.2.2.1 (X.2.2.2.2.1 _ (AL_of 557 (by decide +kernel) rfl)) dX11_get_14 ?_
    obtain ⟨rfl, rfl⟩ := sj2 hF
    exact hfin _ _ _ _ (wdW rfl hW) hS dX11_get_16
  · have hF := ie c25 hF
    refine lv_iload_n hx hb dX11_get_7 rfl (lv_at hl 2 rfl) ?_
    obtain ⟨x4, e3, hF⟩ := bn hF
    refine rc_i (Af := fun φ => [.int a2]) X hW hS ⟨Nat.zero_le _, Nat.zero_le _⟩ (rn_S (As := [.int a2]) (rest := []) X hW hS cw_11_350 ⟨Nat.le_of_ble_eq_true rfl, Nat.le_of_ble_eq_true rfl⟩ rfl hl.1 rfl (Nat.le_of_ble_eq_true rfl) dX11_get_8) (ok_X11_isForm a2 e3) (fun H locs hW hS => ?_)
    refine lv_if_ne (tgt := 17) hx hb dX11_get_11 (by decide) (fun c24 => ?_) (fun c24 => ?_)
    · have hF := ie c24 hF
      refine lv_aload_n hx hb dX11_get_17 rfl (lv_at hl 0 rfl) ?_
      refine lv_iload_n hx hb dX11_get_18 rfl (lv_at hl 1 rfl) ?_
      refine lv_iload_n hx hb dX11_get_19 rfl (lv_at hl 2 rfl) ?_
      refine lv_iload_n hx hb dX11_get_20 rfl (lv_at hl 3 rfl) ?_
      obtain ⟨x6, e5, hF⟩ := bn hF
      refine rc_i (Af := fun φ => [.ref (φ 11 i0), .int a1, .int a2, .int a3]) X hW hS ⟨Nat.zero_le _, Nat.zero_le _⟩ (rn_V (As := [.int a1, .int a2, .int a3]) (rest := []) X hW hS cw_11_356 al_0 rfl rfl rfl ⟨Nat.le_of_ble_eq_true rfl, Nat.le_of_ble_eq_true rfl⟩ rfl hl.1 rfl (Nat.le_of_ble_eq_true rfl) dX11_get_21) (ok_X11_findingAt i0 a1 a2 a3 al_0 e5) (fun H locs hW hS => ?_)
      refine lv_istore (lv' := [(4, .int x6), (0, .ref (φ 11 i0)), (1, .int a1), (2, .int a2), (3, .int a3)]) hx hb dX11_get_24 hl (by decide) rfl (fun ls hl => ?_)
      refine lv_iload hx hb dX11_get_26 (lv_at hl 0 rfl) ?_
      refine lv_if_eq (tgt := 40) hx hb dX11_get_28 (by decide) (fun c23 => ?_) (fun c23 => ?_)
      · have hF := it c23 hF
        refine lv_aload_n hx hb dX11_get_40 rfl (lv_at hl 1 rfl) ?_
        obtain ⟨o7, e8, hF⟩ := bn hF
        refine r_getr X hW al_0 fl_11_76 e8 dX11_get_41 (fun al9 => ?_)
        refine lv_iload_n hx hb dX11_get_44 rfl (lv_at hl 2 rfl) ?_
        obtain ⟨o10, e11, hF⟩ := bn hF
        obtain ⟨b12, e11⟩ := gar_s e11
        refine r_aald (t0 := 6) X hW al9 rfl rfl b12 e11 dX11_get_45 (fun al13 => ?_)
        obtain ⟨o14, e15, hF⟩ := bn hF
        refine r_getr X hW al13 fl_11_130 e15 dX11_get_46 (fun al16 => ?_)
        refine lv_iload_n hx hb dX11_get_49 rfl (lv_at hl 4 rfl) ?_
        obtain ⟨x17, e18, hF⟩ := bn hF
        obtain ⟨b19, e18⟩ := ga_s e18
        refine r_iald X hW al16 rfl b19 dX11_get_50 ?_
        refine nmi e18 ?_
        obtain ⟨rfl, rfl⟩ := sj2 hF
        exact hfin _ _ _ _ (wdW rfl hW) hS dX11_get_51
      · have hF := ie c23 hF
        refine lv_aload_n hx hb dX11_get_31 rfl (lv_at hl 1 rfl) ?_
        refine lv_iload hx hb dX11_get_32 (lv_at hl 0 rfl) ?_
        refine r_puti X hW hS al_0 fp_11_362 rfl rfl dX11_get_34 (fun H locs hW hS => ?_)
        obtain ⟨h20, e21, hF⟩ := nmx hF
        have hW := nmW e21 hW
        have g22 : h20.2.2 = h.2.2 := by rw [e21]; exact rfl
        refine lv_ldc (v := (-2147483648)) hx hb X.2.2.2.1 (X.2.2.2.2.1 _ (AL_of 557 (by decide +kernel) rfl)) dX11_get_37 ?_
        obtain ⟨rfl, rfl⟩ := sj2 hF
        exact hfin _ _ _ _ (wdW g22 hW) hS dX11_get_39
    · have hF := it c24 hF
      refine lv_ldc (v := (-2147483648)) hx hb X.2.2.2.1 (X.2.2.2.2.1 _ (AL_of 557 (by decide +kernel) rfl)) dX11_get_14 ?_
      obtain ⟨rfl, rfl⟩ := sj2 hF
      exact hfin _ _ _ _ (wdW rfl hW) hS dX11_get_16
def J_X11_copy_97 (i0 : Nat) (hj97 : HP) : Option (Int32 × DP) :=
  (F_X11_finding i0 2 hj97).bind fun q6 => u2 q6 fun x7 d5 => nm (wd hj97 d5) fun h2 =>
  some (x7, dp h2)
def J_X11_copy_49 (i0 : Nat) (hj49 : HP) : Option (Int32 × DP) :=
  (F_X11_finding i0 1 hj49).bind fun q13 => u2 q13 fun x14 d12 => nm (wd hj49 d12) fun h9 =>
  some (x14, dp h9)
def F_X11_copy (i0 : Nat) (a1 : Int32) (a2 : Int32) (a3 : Int32) (a4 : Int32) (a5 : Int32) (h : HP) : Option (Int32 × DP) :=
  (F_X11_isSheet a1).bind fun x16 =>
  (if x16 = 0 then
  some ((-2), dp h)
  else
  (F_X11_isSheet a3).bind fun x18 =>
  (if x18 = 0 then
  some ((-2), dp h)
  else
  (gr h 11 i0 14).bind fun o19 =>
  (gar h 44 o19 4 a1).bind fun o22 =>
  (gr h 11 i0 14).bind fun o26 =>
  (gar h 44 o26 4 a3).bind fun o29 =>
  (if (gi h 9 o22 0) = 0 then
  (if (gi h 9 o29 0) = 0 then
  (if (gi h 9 o22 1) = (gi h 9 o29 1) then
  (F_X9_hasItems o22 a2 a5 h).bind fun x34 =>
  (if x34 = 0 then
  J_X11_copy_97 i0 h
  else
  (F_X9_hasItems o29 a4 a5 h).bind fun x36 =>
  (if x36 = 0 then
  J_X11_copy_97 i0 h
  else
  (gr h 9 o22 3).bind fun o37 =>
  (gr h 9 o29 3).bind fun o40 =>
  (acp h 39 o37 60 a2 39 o40 60 a4 a5).bind fun h43 =>
  some (1, dp h43)))
  else
  (F_X11_finding i0 4 h).bind fun q54 => u2 q54 fun x55 d53 => nm (wd h d53) fun h50 =>
  some (x55, dp h50))
  else
  J_X11_copy_49 i0 h)
  else
  J_X11_copy_49 i0 h)))
set_option maxHeartbeats 4000000 in
set_option maxRecDepth 100000 in
theorem ok_X11_copy {l : Launch} {D : va_G} {cA : Nat → ClassId} {h : HP} {r : Int32} {d : DP} (i0 : Nat) (a1 : Int32) (a2 : Int32) (a3 : Int32) (a4 : Int32) (a5 : Int32) (al_0 : i0 < gn h 11) (hF : F_X11_copy i0 a1 a2 a3 a4 a5 h = some (r, d)) : MI l D cA yX11_copy cX11_copy 8 (some .int) 2 80 (fun φ => [.ref (φ 11 i0), .int a1, .int a2, .int a3, .int a4, .int a5]) h r (wd h d) := by
  refine mk_I (plainFor_of_name (by decide)) (fun φ => Nat.le_of_ble_eq_true rfl) ?_
  intro p e s m args below meth c ls φ A Q X hW hS hl hfin
  have hx := X.1
  have hb := X.2.1
  have hl : lv_has ls 8 [(0, .ref (φ 11 i0)), (1, .int a1), (2, .int a2), (3, .int a3), (4, .int a4), (5, .int a5)] := hl
  unfold F_X11_copy at hF
  have j_97 : ∀ (hj97 : HP) (H : Heap) (locs : List Loc) (ls : Array Slot), hj97.2.2 = h.2.2 → J_X11_copy_97 i0 hj97 = some (r, d) → HW D cA A φ hj97 H → va_S A s.heap H locs → lv_has ls 8 [(0, .ref (φ 11 i0))] → W p l e (rmo 2 80 0 0) s m args below meth c H locs 0 0 Q (F0 m 97 ls []) := by
    intro hj97 H locs ls gj97 hF hW hS hl
    unfold J_X11_copy_97 at hF
    refine lv_aload_n hx hb dX11_copy_97 rfl (lv_at hl 0 rfl) ?_
    refine lv_iconst (v := 2) hx hb dX11_copy_98 (by decide) ?_
    obtain ⟨q6, e1, hF⟩ := bn hF
    obtain ⟨x7, d5⟩ := q6
    have hF := u2d hF
    refine rc_i (Af := fun φ => [.ref (φ 11 i0), .int 2]) X hW hS ⟨Nat.zero_le _, Nat.zero_le _⟩ (rn_V (As := [.int 2]) (rest := []) X hW hS cw_11_123 (gq gj97 al_0) rfl rfl rfl ⟨Nat.le_of_ble_eq_true rfl, Nat.le_of_ble_eq_true rfl⟩ rfl hl.1 rfl (Nat.le_of_ble_eq_true rfl) dX11_copy_99) (ok_X11_finding i0 2 (gq gj97 al_0) e1) (fun H locs hW hS => ?_)
    obtain ⟨h2, e4, hF⟩ := nmx hF
    have hW := nmW e4 hW
    have g3 : h2.2.2 = h.2.2 := by rw [e4]; exact gj97
    obtain ⟨rfl, rfl⟩ := sj2 hF
    exact hfin _ _ _ _ (wdW g3 hW) hS dX11_copy_102
  have j_49 : ∀ (hj49 : HP) (H : Heap) (locs : List Loc) (ls : Array Slot), hj49.2.2 = h.2.2 → J_X11_copy_49 i0 hj49 = some (r, d) → HW D cA A φ hj49 H → va_S A s.heap H locs → lv_has ls 8 [(0, .ref (φ 11 i0))] → W p l e (rmo 2 80 0 0) s m args below meth c H locs 0 0 Q (F0 m 49 ls []) := by
    intro hj49 H locs ls gj49 hF hW hS hl
    unfold J_X11_copy_49 at hF
    refine lv_aload_n hx hb dX11_copy_49 rfl (lv_at hl 0 rfl) ?_
    refine lv_iconst (v := 1) hx hb dX11_copy_50 (by decide) ?_
    obtain ⟨q13, e8, hF⟩ := bn hF
    obtain ⟨x14, d12⟩ := q13
    have hF := u2d hF
    refine rc_i (Af := fun φ => [.ref (φ 11 i0), .int 1]) X hW hS ⟨Nat.zero_le _, Nat.zero_le _⟩ (rn_V (As := [.int 1]) (rest := []) X hW hS cw_11_123 (gq gj49 al_0) rfl rfl rfl ⟨Nat.le_of_ble_eq_true rfl, Nat.le_of_ble_eq_true rfl⟩ rfl hl.1 rfl (Nat.le_of_ble_eq_true rfl) dX11_copy_51) (ok_X11_finding i0 1 (gq gj49 al_0) e8) (fun H locs hW hS => ?_)
    obtain ⟨h9, e11, hF⟩ := nmx hF
    have hW := nmW e11 hW
    have g10 : h9.2.2 = h.2.2 := by rw [e11]; exact gj49
    obtain ⟨rfl, rfl⟩ := sj2 hF
    exact hfin _ _ _ _ (wdW g10 hW) hS dX11_copy_54
  refine lv_iload_n hx hb dX11_copy_0 rfl (lv_at hl 1 rfl) ?_
  obtain ⟨x16, e15, hF⟩ := bn hF
  refine rc_i (Af := fun φ => [.int a1]) X hW hS ⟨Nat.zero_le _, Nat.zero_le _⟩ (rn_S (As := [.int a1]) (rest := []) X hW hS cw_11_116 ⟨Nat.le_of_ble_eq_true rfl, Nat.le_of_ble_eq_true rfl⟩ rfl hl.1 rfl (Nat.le_of_ble_eq_true rfl) dX11_copy_1) (ok_X11_isSheet a1 e15) (fun H locs hW hS => ?_)
  refine lv_if_eq (tgt := 14) hx hb dX11_copy_4 (by decide) (fun c60 => ?_) (fun c60 => ?_)
  · have hF := it c60 hF
    refine lv_bipush (v := (-2)) hx hb dX11_copy_14 (by decide) ?_
    obtain ⟨rfl, rfl⟩ := sj2 hF
    exact hfin _ _ _ _ (wdW rfl hW) hS dX11_copy_16
  · have hF := ie c60 hF
    refine lv_iload_n hx hb dX11_copy_7 rfl (lv_at hl 3 rfl) ?_
    obtain ⟨x18, e17, hF⟩ := bn hF
    refine rc_i (Af := fun φ => [.int a3]) X hW hS ⟨Nat.zero_le _, Nat.zero_le _⟩ (rn_S (As := [.int a3]) (rest := []) X hW hS cw_11_116 ⟨Nat.le_of_ble_eq_true rfl, Nat.le_of_ble_eq_true rfl⟩ rfl hl.1 rfl (Nat.le_of_ble_eq_true rfl) dX11_copy_8) (ok_X11_isSheet a3 e17) (fun H locs hW hS => ?_)
    refine lv_if_ne (tgt := 17) hx hb dX11_copy_11 (by decide) (fun c59 => ?_) (fun c59 => ?_)
    · have hF := ie c59 hF
      refine lv_aload_n hx hb dX11_copy_17 rfl (lv_at hl 0 rfl) ?_
      obtain ⟨o19, e20, hF⟩ := bn hF
      refine r_getr X hW al_0 fl_11_76 e20 dX11_copy_18 (fun al21 => ?_)
      refine lv_iload_n hx hb dX11_copy_21 rfl (lv_at hl 1 rfl) ?_
      obtain ⟨o22, e23, hF⟩ := bn hF
      obtain ⟨b24, e23⟩ := gar_s e23
      refine r_aald (t0 := 6) X hW al21 rfl rfl b24 e23 dX11_copy_22 (fun al25 => ?_)
      refine lv_astore (lv' := [(6, .ref (φ 9 o22)), (0, .ref (φ 11 i0)), (1, .int a1), (2, .int a2), (3, .int a3), (4, .int a4), (5, .int a5)]) hx hb dX11_copy_23 hl (by decide) rfl (fun ls hl => ?_)
      refine lv_aload_n hx hb dX11_copy_25 rfl (lv_at hl 1 rfl) ?_
      obtain ⟨o26, e27, hF⟩ := bn hF
      refine r_getr X hW al_0 fl_11_76 e27 dX11_copy_26 (fun al28 => ?_)
      refine lv_iload_n hx hb dX11_copy_29 rfl (lv_at hl 4 rfl) ?_
      obtain ⟨o29, e30, hF⟩ := bn hF
      obtain ⟨b31, e30⟩ := gar_s e30
      refine r_aald (t0 := 6) X hW al28 rfl rfl b31 e30 dX11_copy_30 (fun al32 => ?_)
      refine lv_astore (lv' := [(7, .ref (φ 9 o29)), (6, .ref (φ 9 o22)), (0, .ref (φ 11 i0)), (1, .int a1), (2, .int a2), (3, .int a3), (4, .int a4), (5, .int a5)]) hx hb dX11_copy_31 hl (by decide) rfl (fun ls hl => ?_)
      refine lv_aload hx hb dX11_copy_33 (lv_at hl 1 rfl) ?_
      refine r_geti X hW al25 fl_11_119 dX11_copy_35 ?_
      refine lv_if_ne (tgt := 49) hx hb dX11_copy_38 (by decide) (fun c58 => ?_) (fun c58 => ?_)
      · have hF := ie c58 hF
        exact j_49 h _ _ _ rfl hF hW hS (lv_sub hl [2] rfl)
      · have hF := it c58 hF
        refine lv_aload hx hb dX11_copy_41 (lv_at hl 0 rfl) ?_
        refine r_geti X hW al32 fl_11_119 dX11_copy_43 ?_
        refine lv_if_eq (tgt := 55) hx hb dX11_copy_46 (by decide) (fun c57 => ?_) (fun c57 => ?_)
        · have hF := it c57 hF
          refine lv_aload hx hb dX11_copy_55 (lv_at hl 1 rfl) ?_
          refine r_geti X hW al25 fl_11_365 dX11_copy_57 ?_
          refine lv_aload hx hb dX11_copy_60 (lv_at hl 0 rfl) ?_
          refine r_geti X hW al32 fl_11_365 dX11_copy_62 ?_
          refine lv_icmp_eq (tgt := 74) hx hb dX11_copy_65 (by decide) (fun c56 => ?_) (fun c56 => ?_)
          · have hF := it c56 hF
            refine lv_aload hx hb dX11_copy_74 (lv_at hl 1 rfl) ?_
            refine lv_iload_n hx hb dX11_copy_76 rfl (lv_at hl 4 rfl) ?_
            refine lv_iload hx hb dX11_copy_77 (lv_at hl 7 rfl) ?_
            obtain ⟨x34, e33, hF⟩ := bn hF
            refine rc_i (Af := fun φ => [.ref (φ 9 o22), .int a2, .int a5]) X hW hS ⟨Nat.zero_le _, Nat.zero_le _⟩ (rn_V (As := [.int a2, .int a5]) (rest := []) X hW hS cw_11_368 al25 rfl rfl rfl ⟨Nat.le_of_ble_eq_true rfl, Nat.le_of_ble_eq_true rfl⟩ rfl hl.1 rfl (Nat.le_of_ble_eq_true rfl) dX11_copy_79) (ok_X9_hasItems o22 a2 a5 al25 e33) (fun H locs hW hS => ?_)
            refine lv_if_eq (tgt := 97) hx hb dX11_copy_82 (by decide) (fun c48 => ?_) (fun c48 => ?_)
            · have hF := it c48 hF
              exact j_97 h _ _ _ rfl hF hW hS (lv_sub hl [2] rfl)
            · have hF := ie c48 hF
              refine lv_aload hx hb dX11_copy_85 (lv_at hl 0 rfl) ?_
              refine lv_iload hx hb dX11_copy_87 (lv_at hl 6 rfl) ?_
              refine lv_iload hx hb dX11_copy_89 (lv_at hl 7 rfl) ?_
              obtain ⟨x36, e35, hF⟩ := bn hF
              refine rc_i (Af := fun φ => [.ref (φ 9 o29), .int a4, .int a5]) X hW hS ⟨Nat.zero_le _, Nat.zero_le _⟩ (rn_V (As := [.int a4, .int a5]) (rest := []) X hW hS cw_11_368 al32 rfl rfl rfl ⟨Nat.le_of_ble_eq_true rfl, Nat.le_of_ble_eq_true rfl⟩ rfl hl.1 rfl (Nat.le_of_ble_eq_true rfl) dX11_copy_91) (ok_X9_hasItems o29 a4 a5 al32 e35) (fun H locs hW hS => ?_)
              refine lv_if_ne (tgt := 103) hx hb dX11_copy_94 (by decide) (fun c47 => ?_) (fun c47 => ?_)
              · have hF := ie c47 hF
                refine lv_aload hx hb dX11_copy_103 (lv_at hl 1 rfl) ?_
                obtain ⟨o37, e38, hF⟩ := bn hF
                refine r_getr X hW al25 fl_11_130 e38 dX11_copy_105 (fun al39 => ?_)
                refine lv_iload_n hx hb dX11_copy_108 rfl (lv_at hl 4 rfl) ?_
                refine lv_aload hx hb dX11_copy_109 (lv_at hl 0 rfl) ?_
                obtain ⟨o40, e41, hF⟩ := bn hF
                refine r_getr X hW al32 fl_11_130 e41 dX11_copy_111 (fun al42 => ?_)
                refine lv_iload hx hb dX11_copy_114 (lv_at hl 6 rfl) ?_
                refine lv_iload hx hb dX11_copy_116 (lv_at hl 7 rfl) ?_
                obtain ⟨h43, e44, hF⟩ := bn hF
                obtain ⟨b45, e44⟩ := acp_s e44
                refine r_acp X hW hS hl.1 al39 al42 rfl rfl b45 (AL_of 944 (by decide +kernel) rfl) (by decide) (Nat.le_of_ble_eq_true rfl) dX11_copy_118 (fun H locs hW hS => ?_)
                have hW := nmW e44 hW
                have g46 : h43.2.2 = h.2.2 := by rw [e44]; exact rfl
                refine lv_iconst (v := 1) hx hb dX11_copy_121 (by decide) ?_
                obtain ⟨rfl, rfl⟩ := sj2 hF
                exact hfin _ _ _ _ (wdW g46 hW) hS dX11_copy_122
              · have hF := it c47 hF
                exact j_97 h _ _ _ rfl hF hW hS (lv_sub hl [2] rfl)
          · have hF := ie c56 hF
            refine lv_aload_n hx hb dX11_copy_68 rfl (lv_at hl 2 rfl) ?_
            refine lv_iconst (v := 4) hx hb dX11_copy_69 (by decide) ?_
            obtain ⟨q54, e49, hF⟩ := bn hF
            obtain ⟨x55, d53⟩ := q54
            have hF := u2d hF
            refine rc_i (Af := fun φ => [.ref (φ 11 i0), .int 4]) X hW hS ⟨Nat.zero_le _, Nat.zero_le _⟩ (rn_V (As := [.int 4]) (rest := []) X hW hS cw_11_123 al_0 rfl rfl rfl ⟨Nat.le_of_ble_eq_true rfl, Nat.le_of_ble_eq_true rfl⟩ rfl hl.1 rfl (Nat.le_of_ble_eq_true rfl) dX11_copy_70) (ok_X11_finding i0 4 al_0 e49) (fun H locs hW hS => ?_)
            obtain ⟨h50, e52, hF⟩ := nmx hF
            have hW := nmW e52 hW
            have g51 : h50.2.2 = h.2.2 := by rw [e52]; exact rfl
            obtain ⟨rfl, rfl⟩ := sj2 hF
            exact hfin _ _ _ _ (wdW g51 hW) hS dX11_copy_73
        · have hF := ie c57 hF
          exact j_49 h _ _ _ rfl hF hW hS (lv_sub hl [2] rfl)
    · have hF := it c59 hF
      refine lv_bipush (v := (-2)) hx hb dX11_copy_14 (by decide) ?_
      obtain ⟨rfl, rfl⟩ := sj2 hF
      exact hfin _ _ _ _ (wdW rfl hW) hS dX11_copy_16
