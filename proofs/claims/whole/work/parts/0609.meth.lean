def B_X11_write_66 (i0 : Nat) (o8 : Nat) (o21 : Nat) (x27 : Int32) (h16 : HP) (q : Int32 × DP) : Option ((Int32 × DP) ⊕ (DP)) :=
  u2 q fun x28 d31 =>
  nm (wd h16 d31) fun h29 =>
  (if x27 ≤ x28 then
  some (.inr (dp h29))
  else
  (gr h29 11 i0 4).bind fun o32 =>
  (gr h29 11 i0 3).bind fun o35 =>
  (gr h29 2 o35 0).bind fun o38 =>
  (gar h29 23 o38 20 x28).bind fun o41 =>
  (F_X4_letterOf o32 o41 o21 h29).bind fun x46 =>
  (F_X9_store o8 x28 x46 h29).bind fun d51 => nm (wd h29 d51) fun h48 =>
  nm (x28 + 1) fun x52 =>
  some (.inl (x52, (dp h48))))
def F_X11_write (i0 : Nat) (a1 : Int32) (a2 : Int32) (h : HP) : Option (Int32 × DP) :=
  (F_X11_isSheet a1).bind fun x2 =>
  (if x2 = 0 then
  some ((-2), dp h)
  else
  (F_X11_isWeek a2).bind fun x4 =>
  (if x4 = 0 then
  some ((-2), dp h)
  else
  (gr h 11 i0 14).bind fun o5 =>
  (gar h 44 o5 4 a1).bind fun o8 =>
  (if (gi h 9 o8 0) = 0 then
  (gr h 11 i0 4).bind fun o12 =>
  (F_X4_inForceIn o12 a2 h).bind fun q20 => u2 q20 fun o21 d19 => nm (wd h d19) fun h16 =>
  (gr h16 11 i0 3).bind fun o23 =>
  (F_J_min (gi h16 2 o23 1) (gi h16 9 o8 2)).bind fun x27 =>
  (loopN LF (B_X11_write_66 i0 o8 o21 x27 h16) (0, (dp h16))).bind fun d58 =>
  nm (wd h16 d58) fun h59 =>
  some (x27, dp h59)
  else
  (F_X11_finding i0 1 h).bind fun q67 => u2 q67 fun x68 d66 => nm (wd h d66) fun h63 =>
  some (x68, dp h63))))
set_option maxHeartbeats 4000000 in
set_option maxRecDepth 100000 in
theorem ok_X11_write {l : Launch} {D : va_G} {cA : Nat → ClassId} {h : HP} {r : Int32} {d : DP} (i0 : Nat) (a1 : Int32) (a2 : Int32) (al_0 : i0 < gn h 11) (hF : F_X11_write i0 a1 a2 h = some (r, d)) : MI l D cA yX11_write cX11_write 7 (some .int) 2 47 (fun φ => [.ref (φ 11 i0), .int a1, .int a2]) h r (wd h d) := by
  refine mk_I (plainFor_of_name (by decide)) (fun φ => Nat.le_of_ble_eq_true rfl) ?_
  intro p e s m args below meth c ls φ A Q X hW hS hl hfin
  have hx := X.1
  have hb := X.2.1
  have hl : lv_has ls 7 [(0, .ref (φ 11 i0)), (1, .int a1), (2, .int a2)] := hl
  unfold F_X11_write at hF
  refine lv_iload_n hx hb dX11_write_0 rfl (lv_at hl 1 rfl) ?_
  obtain ⟨x2, e1, hF⟩ := bn hF
  refine rc_i (Af := fun φ => [.int a1]) X hW hS ⟨Nat.zero_le _, Nat.zero_le _⟩ (rn_S (As := [.int a1]) (rest := []) X hW hS cw_11_116 ⟨Nat.le_of_ble_eq_true rfl, Nat.le_of_ble_eq_true rfl⟩ rfl hl.1 rfl (Nat.le_of_ble_eq_true rfl) dX11_write_1) (ok_X11_isSheet a1 e1) (fun H locs hW hS => ?_)
  refine lv_if_eq (tgt := 14) hx hb dX11_write_4 (by decide) (fun c71 => ?_) (fun c71 => ?_)
  · have hF := it c71 hF
    refine lv_bipush (v := (-2)) hx hb dX11_write_14 (by decide) ?_
    obtain ⟨rfl, rfl⟩ := sj2 hF
    exact hfin _ _ _ _ (wdW rfl hW) hS dX11_write_16
  · have hF := ie c71 hF
    refine lv_iload_n hx hb dX11_write_7 rfl (lv_at hl 2 rfl) ?_
    obtain ⟨x4, e3, hF⟩ := bn hF
    refine rc_i (Af := fun φ => [.int a2]) X hW hS ⟨Nat.zero_le _, Nat.zero_le _⟩ (rn_S (As := [.int a2]) (rest := []) X hW hS cw_11_199 ⟨Nat.le_of_ble_eq_true rfl, Nat.le_of_ble_eq_true rfl⟩ rfl hl.1 rfl (Nat.le_of_ble_eq_true rfl) dX11_write_8) (ok_X11_isWeek a2 e3) (fun H locs hW hS => ?_)
    refine lv_if_ne (tgt := 17) hx hb dX11_write_11 (by decide) (fun c70 => ?_) (fun c70 => ?_)
    · have hF := ie c70 hF
      refine lv_aload_n hx hb dX11_write_17 rfl (lv_at hl 0 rfl) ?_
      obtain ⟨o5, e6, hF⟩ := bn hF
      refine r_getr X hW al_0 fl_11_76 e6 dX11_write_18 (fun al7 => ?_)
      refine lv_iload_n hx hb dX11_write_21 rfl (lv_at hl 1 rfl) ?_
      obtain ⟨o8, e9, hF⟩ := bn hF
      obtain ⟨b10, e9⟩ := gar_s e9
      refine r_aald (t0 := 6) X hW al7 rfl rfl b10 e9 dX11_write_22 (fun al11 => ?_)
      refine lv_astore_n (lv' := [(3, .ref (φ 9 o8)), (0, .ref (φ 11 i0)), (1, .int a1), (2, .int a2)]) hx hb dX11_write_23 rfl hl (by decide) rfl (fun ls hl => ?_)
      refine lv_aload_n hx hb dX11_write_24 rfl (lv_at hl 0 rfl) ?_
      refine r_geti X hW al11 fl_11_119 dX11_write_25 ?_
      refine lv_if_eq (tgt := 37) hx hb dX11_write_28 (by decide) (fun c69 => ?_) (fun c69 => ?_)
      · have hF := it c69 hF
        refine lv_aload_n hx hb dX11_write_37 rfl (lv_at hl 1 rfl) ?_
        obtain ⟨o12, e13, hF⟩ := bn hF
        refine r_getr X hW al_0 fl_11_23 e13 dX11_write_38 (fun al14 => ?_)
        refine lv_iload_n hx hb dX11_write_41 rfl (lv_at hl 3 rfl) ?_
        obtain ⟨q20, e15, hF⟩ := bn hF
        obtain ⟨o21, d19⟩ := q20
        have hF := u2d hF
        refine rc_r (Af := fun φ => [.ref (φ 4 o12), .int a2]) X hW hS ⟨Nat.zero_le _, Nat.zero_le _⟩ (rn_V (As := [.int a2]) (rest := []) X hW hS cw_11_202 al14 rfl rfl rfl ⟨Nat.le_of_ble_eq_true rfl, Nat.le_of_ble_eq_true rfl⟩ rfl hl.1 rfl (Nat.le_of_ble_eq_true rfl) dX11_write_42) (ok_X4_inForceIn o12 a2 al14 e15) (fun H locs hW hS al22 => ?_)
        have al22 := qg (h1 := wd h d19) rfl al22
        obtain ⟨h16, e18, hF⟩ := nmx hF
        have hW := nmW e18 hW
        have g17 : h16.2.2 = h.2.2 := by rw [e18]; exact rfl
        refine lv_astore (lv' := [(4, .ref (φ 34 o21)), (3, .ref (φ 9 o8)), (0, .ref (φ 11 i0)), (1, .int a1), (2, .int a2)]) hx hb dX11_write_45 hl (by decide) rfl (fun ls hl => ?_)
        refine lv_aload_n hx hb dX11_write_47 rfl (lv_at hl 2 rfl) ?_
        obtain ⟨o23, e24, hF⟩ := bn hF
        refine r_getr X hW (gq g17 al_0) fl_11_16 e24 dX11_write_48 (fun al25 => ?_)
        have al25 := qg g17 al25
        refine r_geti X hW (gq g17 al25) fl_11_222 dX11_write_51 ?_
        refine lv_aload_n hx hb dX11_write_54 rfl (lv_at hl 1 rfl) ?_
        refine r_geti X hW (gq g17 al11) fl_11_127 dX11_write_55 ?_
        obtain ⟨x27, e26, hF⟩ := bn hF
        refine rc_i (Af := fun φ => [.int (gi h16 2 o23 1), .int (gi h16 9 o8 2)]) X hW hS ⟨Nat.zero_le _, Nat.zero_le _⟩ (rn_S (As := [.int (gi h16 2 o23 1), .int (gi h16 9 o8 2)]) (rest := []) X hW hS cw_11_377 ⟨Nat.le_of_ble_eq_true rfl, Nat.le_of_ble_eq_true rfl⟩ rfl hl.1 rfl (Nat.le_of_ble_eq_true rfl) dX11_write_58) (ok_J_min (gi h16 2 o23 1) (gi h16 9 o8 2) e26) (fun H locs hW hS => ?_)
        refine lv_istore (lv' := [(5, .int x27), (4, .ref (φ 34 o21)), (3, .ref (φ 9 o8)), (0, .ref (φ 11 i0)), (1, .int a1), (2, .int a2)]) hx hb dX11_write_61 hl (by decide) rfl (fun ls hl => ?_)
        refine lv_iconst (v := 0) hx hb dX11_write_63 (by decide) ?_
        refine lv_istore (lv' := [(6, .int 0), (5, .int x27), (4, .ref (φ 34 o21)), (3, .ref (φ 9 o8)), (0, .ref (φ 11 i0)), (1, .int a1), (2, .int a2)]) hx hb dX11_write_64 hl (by decide) rfl (fun ls hl => ?_)
        obtain ⟨q55, e56, hF⟩ := bn hF
        refine loop_w (f := B_X11_write_66 i0 o8 o21 x27 h16) (Z := fun q => ∀ (H : Heap) (locs : List Loc) (ls : Array Slot), HW D cA A φ (wd h16 q.2) H → va_S A s.heap H locs → lv_has ls 7 [(0, .ref (φ 11 i0)), (3, .ref (φ 9 o8)), (4, .ref (φ 34 o21)), (5, .int x27), (6, .int (q.1))] → W p l e (rmo 2 47 0 0) s m args below meth c H locs 0 0 Q (F0 m 66 ls [])) (K := fun q => ∀ (H : Heap) (locs : List Loc) (ls : Array Slot), HW D cA A φ (wd h16 q) H → va_S A s.heap H locs → lv_has ls 7 [(5, .int x27)] → W p l e (rmo 2 47 0 0) s m args below meth c H locs 0 0 Q (F0 m 104 ls [])) ?_ LF _ q55 e56 ?_ _ _ _ (wdW rfl hW) hS (lv_sub hl [4, 3, 2, 1, 0] rfl)
        · intro q v hF hK H locs ls hW hS hl
          obtain ⟨x28, d31⟩ := q
          unfold B_X11_write_66 at hF
          have hF := u2d hF
          obtain ⟨h29, e57, hF⟩ := nmx hF
          have hW := nmW e57 hW
          have g30 : h29.2.2 = h.2.2 := by rw [e57]; exact g17
          have hl : lv_has ls 7 [(0, .ref (φ 11 i0)), (3, .ref (φ 9 o8)), (4, .ref (φ 34 o21)), (5, .int x27), (6, .int x28)] := hl
          refine lv_iload hx hb dX11_write_66 (lv_at hl 4 rfl) ?_
          refine lv_iload hx hb dX11_write_68 (lv_at hl 3 rfl) ?_
          refine lv_icmp_ge (tgt := 104) hx hb dX11_write_70 (by decide) (fun c54 => ?_) (fun c54 => ?_)
          · have hF := it c54 hF
            obtain rfl := sj hF
            exact hK _ _ _ (wdW (sq g30 g17) hW) hS (lv_sub hl [3] rfl)
          · have hF := ie c54 hF
            refine lv_aload_n hx hb dX11_write_73 rfl (lv_at hl 1 rfl) ?_
            refine lv_iload hx hb dX11_write_74 (lv_at hl 4 rfl) ?_
            refine lv_aload_n hx hb dX11_write_76 rfl (lv_at hl 0 rfl) ?_
            obtain ⟨o32, e33, hF⟩ := bn hF
            refine r_getr X hW (gq g30 al_0) fl_11_23 e33 dX11_write_77 (fun al34 => ?_)
            have al34 := qg g30 al34
            refine lv_aload_n hx hb dX11_write_80 rfl (lv_at hl 0 rfl) ?_
            obtain ⟨o35, e36, hF⟩ := bn hF
            refine r_getr X hW (gq g30 al_0) fl_11_16 e36 dX11_write_81 (fun al37 => ?_)
            have al37 := qg g30 al37
            obtain ⟨o38, e39, hF⟩ := bn hF
            refine r_getr X hW (gq g30 al37) fl_11_140 e39 dX11_write_84 (fun al40 => ?_)
            have al40 := qg g30 al40
            refine lv_iload hx hb dX11_write_87 (lv_at hl 4 rfl) ?_
            obtain ⟨o41, e42, hF⟩ := bn hF
            obtain ⟨b43, e42⟩ := gar_s e42
            refine r_aald (t0 := 3) X hW (gq g30 al40) rfl rfl b43 e42 dX11_write_89 (fun al44 => ?_)
            have al44 := qg g30 al44
            refine lv_aload hx hb dX11_write_90 (lv_at hl 2 rfl) ?_
            obtain ⟨x46, e45, hF⟩ := bn hF
            refine rc_i (Af := fun φ => [.ref (φ 4 o32), .ref (φ 1 o41), .ref (φ 34 o21)]) X hW hS ⟨Nat.zero_le _, Nat.zero_le _⟩ (rn_V (As := [.ref (φ 1 o41), .ref (φ 34 o21)]) (rest := [.int x28, .ref (φ 9 o8)]) X hW hS cw_11_206 (gq g30 al34) rfl rfl rfl ⟨Nat.le_of_ble_eq_true rfl, Nat.le_of_ble_eq_true rfl⟩ rfl hl.1 rfl (Nat.le_of_ble_eq_true rfl) dX11_write_92) (ok_X4_letterOf o32 o41 o21 (gq g30 al34) (gq g30 al44) (gq g30 al22) e45) (fun H locs hW hS => ?_)
            obtain ⟨d51, e47, hF⟩ := bn hF
            refine rc_v (Af := fun φ => [.ref (φ 9 o8), .int x28, .int x46]) X hW hS ⟨Nat.zero_le _, Nat.zero_le _⟩ (rn_V (As := [.int x28, .int x46]) (rest := []) X hW hS cw_11_359 (gq g30 al11) rfl rfl rfl ⟨Nat.le_of_ble_eq_true rfl, Nat.le_of_ble_eq_true rfl⟩ rfl hl.1 rfl (Nat.le_of_ble_eq_true rfl) dX11_write_95) (ok_X9_store o8 x28 x46 (gq g30 al11) e47) (fun H locs hW hS => ?_)
            obtain ⟨h48, e50, hF⟩ := nmx hF
            have hW := nmW e50 hW
            have g49 : h48.2.2 = h.2.2 := by rw [e50]; exact g30
            obtain ⟨x52, e53, hF⟩ := nmx hF
            refine lv_iinc (v := x52) (lv' := [(6, .int x52), (0, .ref (φ 11 i0)), (3, .ref (φ 9 o8)), (4, .ref (φ 34 o21)), (5, .int x27)]) hx hb dX11_write_98 hl (k := 4) rfl (by rw [e53]; rfl) (by decide) rfl (fun ls hl => ?_)
            refine lv_goto (tgt := 66) hx hb dX11_write_101 (by decide) ?_
            obtain rfl := sj hF
            exact hK _ _ _ (wdW (sq g49 g17) hW) hS (lv_sub hl [1, 2, 3, 4, 0] rfl)
        · intro H locs ls hW hS hl
          obtain ⟨d58, rfl⟩ : ∃ z, z = q55 := ⟨_, rfl⟩
          obtain ⟨h59, e61, hF⟩ := nmx hF
          have hW := nmW e61 hW
          have g60 : h59.2.2 = h.2.2 := by rw [e61]; exact g17
          have hl : lv_has ls 7 [(5, .int x27)] := hl
          refine lv_iload hx hb dX11_write_104 (lv_at hl 0 rfl) ?_
          obtain ⟨rfl, rfl⟩ := sj2 hF
          exact hfin _ _ _ _ (wdW g60 hW) hS dX11_write_106
      · have hF := ie c69 hF
        refine lv_aload_n hx hb dX11_write_31 rfl (lv_at hl 1 rfl) ?_
        refine lv_iconst (v := 1) hx hb dX11_write_32 (by decide) ?_
        obtain ⟨q67, e62, hF⟩ := bn hF
        obtain ⟨x68, d66⟩ := q67
        have hF := u2d hF
        refine rc_i (Af := fun φ => [.ref (φ 11 i0), .int 1]) X hW hS ⟨Nat.zero_le _, Nat.zero_le _⟩ (rn_V (As := [.int 1]) (rest := []) X hW hS cw_11_123 al_0 rfl rfl rfl ⟨Nat.le_of_ble_eq_true rfl, Nat.le_of_ble_eq_true rfl⟩ rfl hl.1 rfl (Nat.le_of_ble_eq_true rfl) dX11_write_33) (ok_X11_finding i0 1 al_0 e62) (fun H locs hW hS => ?_)
        obtain ⟨h63, e65, hF⟩ := nmx hF
        have hW := nmW e65 hW
        have g64 : h63.2.2 = h.2.2 := by rw [e65]; exact rfl
        obtain ⟨rfl, rfl⟩ := sj2 hF
        exact hfin _ _ _ _ (wdW g64 hW) hS dX11_write_36
    · have hF := it c70 hF
      refine lv_bipush (v := (-2)) hx hb dX11_write_14 (by decide) ?_
      obtain ⟨rfl, rfl⟩ := sj2 hF
      exact hfin _ _ _ _ (wdW rfl hW) hS dX11_write_16
def B_X2_inState_4 (i0 : Nat) (a1 : Int32) (h : HP) (q : Int32 × Int32) : Option ((Int32 × Int32) ⊕ (Int32)) :=
  u2 q fun x1 x2 =>
  (if (gi h 2 i0 1) ≤ x2 then
  some (.inr x1)
  else
  (gr h 2 i0 0).bind fun o3 =>
  (gar h 23 o3 20 x2).bind fun o6 =>
  (F_X1_stateNow o6 h).bind fun x11 =>
  (if x11 = a1 then
  nm (x1 + 1) fun x14 =>
  nm (x2 + 1) fun x16 =>
  some (.inl (x14, x16))
  else
  nm (x2 + 1) fun x12 =>
  some (.inl (x1, x12))))
def F_X2_inState (i0 : Nat) (a1 : Int32) (h : HP) : Option (Int32) :=
  (loopN LF (B_X2_inState_4 i0 a1 h) (0, 0)).bind fun x22 =>
  some x22
set_option maxHeartbeats 4000000 in
set_option maxRecDepth 100000 in
theorem ok_X2_inState {l : Launch} {D : va_G} {cA : Nat → ClassId} {h : HP} {r : Int32}  (i0 : Nat) (a1 : Int32) (al_0 : i0 < gn h 2) (hF : F_X2_inState i0 a1 h = some r) : MI l D cA yX2_inState cX2_inState 4 (some .int) 1 20 (fun φ => [.ref (φ 2 i0), .int a1]) h r h := by
  refine mk_I (plainFor_of_name (by decide)) (fun φ => Nat.le_of_ble_eq_true rfl) ?_
  intro p e s m args below meth c ls φ A Q X hW hS hl hfin
  have hx := X.1
  have hb := X.2.1
  have hl : lv_has ls 4 [(0, .ref (φ 2 i0)), (1, .int a1)] := hl
  unfold F_X2_inState at hF
  refine lv_iconst (v := 0) hx hb dX2_inState_0 (by decide) ?_
  refine lv_istore_n (lv' := [(2, .int 0), (0, .ref (φ 2 i0)), (1, .int a1)]) hx hb dX2_inState_1 rfl hl (by decide) rfl (fun ls hl => ?_)
  refine lv_iconst (v := 0) hx hb dX2_inState_2 (by decide) ?_
  refine lv_istore_n (lv' := [(3, .int 0), (2, .int 0), (0, .ref (φ 2 i0)), (1, .int a1)]) hx hb dX2_inState_3 rfl hl (by decide) rfl (fun ls hl => ?_)
  obtain ⟨q20, e21, hF⟩ := bn hF
  refine loop_w (f := B_X2_inState_4 i0 a1 h) (Z := fun q => ∀ (H : Heap) (locs : List Loc) (ls : Array Slot), HW D cA A φ h H → va_S A s.heap H locs → lv_has ls 4 [(0, .ref (φ 2 i0)), (1, .int a1), (2, .int (q.1)), (3, .int (q.2))] → W p l e (rmo 1 20 0 0) s m args below meth c H locs 0 0 Q (F0 m 4 ls [])) (K := fun q => ∀ (H : Heap) (locs : List Loc) (ls : Array Slot), HW D cA A φ h H → va_S A s.heap H locs → lv_has ls 4 [(2, .int q)] → W p l e (rmo 1 20 0 0) s m args below meth c H locs 0 0 Q (F0 m 34 ls [])) ?_ LF _ q20 e21 ?_ _ _ _ hW hS (lv_sub hl [2, 3, 1, 0] rfl)
  · intro q v hF hK H locs ls hW hS hl
    obtain ⟨x1, x2⟩ := q
    unfold B_X2_inState_4 at hF
    have hF := u2d hF
    have hl : lv_has ls 4 [(0, .ref (φ 2 i0)), (1, .int a1), (2, .int x1), (3, .int x2)] := hl
    refine lv_iload_n hx hb dX2_inState_4 rfl (lv_at hl 3 rfl) ?_
    refine lv_aload_n hx hb dX2_inState_5 rfl (lv_at hl 0 rfl) ?_
    refine r_geti X hW al_0 fl_2_17 dX2_inState_6 ?_
    refine lv_icmp_ge (tgt := 34) hx hb dX2_inState_9 (by decide) (fun c19 => ?_) (fun c19 => ?_)
    · have hF := it c19 hF
      obtain rfl := sj hF
      exact hK _ _ _ hW hS (lv_sub hl [2] rfl)
    · have hF := ie c19 hF
      refine lv_aload_n hx hb dX2_inState_12 rfl (lv_at hl 0 rfl) ?_
      obtain ⟨o3, e4, hF⟩ := bn hF
      refine r_getr X hW al_0 fl_2_11 e4 dX2_inState_13 (fun al5 => ?_)
      refine lv_iload_n hx hb dX2_inState_16 rfl (lv_at hl 3 rfl) ?_
      obtain ⟨o6, e7, hF⟩ := bn hF
      obtain ⟨b8, e7⟩ := gar_s e7
      refine r_aald (t0 := 3) X hW al5 rfl rfl b8 e7 dX2_inState_17 (fun al9 => ?_)
      obtain ⟨x11, e10, hF⟩ := bn hF
      refine rc_i (Af := fun φ => [.ref (φ 1 o6)]) X hW hS ⟨Nat.zero_le _, Nat.zero_le _⟩ (rn_V (As := []) (rest := []) X hW hS cw_2_29 al9 rfl rfl rfl ⟨Nat.le_of_ble_eq_true rfl, Nat.le_of_ble_eq_true rfl⟩ rfl hl.1 rfl (Nat.le_of_ble_eq_true rfl) dX2_inState_18) (ok_X1_stateNow o6 al9 e10) (fun H locs hW hS => ?_)
      refine lv_iload_n hx hb dX2_inState_21 rfl (lv_at hl 1 rfl) ?_
      refine lv_icmp_ne (tgt := 28) hx hb dX2_inState_22 (by decide) (fun c18 => ?_) (fun c18 => ?_)
      · have hF := ie c18 hF
        obtain ⟨x12, e13, hF⟩ := nmx hF
        refine lv_iinc (v := x12) (lv' := [(3, .int x12), (0, .ref (φ 2 i0)), (1, .int a1), (2, .int x1)]) hx hb dX2_inState_28 hl (k := 3) rfl (by rw [e13]; rfl) (by decide) rfl (fun ls hl => ?_)
        refine lv_goto (tgt := 4) hx hb dX2_inState_31 (by decide) ?_
        obtain rfl := sj hF
        exact hK _ _ _ hW hS (lv_sub hl [1, 2, 3, 0] rfl)
      · have hF := it c18 hF
        obtain ⟨x14, e15, hF⟩ := nmx hF
        refine lv_iinc (v := x14) (lv' := [(2, .int x14), (0, .ref (φ 2 i0)), (1, .int a1), (3, .int x2)]) hx hb dX2_inState_25 hl (k := 2) rfl (by rw [e15]; rfl) (by decide) rfl (fun ls hl => ?_)
        obtain ⟨x16, e17, hF⟩ := nmx hF
        refine lv_iinc (v := x16) (lv' := [(3, .int x16), (2, .int x14), (0, .ref (φ 2 i0)), (1, .int a1)]) hx hb dX2_inState_28 hl (k := 3) rfl (by rw [e17]; rfl) (by decide) rfl (fun ls hl => ?_)
        refine lv_goto (tgt := 4) hx hb dX2_inState_31 (by decide) ?_
        obtain rfl := sj hF
        exact hK _ _ _ hW hS (lv_sub hl [2, 3, 1, 0] rfl)
  · intro H locs ls hW hS hl
    obtain ⟨x22, rfl⟩ : ∃ z, z = q20 := ⟨_, rfl⟩
    have hl : lv_has ls 4 [(2, .int x22)] := hl
    refine lv_iload_n hx hb dX2_inState_34 rfl (lv_at hl 0 rfl) ?_
    obtain rfl := sj hF
    exact hfin _ _ _ _ hW hS dX2_inState_35
def F_X11_count (i0 : Nat) (a1 : Int32) (h : HP) : Option (Int32) :=
  (if a1 = 0 then
  some (gi h 11 i0 0)
  else
  (if a1 = 1 then
  some (gi h 11 i0 2)
  else
  (if a1 = 2 then
  (gr h 11 i0 3).bind fun o4 =>
  some (gi h 2 o4 1)
  else
  (if a1 = 3 then
  (gr h 11 i0 3).bind fun o8 =>
  (F_X2_inState o8 3 h).bind fun x12 =>
  some x12
  else
  (if a1 = 4 then
  (gr h 11 i0 3).bind fun o14 =>
  (F_X2_inState o14 4 h).bind fun x18 =>
  some x18
  else
  (if a1 = 5 then
  some (gi h 11 i0 6)
  else
  (if a1 = 6 then
  some (gi h 11 i0 10)
  else
  (if a1 = 7 then
  (gr h 11 i0 13).bind fun o22 =>
  some (gi h 3 o22 5)
  else
  (if a1 = 8 then
  some (gi h 11 i0 15)
  else
  (if a1 = 9 then
  (gr h 11 i0 4).bind fun o27 =>
  some (gi h 4 o27 1)
  else
  some (-2)))))))))))
set_option maxHeartbeats 4000000 in
set_option maxRecDepth 100000 in
theorem ok_X11_count {l : Launch} {D : va_G} {cA : Nat → ClassId} {h : HP} {r : Int32}  (i0 : Nat) (a1 : Int32) (al_0 : i0 < gn h 11) (hF : F_X11_count i0 a1 h = some r) : MI l D cA yX11_count cX11_count 2 (some .int) 2 43 (fun φ => [.ref (φ 11 i0), .int a1]) h r h := by
  refine mk_I (plainFor_of_name (by decide)) (fun φ => Nat.le_of_ble_eq_true rfl) ?_
  intro p e s m args below meth c ls φ A Q X hW hS hl hfin
  have hx := X.1
  have hb := X.2.1
  have hl : lv_has ls 2 [(0, .ref (φ 11 i0)), (1, .int a1)] := hl
  unfold F_X11_count at hF
  refine lv_iload_n hx hb dX11_count_0 rfl (lv_at hl 1 rfl) ?_
  by_cases c1 : a1 = 0
  · have hF := it c1 hF
    refine lv_tableIn (tgt := 56) hx hb dX11_count_1 (by rw [c1]; decide) (by rw [c1]; decide) (off := 55) (by rw [c1]; rfl) (by decide) ?_
    refine lv_aload_n hx hb dX11_count_56 rfl (lv_at hl 0 rfl) ?_
    refine r_geti X hW al_0 fl_11_85 dX11_count_57 ?_
    obtain rfl := sj hF
    exact hfin _ _ _ _ hW hS dX11_count_60
  have hF := ie c1 hF
  by_cases c2 : a1 = 1
  · have hF := it c2 hF
    refine lv_tableIn (tgt := 61) hx hb dX11_count_1 (by rw [c2]; decide) (by rw [c2]; decide) (off := 60) (by rw [c2]; rfl) (by decide) ?_
    refine lv_aload_n hx hb dX11_count_61 rfl (lv_at hl 0 rfl) ?_
    refine r_geti X hW al_0 fl_11_93 dX11_count_62 ?_
    obtain rfl := sj hF
    exact hfin _ _ _ _ hW hS dX11_count_65
  have hF := ie c2 hF
  by_cases c3 : a1 = 2
  · have hF := it c3 hF
    refine lv_tableIn (tgt := 66) hx hb dX11_count_1 (by rw [c3]; decide) (by rw [c3]; decide) (off := 65) (by rw [c3]; rfl) (by decide) ?_
    refine lv_aload_n hx hb dX11_count_66 rfl (lv_at hl 0 rfl) ?_
    obtain ⟨o4, e5, hF⟩ := bn hF
    refine r_getr X hW al_0 fl_11_16 e5 dX11_count_67 (fun al6 => ?_)
    refine r_geti X hW al6 fl_11_222 dX11_count_70 ?_
    obtain rfl := sj hF
    exact hfin _ _ _ _ hW hS dX11_count_73
  have hF := ie c3 hF
  by_cases c7 : a1 = 3
  · have hF := it c7 hF
    refine lv_tableIn (tgt := 74) hx hb dX11_count_1 (by rw [c7]; decide) (by rw [c7]; decide) (off := 73) (by rw [c7]; rfl) (by decide) ?_
    refine lv_aload_n hx hb dX11_count_74 rfl (lv_at hl 0 rfl) ?_
    obtain ⟨o8, e9, hF⟩ := bn hF
    refine r_getr X hW al_0 fl_11_16 e9 dX11_count_75 (fun al10 => ?_)
    refine lv_iconst (v := 3) hx hb dX11_count_78 (by decide) ?_
    obtain ⟨x12, e11, hF⟩ := bn hF
    refine rc_i (Af := fun φ => [.ref (φ 2 o8), .int 3]) X hW hS ⟨Nat.zero_le _, Nat.zero_le _⟩ (rn_V (As := [.int 3]) (rest := []) X hW hS cw_11_379 al10 rfl rfl rfl ⟨Nat.le_of_ble_eq_true rfl, Nat.le_of_ble_eq_true rfl⟩ rfl hl.1 rfl (Nat.le_of_ble_eq_true rfl) dX11_count_79) (ok_X2_inState o8 3 al10 e11) (fun H locs hW hS => ?_)
    obtain rfl := sj hF
    exact hfin _ _ _ _ hW hS dX11_count_82
  have hF := ie c7 hF
  by_cases c13 : a1 = 4
  · have hF := it c13 hF
    refine lv_tableIn (tgt := 83) hx hb dX11_count_1 (by rw [c13]; decide) (by rw [c13]; decide) (off := 82) (by rw [c13]; rfl) (by decide) ?_
    refine lv_aload_n hx hb dX11_count_83 rfl (lv_at hl 0 rfl) ?_
    obtain ⟨o14, e15, hF⟩ := bn hF
    refine r_getr X hW al_0 fl_11_16 e15 dX11_count_84 (fun al16 => ?_)
    refine lv_iconst (v := 4) hx hb dX11_count_87 (by decide) ?_
    obtain ⟨x18, e17, hF⟩ := bn hF
    refine rc_i (Af := fun φ => [.ref (φ 2 o14), .int 4]) X hW hS ⟨Nat.zero_le _, Nat.zero_le _⟩ (rn_V (As := [.int 4]) (rest := []) X hW hS cw_11_379 al16 rfl rfl rfl ⟨Nat.le_of_ble_eq_true rfl, Nat.le_of_ble_eq_true rfl⟩ rfl hl.1 rfl (Nat.le_of_ble_eq_true rfl) dX11_count_88) (ok_X2_inState o14 4 al16 e17) (fun H locs hW hS => ?_)
    obtain rfl := sj hF
    exact hfin _ _ _ _ hW hS dX11_count_91
  have hF := ie c13 hF
  by_cases c19 : a1 = 5
  · have hF := it c19 hF
    refine lv_tableIn (tgt := 92) hx hb dX11_count_1 (by rw [c19]; decide) (by rw [c19]; decide) (off := 91) (by rw [c19]; rfl) (by decide) ?_
    refine lv_aload_n hx hb dX11_count_92 rfl (lv_at hl 0 rfl) ?_
    refine r_geti X hW al_0 fl_11_223 dX11_count_93 ?_
    obtain rfl := sj hF
    exact hfin _ _ _ _ hW hS dX11_count_96
  have hF := ie c19 hF
  by_cases c20 : a1 = 6
  · have hF := it c20 hF
    refine lv_tableIn (tgt := 97) hx hb dX11_count_1 (by rw [c20]; decide) (by rw [c20]; decide) (off := 96) (by rw [c20]; rfl) (by decide) ?_
    refine lv_aload_n hx hb dX11_count_97 rfl (lv_at hl 0 rfl) ?_
    refine r_geti X hW al_0 fl_11_274 dX11_count_98 ?_
    obtain rfl := sj hF
    exact hfin _ _ _ _ hW hS dX11_count_101
  have hF := ie c20 hF
  by_cases c21 : a1 = 7
  · have hF := it c21 hF
    refine lv_tableIn (tgt := 102) hx hb dX11_count_1 (by rw [c21]; decide) (by rw [c21]; decide) (off := 101) (by rw [c21]; rfl) (by decide) ?_
    refine lv_aload_n hx hb dX11_count_102 rfl (lv_at hl 0 rfl) ?_
    obtain ⟨o22, e23, hF⟩ := bn hF
    refine r_getr X hW al_0 fl_11_70 e23 dX11_count_103 (fun al24 => ?_)
    refine r_geti X hW al24 fl_11_336 dX11_count_106 ?_
    obtain rfl := sj hF
    exact hfin _ _ _ _ hW hS dX11_count_109
  have hF := ie c21 hF
  by_cases c25 : a1 = 8
  · have hF := it c25 hF
    refine lv_tableIn (tgt := 110) hx hb dX11_count_1 (by rw [c25]; decide) (by rw [c25]; decide) (off := 109) (by rw [c25]; rfl) (by decide) ?_
    refine lv_aload_n hx hb dX11_count_110 rfl (lv_at hl 0 rfl) ?_
    refine r_geti X hW al_0 fl_11_362 dX11_count_111 ?_
    obtain rfl := sj hF
    exact hfin _ _ _ _ hW hS dX11_count_114
  have hF := ie c25 hF
  by_cases c26 : a1 = 9
  · have hF := it c26 hF
    refine lv_tableIn (tgt := 115) hx hb dX11_count_1 (by rw [c26]; decide) (by rw [c26]; decide) (off := 114) (by rw [c26]; rfl) (by decide) ?_
    refine lv_aload_n hx hb dX11_count_115 rfl (lv_at hl 0 rfl) ?_
    obtain ⟨o27, e28, hF⟩ := bn hF
    refine r_getr X hW al_0 fl_11_23 e28 dX11_count_116 (fun al29 => ?_)
    refine r_geti X hW al29 fl_11_186 dX11_count_119 ?_
    obtain rfl := sj hF
    exact hfin _ _ _ _ hW hS dX11_count_122
  have hF := ie c26 hF
  refine lv_tableOut (tgt := 123) hx hb dX11_count_1 (by have n0 := lv_neT (a := 0) c1 (by decide); have n1 := lv_neT (a := 1) c2 (by decide); have n2 := lv_neT (a := 2) c3 (by decide); have n3 := lv_neT (a := 3) c7 (by decide); have n4 := lv_neT (a := 4) c13 (by decide); have n5 := lv_neT (a := 5) c19 (by decide); have n6 := lv_neT (a := 6) c20 (by decide); have n7 := lv_neT (a := 7) c21 (by decide); have n8 := lv_neT (a := 8) c25 (by decide); have n9 := lv_neT (a := 9) c26 (by decide); omega) (by decide) ?_
  refine lv_bipush (v := (-2)) hx hb dX11_count_123 (by decide) ?_
  obtain rfl := sj hF
  exact hfin _ _ _ _ hW hS dX11_count_125
def B_X11_withParish_30 (i0 : Nat) (a3 : Int32) (h16 : HP) (q : Int64 × Int32) : Option ((Int64 × Int32) ⊕ (Int64)) :=
  u2 q fun x20 x21 =>
  (if 5 < x21 then
  some (.inr x20)
  else
  (gr h16 11 i0 8).bind fun o22 =>
  (gr h16 11 i0 3).bind fun o25 =>
  (F_X7_told o22 o25 x21 h16).bind fun x29 =>
  nm (((31 * x20) + (x29).toInt64)) fun x30 =>
  nm (x21 + 1) fun x32 =>
  some (.inl (x30, x32)))
def F_X11_withParish (i0 : Nat) (a1 : Int64) (a3 : Int32) (h : HP) : Option (Int64 × DP) :=
  (gr h 11 i0 1).bind fun o1 =>
  (ga h 41 o1 8 a3).bind fun x4 =>
  nm (((31 * a1) + (x4).toInt64)) fun x7 =>
  (gr h 11 i0 8).bind fun o9 =>
  (gr h 11 i0 3).bind fun o12 =>
  (F_X7_hear o9 o12 a3 h).bind fun d19 => nm (wd h d19) fun h16 =>
  (loopN LF (B_X11_withParish_30 i0 a3 h16) (x7, 0)).bind fun x37 =>
  (F_X11_kept i0 a3 (gi h16 11 i0 0) h16).bind fun q43 => u2 q43 fun x44 d42 => nm (wd h16 d42) fun h39 =>
  some (((31 * x37) + (x44).toInt64), dp h39)
set_option maxHeartbeats 4000000 in
set_option maxRecDepth 100000 in
theorem ok_X11_withParish {l : Launch} {D : va_G} {cA : Nat → ClassId} {h : HP} {r : Int64} {d : DP} (i0 : Nat) (a1 : Int64) (a3 : Int32) (al_0 : i0 < gn h 11) (hF : F_X11_withParish i0 a1 a3 h = some (r, d)) : ML l D cA yX11_withParish cX11_withParish 7 (some .long) 4 95 (fun φ => [.ref (φ 11 i0), .long a1, .int a3]) h r (wd h d) := by
  refine mk_L (plainFor_of_name (by decide)) (fun φ => Nat.le_of_ble_eq_true rfl) ?_
  intro p e s m args below meth c ls φ A Q X hW hS hl hfin
  have hx := X.1
  have hb := X.2.1
  have hl : lv_has ls 7 [(0, .ref (φ 11 i0)), (1, .long a1), (3, .int a3)] := hl
  unfold F_X11_withParish at hF
  refine lv_ldc2 (v := 31) hx hb X.2.2.2.1 (X.2.2.2.2.1 _ (AL_of 966 (by decide +kernel) rfl)) dX11_withParish_0 ?_
  refine lv_lload_n hx hb dX11_withParish_3 rfl (lv_at hl 1 rfl) ?_
  refine lv_lmul hx hb dX11_withParish_4 ?_
  refine lv_aload_n hx hb dX11_withParish_5 rfl (lv_at hl 0 rfl) ?_
  obtain ⟨o1, e2, hF⟩ := bn hF
  refine r_getr X hW al_0 fl_11_9 e2 dX11_withParish_6 (fun al3 => ?_)
  refine lv_iload_n hx hb dX11_withParish_9 rfl (lv_at hl 2 rfl) ?_
  obtain ⟨x4, e5, hF⟩ := bn hF
  obtain ⟨b6, e5⟩ := ga_s e5
  refine r_iald X hW al3 rfl b6 dX11_withParish_10 ?_
  refine nmi e5 ?_
  refine lv_i2l (v := (x4).toInt64) hx hb dX11_withParish_11 rfl ?_
  refine lv_ladd hx hb dX11_withParish_12 ?_
  obtain ⟨x7, e8, hF⟩ := nmx hF
  refine nml e8 ?_
  refine lv_lstore (lv' := [(4, .long x7), (0, .ref (φ 11 i0)), (1, .long a1), (3, .int a3)]) hx hb dX11_withParish_13 hl (by decide) rfl (fun ls hl => ?_)
  refine lv_aload_n hx hb dX11_withParish_15 rfl (lv_at hl 1 rfl) ?_
  obtain ⟨o9, e10, hF⟩ := bn hF
  refine r_getr X hW al_0 fl_11_43 e10 dX11_withParish_16 (fun al11 => ?_)
  refine lv_aload_n hx hb dX11_withParish_19 rfl (lv_at hl 1 rfl) ?_
  obtain ⟨o12, e13, hF⟩ := bn hF
  refine r_getr X hW al_0 fl_11_16 e13 dX11_withParish_20 (fun al14 => ?_)
  refine lv_iload_n hx hb dX11_withParish_23 rfl (lv_at hl 3 rfl) ?_
  obtain ⟨d19, e15, hF⟩ := bn hF
  refine rc_v (Af := fun φ => [.ref (φ 7 o9), .ref (φ 2 o12), .int a3]) X hW hS ⟨Nat.zero_le _, Nat.zero_le _⟩ (rn_V (As := [.ref (φ 2 o12), .int a3]) (rest := []) X hW hS cw_11_259 al11 rfl rfl rfl ⟨Nat.le_of_ble_eq_true rfl, Nat.le_of_ble_eq_true rfl⟩ rfl hl.1 rfl (Nat.le_of_ble_eq_true rfl) dX11_withParish_24) (ok_X7_hear o9 o12 a3 al11 al14 e15) (fun H locs hW hS => ?_)
  obtain ⟨h16, e18, hF⟩ := nmx hF
  have hW := nmW e18 hW
  have g17 : h16.2.2 = h.2.2 := by rw [e18]; exact rfl
  refine lv_iconst (v := 0) hx hb dX11_withParish_27 (by decide) ?_
  refine lv_istore (lv' := [(6, .int 0), (4, .long x7), (0, .ref (φ 11 i0)), (1, .long a1), (3, .int a3)]) hx hb dX11_withParish_28 hl (by decide) rfl (fun ls hl => ?_)
  obtain ⟨q35, e36, hF⟩ := bn hF
  refine loop_w (f := B_X11_withParish_30 i0 a3 h16) (Z := fun q => ∀ (H : Heap) (locs : List Loc) (ls : Array Slot), HW D cA A φ h16 H → va_S A s.heap H locs → lv_has ls 7 [(0, .ref (φ 11 i0)), (3, .int a3), (4, .long (q.1)), (6, .int (q.2))] → W p l e (rmo 4 95 0 0) s m args below meth c H locs 0 0 Q (F0 m 30 ls [])) (K := fun q => ∀ (H : Heap) (locs : List Loc) (ls : Array Slot), HW D cA A φ h16 H → va_S A s.heap H locs → lv_has ls 7 [(0, .ref (φ 11 i0)), (3, .int a3), (4, .long q)] → W p l e (rmo 4 95 0 0) s m args below meth c H locs 0 0 Q (F0 m 65 ls [])) ?_ LF _ q35 e36 ?_ _ _ _ hW hS (lv_sub hl [2, 4, 1, 0] rfl)
  · intro q v hF hK H locs ls hW hS hl
    obtain ⟨x20, x21⟩ := q
    unfold B_X11_withParish_30 at hF
    have hF := u2d hF
    have hl : lv_has ls 7 [(0, .ref (φ 11 i0)), (3, .int a3), (4, .long x20), (6, .int x21)] := hl
    refine lv_iload hx hb dX11_withParish_30 (lv_at hl 3 rfl) ?_
    refine lv_iconst (v := 5) hx hb dX11_withParish_32 (by decide) ?_
    refine lv_icmp_gt (tgt := 65) hx hb dX11_withParish_33 (by decide) (fun c34 => ?_) (fun c34 => ?_)
    · have hF := it c34 hF
      obtain rfl := sj hF
      exact hK _ _ _ hW hS (lv_sub hl [0, 1, 2] rfl)
    · have hF := ie c34 hF
      refine lv_ldc2 (v := 31) hx hb X.2.2.2.1 (X.2.2.2.2.1 _ (AL_of 966 (by decide +kernel) rfl)) dX11_withParish_36 ?_
      refine lv_lload hx hb dX11_withParish_39 (lv_at hl 2 rfl) ?_
      refine lv_lmul hx hb dX11_withParish_41 ?_
      refine lv_aload_n hx hb dX11_withParish_42 rfl (lv_at hl 0 rfl) ?_
      obtain ⟨o22, e23, hF⟩ := bn hF
      refine r_getr X hW (gq g17 al_0) fl_11_43 e23 dX11_withParish_43 (fun al24 => ?_)
      have al24 := qg g17 al24
      refine lv_aload_n hx hb dX11_withParish_46 rfl (lv_at hl 0 rfl) ?_
      obtain ⟨o25, e26, hF⟩ := bn hF
      refine r_getr X hW (gq g17 al_0) fl_11_16 e26 dX11_withParish_47 (fun al27 => ?_)
      have al27 := qg g17 al27
      refine lv_iload hx hb dX11_withParish_50 (lv_at hl 3 rfl) ?_
      obtain ⟨x29, e28, hF⟩ := bn hF
      refine rc_i (Af := fun φ => [.ref (φ 7 o22), .ref (φ 2 o25), .int x21]) X hW hS ⟨Nat.zero_le _, Nat.zero_le _⟩ (rn_V (As := [.ref (φ 2 o25), .int x21]) (rest := [.long (31 * x20)]) X hW hS cw_11_263 (gq g17 al24) rfl rfl rfl ⟨Nat.le_of_ble_eq_true rfl, Nat.le_of_ble_eq_true rfl⟩ rfl hl.1 rfl (Nat.le_of_ble_eq_true rfl) dX11_withParish_52) (ok_X7_told o22 o25 x21 (gq g17 al24) (gq g17 al27) e28) (fun H locs hW hS => ?_)
      refine lv_i2l (v := (x29).toInt64) hx hb dX11_withParish_55 rfl ?_
      refine lv_ladd hx hb dX11_withParish_56 ?_
      obtain ⟨x30, e31, hF⟩ := nmx hF
      refine nml e31 ?_
      refine lv_lstore (lv' := [(4, .long x30), (0, .ref (φ 11 i0)), (3, .int a3), (6, .int x21)]) hx hb dX11_withParish_57 hl (by decide) rfl (fun ls hl => ?_)
      obtain ⟨x32, e33, hF⟩ := nmx hF
      refine lv_iinc (v := x32) (lv' := [(6, .int x32), (4, .long x30), (0, .ref (φ 11 i0)), (3, .int a3)]) hx hb dX11_withParish_59 hl (k := 3) rfl (by rw [e33]; rfl) (by decide) rfl (fun ls hl => ?_)
      refine lv_goto (tgt := 30) hx hb dX11_withParish_62 (by decide) ?_
      obtain rfl := sj hF
      exact hK _ _ _ hW hS (lv_sub hl [2, 3, 1, 0] rfl)
  · intro H locs ls hW hS hl
    obtain ⟨x37, rfl⟩ : ∃ z, z = q35 := ⟨_, rfl⟩
    have hl : lv_has ls 7 [(0, .ref (φ 11 i0)), (3, .int a3), (4, .long x37)] := hl
    refine lv_ldc2 (v := 31) hx hb X.2.2.2.1 (X.2.2.2.2.1 _ (AL_of 966 (by decide +kernel) rfl)) dX11_withParish_65 ?_
    refine lv_lload hx hb dX11_withParish_68 (lv_at hl 2 rfl) ?_
    refine lv_lmul hx hb dX11_withParish_70 ?_
    refine lv_aload_n hx hb dX11_withParish_71 rfl (lv_at hl 0 rfl) ?_
    refine lv_iload_n hx hb dX11_withParish_72 rfl (lv_at hl 1 rfl) ?_
    refine lv_aload_n hx hb dX11_withParish_73 rfl (lv_at hl 0 rfl) ?_
    refine r_geti X hW (gq g17 al_0) fl_11_85 dX11_withParish_74 ?_
    obtain ⟨q43, e38, hF⟩ := bn hF
    obtain ⟨x44, d42⟩ := q43
    have hF := u2d hF
    refine rc_i (Af := fun φ => [.ref (φ 11 i0), .int a3, .int (gi h16 11 i0 0)]) X hW hS ⟨Nat.zero_le _, Nat.zero_le _⟩ (rn_V (As := [.int a3, .int (gi h16 11 i0 0)]) (rest := [.long (31 * x37)]) X hW hS cw_11_402 (gq g17 al_0) rfl rfl rfl ⟨Nat.le_of_ble_eq_true rfl, Nat.le_of_ble_eq_true rfl⟩ rfl hl.1 rfl (Nat.le_of_ble_eq_true rfl) dX11_withParish_77) (ok_X11_kept i0 a3 (gi h16 11 i0 0) (gq g17 al_0) e38) (fun H locs hW hS => ?_)
    obtain ⟨h39, e41, hF⟩ := nmx hF
    have hW := nmW e41 hW
    have g40 : h39.2.2 = h.2.2 := by rw [e41]; exact g17
    refine lv_i2l (v := (x44).toInt64) hx hb dX11_withParish_80 rfl ?_
    refine lv_ladd hx hb dX11_withParish_81 ?_
    obtain ⟨rfl, rfl⟩ := sj2 hF
    exact hfin _ _ _ _ (wdW g40 hW) hS dX11_withParish_82
def B_X11_withBell_6 (i0 : Nat) (a3 : Int32) (h : HP) (q : Int64 × Int32) : Option ((Int64 × Int32) ⊕ (Int64)) :=
  u2 q fun x1 x2 =>
  (if 8 < x2 then
  some (.inr x1)
  else
  (F_X11_about i0 a3 x2 h).bind fun x4 =>
  nm (((31 * x1) + (x4).toInt64)) fun x5 =>
  nm (x2 + 1) fun x7 =>
  some (.inl (x5, x7)))
def B_X11_withBell_39 (i0 : Nat) (a3 : Int32) (h : HP) (q : Int64 × Int32) : Option ((Int64 × Int32) ⊕ (Int64)) :=
  u2 q fun x13 x14 =>
  (if 5 ≤ x14 then
  some (.inr x13)
  else
  (gr h 11 i0 3).bind fun o15 =>
  (gr h 2 o15 0).bind fun o18 =>
  (gar h 23 o18 20 a3).bind fun o21 =>
  (gr h 1 o21 4).bind fun o25 =>
  (ga h 20 o25 5 x14).bind fun x28 =>
  nm (((31 * x13) + (x28).toInt64)) fun x31 =>
  nm (x14 + 1) fun x33 =>
  some (.inl (x31, x33)))
def F_X11_withBell (i0 : Nat) (a1 : Int64) (a3 : Int32) (h : HP) : Option (Int64 × DP) :=
  (loopN LF (B_X11_withBell_6 i0 a3 h) (a1, 0)).bind fun x12 =>
  (loopN LF (B_X11_withBell_39 i0 a3 h) (x12, 0)).bind fun x38 =>
  (F_X11_letter i0 a3 (gi h 11 i0 0) h).bind fun q44 => u2 q44 fun x45 d43 => nm (wd h d43) fun h40 =>
  some (((31 * x38) + (x45).toInt64), dp h40)
set_option maxHeartbeats 4000000 in
set_option maxRecDepth 100000 in
theorem ok_X11_withBell {l : Launch} {D : va_G} {cA : Nat → ClassId} {h : HP} {r : Int64} {d : DP} (i0 : Nat) (a1 : Int64) (a3 : Int32) (al_0 : i0 < gn h 11) (hF : F_X11_withBell i0 a1 a3 h = some (r, d)) : ML l D cA yX11_withBell cX11_withBell 7 (some .long) 3 69 (fun φ => [.ref (φ 11 i0), .long a1, .int a3]) h r (wd h d) := by
  refine mk_L (plainFor_of_name (by decide)) (fun φ => Nat.le_of_ble_eq_true rfl) ?_
  intro p e s m args below meth c ls φ A Q X hW hS hl hfin
  have hx := X.1
  have hb := X.2.1
  have hl : lv_has ls 7 [(0, .ref (φ 11 i0)), (1, .long a1), (3, .int a3)] := hl
  unfold F_X11_withBell at hF
  refine lv_lload_n hx hb dX11_withBell_0 rfl (lv_at hl 1 rfl) ?_
  refine lv_lstore (lv' := [(4, .long a1), (0, .ref (φ 11 i0)), (1, .long a1), (3, .int a3)]) hx hb dX11_withBell_1 hl (by decide) rfl (fun ls hl => ?_)
  refine lv_iconst (v := 0) hx hb dX11_withBell_3 (by decide) ?_
  refine lv_istore (lv' := [(6, .int 0), (4, .long a1), (0, .ref (φ 11 i0)), (1, .long a1), (3, .int a3)]) hx hb dX11_withBell_4 hl (by decide) rfl (fun ls hl => ?_)
  obtain ⟨q10, e11, hF⟩ := bn hF
  refine loop_w (f := B_X11_withBell_6 i0 a3 h) (Z := fun q => ∀ (H : Heap) (locs : List Loc) (ls : Array Slot), HW D cA A φ h H → va_S A s.heap H locs → lv_has ls 7 [(0, .ref (φ 11 i0)), (3, .int a3), (4, .long (q.1)), (6, .int (q.2))] → W p l e (rmo 3 69 0 0) s m args below meth c H locs 0 0 Q (F0 m 6 ls [])) (K := fun q => ∀ (H : Heap) (locs : List Loc) (ls : Array Slot), HW D cA A φ h H → va_S A s.heap H locs → lv_has ls 7 [(0, .ref (φ 11 i0)), (3, .int a3), (4, .long q)] → W p l e (rmo 3 69 0 0) s m args below meth c H locs 0 0 Q (F0 m 36 ls [])) ?_ LF _ q10 e11 ?_ _ _ _ hW hS (lv_sub hl [2, 4, 1, 0] rfl)
  · intro q v hF hK H locs ls hW hS hl
    obtain ⟨x1, x2⟩ := q
    unfold B_X11_withBell_6 at hF
    have hF := u2d hF
    have hl : lv_has ls 7 [(0, .ref (φ 11 i0)), (3, .int a3), (4, .long x1), (6, .int x2)] := hl
    refine lv_iload hx hb dX11_withBell_6 (lv_at hl 3 rfl) ?_
    refine lv_bipush (v := 8) hx hb dX11_withBell_8 (by decide) ?_
    refine lv_icmp_gt (tgt := 36) hx hb dX11_withBell_10 (by decide) (fun c9 => ?_) (fun c9 => ?_)
    · have hF := it c9 hF
      obtain rfl := sj hF
      exact hK _ _ _ hW hS (lv_sub hl [0, 1, 2] rfl)
    · have hF := ie c9 hF
      refine lv_ldc2 (v := 31) hx hb X.2.2.2.1 (X.2.2.2.2.1 _ (AL_of 966 (by decide +kernel) rfl)) dX11_withBell_13 ?_
      refine lv_lload hx hb dX11_withBell_16 (lv_at hl 2 rfl) ?_
      refine lv_lmul hx hb dX11_withBell_18 ?_
      refine lv_aload_n hx hb dX11_withBell_19 rfl (lv_at hl 0 rfl) ?_
      refine lv_iload_n hx hb dX11_withBell_20 rfl (lv_at hl 1 rfl) ?_
      refine lv_iload hx hb dX11_withBell_21 (lv_at hl 3 rfl) ?_
      obtain ⟨x4, e3, hF⟩ := bn hF
      refine rc_i (Af := fun φ => [.ref (φ 11 i0), .int a3, .int x2]) X hW hS ⟨Nat.zero_le _, Nat.zero_le _⟩ (rn_V (As := [.int a3, .int x2]) (rest := [.long (31 * x1)]) X hW hS cw_11_405 al_0 rfl rfl rfl ⟨Nat.le_of_ble_eq_true rfl, Nat.le_of_ble_eq_true rfl⟩ rfl hl.1 rfl (Nat.le_of_ble_eq_true rfl) dX11_withBell_23) (ok_X11_about i0 a3 x2 al_0 e3) (fun H locs hW hS => ?_)
      refine lv_i2l (v := (x4).toInt64) hx hb dX11_withBell_26 rfl ?_
      refine lv_ladd hx hb dX11_withBell_27 ?_
      obtain ⟨x5, e6, hF⟩ := nmx hF
      refine nml e6 ?_
      refine lv_lstore (lv' := [(4, .long x5), (0, .ref (φ 11 i0)), (3, .int a3), (6, .int x2)]) hx hb dX11_withBell_28 hl (by decide) rfl (fun ls hl => ?_)
      obtain ⟨x7, e8, hF⟩ := nmx hF
      refine lv_iinc (v := x7) (lv' := [(6, .int x7), (4, .long x5), (0, .ref (φ 11 i0)), (3, .int a3)]) hx hb dX11_withBell_30 hl (k := 3) rfl (by rw [e8]; rfl) (by decide) rfl (fun ls hl => ?_)
      refine lv_goto (tgt := 6) hx hb dX11_withBell_33 (by decide) ?_
      obtain rfl := sj hF
      exact hK _ _ _ hW hS (lv_sub hl [2, 3, 1, 0] rfl)
  · intro H locs ls hW hS hl
    obtain ⟨x12, rfl⟩ : ∃ z, z = q10 := ⟨_, rfl⟩
    have hl : lv_has ls 7 [(0, .ref (φ 11 i0)), (3, .int a3), (4, .long x12)] := hl
    refine lv_iconst (v := 0) hx hb dX11_withBell_36 (by decide) ?_
    refine lv_istore (lv' := [(6, .int 0), (0, .ref (φ 11 i0)), (3, .int a3), (4, .long x12)]) hx hb dX11_withBell_37 hl (by decide) rfl (fun ls hl => ?_)
    obtain ⟨q36, e37, hF⟩ := bn hF
    refine loop_w (f := B_X11_withBell_39 i0 a3 h) (Z := fun q => ∀ (H : Heap) (locs : List Loc) (ls : Array Slot), HW D cA A φ h H → va_S A s.heap H locs → lv_has ls 7 [(0, .ref (φ 11 i0)), (3, .int a3), (4, .long (q.1)), (6, .int (q.2))] → W p l e (rmo 3 69 0 0) s m args below meth c H locs 0 0 Q (F0 m 39 ls [])) (K := fun q => ∀ (H : Heap) (locs : List Loc) (ls : Array Slot), HW D cA A φ h H → va_S A s.heap H locs → lv_has ls 7 [(0, .ref (φ 11 i0)), (3, .int a3), (4, .long q)] → W p l e (rmo 3 69 0 0) s m args below meth c H locs 0 0 Q (F0 m 76 ls [])) ?_ LF _ q36 e37 ?_ _ _ _ hW hS (lv_sub hl [1, 2, 3, 0] rfl)
    · intro q v hF hK H locs ls hW hS hl
      obtain ⟨x13, x14⟩ := q
      unfold B_X11_withBell_39 at hF
      have hF := u2d hF
      have hl : lv_has ls 7 [(0, .ref (φ 11 i0)), (3, .int a3), (4, .long x13), (6, .int x14)] := hl
      refine lv_iload hx hb dX11_withBell_39 (lv_at hl 3 rfl) ?_
      refine lv_iconst (v := 5) hx hb dX11_withBell_41 (by decide) ?_
      refine lv_icmp_ge (tgt := 76) hx hb dX11_withBell_42 (by decide) (fun c35 => ?_) (fun c35 => ?_)
      · have hF := it c35 hF
        obtain rfl := sj hF
        exact hK _ _ _ hW hS (lv_sub hl [0, 1, 2] rfl)
      · have hF := ie c35 hF
        refine lv_ldc2 (v := 31) hx hb X.2.2.2.1 (X.2.2.2.2.1 _ (AL_of 966 (by decide +kernel) rfl)) dX11_withBell_45 ?_
        refine lv_lload hx hb dX11_withBell_48 (lv_at hl 2 rfl) ?_
        refine lv_lmul hx hb dX11_withBell_50 ?_
        refine lv_aload_n hx hb dX11_withBell_51 rfl (lv_at hl 0 rfl) ?_
        obtain ⟨o15, e16, hF⟩ := bn hF
        refine r_getr X hW al_0 fl_11_16 e16 dX11_withBell_52 (fun al17 => ?_)
        obtain ⟨o18, e19, hF⟩ := bn hF
        refine r_getr X hW al17 fl_11_140 e19 dX11_withBell_55 (fun al20 => ?_)
        refine lv_iload_n hx hb dX11_withBell_58 rfl (lv_at hl 1 rfl) ?_
        obtain ⟨o21, e22, hF⟩ := bn hF
        obtain ⟨b23, e22⟩ := gar_s e22
        refine r_aald (t0 := 3) X hW al20 rfl rfl b23 e22 dX11_withBell_59 (fun al24 => ?_)
        obtain ⟨o25, e26, hF⟩ := bn hF
        refine r_getr X hW al24 fl_11_144 e26 dX11_withBell_60 (fun al27 => ?_)
        refine lv_iload hx hb dX11_withBell_63 (lv_at hl 3 rfl) ?_
        obtain ⟨x28, e29, hF⟩ := bn hF
        obtain ⟨b30, e29⟩ := ga_s e29
        refine r_iald X hW al27 rfl b30 dX11_withBell_65 ?_
        refine nmi e29 ?_
        refine lv_i2l (v := (x28).toInt64) hx hb dX11_withBell_66 rfl ?_
        refine lv_ladd hx hb dX11_withBell_67 ?_
        obtain ⟨x31, e32, hF⟩ := nmx hF
        refine nml e32 ?_
        refine lv_lstore (lv' := [(4, .long x31), (0, .ref (φ 11 i0)), (3, .int a3), (6, .int x14)]) hx hb dX11_withBell_68 hl (by decide) rfl (fun ls hl => ?_)
        obtain ⟨x33, e34, hF⟩ := nmx hF
        refine lv_iinc (v := x33) (lv' := [(6, .int x33), (4, .long x31), (0, .ref (φ 11 i0)), (3, .int a3)]) hx hb dX11_withBell_70 hl (k := 3) rfl (by rw [e34]; rfl) (by decide) rfl (fun ls hl => ?_)
        refine lv_goto (tgt := 39) hx hb dX11_withBell_73 (by decide) ?_
        obtain rfl := sj hF
        exact hK _ _ _ hW hS (lv_sub hl [2, 3, 1, 0] rfl)
    · intro H locs ls hW hS hl
      obtain ⟨x38, rfl⟩ : ∃ z, z = q36 := ⟨_, rfl⟩
      have hl : lv_has ls 7 [(0, .ref (φ 11 i0)), (3, .int a3), (4, .long x38)] := hl
      refine lv_ldc2 (v := 31) hx hb X.2.2.2.1 (X.2.2.2.2.1 _ (AL_of 966 (by decide +kernel) rfl)) dX11_withBell_76 ?_
      refine lv_lload hx hb dX11_withBell_79 (lv_at hl 2 rfl) ?_
      refine lv_lmul hx hb dX11_withBell_81 ?_
      refine lv_aload_n hx hb dX11_withBell_82 rfl (lv_at hl 0 rfl) ?_
      refine lv_iload_n hx hb dX11_withBell_83 rfl (lv_at hl 1 rfl) ?_
      refine lv_aload_n hx hb dX11_withBell_84 rfl (lv_at hl 0 rfl) ?_
      refine r_geti X hW al_0 fl_11_85 dX11_withBell_85 ?_
      obtain ⟨q44, e39, hF⟩ := bn hF
      obtain ⟨x45, d43⟩ := q44
      have hF := u2d hF
      refine rc_i (Af := fun φ => [.ref (φ 11 i0), .int a3, .int (gi h 11 i0 0)]) X hW hS ⟨Nat.zero_le _, Nat.zero_le _⟩ (rn_V (As := [.int a3, .int (gi h 11 i0 0)]) (rest := [.long (31 * x38)]) X hW hS cw_11_408 al_0 rfl rfl rfl ⟨Nat.le_of_ble_eq_true rfl, Nat.le_of_ble_eq_true rfl⟩ rfl hl.1 rfl (Nat.le_of_ble_eq_true rfl) dX11_withBell_88) (ok_X11_letter i0 a3 (gi h 11 i0 0) al_0 e39) (fun H locs hW hS => ?_)
      obtain ⟨h40, e42, hF⟩ := nmx hF
      have hW := nmW e42 hW
      have g41 : h40.2.2 = h.2.2 := by rw [e42]; exact rfl
      refine lv_i2l (v := (x45).toInt64) hx hb dX11_withBell_91 rfl ?_
      refine lv_ladd hx hb dX11_withBell_92 ?_
      obtain ⟨rfl, rfl⟩ := sj2 hF
      exact hfin _ _ _ _ (wdW g41 hW) hS dX11_withBell_93
def B_X11_digest_6 (i0 : Nat) (h : HP) (q : Int64 × Int32) : Option ((Int64 × Int32) ⊕ (Int64)) :=
  u2 q fun x1 x2 =>
  (if 7 < x2 then
  some (.inr x1)
  else
  (F_X11_count i0 x2 h).bind fun x4 =>
  nm (((31 * x1) + (x4).toInt64)) fun x5 =>
  nm (x2 + 1) fun x7 =>
  some (.inl (x5, x7)))
def B_X11_digest_47 (i0 : Nat) (h : HP) (q : Int64 × Int32 × DP) : Option ((Int64 × Int32 × DP) ⊕ ((Int64 × DP))) :=
  u3 q fun x17 x18 d21 =>
  nm (wd h d21) fun h19 =>
  (if (gi h19 11 i0 2) ≤ x18 then
  some (.inr (x17, (dp h19)))
  else
  (F_X11_withParish i0 x17 x18 h19).bind fun q27 => u2 q27 fun x28 d26 => nm (wd h19 d26) fun h23 =>
  nm (x18 + 1) fun x29 =>
  some (.inl (x28, x29, (dp h23))))
def B_X11_digest_70 (i0 : Nat) (h37 : HP) (q : Int64 × Int32 × DP) : Option ((Int64 × Int32 × DP) ⊕ ((Int64 × DP))) :=
  u3 q fun x39 x40 d43 =>
  nm (wd h37 d43) fun h41 =>
  (gr h41 11 i0 3).bind fun o44 =>
  (if (gi h41 2 o44 1) ≤ x40 then
  some (.inr (x39, (dp h41)))
  else
  (F_X11_withBell i0 x39 x40 h41).bind fun q52 => u2 q52 fun x53 d51 => nm (wd h41 d51) fun h48 =>
  nm (x40 + 1) fun x54 =>
  some (.inl (x53, x54, (dp h48))))
def F_X11_digest (i0 : Nat) (h : HP) : Option (Int64 × DP) :=
  (loopN LF (B_X11_digest_6 i0 h) (17, 0)).bind fun x12 =>
  (F_X11_count i0 9 h).bind fun x14 =>
  nm (((31 * x12) + (x14).toInt64)) fun x15 =>
  (loopN LF (B_X11_digest_47 i0 h) (x15, 0, (dp h))).bind fun q32 => u2 q32 fun x35 d36 =>
  nm (wd h d36) fun h37 =>
  (loopN LF (B_X11_digest_70 i0 h37) (x35, 0, (dp h37))).bind fun q57 => u2 q57 fun x60 d61 =>
  nm (wd h37 d61) fun h62 =>
  (F_X11_fault i0 h62).bind fun x65 =>
  nm (((31 * x60) + (x65).toInt64)) fun x66 =>
  (gr h62 11 i0 7).bind fun o68 =>
  (gr h62 11 i0 5).bind fun o71 =>
  (gr h62 11 i0 3).bind fun o74 =>
  (F_X5_layAll o68 o71 (gi h62 11 i0 6) o74 h62).bind fun d81 => nm (wd h62 d81) fun h78 =>
  (gr h78 11 i0 7).bind fun o82 =>
  (F_X5_laidCount o82 h78).bind fun x86 =>
  nm (((31 * x66) + (x86).toInt64)) fun x87 =>
  (gr h78 11 i0 7).bind fun o89 =>
  (F_X5_differences o89 h78).bind fun x93 =>
  nm (((31 * x87) + (x93).toInt64)) fun x94 =>
  (F_X11_sent i0 0 h78).bind fun q101 => u2 q101 fun x102 d100 => nm (wd h78 d100) fun h97 =>
  some (((31 * x94) + (x102).toInt64), dp h97)
set_option maxHeartbeats 4000000 in
set_option maxRecDepth 100000 in
theorem ok_X11_digest {l : Launch} {D : va_G} {cA : Nat → ClassId} {h : HP} {r : Int64} {d : DP} (i0 : Nat) (al_0 : i0 < gn h 11) (hF : F_X11_digest i0 h = some (r, d)) : ML l D cA yX11_digest cX11_digest 4 (some .long) 5 121 (fun φ => [.ref (φ 11 i0)]) h r (wd h d) := by
  refine mk_L (plainFor_of_name (by decide)) (fun φ => Nat.le_of_ble_eq_true rfl) ?_
  intro p e s m args below meth c ls φ A Q X hW hS hl hfin
  have hx := X.1
  have hb := X.2.1
  have hl : lv_has ls 4 [(0, .ref (φ 11 i0))] := hl
  unfold F_X11_digest at hF
  refine lv_ldc2 (v := 17) hx hb X.2.2.2.1 (X.2.2.2.2.1 _ (AL_of 965 (by decide +kernel) rfl)) dX11_digest_0 ?_
  refine lv_lstore_n (lv' := [(1, .long 17), (0, .ref (φ 11 i0))]) hx hb dX11_digest_3 rfl hl (by decide) rfl (fun ls hl => ?_)
  refine lv_iconst (v := 0) hx hb dX11_digest_4 (by decide) ?_
  refine lv_istore_n (lv' := [(3, .int 0), (1, .long 17), (0, .ref (φ 11 i0))]) hx hb dX11_digest_5 rfl hl (by decide) rfl (fun ls hl => ?_)
  obtain ⟨q10, e11, hF⟩ := bn hF
  refine loop_w (f := B_X11_digest_6 i0 h) (Z := fun q => ∀ (H : Heap) (locs : List Loc) (ls : Array Slot), HW D cA A φ h H → va_S A s.heap H locs → lv_has ls 4 [(0, .ref (φ 11 i0)), (1, .long (q.1)), (3, .int (q.2))] → W p l e (rmo 5 121 0 0) s m args below meth c H locs 0 0 Q (F0 m 6 ls [])) (K := fun q => ∀ (H : Heap) (locs : List Loc) (ls : Array Slot), HW D cA A φ h H → va_S A s.heap H locs → lv_has ls 4 [(0, .ref (φ 11 i0)), (1, .long q)] → W p l e (rmo 5 121 0 0) s m args below meth c H locs 0 0 Q (F0 m 31 ls [])) ?_ LF _ q10 e11 ?_ _ _ _ hW hS (lv_sub hl [2, 1, 0] rfl)
  · intro q v hF hK H locs ls hW hS hl
    obtain ⟨x1, x2⟩ := q
    unfold B_X11_digest_6 at hF
    have hF := u2d hF
    have hl : lv_has ls 4 [(0, .ref (φ 11 i0)), (1, .long x1), (3, .int x2)] := hl
    refine lv_iload_n hx hb dX11_digest_6 rfl (lv_at hl 2 rfl) ?_
    refine lv_bipush (v := 7) hx hb dX11_digest_7 (by decide) ?_
    refine lv_icmp_gt (tgt := 31) hx hb dX11_digest_9 (by decide) (fun c9 => ?_) (fun c9 => ?_)
    · have hF := it c9 hF
      obtain rfl := sj hF
      exact hK _ _ _ hW hS (lv_sub hl [0, 1] rfl)
    · have hF := ie c9 hF
      refine lv_ldc2 (v := 31) hx hb X.2.2.2.1 (X.2.2.2.2.1 _ (AL_of 966 (by decide +kernel) rfl)) dX11_digest_12 ?_
      refine lv_lload_n hx hb dX11_digest_15 rfl (lv_at hl 1 rfl) ?_
      refine lv_lmul hx hb dX11_digest_16 ?_
      refine lv_aload_n hx hb dX11_digest_17 rfl (lv_at hl 0 rfl) ?_
      refine lv_iload_n hx hb dX11_digest_18 rfl (lv_at hl 2 rfl) ?_
      obtain ⟨x4, e3, hF⟩ := bn hF
      refine rc_i (Af := fun φ => [.ref (φ 11 i0), .int x2]) X hW hS ⟨Nat.zero_le _, Nat.zero_le _⟩ (rn_V (As := [.int x2]) (rest := [.long (31 * x1)]) X hW hS cw_11_386 al_0 rfl rfl rfl ⟨Nat.le_of_ble_eq_true rfl, Nat.le_of_ble_eq_true rfl⟩ rfl hl.1 rfl (Nat.le_of_ble_eq_true rfl) dX11_digest_19) (ok_X11_count i0 x2 al_0 e3) (fun H locs hW hS => ?_)
      refine lv_i2l (v := (x4).toInt64) hx hb dX11_digest_22 rfl ?_
      refine lv_ladd hx hb dX11_digest_23 ?_
      obtain ⟨x5, e6, hF⟩ := nmx hF
      refine nml e6 ?_
      refine lv_lstore_n (lv' := [(1, .long x5), (0, .ref (φ 11 i0)), (3, .int x2)]) hx hb dX11_digest_24 rfl hl (by decide) rfl (fun ls hl => ?_)
      obtain ⟨x7, e8, hF⟩ := nmx hF
      refine lv_iinc (v := x7) (lv' := [(3, .int x7), (1, .long x5), (0, .ref (φ 11 i0))]) hx hb dX11_digest_25 hl (k := 2) rfl (by rw [e8]; rfl) (by decide) rfl (fun ls hl => ?_)
      refine lv_goto (tgt := 6) hx hb dX11_digest_28 (by decide) ?_
      obtain rfl := sj hF
      exact hK _ _ _ hW hS (lv_sub hl [2, 1, 0] rfl)
  · intro H locs ls hW hS hl
    obtain ⟨x12, rfl⟩ : ∃ z, z = q10 := ⟨_, rfl⟩
    have hl : lv_has ls 4 [(0, .ref (φ 11 i0)), (1, .long x12)] := hl
    refine lv_ldc2 (v := 31) hx hb X.2.2.2.1 (X.2.2.2.2.1 _ (AL_of 966 (by decide +kernel) rfl)) dX11_digest_31 ?_
    refine lv_lload_n hx hb dX11_digest_34 rfl (lv_at hl 1 rfl) ?_
    refine lv_lmul hx hb dX11_digest_35 ?_
    refine lv_aload_n hx hb dX11_digest_36 rfl (lv_at hl 0 rfl) ?_
    refine lv_bipush (v := 9) hx hb dX11_digest_37 (by decide) ?_
    obtain ⟨x14, e13, hF⟩ := bn hF
    refine rc_i (Af := fun φ => [.ref (φ 11 i0), .int 9]) X hW hS ⟨Nat.zero_le _, Nat.zero_le _⟩ (rn_V (As := [.int 9]) (rest := [.long (31 * x12)]) X hW hS cw_11_386 al_0 rfl rfl rfl ⟨Nat.le_of_ble_eq_true rfl, Nat.le_of_ble_eq_true rfl⟩ rfl hl.1 rfl (Nat.le_of_ble_eq_true rfl) dX11_digest_39) (ok_X11_count i0 9 al_0 e13) (fun H locs hW hS => ?_)
    refine lv_i2l (v := (x14).toInt64) hx hb dX11_digest_42 rfl ?_
    refine lv_ladd hx hb dX11_digest_43 ?_
    obtain ⟨x15, e16, hF⟩ := nmx hF
    refine nml e16 ?_
    refine lv_lstore_n (lv' := [(1, .long x15), (0, .ref (φ 11 i0))]) hx hb dX11_digest_44 rfl hl (by decide) rfl (fun ls hl => ?_)
    refine lv_iconst (v := 0) hx hb dX11_digest_45 (by decide) ?_
    refine lv_istore_n (lv' := [(3, .int 0), (1, .long x15), (0, .ref (φ 11 i0))]) hx hb dX11_digest_46 rfl hl (by decide) rfl (fun ls hl => ?_)
    obtain ⟨q32, e33, hF⟩ := bn hF
    refine loop_w (f := B_X11_digest_47 i0 h) (Z := fun q => ∀ (H : Heap) (locs : List Loc) (ls : Array Slot), HW D cA A φ (wd h q.2.2) H → va_S A s.heap H locs → lv_has ls 4 [(0, .ref (φ 11 i0)), (1, .long (q.1)), (3, .int (q.2.1))] → W p l e (rmo 5 121 0 0) s m args below meth c H locs 0 0 Q (F0 m 47 ls [])) (K := fun q => ∀ (H : Heap) (locs : List Loc) (ls : Array Slot), HW D cA A φ (wd h q.2) H → va_S A s.heap H locs → lv_has ls 4 [(0, .ref (φ 11 i0)), (1, .long (q.1))] → W p l e (rmo 5 121 0 0) s m args below meth c H locs 0 0 Q (F0 m 68 ls [])) ?_ LF _ q32 e33 ?_ _ _ _ (wdW rfl hW) hS (lv_sub hl [2, 1, 0] rfl)
    · intro q v hF hK H locs ls hW hS hl
      obtain ⟨x17, x18, d21⟩ := q
      unfold B_X11_digest_47 at hF
      have hF := u3d hF
      obtain ⟨h19, e34, hF⟩ := nmx hF
      have hW := nmW e34 hW
      have g20 : h19.2.2 = h.2.2 := by rw [e34]; exact rfl
      have hl : lv_has ls 4 [(0, .ref (φ 11 i0)), (1, .long x17), (3, .int x18)] := hl
      refine lv_iload_n hx hb dX11_digest_47 rfl (lv_at hl 2 rfl) ?_
      refine lv_aload_n hx hb dX11_digest_48 rfl (lv_at hl 0 rfl) ?_
      refine r_geti X hW (gq g20 al_0) fl_11_93 dX11_digest_49 ?_
      refine lv_icmp_ge (tgt := 68) hx hb dX11_digest_52 (by decide) (fun c31 => ?_) (fun c31 => ?_)
      · have hF := it c31 hF
        obtain rfl := sj hF
        exact hK _ _ _ (wdW (sq g20 rfl) hW) hS (lv_sub hl [0, 1] rfl)
      · have hF := ie c31 hF
        refine lv_aload_n hx hb dX11_digest_55 rfl (lv_at hl 0 rfl) ?_
        refine lv_lload_n hx hb dX11_digest_56 rfl (lv_at hl 1 rfl) ?_
        refine lv_iload_n hx hb dX11_digest_57 rfl (lv_at hl 2 rfl) ?_
        obtain ⟨q27, e22, hF⟩ := bn hF
        obtain ⟨x28, d26⟩ := q27
        have hF := u2d hF
        refine rc_l (Af := fun φ => [.ref (φ 11 i0), .long x17, .int x18]) X hW hS ⟨Nat.zero_le _, Nat.zero_le _⟩ (rn_V (As := [.long x17, .int x18]) (rest := []) X hW hS cw_11_389 (gq g20 al_0) rfl rfl rfl ⟨Nat.le_of_ble_eq_true rfl, Nat.le_of_ble_eq_true rfl⟩ rfl hl.1 rfl (Nat.le_of_ble_eq_true rfl) dX11_digest_58) (ok_X11_withParish i0 x17 x18 (gq g20 al_0) e22) (fun H locs hW hS => ?_)
        obtain ⟨h23, e25, hF⟩ := nmx hF
        have hW := nmW e25 hW
        have g24 : h23.2.2 = h.2.2 := by rw [e25]; exact g20
        refine lv_lstore_n (lv' := [(1, .long x28), (0, .ref (φ 11 i0)), (3, .int x18)]) hx hb dX11_digest_61 rfl hl (by decide) rfl (fun ls hl => ?_)
        obtain ⟨x29, e30, hF⟩ := nmx hF
        refine lv_iinc (v := x29) (lv' := [(3, .int x29), (1, .long x28), (0, .ref (φ 11 i0))]) hx hb dX11_digest_62 hl (k := 2) rfl (by rw [e30]; rfl) (by decide) rfl (fun ls hl => ?_)
        refine lv_goto (tgt := 47) hx hb dX11_digest_65 (by decide) ?_
        obtain rfl := sj hF
        exact hK _ _ _ (wdW (sq g24 rfl) hW) hS (lv_sub hl [2, 1, 0] rfl)
    · intro H locs ls hW hS hl
      obtain ⟨x35, d36⟩ := q32
      have hF := u2d hF
      obtain ⟨h37, e104, hF⟩ := nmx hF
      have hW := nmW e104 hW
      have g38 : h37.2.2 = h.2.2 := by rw [e104]; exact rfl
      have hl : lv_has ls 4 [(0, .ref (φ 11 i0)), (1, .long x35)] := hl
      refine lv_iconst (v := 0) hx hb dX11_digest_68 (by decide) ?_
      refine lv_istore_n (lv' := [(3, .int 0), (0, .ref (φ 11 i0)), (1, .long x35)]) hx hb dX11_digest_69 rfl hl (by decide) rfl (fun ls hl => ?_)
      obtain ⟨q57, e58, hF⟩ := bn hF
      refine loop_w (f := B_X11_digest_70 i0 h37) (Z := fun q => ∀ (H : Heap) (locs : List Loc) (ls : Array Slot), HW D cA A φ (wd h37 q.2.2) H → va_S A s.heap H locs → lv_has ls 4 [(0, .ref (φ 11 i0)), (1, .long (q.1)), (3, .int (q.2.1))] → W p l e (rmo 5 121 0 0) s m args below meth c H locs 0 0 Q (F0 m 70 ls [])) (K := fun q => ∀ (H : Heap) (locs : List Loc) (ls : Array Slot), HW D cA A φ (wd h37 q.2) H → va_S A s.heap H locs → lv_has ls 4 [(0, .ref (φ 11 i0)), (1, .long (q.1))] → W p l e (rmo 5 121 0 0) s m args below meth c H locs 0 0 Q (F0 m 94 ls [])) ?_ LF _ q57 e58 ?_ _ _ _ (wdW rfl hW) hS (lv_sub hl [1, 2, 0] rfl)
      · intro q v hF hK H locs ls hW hS hl
        obtain ⟨x39, x40, d43⟩ := q
        unfold B_X11_digest_70 at hF
        have hF := u3d hF
        obtain ⟨h41, e59, hF⟩ := nmx hF
        have hW := nmW e59 hW
        have g42 : h41.2.2 = h.2.2 := by rw [e59]; exact g38
        have hl : lv_has ls 4 [(0, .ref (φ 11 i0)), (1, .long x39), (3, .int x40)] := hl
        refine lv_iload_n hx hb dX11_digest_70 rfl (lv_at hl 2 rfl) ?_
        refine lv_aload_n hx hb dX11_digest_71 rfl (lv_at hl 0 rfl) ?_
        obtain ⟨o44, e45, hF⟩ := bn hF
        refine r_getr X hW (gq g42 al_0) fl_11_16 e45 dX11_digest_72 (fun al46 => ?_)
        have al46 := qg g42 al46
        refine r_geti X hW (gq g42 al46) fl_11_222 dX11_digest_75 ?_
        refine lv_icmp_ge (tgt := 94) hx hb dX11_digest_78 (by decide) (fun c56 => ?_) (fun c56 => ?_)
        · have hF := it c56 hF
          obtain rfl := sj hF
          exact hK _ _ _ (wdW (sq g42 g38) hW) hS (lv_sub hl [0, 1] rfl)
        · have hF := ie c56 hF
          refine lv_aload_n hx hb dX11_digest_81 rfl (lv_at hl 0 rfl) ?_
          refine lv_lload_n hx hb dX11_digest_82 rfl (lv_at hl 1 rfl) ?_
          refine lv_iload_n hx hb dX11_digest_83 rfl (lv_at hl 2 rfl) ?_
          obtain ⟨q52, e47, hF⟩ := bn hF
          obtain ⟨x53, d51⟩ := q52
          have hF := u2d hF
          refine rc_l (Af := fun φ => [.ref (φ 11 i0), .long x39, .int x40]) X hW hS ⟨Nat.zero_le _, Nat.zero_le _⟩ (rn_V (As := [.long x39, .int x40]) (rest := []) X hW hS cw_11_393 (gq g42 al_0) rfl rfl rfl ⟨Nat.le_of_ble_eq_true rfl, Nat.le_of_ble_eq_true rfl⟩ rfl hl.1 rfl (Nat.le_of_ble_eq_true rfl) dX11_digest_84) (ok_X11_withBell i0 x39 x40 (gq g42 al_0) e47) (fun H locs hW hS => ?_)
          obtain ⟨h48, e50, hF⟩ := nmx hF
          have hW := nmW e50 hW
          have g49 : h48.2.2 = h.2.2 := by rw [e50]; exact g42
          refine lv_lstore_n (lv' := [(1, .long x53), (0, .ref (φ 11 i0)), (3, .int x40)]) hx hb dX11_digest_87 rfl hl (by decide) rfl (fun ls hl => ?_)
          obtain ⟨x54, e55, hF⟩ := nmx hF
          refine lv_iinc (v := x54) (lv' := [(3, .int x54), (1, .long x53), (0, .ref (φ 11 i0))]) hx hb dX11_digest_88 hl (k := 2) rfl (by rw [e55]; rfl) (by decide) rfl (fun ls hl => ?_)
          refine lv_goto (tgt := 70) hx hb dX11_digest_91 (by decide) ?_
          obtain rfl := sj hF
          exact hK _ _ _ (wdW (sq g49 g38) hW) hS (lv_sub hl [2, 1, 0] rfl)
      · intro H locs ls hW hS hl
        obtain ⟨x60, d61⟩ := q57
        have hF := u2d hF
        obtain ⟨h62, e103, hF⟩ := nmx hF
        have hW := nmW e103 hW
        have g63 : h62.2.2 = h.2.2 := by rw [e103]; exact g38
        have hl : lv_has ls 4 [(0, .ref (φ 11 i0)), (1, .long x60)] := hl
        refine lv_ldc2 (v := 31) hx hb X.2.2.2.1 (X.2.2.2.2.1 _ (AL_of 966 (by decide +kernel) rfl)) dX11_digest_94 ?_
        refine lv_lload_n hx hb dX11_digest_97 rfl (lv_at hl 1 rfl) ?_
        refine lv_lmul hx hb dX11_digest_98 ?_
        refine lv_aload_n hx hb dX11_digest_99 rfl (lv_at hl 0 rfl) ?_
        obtain ⟨x65, e64, hF⟩ := bn hF
        refine rc_i (Af := fun φ => [.ref (φ 11 i0)]) X hW hS ⟨Nat.zero_le _, Nat.zero_le _⟩ (rn_V (As := []) (rest := [.long (31 * x60)]) X hW hS cw_11_396 (gq g63 al_0) rfl rfl rfl ⟨Nat.le_of_ble_eq_true rfl, Nat.le_of_ble_eq_true rfl⟩ rfl hl.1 rfl (Nat.le_of_ble_eq_true rfl) dX11_digest_100) (ok_X11_fault i0 (gq g63 al_0) e64) (fun H locs hW hS => ?_)
        refine lv_i2l (v := (x65).toInt64) hx hb dX11_digest_103 rfl ?_
        refine lv_ladd hx hb dX11_digest_104 ?_
        obtain ⟨x66, e67, hF⟩ := nmx hF
        refine nml e67 ?_
        refine lv_lstore_n (lv' := [(1, .long x66), (0, .ref (φ 11 i0))]) hx hb dX11_digest_105 rfl hl (by decide) rfl (fun ls hl => ?_)
        refine lv_aload_n hx hb dX11_digest_106 rfl (lv_at hl 1 rfl) ?_
        obtain ⟨o68, e69, hF⟩ := bn hF
        refine r_getr X hW (gq g63 al_0) fl_11_36 e69 dX11_digest_107 (fun al70 => ?_)
        have al70 := qg g63 al70
        refine lv_aload_n hx hb dX11_digest_110 rfl (lv_at hl 1 rfl) ?_
        obtain ⟨o71, e72, hF⟩ := bn hF
        refine r_getr X hW (gq g63 al_0) fl_11_29 e72 dX11_digest_111 (fun al73 => ?_)
        have al73 := qg g63 al73
        refine lv_aload_n hx hb dX11_digest_114 rfl (lv_at hl 1 rfl) ?_
        refine r_geti X hW (gq g63 al_0) fl_11_223 dX11_digest_115 ?_
        refine lv_aload_n hx hb dX11_digest_118 rfl (lv_at hl 1 rfl) ?_
        obtain ⟨o74, e75, hF⟩ := bn hF
        refine r_getr X hW (gq g63 al_0) fl_11_16 e75 dX11_digest_119 (fun al76 => ?_)
        have al76 := qg g63 al76
        obtain ⟨d81, e77, hF⟩ := bn hF
        refine rc_v (Af := fun φ => [.ref (φ 5 o68), .ref (φ 42 o71), .int (gi h62 11 i0 6), .ref (φ 2 o74)]) X hW hS ⟨Nat.zero_le _, Nat.zero_le _⟩ (rn_V (As := [.ref (φ 42 o71), .int (gi h62 11 i0 6), .ref (φ 2 o74)]) (rest := []) X hW hS cw_11_240 (gq g63 al70) rfl rfl rfl ⟨Nat.le_of_ble_eq_true rfl, Nat.le_of_ble_eq_true rfl⟩ rfl hl.1 rfl (Nat.le_of_ble_eq_true rfl) dX11_digest_122) (ok_X5_layAll o68 o71 (gi h62 11 i0 6) o74 (gq g63 al70) (gq g63 al73) (gq g63 al76) e77) (fun H locs hW hS => ?_)
        obtain ⟨h78, e80, hF⟩ := nmx hF
        have hW := nmW e80 hW
        have g79 : h78.2.2 = h.2.2 := by rw [e80]; exact g63
        refine lv_ldc2 (v := 31) hx hb X.2.2.2.1 (X.2.2.2.2.1 _ (AL_of 966 (by decide +kernel) rfl)) dX11_digest_125 ?_
        refine lv_lload_n hx hb dX11_digest_128 rfl (lv_at hl 0 rfl) ?_
        refine lv_lmul hx hb dX11_digest_129 ?_
        refine lv_aload_n hx hb dX11_digest_130 rfl (lv_at hl 1 rfl) ?_
        obtain ⟨o82, e83, hF⟩ := bn hF
        refine r_getr X hW (gq g79 al_0) fl_11_36 e83 dX11_digest_131 (fun al84 => ?_)
        have al84 := qg g79 al84
        obtain ⟨x86, e85, hF⟩ := bn hF
        refine rc_i (Af := fun φ => [.ref (φ 5 o82)]) X hW hS ⟨Nat.zero_le _, Nat.zero_le _⟩ (rn_V (As := []) (rest := [.long (31 * x66)]) X hW hS cw_11_244 (gq g79 al84) rfl rfl rfl ⟨Nat.le_of_ble_eq_true rfl, Nat.le_of_ble_eq_true rfl⟩ rfl hl.1 rfl (Nat.le_of_ble_eq_true rfl) dX11_digest_134) (ok_X5_laidCount o82 (gq g79 al84) e85) (fun H locs hW hS => ?_)
        refine lv_i2l (v := (x86).toInt64) hx hb dX11_digest_137 rfl ?_
        refine lv_ladd hx hb dX11_digest_138 ?_
        obtain ⟨x87, e88, hF⟩ := nmx hF
        refine nml e88 ?_
        refine lv_lstore_n (lv' := [(1, .long x87), (0, .ref (φ 11 i0))]) hx hb dX11_digest_139 rfl hl (by decide) rfl (fun ls hl => ?_)
        refine lv_ldc2 (v := 31) hx hb X.2.2.2.1 (X.2.2.2.2.1 _ (AL_of 966 (by decide +kernel) rfl)) dX11_digest_140 ?_
        refine lv_lload_n hx hb dX11_digest_143 rfl (lv_at hl 0 rfl) ?_
        refine lv_lmul hx hb dX11_digest_144 ?_
        refine lv_aload_n hx hb dX11_digest_145 rfl (lv_at hl 1 rfl) ?_
        obtain ⟨o89, e90, hF⟩ := bn hF
        refine r_getr X hW (gq g79 al_0) fl_11_36 e90 dX11_digest_146 (fun al91 => ?_)
        have al91 := qg g79 al91
        obtain ⟨x93, e92, hF⟩ := bn hF
        refine rc_i (Af := fun φ => [.ref (φ 5 o89)]) X hW hS ⟨Nat.zero_le _, Nat.zero_le _⟩ (rn_V (As := []) (rest := [.long (31 * x87)]) X hW hS cw_11_247 (gq g79 al91) rfl rfl rfl ⟨Nat.le_of_ble_eq_true rfl, Nat.le_of_ble_eq_true rfl⟩ rfl hl.1 rfl (Nat.le_of_ble_eq_true rfl) dX11_digest_149) (ok_X5_differences o89 (gq g79 al91) e92) (fun H locs hW hS => ?_)
        refine lv_i2l (v := (x93).toInt64) hx hb dX11_digest_152 rfl ?_
        refine lv_ladd hx hb dX11_digest_153 ?_
        obtain ⟨x94, e95, hF⟩ := nmx hF
        refine nml e95 ?_
        refine lv_lstore_n (lv' := [(1, .long x94), (0, .ref (φ 11 i0))]) hx hb dX11_digest_154 rfl hl (by decide) rfl (fun ls hl => ?_)
        refine lv_ldc2 (v := 31) hx hb X.2.2.2.1 (X.2.2.2.2.1 _ (AL_of 966 (by decide +kernel) rfl)) dX11_digest_155 ?_
        refine lv_lload_n hx hb dX11_digest_158 rfl (lv_at hl 0 rfl) ?_
        refine lv_lmul hx hb dX11_digest_159 ?_
        refine lv_aload_n hx hb dX11_digest_160 rfl (lv_at hl 1 rfl) ?_
        refine lv_iconst (v := 0) hx hb dX11_digest_161 (by decide) ?_
        obtain ⟨q101, e96, hF⟩ := bn hF
        obtain ⟨x102, d100⟩ := q101
        have hF := u2d hF
        refine rc_i (Af := fun φ => [.ref (φ 11 i0), .int 0]) X hW hS ⟨Nat.zero_le _, Nat.zero_le _⟩ (rn_V (As := [.int 0]) (rest := [.long (31 * x94)]) X hW hS cw_11_399 (gq g79 al_0) rfl rfl rfl ⟨Nat.le_of_ble_eq_true rfl, Nat.le_of_ble_eq_true rfl⟩ rfl hl.1 rfl (Nat.le_of_ble_eq_true rfl) dX11_digest_162) (ok_X11_sent i0 0 (gq g79 al_0) e96) (fun H locs hW hS => ?_)
        obtain ⟨h97, e99, hF⟩ := nmx hF
        have hW := nmW e99 hW
        have g98 : h97.2.2 = h.2.2 := by rw [e99]; exact g79
        refine lv_i2l (v := (x102).toInt64) hx hb dX11_digest_165 rfl ?_
        refine lv_ladd hx hb dX11_digest_166 ?_
        obtain ⟨rfl, rfl⟩ := sj2 hF
        exact hfin _ _ _ _ (wdW g98 hW) hS dX11_digest_167
def F_X12_in (a0 : Int64) (a2 : Int64) (a4 : Int64) : Option (Int32) :=
  (if (lg_cmp a0 a2) < 0 then
  some 0
  else
  (if 0 < (lg_cmp a0 a4) then
  some 0
  else
  some 1))
set_option maxHeartbeats 4000000 in
set_option maxRecDepth 100000 in
theorem ok_X12_in {l : Launch} {D : va_G} {cA : Nat → ClassId} {h : HP} {r : Int32}  (a0 : Int64) (a2 : Int64) (a4 : Int64)  (hF : F_X12_in a0 a2 a4 = some r) : MI l D cA yX12_in cX12_in 6 (some .boolean) 0 0 (fun φ => [.long a0, .long a2, .long a4]) h r h := by
  refine mk_Z (plainFor_of_name (by decide)) (fun φ => Nat.le_of_ble_eq_true rfl) ?_
  intro p e s m args below meth c ls φ A Q X hW hS hl hfin
  have hx := X.1
  have hb := X.2.1
  have hl : lv_has ls 6 [(0, .long a0), (2, .long a2), (4, .long a4)] := hl
  unfold F_X12_in at hF
  refine lv_lload_n hx hb dX12_in_0 rfl (lv_at hl 0 rfl) ?_
  refine lv_lload_n hx hb dX12_in_1 rfl (lv_at hl 1 rfl) ?_
  refine W.lcmp hx hb dX12_in_2 ?_
  refine lv_if_lt (tgt := 17) hx hb dX12_in_3 (by decide) (fun c2 => ?_) (fun c2 => ?_)
  · have hF := it c2 hF
    refine lv_iconst (v := 0) hx hb dX12_in_17 (by decide) ?_
    obtain rfl := sj hF
    exact hfin _ _ _ _ hW hS (Or.inl rfl) dX12_in_18
  · have hF := ie c2 hF
    refine lv_lload_n hx hb dX12_in_6 rfl (lv_at hl 0 rfl) ?_
    refine lv_lload hx hb dX12_in_7 (lv_at hl 2 rfl) ?_
    refine W.lcmp hx hb dX12_in_9 ?_
    refine lv_if_gt (tgt := 17) hx hb dX12_in_10 (by decide) (fun c1 => ?_) (fun c1 => ?_)
    · have hF := it c1 hF
      refine lv_iconst (v := 0) hx hb dX12_in_17 (by decide) ?_
      obtain rfl := sj hF
      exact hfin _ _ _ _ hW hS (Or.inl rfl) dX12_in_18
    · have hF := ie c1 hF
      refine lv_iconst (v := 1) hx hb dX12_in_13 (by decide) ?_
      refine lv_goto (tgt := 18) hx hb dX12_in_14 (by decide) ?_
      obtain rfl := sj hF
      exact hfin _ _ _ _ hW hS (Or.inr rfl) dX12_in_18
def F_X12_met (i0 : Nat) (a1 : Int32) (h : HP) : Option (Int32 × DP) :=
  nm (si h 12 i0 4 a1) fun h1 =>
  some (((-10) - a1), dp h1)
set_option maxHeartbeats 4000000 in
set_option maxRecDepth 100000 in
theorem ok_X12_met {l : Launch} {D : va_G} {cA : Nat → ClassId} {h : HP} {r : Int32} {d : DP} (i0 : Nat) (a1 : Int32) (al_0 : i0 < gn h 12) (hF : F_X12_met i0 a1 h = some (r, d)) : MI l D cA yX12_met cX12_met 2 (some .int) 0 0 (fun φ => [.ref (φ 12 i0), .int a1]) h r (wd h d) := by
  refine mk_I (plainFor_of_name (by decide)) (fun φ => Nat.le_of_ble_eq_true rfl) ?_
  intro p e s m args below meth c ls φ A Q X hW hS hl hfin
  have hx := X.1
  have hb := X.2.1
  have hl : lv_has ls 2 [(0, .ref (φ 12 i0)), (1, .int a1)] := hl
  unfold F_X12_met at hF
  refine lv_aload_n hx hb dX12_met_0 rfl (lv_at hl 0 rfl) ?_
  refine lv_iload_n hx hb dX12_met_1 rfl (lv_at hl 1 rfl) ?_
  refine r_puti X hW hS al_0 fp_12_134 rfl rfl dX12_met_2 (fun H locs hW hS => ?_)
  obtain ⟨h1, e2, hF⟩ := nmx hF
  have hW := nmW e2 hW
  have g3 : h1.2.2 = h.2.2 := by rw [e2]; exact rfl
  refine lv_bipush (v := (-10)) hx hb dX12_met_5 (by decide) ?_
  refine lv_iload_n hx hb dX12_met_7 rfl (lv_at hl 1 rfl) ?_
  refine lv_isub hx hb dX12_met_8 ?_
  obtain ⟨rfl, rfl⟩ := sj2 hF
  exact hfin _ _ _ _ (wdW g3 hW) hS dX12_met_9
def F_X12_isSheet (a0 : Int32) : Option (Int32) :=
  (F_X12_in ((a0).toInt64) 0 3).bind fun x2 =>
  (bz x2).bind fun x3 => some x3
set_option maxHeartbeats 4000000 in
set_option maxRecDepth 100000 in
theorem ok_X12_isSheet {l : Launch} {D : va_G} {cA : Nat → ClassId} {h : HP} {r : Int32}  (a0 : Int32)  (hF : F_X12_isSheet a0 = some r) : MI l D cA yX12_isSheet cX12_isSheet 1 (some .boolean) 1 25 (fun φ => [.int a0]) h r h := by
  refine mk_Z (plainFor_of_name (by decide)) (fun φ => Nat.le_of_ble_eq_true rfl) ?_
  intro p e s m args below meth c ls φ A Q X hW hS hl hfin
  have hx := X.1
  have hb := X.2.1
  have hl : lv_has ls 1 [(0, .int a0)] := hl
  unfold F_X12_isSheet at hF
  refine lv_iload_n hx hb dX12_isSheet_0 rfl (lv_at hl 0 rfl) ?_
  refine lv_i2l (v := (a0).toInt64) hx hb dX12_isSheet_1 rfl ?_
  refine lv_lconst (v := 0) hx hb dX12_isSheet_2 (by decide) ?_
  refine lv_ldc2 (v := 3) hx hb X.2.2.2.1 (X.2.2.2.2.1 _ (AL_of 1175 (by decide +kernel) rfl)) dX12_isSheet_3 ?_
  obtain ⟨x2, e1, hF⟩ := bn hF
  refine rc_i (Af := fun φ => [.long ((a0).toInt64), .long 0, .long 3]) X hW hS ⟨Nat.zero_le _, Nat.zero_le _⟩ (rn_S (As := [.long ((a0).toInt64), .long 0, .long 3]) (rest := []) X hW hS cw_12_139 ⟨Nat.le_of_ble_eq_true rfl, Nat.le_of_ble_eq_true rfl⟩ rfl hl.1 rfl (Nat.le_of_ble_eq_true rfl) dX12_isSheet_6) (ok_X12_in ((a0).toInt64) 0 3 e1) (fun H locs hW hS => ?_)
  obtain ⟨x3, e4, hF⟩ := bn hF
  obtain ⟨b5, e4⟩ := bz_s e4
  refine nmi e4 ?_
  rw [← e4] at b5
  obtain rfl := sj hF
  exact hfin _ _ _ _ hW hS b5 dX12_isSheet_9
def B_X12_sheet_55 (i0 : Nat) (a1 : Int32) (a3 : Int32) (h15 : HP) (q : Int32 × DP) : Option ((Int32 × DP) ⊕ (DP)) :=
  u2 q fun x19 d22 =>
  nm (wd h15 d22) fun h20 =>
  (if a3 ≤ x19 then
  some (.inr (dp h20))
  else
  (gr h20 12 i0 2).bind fun o23 =>
  (sa h20 47 o23 240 ((60 * a1) + x19) 0).bind fun h26 =>
  nm (x19 + 1) fun x30 =>
  some (.inl (x30, (dp h26))))
def F_X12_sheet (i0 : Nat) (a1 : Int32) (a2 : Int32) (a3 : Int32) (h : HP) : Option (Int32 × DP) :=
  (F_X12_isSheet a1).bind fun x2 =>
  (if x2 = 0 then
  some ((-2), dp h)
  else
  (F_X12_in ((a2).toInt64) 0 2).bind fun x4 =>
  (if x4 = 0 then
  some ((-2), dp h)
  else
  (if a3 ≤ 60 then
  (if 0 ≤ a3 then
  (gr h 12 i0 0).bind fun o5 =>
  (sa h 45 o5 4 a1 a2).bind fun h8 =>
  (gr h8 12 i0 1).bind fun o12 =>
  (sa h8 46 o12 4 a1 a3).bind fun h15 =>
  (loopN LF (B_X12_sheet_55 i0 a1 a3 h15) (0, (dp h15))).bind fun d36 =>
  nm (wd h15 d36) fun h37 =>
  some (a3, dp h37)
  else
  (F_X12_met i0 5 h).bind fun q45 => u2 q45 fun x46 d44 => nm (wd h d44) fun h41 =>
  some (x46, dp h41))
  else
  some ((-2), dp h))))
set_option maxHeartbeats 4000000 in
set_option maxRecDepth 100000 in
theorem ok_X12_sheet {l : Launch} {D : va_G} {cA : Nat → ClassId} {h : HP} {r : Int32} {d : DP} (i0 : Nat) (a1 : Int32) (a2 : Int32) (a3 : Int32) (al_0 : i0 < gn h 12) (hF : F_X12_sheet i0 a1 a2 a3 h = some (r, d)) : MI l D cA yX12_sheet cX12_sheet 5 (some .int) 2 45 (fun φ => [.ref (φ 12 i0), .int a1, .int a2, .int a3]) h r (wd h d) := by
  refine mk_I (plainFor_of_name (by decide)) (fun φ => Nat.le_of_ble_eq_true rfl) ?_
  intro p e s m args below meth c ls φ A Q X hW hS hl hfin
  have hx := X.1
  have hb := X.2.1
  have hl : lv_has ls 5 [(0, .ref (φ 12 i0)), (1, .int a1), (2, .int a2), (3, .int a3)] := hl
  unfold F_X12_sheet at hF
  refine lv_iload_n hx hb dX12_sheet_0 rfl (lv_at hl 1 rfl) ?_
  obtain ⟨x2, e1, hF⟩ := bn hF
  refine rc_i (Af := fun φ => [.int a1]) X hW hS ⟨Nat.zero_le _, Nat.zero_le _⟩ (rn_S (As := [.int a1]) (rest := []) X hW hS cw_12_143 ⟨Nat.le_of_ble_eq_true rfl, Nat.le_of_ble_eq_true rfl⟩ rfl hl.1 rfl (Nat.le_of_ble_eq_true rfl) dX12_sheet_1) (ok_X12_isSheet a1 e1) (fun H locs hW hS => ?_)
  refine lv_if_eq (tgt := 25) hx hb dX12_sheet_4 (by decide) (fun c50 => ?_) (fun c50 => ?_)
  · have hF := it c50 hF
    refine lv_bipush (v := (-2)) hx hb dX12_sheet_25 (by decide) ?_
    obtain ⟨rfl, rfl⟩ := sj2 hF
    exact hfin _ _ _ _ (wdW rfl hW) hS dX12_sheet_27
  · have hF := ie c50 hF
    refine lv_iload_n hx hb dX12_sheet_7 rfl (lv_at hl 2 rfl) ?_
    refine lv_i2l (v := (a2).toInt64) hx hb dX12_sheet_8 rfl ?_
    refine lv_lconst (v := 0) hx hb dX12_sheet_9 (by decide) ?_
    refine lv_ldc2 (v := 2) hx hb X.2.2.2.1 (X.2.2.2.2.1 _ (AL_of 1179 (by decide +kernel) rfl)) dX12_sheet_10 ?_
    obtain ⟨x4, e3, hF⟩ := bn hF
    refine rc_i (Af := fun φ => [.long ((a2).toInt64), .long 0, .long 2]) X hW hS ⟨Nat.zero_le _, Nat.zero_le _⟩ (rn_S (As := [.long ((a2).toInt64), .long 0, .long 2]) (rest := []) X hW hS cw_12_139 ⟨Nat.le_of_ble_eq_true rfl, Nat.le_of_ble_eq_true rfl⟩ rfl hl.1 rfl (Nat.le_of_ble_eq_true rfl) dX12_sheet_13) (ok_X12_in ((a2).toInt64) 0 2 e3) (fun H locs hW hS => ?_)
    refine lv_if_eq (tgt := 25) hx hb dX12_sheet_16 (by decide) (fun c49 => ?_) (fun c49 => ?_)
    · have hF := it c49 hF
      refine lv_bipush (v := (-2)) hx hb dX12_sheet_25 (by decide) ?_
      obtain ⟨rfl, rfl⟩ := sj2 hF
      exact hfin _ _ _ _ (wdW rfl hW) hS dX12_sheet_27
    · have hF := ie c49 hF
      refine lv_iload_n hx hb dX12_sheet_19 rfl (lv_at hl 3 rfl) ?_
      refine lv_bipush (v := 60) hx hb dX12_sheet_20 (by decide) ?_
      refine lv_icmp_le (tgt := 28) hx hb dX12_sheet_22 (by decide) (fun c48 => ?_) (fun c48 => ?_)
      · have hF := it c48 hF
        refine lv_iload_n hx hb dX12_sheet_28 rfl (lv_at hl 3 rfl) ?_
        refine lv_if_ge (tgt := 38) hx hb dX12_sheet_29 (by decide) (fun c47 => ?_) (fun c47 => ?_)
        · have hF := it c47 hF
          refine lv_aload_n hx hb dX12_sheet_38 rfl (lv_at hl 0 rfl) ?_
          obtain ⟨o5, e6, hF⟩ := bn hF
          refine r_getr X hW al_0 fl_12_7 e6 dX12_sheet_39 (fun al7 => ?_)
          refine lv_iload_n hx hb dX12_sheet_42 rfl (lv_at hl 1 rfl) ?_
          refine lv_iload_n hx hb dX12_sheet_43 rfl (lv_at hl 2 rfl) ?_
          obtain ⟨h8, e9, hF⟩ := bn hF
          obtain ⟨b10, e9⟩ := sa_s e9
          refine r_iast X hW hS al7 rfl b10 dX12_sheet_44 (fun H locs hW hS => ?_)
          have hW := nmW e9 hW
          have g11 : h8.2.2 = h.2.2 := by rw [e9]; exact rfl
          refine lv_aload_n hx hb dX12_sheet_45 rfl (lv_at hl 0 rfl) ?_
          obtain ⟨o12, e13, hF⟩ := bn hF
          refine r_getr X hW (gq g11 al_0) fl_12_13 e13 dX12_sheet_46 (fun al14 => ?_)
          have al14 := qg g11 al14
          refine lv_iload_n hx hb dX12_sheet_49 rfl (lv_at hl 1 rfl) ?_
          refine lv_iload_n hx hb dX12_sheet_50 rfl (lv_at hl 3 rfl) ?_
          obtain ⟨h15, e16, hF⟩ := bn hF
          obtain ⟨b17, e16⟩ := sa_s e16
          refine r_iast X hW hS (gq g11 al14) rfl b17 dX12_sheet_51 (fun H locs hW hS => ?_)
          have hW := nmW e16 hW
          have g18 : h15.2.2 = h.2.2 := by rw [e16]; exact g11
          refine lv_iconst (v := 0) hx hb dX12_sheet_52 (by decide) ?_
          refine lv_istore (lv' := [(4, .int 0), (0, .ref (φ 12 i0)), (1, .int a1), (2, .int a2), (3, .int a3)]) hx hb dX12_sheet_53 hl (by decide) rfl (fun ls hl => ?_)
          obtain ⟨q33, e34, hF⟩ := bn hF
          refine loop_w (f := B_X12_sheet_55 i0 a1 a3 h15) (Z := fun q => ∀ (H : Heap) (locs : List Loc) (ls : Array Slot), HW D cA A φ (wd h15 q.2) H → va_S A s.heap H locs → lv_has ls 5 [(0, .ref (φ 12 i0)), (1, .int a1), (3, .int a3), (4, .int (q.1))] → W p l e (rmo 2 45 0 0) s m args below meth c H locs 0 0 Q (F0 m 55 ls [])) (K := fun q => ∀ (H : Heap) (locs : List Loc) (ls : Array Slot), HW D cA A φ (wd h15 q) H → va_S A s.heap H locs → lv_has ls 5 [(3, .int a3)] → W p l e (rmo 2 45 0 0) s m args below meth c H locs 0 0 Q (F0 m 80 ls [])) ?_ LF _ q33 e34 ?_ _ _ _ (wdW rfl hW) hS (lv_sub hl [1, 2, 4, 0] rfl)
          · intro q v hF hK H locs ls hW hS hl
            obtain ⟨x19, d22⟩ := q
            unfold B_X12_sheet_55 at hF
            have hF := u2d hF
            obtain ⟨h20, e35, hF⟩ := nmx hF
            have hW := nmW e35 hW
            have g21 : h20.2.2 = h.2.2 := by rw [e35]; exact g18
            have hl : lv_has ls 5 [(0, .ref (φ 12 i0)), (1, .int a1), (3, .int a3), (4, .int x19)] := hl
            refine lv_iload hx hb dX12_sheet_55 (lv_at hl 3 rfl) ?_
            refine lv_iload_n hx hb dX12_sheet_57 rfl (lv_at hl 2 rfl) ?_
            refine lv_icmp_ge (tgt := 80) hx hb dX12_sheet_58 (by decide) (fun c32 => ?_) (fun c32 => ?_)
            · have hF := it c32 hF
              obtain rfl := sj hF
              exact hK _ _ _ (wdW (sq g21 g18) hW) hS (lv_sub hl [2] rfl)
            · have hF := ie c32 hF
              refine lv_aload_n hx hb dX12_sheet_61 rfl (lv_at hl 0 rfl) ?_
              obtain ⟨o23, e24, hF⟩ := bn hF
              refine r_getr X hW (gq g21 al_0) fl_12_16 e24 dX12_sheet_62 (fun al25 => ?_)
              have al25 := qg g21 al25
              refine lv_bipush (v := 60) hx hb dX12_sheet_65 (by decide) ?_
              refine lv_iload_n hx hb dX12_sheet_67 rfl (lv_at hl 1 rfl) ?_
              refine lv_imul hx hb dX12_sheet_68 ?_
              refine lv_iload hx hb dX12_sheet_69 (lv_at hl 3 rfl) ?_
              refine lv_iadd hx hb dX12_sheet_71 ?_
              refine lv_iconst (v := 0) hx hb dX12_sheet_72 (by decide) ?_
              obtain ⟨h26, e27, hF⟩ := bn hF
              obtain ⟨b28, e27⟩ := sa_s e27
              refine r_iast X hW hS (gq g21 al25) rfl b28 dX12_sheet_73 (fun H locs hW hS => ?_)
              have hW := nmW e27 hW
              have g29 : h26.2.2 = h.2.2 := by rw [e27]; exact g21
              obtain ⟨x30, e31, hF⟩ := nmx hF
              refine lv_iinc (v := x30) (lv' := [(4, .int x30), (0, .ref (φ 12 i0)), (1, .int a1), (3, .int a3)]) hx hb dX12_sheet_74 hl (k := 3) rfl (by rw [e31]; rfl) (by decide) rfl (fun ls hl => ?_)
              refine lv_goto (tgt := 55) hx hb dX12_sheet_77 (by decide) ?_
              obtain rfl := sj hF
              exact hK _ _ _ (wdW (sq g29 g18) hW) hS (lv_sub hl [1, 2, 3, 0] rfl)
          · intro H locs ls hW hS hl
            obtain ⟨d36, rfl⟩ : ∃ z, z = q33 := ⟨_, rfl⟩
            obtain ⟨h37, e39, hF⟩ := nmx hF
            have hW := nmW e39 hW
            have g38 : h37.2.2 = h.2.2 := by rw [e39]; exact g18
            have hl : lv_has ls 5 [(3, .int a3)] := hl
            refine lv_iload_n hx hb dX12_sheet_80 rfl (lv_at hl 0 rfl) ?_
            obtain ⟨rfl, rfl⟩ := sj2 hF
            exact hfin _ _ _ _ (wdW g38 hW) hS dX12_sheet_81
        · have hF := ie c47 hF
          refine lv_aload_n hx hb dX12_sheet_32 rfl (lv_at hl 0 rfl) ?_
          refine lv_iconst (v := 5) hx hb dX12_sheet_33 (by decide) ?_
          obtain ⟨q45, e40, hF⟩ := bn hF
          obtain ⟨x46, d44⟩ := q45
          have hF := u2d hF
          refine rc_i (Af := fun φ => [.ref (φ 12 i0), .int 5]) X hW hS ⟨Nat.zero_le _, Nat.zero_le _⟩ (rn_V (As := [.int 5]) (rest := []) X hW hS cw_12_149 al_0 rfl rfl rfl ⟨Nat.le_of_ble_eq_true rfl, Nat.le_of_ble_eq_true rfl⟩ rfl hl.1 rfl (Nat.le_of_ble_eq_true rfl) dX12_sheet_34) (ok_X12_met i0 5 al_0 e40) (fun H locs hW hS => ?_)
          obtain ⟨h41, e43, hF⟩ := nmx hF
          have hW := nmW e43 hW
          have g42 : h41.2.2 = h.2.2 := by rw [e43]; exact rfl
          obtain ⟨rfl, rfl⟩ := sj2 hF
          exact hfin _ _ _ _ (wdW g42 hW) hS dX12_sheet_37
      · have hF := ie c48 hF
        refine lv_bipush (v := (-2)) hx hb dX12_sheet_25 (by decide) ?_
        obtain ⟨rfl, rfl⟩ := sj2 hF
        exact hfin _ _ _ _ (wdW rfl hW) hS dX12_sheet_27
