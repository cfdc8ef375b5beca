def J_X11_send_55 (a2 : Int32) (a3 : Int32) (v4_55 : Nat) (hj55 : HP) : Option (Int32 × DP) :=
  (if a2 = 1 then
  (F_X11_isFrom a3 0 999).bind fun x2 =>
  (if x2 = 0 then
  some ((-2), dp hj55)
  else
  nm ((gi hj55 1 v4_55 10)) fun x3 =>
  nm (si hj55 1 v4_55 10 a3) fun h5 =>
  some (x3, dp h5))
  else
  some ((-2), dp hj55))
def F_X11_send (i0 : Nat) (a1 : Int32) (a2 : Int32) (a3 : Int32) (h : HP) : Option (Int32 × DP) :=
  (gr h 11 i0 3).bind fun o10 =>
  (F_X2_has o10 a1 h).bind fun x14 =>
  (if x14 = 0 then
  some ((-2), dp h)
  else
  (gr h 11 i0 3).bind fun o15 =>
  (gr h 2 o15 0).bind fun o18 =>
  (gar h 23 o18 20 a1).bind fun o21 =>
  (if a2 = 0 then
  (F_X11_isFrom a3 1 99).bind fun x26 =>
  (if x26 = 0 then
  J_X11_send_55 a2 a3 o21 h
  else
  nm ((gi h 1 o21 9)) fun x27 =>
  nm (si h 1 o21 9 a3) fun h29 =>
  some (x27, dp h29))
  else
  J_X11_send_55 a2 a3 o21 h))
set_option maxHeartbeats 4000000 in
set_option maxRecDepth 100000 in
theorem ok_X11_send {l : Launch} {D : va_G} {cA : Nat → ClassId} {h : HP} {r : Int32} {d : DP} (i0 : Nat) (a1 : Int32) (a2 : Int32) (a3 : Int32) (al_0 : i0 < gn h 11) (hF : F_X11_send i0 a1 a2 a3 h = some (r, d)) : MI l D cA yX11_send cX11_send 6 (some .int) 2 43 (fun φ => [.ref (φ 11 i0), .int a1, .int a2, .int a3]) h r (wd h d) := by
  refine mk_I (plainFor_of_name (by decide)) (fun φ => Nat.le_of_ble_eq_true rfl) ?_
  intro p e s m args below meth c ls φ A Q X hW hS hl hfin
  have hx := X.1
  have hb := X.2.1
  have hl : lv_has ls 6 [(0, .ref (φ 11 i0)), (1, .int a1), (2, .int a2), (3, .int a3)] := hl
  unfold F_X11_send at hF
  have j_55 : ∀ (v4_55 : Nat) (hj55 : HP) (H : Heap) (locs : List Loc) (ls : Array Slot), hj55.2.2 = h.2.2 → v4_55 < gn h 1 → J_X11_send_55 a2 a3 v4_55 hj55 = some (r, d) → HW D cA A φ hj55 H → va_S A s.heap H locs → lv_has ls 6 [(2, .int a2), (3, .int a3), (4, .ref (φ 1 v4_55))] → W p l e (rmo 2 43 0 0) s m args below meth c H locs 0 0 Q (F0 m 55 ls []) := by
    intro v4_55 hj55 H locs ls gj55 alv4_55 hF hW hS hl
    unfold J_X11_send_55 at hF
    refine lv_iload_n hx hb dX11_send_55 rfl (lv_at hl 0 rfl) ?_
    refine lv_iconst (v := 1) hx hb dX11_send_56 (by decide) ?_
    refine lv_icmp_ne (tgt := 87) hx hb dX11_send_57 (by decide) (fun c9 => ?_) (fun c9 => ?_)
    · have hF := ie c9 hF
      refine lv_bipush (v := (-2)) hx hb dX11_send_87 (by decide) ?_
      obtain ⟨rfl, rfl⟩ := sj2 hF
      exact hfin _ _ _ _ (wdW gj55 hW) hS dX11_send_89
    · have hF := it c9 hF
      refine lv_iload_n hx hb dX11_send_60 rfl (lv_at hl 1 rfl) ?_
      refine lv_iconst (v := 0) hx hb dX11_send_61 (by decide) ?_
      refine lv_sipush (v := 999) hx hb dX11_send_62 (by decide) ?_
      obtain ⟨x2, e1, hF⟩ := bn hF
      refine rc_i (Af := fun φ => [.int a3, .int 0, .int 999]) X hW hS ⟨Nat.zero_le _, Nat.zero_le _⟩ (rn_S (As := [.int a3, .int 0, .int 999]) (rest := []) X hW hS cw_11_81 ⟨Nat.le_of_ble_eq_true rfl, Nat.le_of_ble_eq_true rfl⟩ rfl hl.1 rfl (Nat.le_of_ble_eq_true rfl) dX11_send_65) (ok_X11_isFrom a3 0 999 e1) (fun H locs hW hS => ?_)
      refine lv_if_eq (tgt := 87) hx hb dX11_send_68 (by decide) (fun c8 => ?_) (fun c8 => ?_)
      · have hF := it c8 hF
        refine lv_bipush (v := (-2)) hx hb dX11_send_87 (by decide) ?_
        obtain ⟨rfl, rfl⟩ := sj2 hF
        exact hfin _ _ _ _ (wdW gj55 hW) hS dX11_send_89
      · have hF := ie c8 hF
        refine lv_aload hx hb dX11_send_71 (lv_at hl 2 rfl) ?_
        refine r_geti X hW (gq gj55 alv4_55) fl_11_172 dX11_send_73 ?_
        obtain ⟨x3, e4, hF⟩ := nmx hF
        refine nmi e4 ?_
        refine lv_istore (lv' := [(5, .int x3), (2, .int a2), (3, .int a3), (4, .ref (φ 1 v4_55))]) hx hb dX11_send_76 hl (by decide) rfl (fun ls hl => ?_)
        refine lv_aload hx hb dX11_send_78 (lv_at hl 3 rfl) ?_
        refine lv_iload_n hx hb dX11_send_80 rfl (lv_at hl 2 rfl) ?_
        refine r_puti X hW hS (gq gj55 alv4_55) fp_11_172 rfl rfl dX11_send_81 (fun H locs hW hS => ?_)
        obtain ⟨h5, e6, hF⟩ := nmx hF
        have hW := nmW e6 hW
        have g7 : h5.2.2 = h.2.2 := by rw [e6]; exact gj55
        refine lv_iload hx hb dX11_send_84 (lv_at hl 0 rfl) ?_
        obtain ⟨rfl, rfl⟩ := sj2 hF
        exact hfin _ _ _ _ (wdW g7 hW) hS dX11_send_86
  refine lv_aload_n hx hb dX11_send_0 rfl (lv_at hl 0 rfl) ?_
  obtain ⟨o10, e11, hF⟩ := bn hF
  refine r_getr X hW al_0 fl_11_16 e11 dX11_send_1 (fun al12 => ?_)
  refine lv_iload_n hx hb dX11_send_4 rfl (lv_at hl 1 rfl) ?_
  obtain ⟨x14, e13, hF⟩ := bn hF
  refine rc_i (Af := fun φ => [.ref (φ 2 o10), .int a1]) X hW hS ⟨Nat.zero_le _, Nat.zero_le _⟩ (rn_V (As := [.int a1]) (rest := []) X hW hS cw_11_137 al12 rfl rfl rfl ⟨Nat.le_of_ble_eq_true rfl, Nat.le_of_ble_eq_true rfl⟩ rfl hl.1 rfl (Nat.le_of_ble_eq_true rfl) dX11_send_5) (ok_X2_has o10 a1 al12 e13) (fun H locs hW hS => ?_)
  refine lv_if_ne (tgt := 14) hx hb dX11_send_8 (by decide) (fun c34 => ?_) (fun c34 => ?_)
  · have hF := ie c34 hF
    refine lv_aload_n hx hb dX11_send_14 rfl (lv_at hl 0 rfl) ?_
    obtain ⟨o15, e16, hF⟩ := bn hF
    refine r_getr X hW al_0 fl_11_16 e16 dX11_send_15 (fun al17 => ?_)
    obtain ⟨o18, e19, hF⟩ := bn hF
    refine r_getr X hW al17 fl_11_140 e19 dX11_send_18 (fun al20 => ?_)
    refine lv_iload_n hx hb dX11_send_21 rfl (lv_at hl 1 rfl) ?_
    obtain ⟨o21, e22, hF⟩ := bn hF
    obtain ⟨b23, e22⟩ := gar_s e22
    refine r_aald (t0 := 3) X hW al20 rfl rfl b23 e22 dX11_send_22 (fun al24 => ?_)
    refine lv_astore (lv' := [(4, .ref (φ 1 o21)), (0, .ref (φ 11 i0)), (1, .int a1), (2, .int a2), (3, .int a3)]) hx hb dX11_send_23 hl (by decide) rfl (fun ls hl => ?_)
    refine lv_iload_n hx hb dX11_send_25 rfl (lv_at hl 3 rfl) ?_
    refine lv_if_ne (tgt := 55) hx hb dX11_send_26 (by decide) (fun c33 => ?_) (fun c33 => ?_)
    · have hF := ie c33 hF
      exact j_55 o21 h _ _ _ rfl al24 hF hW hS (lv_sub hl [3, 4, 0] rfl)
    · have hF := it c33 hF
      refine lv_iload_n hx hb dX11_send_29 rfl (lv_at hl 4 rfl) ?_
      refine lv_iconst (v := 1) hx hb dX11_send_30 (by decide) ?_
      refine lv_bipush (v := 99) hx hb dX11_send_31 (by decide) ?_
      obtain ⟨x26, e25, hF⟩ := bn hF
      refine rc_i (Af := fun φ => [.int a3, .int 1, .int 99]) X hW hS ⟨Nat.zero_le _, Nat.zero_le _⟩ (rn_S (As := [.int a3, .int 1, .int 99]) (rest := []) X hW hS cw_11_81 ⟨Nat.le_of_ble_eq_true rfl, Nat.le_of_ble_eq_true rfl⟩ rfl hl.1 rfl (Nat.le_of_ble_eq_true rfl) dX11_send_33) (ok_X11_isFrom a3 1 99 e25) (fun H locs hW hS => ?_)
      refine lv_if_eq (tgt := 55) hx hb dX11_send_36 (by decide) (fun c32 => ?_) (fun c32 => ?_)
      · have hF := it c32 hF
        exact j_55 o21 h _ _ _ rfl al24 hF hW hS (lv_sub hl [3, 4, 0] rfl)
      · have hF := ie c32 hF
        refine lv_aload hx hb dX11_send_39 (lv_at hl 0 rfl) ?_
        refine r_geti X hW al24 fl_11_169 dX11_send_41 ?_
        obtain ⟨x27, e28, hF⟩ := nmx hF
        refine nmi e28 ?_
        refine lv_istore (lv' := [(5, .int x27), (4, .ref (φ 1 o21)), (0, .ref (φ 11 i0)), (1, .int a1), (2, .int a2), (3, .int a3)]) hx hb dX11_send_44 hl (by decide) rfl (fun ls hl => ?_)
        refine lv_aload hx hb dX11_send_46 (lv_at hl 1 rfl) ?_
        refine lv_iload_n hx hb dX11_send_48 rfl (lv_at hl 5 rfl) ?_
        refine r_puti X hW hS al24 fp_11_169 rfl rfl dX11_send_49 (fun H locs hW hS => ?_)
        obtain ⟨h29, e30, hF⟩ := nmx hF
        have hW := nmW e30 hW
        have g31 : h29.2.2 = h.2.2 := by rw [e30]; exact rfl
        refine lv_iload hx hb dX11_send_52 (lv_at hl 0 rfl) ?_
        obtain ⟨rfl, rfl⟩ := sj2 hF
        exact hfin _ _ _ _ (wdW g31 hW) hS dX11_send_54
  · have hF := it c34 hF
    refine lv_bipush (v := (-2)) hx hb dX11_send_11 (by decide) ?_
    obtain ⟨rfl, rfl⟩ := sj2 hF
    exact hfin _ _ _ _ (wdW rfl hW) hS dX11_send_13
def B_X8_gather_42 (i0 : Nat) (i1 : Nat) (x4 : Int32) (h5 : HP) (q : Int32 × DP) : Option ((Int32 × DP) ⊕ ((Int32 × DP))) :=
  u2 q fun x21 d24 =>
  nm (wd h5 d24) fun h22 =>
  (if x21 ≤ 0 then
  some (.inr (x21, (dp h22)))
  else
  (gr h22 2 i1 0).bind fun o25 =>
  (gr h22 8 i0 0).bind fun o28 =>
  (ga h22 38 o28 10 (x21 - 1)).bind fun x31 =>
  (gar h22 23 o25 20 x31).bind fun o34 =>
  (gr h22 2 i1 0).bind fun o38 =>
  (gar h22 23 o38 20 x4).bind fun o41 =>
  (if (gi h22 1 o34 10) ≤ (gi h22 1 o41 10) then
  some (.inr (x21, (dp h22)))
  else
  (gr h22 8 i0 0).bind fun o45 =>
  (gr h22 8 i0 0).bind fun o48 =>
  (ga h22 38 o48 10 (x21 - 1)).bind fun x51 =>
  (sa h22 38 o45 10 x21 x51).bind fun h54 =>
  nm (x21 + (-1)) fun x58 =>
  some (.inl (x58, (dp h54)))))
def B_X8_gather_7 (i0 : Nat) (i1 : Nat) (h1 : HP) (q : Int32 × DP) : Option ((Int32 × DP) ⊕ (DP)) :=
  u2 q fun x4 d7 =>
  nm (wd h1 d7) fun h5 =>
  (if (gi h5 2 i1 1) ≤ x4 then
  some (.inr (dp h5))
  else
  (if 10 ≤ (gi h5 8 i0 1) then
  some (.inr (dp h5))
  else
  (gr h5 2 i1 0).bind fun o8 =>
  (gar h5 23 o8 20 x4).bind fun o11 =>
  (F_X1_stateNow o11 h5).bind fun x16 =>
  (if x16 = 3 then
  nm ((gi h5 8 i0 1)) fun x19 =>
  (loopN LF (B_X8_gather_42 i0 i1 x4 h5) (x19, (dp h5))).bind fun q62 => u2 q62 fun x65 d66 =>
  nm (wd h5 d66) fun h67 =>
  (gr h67 8 i0 0).bind fun o69 =>
  (sa h67 38 o69 10 x65 x4).bind fun h72 =>
  nm (si h72 8 i0 1 ((gi h72 8 i0 1) + 1)) fun h76 =>
  nm (x4 + 1) fun x79 =>
  some (.inl (x79, (dp h76)))
  else
  nm (x4 + 1) fun x17 =>
  some (.inl (x17, (dp h5))))))
def F_X8_gather (i0 : Nat) (i1 : Nat) (h : HP) : Option (DP) :=
  nm (si h 8 i0 1 0) fun h1 =>
  (loopN LF (B_X8_gather_7 i0 i1 h1) (0, (dp h1))).bind fun d88 =>
  nm (wd h1 d88) fun h89 =>
  some (dp h89)
set_option maxHeartbeats 4000000 in
set_option maxRecDepth 100000 in
theorem ok_X8_gather {l : Launch} {D : va_G} {cA : Nat → ClassId} {h : HP}  {d : DP} (i0 : Nat) (i1 : Nat) (al_0 : i0 < gn h 8) (al_1 : i1 < gn h 2) (hF : F_X8_gather i0 i1 h = some d) : MV l D cA yX8_gather cX8_gather 4 none 1 20 (fun φ => [.ref (φ 8 i0), .ref (φ 2 i1)]) h (wd h d) := by
  refine mk_V (plainFor_of_name (by decide)) (fun φ => Nat.le_of_ble_eq_true rfl) ?_
  intro p e s m args below meth c ls φ A Q X hW hS hl hfin
  have hx := X.1
  have hb := X.2.1
  have hl : lv_has ls 4 [(0, .ref (φ 8 i0)), (1, .ref (φ 2 i1))] := hl
  unfold F_X8_gather at hF
  refine lv_aload_n hx hb dX8_gather_0 rfl (lv_at hl 0 rfl) ?_
  refine lv_iconst (v := 0) hx hb dX8_gather_1 (by decide) ?_
  refine r_puti X hW hS al_0 fp_8_29 rfl rfl dX8_gather_2 (fun H locs hW hS => ?_)
  obtain ⟨h1, e2, hF⟩ := nmx hF
  have hW := nmW e2 hW
  have g3 : h1.2.2 = h.2.2 := by rw [e2]; exact rfl
  refine lv_iconst (v := 0) hx hb dX8_gather_5 (by decide) ?_
  refine lv_istore_n (lv' := [(2, .int 0), (0, .ref (φ 8 i0)), (1, .ref (φ 2 i1))]) hx hb dX8_gather_6 rfl hl (by decide) rfl (fun ls hl => ?_)
  obtain ⟨q85, e86, hF⟩ := bn hF
  refine loop_w (f := B_X8_gather_7 i0 i1 h1) (Z := fun q => ∀ (H : Heap) (locs : List Loc) (ls : Array Slot), HW D cA A φ (wd h1 q.2) H → va_S A s.heap H locs → lv_has ls 4 [(0, .ref (φ 8 i0)), (1, .ref (φ 2 i1)), (2, .int (q.1))] → W p l e (rmo 1 20 0 0) s m args below meth c H locs 0 0 Q (F0 m 7 ls [])) (K := fun q => ∀ (H : Heap) (locs : List Loc) (ls : Array Slot), HW D cA A φ (wd h1 q) H → va_S A s.heap H locs → lv_has ls 4 [] → W p l e (rmo 1 20 0 0) s m args below meth c H locs 0 0 Q (F0 m 117 ls [])) ?_ LF _ q85 e86 ?_ _ _ _ (wdW rfl hW) hS (lv_sub hl [1, 2, 0] rfl)
  · intro q v hF hK H locs ls hW hS hl
    obtain ⟨x4, d7⟩ := q
    unfold B_X8_gather_7 at hF
    have hF := u2d hF
    obtain ⟨h5, e87, hF⟩ := nmx hF
    have hW := nmW e87 hW
    have g6 : h5.2.2 = h.2.2 := by rw [e87]; exact g3
    have hl : lv_has ls 4 [(0, .ref (φ 8 i0)), (1, .ref (φ 2 i1)), (2, .int x4)] := hl
    refine lv_iload_n hx hb dX8_gather_7 rfl (lv_at hl 2 rfl) ?_
    refine lv_aload_n hx hb dX8_gather_8 rfl (lv_at hl 1 rfl) ?_
    refine r_geti X hW (gq g6 al_1) fl_8_42 dX8_gather_9 ?_
    refine lv_icmp_ge (tgt := 117) hx hb dX8_gather_12 (by decide) (fun c84 => ?_) (fun c84 => ?_)
    · have hF := it c84 hF
      obtain rfl := sj hF
      exact hK _ _ _ (wdW (sq g6 g3) hW) hS (lv_sub hl [] rfl)
    · have hF := ie c84 hF
      refine lv_aload_n hx hb dX8_gather_15 rfl (lv_at hl 0 rfl) ?_
      refine r_geti X hW (gq g6 al_0) fl_8_29 dX8_gather_16 ?_
      refine lv_bipush (v := 10) hx hb dX8_gather_19 (by decide) ?_
      refine lv_icmp_ge (tgt := 117) hx hb dX8_gather_21 (by decide) (fun c83 => ?_) (fun c83 => ?_)
      · have hF := it c83 hF
        obtain rfl := sj hF
        exact hK _ _ _ (wdW (sq g6 g3) hW) hS (lv_sub hl [] rfl)
      · have hF := ie c83 hF
        refine lv_aload_n hx hb dX8_gather_24 rfl (lv_at hl 1 rfl) ?_
        obtain ⟨o8, e9, hF⟩ := bn hF
        refine r_getr X hW (gq g6 al_1) fl_8_45 e9 dX8_gather_25 (fun al10 => ?_)
        have al10 := qg g6 al10
        refine lv_iload_n hx hb dX8_gather_28 rfl (lv_at hl 2 rfl) ?_
        obtain ⟨o11, e12, hF⟩ := bn hF
        obtain ⟨b13, e12⟩ := gar_s e12
        refine r_aald (t0 := 3) X hW (gq g6 al10) rfl rfl b13 e12 dX8_gather_29 (fun al14 => ?_)
        have al14 := qg g6 al14
        obtain ⟨x16, e15, hF⟩ := bn hF
        refine rc_i (Af := fun φ => [.ref (φ 1 o11)]) X hW hS ⟨Nat.zero_le _, Nat.zero_le _⟩ (rn_V (As := []) (rest := []) X hW hS cw_8_49 (gq g6 al14) rfl rfl rfl ⟨Nat.le_of_ble_eq_true rfl, Nat.le_of_ble_eq_true rfl⟩ rfl hl.1 rfl (Nat.le_of_ble_eq_true rfl) dX8_gather_30) (ok_X1_stateNow o11 (gq g6 al14) e15) (fun H locs hW hS => ?_)
        refine lv_iconst (v := 3) hx hb dX8_gather_33 (by decide) ?_
        refine lv_icmp_ne (tgt := 111) hx hb dX8_gather_34 (by decide) (fun c82 => ?_) (fun c82 => ?_)
        · have hF := ie c82 hF
          obtain ⟨x17, e18, hF⟩ := nmx hF
          refine lv_iinc (v := x17) (lv' := [(2, .int x17), (0, .ref (φ 8 i0)), (1, .ref (φ 2 i1))]) hx hb dX8_gather_111 hl (k := 2) rfl (by rw [e18]; rfl) (by decide) rfl (fun ls hl => ?_)
          refine lv_goto (tgt := 7) hx hb dX8_gather_114 (by decide) ?_
          obtain rfl := sj hF
          exact hK _ _ _ (wdW (sq g6 g3) hW) hS (lv_sub hl [1, 2, 0] rfl)
        · have hF := it c82 hF
          refine lv_aload_n hx hb dX8_gather_37 rfl (lv_at hl 0 rfl) ?_
          refine r_geti X hW (gq g6 al_0) fl_8_29 dX8_gather_38 ?_
          obtain ⟨x19, e20, hF⟩ := nmx hF
          refine nmi e20 ?_
          refine lv_istore_n (lv' := [(3, .int x19), (0, .ref (φ 8 i0)), (1, .ref (φ 2 i1)), (2, .int x4)]) hx hb dX8_gather_41 rfl hl (by decide) rfl (fun ls hl => ?_)
          obtain ⟨q62, e63, hF⟩ := bn hF
          refine loop_w (f := B_X8_gather_42 i0 i1 x4 h5) (Z := fun q => ∀ (H : Heap) (locs : List Loc) (ls : Array Slot), HW D cA A φ (wd h5 q.2) H → va_S A s.heap H locs → lv_has ls 4 [(0, .ref (φ 8 i0)), (1, .ref (φ 2 i1)), (2, .int x4), (3, .int (q.1))] → W p l e (rmo 1 20 0 0) s m args below meth c H locs 0 0 Q (F0 m 42 ls [])) (K := fun q => ∀ (H : Heap) (locs : List Loc) (ls : Array Slot), HW D cA A φ (wd h5 q.2) H → va_S A s.heap H locs → lv_has ls 4 [(0, .ref (φ 8 i0)), (1, .ref (φ 2 i1)), (2, .int x4), (3, .int (q.1))] → W p l e (rmo 1 20 0 0) s m args below meth c H locs 0 0 Q (F0 m 94 ls [])) ?_ LF _ q62 e63 ?_ _ _ _ (wdW rfl hW) hS (lv_sub hl [1, 2, 3, 0] rfl)
          · intro q v hF hK H locs ls hW hS hl
            obtain ⟨x21, d24⟩ := q
            unfold B_X8_gather_42 at hF
            have hF := u2d hF
            obtain ⟨h22, e64, hF⟩ := nmx hF
            have hW := nmW e64 hW
            have g23 : h22.2.2 = h.2.2 := by rw [e64]; exact g6
            have hl : lv_has ls 4 [(0, .ref (φ 8 i0)), (1, .ref (φ 2 i1)), (2, .int x4), (3, .int x21)] := hl
            refine lv_iload_n hx hb dX8_gather_42 rfl (lv_at hl 3 rfl) ?_
            refine lv_if_le (tgt := 94) hx hb dX8_gather_43 (by decide) (fun c61 => ?_) (fun c61 => ?_)
            · have hF := it c61 hF
              obtain rfl := sj hF
              exact hK _ _ _ (wdW (sq g23 g6) hW) hS (lv_sub hl [0, 1, 2, 3] rfl)
            · have hF := ie c61 hF
              refine lv_aload_n hx hb dX8_gather_46 rfl (lv_at hl 1 rfl) ?_
              obtain ⟨o25, e26, hF⟩ := bn hF
              refine r_getr X hW (gq g23 al_1) fl_8_45 e26 dX8_gather_47 (fun al27 => ?_)
              have al27 := qg g23 al27
              refine lv_aload_n hx hb dX8_gather_50 rfl (lv_at hl 0 rfl) ?_
              obtain ⟨o28, e29, hF⟩ := bn hF
              refine r_getr X hW (gq g23 al_0) fl_8_9 e29 dX8_gather_51 (fun al30 => ?_)
              have al30 := qg g23 al30
              refine lv_iload_n hx hb dX8_gather_54 rfl (lv_at hl 3 rfl) ?_
              refine lv_iconst (v := 1) hx hb dX8_gather_55 (by decide) ?_
              refine lv_isub hx hb dX8_gather_56 ?_
              obtain ⟨x31, e32, hF⟩ := bn hF
              obtain ⟨b33, e32⟩ := ga_s e32
              refine r_iald X hW (gq g23 al30) rfl b33 dX8_gather_57 ?_
              refine nmi e32 ?_
              obtain ⟨o34, e35, hF⟩ := bn hF
              obtain ⟨b36, e35⟩ := gar_s e35
              refine r_aald (t0 := 3) X hW (gq g23 al27) rfl rfl b36 e35 dX8_gather_58 (fun al37 => ?_)
              have al37 := qg g23 al37
              refine r_geti X hW (gq g23 al37) fl_8_55 dX8_gather_59 ?_
              refine lv_aload_n hx hb dX8_gather_62 rfl (lv_at hl 1 rfl) ?_
              obtain ⟨o38, e39, hF⟩ := bn hF
              refine r_getr X hW (gq g23 al_1) fl_8_45 e39 dX8_gather_63 (fun al40 => ?_)
              have al40 := qg g23 al40
              refine lv_iload_n hx hb dX8_gather_66 rfl (lv_at hl 2 rfl) ?_
              obtain ⟨o41, e42, hF⟩ := bn hF
              obtain ⟨b43, e42⟩ := gar_s e42
              refine r_aald (t0 := 3) X hW (gq g23 al40) rfl rfl b43 e42 dX8_gather_67 (fun al44 => ?_)
              have al44 := qg g23 al44
              refine r_geti X hW (gq g23 al44) fl_8_55 dX8_gather_68 ?_
              refine lv_icmp_le (tgt := 94) hx hb dX8_gather_71 (by decide) (fun c60 => ?_) (fun c60 => ?_)
              · have hF := it c60 hF
                obtain rfl := sj hF
                exact hK _ _ _ (wdW (sq g23 g6) hW) hS (lv_sub hl [0, 1, 2, 3] rfl)
              · have hF := ie c60 hF
                refine lv_aload_n hx hb dX8_gather_74 rfl (lv_at hl 0 rfl) ?_
                obtain ⟨o45, e46, hF⟩ := bn hF
                refine r_getr X hW (gq g23 al_0) fl_8_9 e46 dX8_gather_75 (fun al47 => ?_)
                have al47 := qg g23 al47
                refine lv_iload_n hx hb dX8_gather_78 rfl (lv_at hl 3 rfl) ?_
                refine lv_aload_n hx hb dX8_gather_79 rfl (lv_at hl 0 rfl) ?_
                obtain ⟨o48, e49, hF⟩ := bn hF
                refine r_getr X hW (gq g23 al_0) fl_8_9 e49 dX8_gather_80 (fun al50 => ?_)
                have al50 := qg g23 al50
                refine lv_iload_n hx hb dX8_gather_83 rfl (lv_at hl 3 rfl) ?_
                refine lv_iconst (v := 1) hx hb dX8_gather_84 (by decide) ?_
                refine lv_isub hx hb dX8_gather_85 ?_
                obtain ⟨x51, e52, hF⟩ := bn hF
                obtain ⟨b53, e52⟩ := ga_s e52
                refine r_iald X hW (gq g23 al50) rfl b53 dX8_gather_86 ?_
                refine nmi e52 ?_
                obtain ⟨h54, e55, hF⟩ := bn hF
                obtain ⟨b56, e55⟩ := sa_s e55
                refine r_iast X hW hS (gq g23 al47) rfl b56 dX8_gather_87 (fun H locs hW hS => ?_)
                have hW := nmW e55 hW
                have g57 : h54.2.2 = h.2.2 := by rw [e55]; exact g23
                obtain ⟨x58, e59, hF⟩ := nmx hF
                refine lv_iinc (v := x58) (lv' := [(3, .int x58), (0, .ref (φ 8 i0)), (1, .ref (φ 2 i1)), (2, .int x4)]) hx hb dX8_gather_88 hl (k := 3) rfl (by rw [e59]; rfl) (by decide) rfl (fun ls hl => ?_)
                refine lv_goto (tgt := 42) hx hb dX8_gather_91 (by decide) ?_
                obtain rfl := sj hF
                exact hK _ _ _ (wdW (sq g57 g6) hW) hS (lv_sub hl [1, 2, 3, 0] rfl)
          · intro H locs ls hW hS hl
            obtain ⟨x65, d66⟩ := q62
            have hF := u2d hF
            obtain ⟨h67, e81, hF⟩ := nmx hF
            have hW := nmW e81 hW
            have g68 : h67.2.2 = h.2.2 := by rw [e81]; exact g6
            have hl : lv_has ls 4 [(0, .ref (φ 8 i0)), (1, .ref (φ 2 i1)), (2, .int x4), (3, .int x65)] := hl
            refine lv_aload_n hx hb dX8_gather_94 rfl (lv_at hl 0 rfl) ?_
            obtain ⟨o69, e70, hF⟩ := bn hF
            refine r_getr X hW (gq g68 al_0) fl_8_9 e70 dX8_gather_95 (fun al71 => ?_)
            have al71 := qg g68 al71
            refine lv_iload_n hx hb dX8_gather_98 rfl (lv_at hl 3 rfl) ?_
            refine lv_iload_n hx hb dX8_gather_99 rfl (lv_at hl 2 rfl) ?_
            obtain ⟨h72, e73, hF⟩ := bn hF
            obtain ⟨b74, e73⟩ := sa_s e73
            refine r_iast X hW hS (gq g68 al71) rfl b74 dX8_gather_100 (fun H locs hW hS => ?_)
            have hW := nmW e73 hW
            have g75 : h72.2.2 = h.2.2 := by rw [e73]; exact g68
            refine lv_aload_n hx hb dX8_gather_101 rfl (lv_at hl 0 rfl) ?_
            refine lv_dup hx hb dX8_gather_102 rfl ?_
            refine r_geti X hW (gq g75 al_0) fl_8_29 dX8_gather_103 ?_
            refine lv_iconst (v := 1) hx hb dX8_gather_106 (by decide) ?_
            refine lv_iadd hx hb dX8_gather_107 ?_
            refine r_puti X hW hS (gq g75 al_0) fp_8_29 rfl rfl dX8_gather_108 (fun H locs hW hS => ?_)
            obtain ⟨h76, e77, hF⟩ := nmx hF
            have hW := nmW e77 hW
            have g78 : h76.2.2 = h.2.2 := by rw [e77]; exact g75
            obtain ⟨x79, e80, hF⟩ := nmx hF
            refine lv_iinc (v := x79) (lv' := [(2, .int x79), (0, .ref (φ 8 i0)), (1, .ref (φ 2 i1)), (3, .int x65)]) hx hb dX8_gather_111 hl (k := 2) rfl (by rw [e80]; rfl) (by decide) rfl (fun ls hl => ?_)
            refine lv_goto (tgt := 7) hx hb dX8_gather_114 (by decide) ?_
            obtain rfl := sj hF
            exact hK _ _ _ (wdW (sq g78 g3) hW) hS (lv_sub hl [1, 2, 0] rfl)
  · intro H locs ls hW hS hl
    obtain ⟨d88, rfl⟩ : ∃ z, z = q85 := ⟨_, rfl⟩
    obtain ⟨h89, e91, hF⟩ := nmx hF
    have hW := nmW e91 hW
    have g90 : h89.2.2 = h.2.2 := by rw [e91]; exact g3
    have hl : lv_has ls 4 [] := hl
    obtain rfl := sj hF
    exact hfin _ _ _ _ (wdW g90 hW) hS dX8_gather_117
def F_X8_isBetter (i0 : Nat) (a1 : Int32) (a2 : Int32) (a3 : Int32) (h : HP) : Option (Int32) :=
  (if a1 = (gi h 8 i0 3) then
  (if a2 = (gi h 8 i0 4) then
  (if (gi h 8 i0 2) ≤ a3 then
  some 0
  else
  some 1)
  else
  (if a2 ≤ (gi h 8 i0 4) then
  some 0
  else
  some 1))
  else
  (if a1 ≤ (gi h 8 i0 3) then
  some 0
  else
  some 1))
set_option maxHeartbeats 4000000 in
set_option maxRecDepth 100000 in
theorem ok_X8_isBetter {l : Launch} {D : va_G} {cA : Nat → ClassId} {h : HP} {r : Int32}  (i0 : Nat) (a1 : Int32) (a2 : Int32) (a3 : Int32) (al_0 : i0 < gn h 8) (hF : F_X8_isBetter i0 a1 a2 a3 h = some r) : MI l D cA yX8_isBetter cX8_isBetter 4 (some .boolean) 0 0 (fun φ => [.ref (φ 8 i0), .int a1, .int a2, .int a3]) h r h := by
  refine mk_Z (plainFor_of_name (by decide)) (fun φ => Nat.le_of_ble_eq_true rfl) ?_
  intro p e s m args below meth c ls φ A Q X hW hS hl hfin
  have hx := X.1
  have hb := X.2.1
  have hl : lv_has ls 4 [(0, .ref (φ 8 i0)), (1, .int a1), (2, .int a2), (3, .int a3)] := hl
  unfold F_X8_isBetter at hF
  refine lv_iload_n hx hb dX8_isBetter_0 rfl (lv_at hl 1 rfl) ?_
  refine lv_aload_n hx hb dX8_isBetter_1 rfl (lv_at hl 0 rfl) ?_
  refine r_geti X hW al_0 fl_8_23 dX8_isBetter_2 ?_
  refine lv_icmp_eq (tgt := 22) hx hb dX8_isBetter_5 (by decide) (fun c5 => ?_) (fun c5 => ?_)
  · have hF := it c5 hF
    refine lv_iload_n hx hb dX8_isBetter_22 rfl (lv_at hl 2 rfl) ?_
    refine lv_aload_n hx hb dX8_isBetter_23 rfl (lv_at hl 0 rfl) ?_
    refine r_geti X hW al_0 fl_8_26 dX8_isBetter_24 ?_
    refine lv_icmp_eq (tgt := 46) hx hb dX8_isBetter_27 (by decide) (fun c3 => ?_) (fun c3 => ?_)
    · have hF := it c3 hF
      refine lv_iload_n hx hb dX8_isBetter_46 rfl (lv_at hl 3 rfl) ?_
      refine lv_aload_n hx hb dX8_isBetter_47 rfl (lv_at hl 0 rfl) ?_
      refine r_geti X hW al_0 fl_8_19 dX8_isBetter_48 ?_
      refine lv_icmp_ge (tgt := 58) hx hb dX8_isBetter_51 (by decide) (fun c1 => ?_) (fun c1 => ?_)
      · have hF := it c1 hF
        refine lv_iconst (v := 0) hx hb dX8_isBetter_58 (by decide) ?_
        obtain rfl := sj hF
        exact hfin _ _ _ _ hW hS (Or.inl rfl) dX8_isBetter_59
      · have hF := ie c1 hF
        refine lv_iconst (v := 1) hx hb dX8_isBetter_54 (by decide) ?_
        refine lv_goto (tgt := 59) hx hb dX8_isBetter_55 (by decide) ?_
        obtain rfl := sj hF
        exact hfin _ _ _ _ hW hS (Or.inr rfl) dX8_isBetter_59
    · have hF := ie c3 hF
      refine lv_iload_n hx hb dX8_isBetter_30 rfl (lv_at hl 2 rfl) ?_
      refine lv_aload_n hx hb dX8_isBetter_31 rfl (lv_at hl 0 rfl) ?_
      refine r_geti X hW al_0 fl_8_26 dX8_isBetter_32 ?_
      refine lv_icmp_le (tgt := 42) hx hb dX8_isBetter_35 (by decide) (fun c2 => ?_) (fun c2 => ?_)
      · have hF := it c2 hF
        refine lv_iconst (v := 0) hx hb dX8_isBetter_42 (by decide) ?_
        refine lv_goto (tgt := 59) hx hb dX8_isBetter_43 (by decide) ?_
        obtain rfl := sj hF
        exact hfin _ _ _ _ hW hS (Or.inl rfl) dX8_isBetter_59
      · have hF := ie c2 hF
        refine lv_iconst (v := 1) hx hb dX8_isBetter_38 (by decide) ?_
        refine lv_goto (tgt := 59) hx hb dX8_isBetter_39 (by decide) ?_
        obtain rfl := sj hF
        exact hfin _ _ _ _ hW hS (Or.inr rfl) dX8_isBetter_59
  · have hF := ie c5 hF
    refine lv_iload_n hx hb dX8_isBetter_8 rfl (lv_at hl 1 rfl) ?_
    refine lv_aload_n hx hb dX8_isBetter_9 rfl (lv_at hl 0 rfl) ?_
    refine r_geti X hW al_0 fl_8_23 dX8_isBetter_10 ?_
    refine lv_icmp_le (tgt := 20) hx hb dX8_isBetter_13 (by decide) (fun c4 => ?_) (fun c4 => ?_)
    · have hF := it c4 hF
      refine lv_iconst (v := 0) hx hb dX8_isBetter_20 (by decide) ?_
      obtain rfl := sj hF
      exact hfin _ _ _ _ hW hS (Or.inl rfl) dX8_isBetter_21
    · have hF := ie c4 hF
      refine lv_iconst (v := 1) hx hb dX8_isBetter_16 (by decide) ?_
      refine lv_goto (tgt := 21) hx hb dX8_isBetter_17 (by decide) ?_
      obtain rfl := sj hF
      exact hfin _ _ _ _ hW hS (Or.inr rfl) dX8_isBetter_21
def B_X8_consider_11 (i0 : Nat) (i1 : Nat) (a2 : Int32) (h : HP) (q : Int32 × Int32 × Int32 × Int32) : Option ((Int32 × Int32 × Int32 × Int32) ⊕ (Unit ⊕ (Int32 × Int32))) :=
  u4 q fun x1 x2 x3 x4 =>
  (if (gi h 8 i0 1) ≤ x4 then
  some (.inr (.inr (x2, x3)))
  else
  (if ((a2 >>> (x4 &&& 31)) &&& 1) = 1 then
  (gr h 2 i1 0).bind fun o7 =>
  (gr h 8 i0 0).bind fun o10 =>
  (ga h 38 o10 10 x4).bind fun x13 =>
  (gar h 23 o7 20 x13).bind fun o16 =>
  nm ((x1 + (gi h 1 o16 9))) fun x20 =>
  (if x20 ≤ (gi h 1 o16 10) then
  nm ((x2 + (gi h 1 o16 1))) fun x22 =>
  (gr h 8 i0 0).bind fun o24 =>
  (ga h 38 o24 10 x4).bind fun x27 =>
  nm ((x3 ||| (1 <<< (x27 &&& 31)))) fun x30 =>
  nm (x4 + 1) fun x32 =>
  some (.inl (x20, x22, x30, x32))
  else
  some (.inr (.inl ())))
  else
  nm (x4 + 1) fun x5 =>
  some (.inl (x1, x2, x3, x5))))
def F_X8_consider (i0 : Nat) (i1 : Nat) (a2 : Int32) (h : HP) : Option (DP) :=
  (loopN LF (B_X8_consider_11 i0 i1 a2 h) (0, 0, 0, 0)).bind (fun q37 => match q37 with
  | .inl q37 => (fun _ =>
  some (dp h)) q37
  | .inr q37 => (fun q37 => u2 q37 fun x39 x40 =>
  (F_J_bitCount a2).bind fun x42 =>
  (F_X8_isBetter i0 x42 x39 x40 h).bind fun x44 =>
  (if x44 = 0 then
  some (dp h)
  else
  (F_J_bitCount a2).bind fun x46 =>
  nm (si h 8 i0 3 x46) fun h47 =>
  nm (si h47 8 i0 4 x39) fun h50 =>
  nm (si h50 8 i0 2 x40) fun h53 =>
  some (dp h53))) q37)
set_option maxHeartbeats 4000000 in
set_option maxRecDepth 100000 in
theorem ok_X8_consider {l : Launch} {D : va_G} {cA : Nat → ClassId} {h : HP}  {d : DP} (i0 : Nat) (i1 : Nat) (a2 : Int32) (al_0 : i0 < gn h 8) (al_1 : i1 < gn h 2) (hF : F_X8_consider i0 i1 a2 h = some d) : MV l D cA yX8_consider cX8_consider 8 none 1 23 (fun φ => [.ref (φ 8 i0), .ref (φ 2 i1), .int a2]) h (wd h d) := by
  refine mk_V (plainFor_of_name (by decide)) (fun φ => Nat.le_of_ble_eq_true rfl) ?_
  intro p e s m args below meth c ls φ A Q X hW hS hl hfin
  have hx := X.1
  have hb := X.2.1
  have hl : lv_has ls 8 [(0, .ref (φ 8 i0)), (1, .ref (φ 2 i1)), (2, .int a2)] := hl
  unfold F_X8_consider at hF
  refine lv_iconst (v := 0) hx hb dX8_consider_0 (by decide) ?_
  refine lv_istore_n (lv' := [(3, .int 0), (0, .ref (φ 8 i0)), (1, .ref (φ 2 i1)), (2, .int a2)]) hx hb dX8_consider_1 rfl hl (by decide) rfl (fun ls hl => ?_)
  refine lv_iconst (v := 0) hx hb dX8_consider_2 (by decide) ?_
  refine lv_istore (lv' := [(4, .int 0), (3, .int 0), (0, .ref (φ 8 i0)), (1, .ref (φ 2 i1)), (2, .int a2)]) hx hb dX8_consider_3 hl (by decide) rfl (fun ls hl => ?_)
  refine lv_iconst (v := 0) hx hb dX8_consider_5 (by decide) ?_
  refine lv_istore (lv' := [(5, .int 0), (4, .int 0), (3, .int 0), (0, .ref (φ 8 i0)), (1, .ref (φ 2 i1)), (2, .int a2)]) hx hb dX8_consider_6 hl (by decide) rfl (fun ls hl => ?_)
  refine lv_iconst (v := 0) hx hb dX8_consider_8 (by decide) ?_
  refine lv_istore (lv' := [(6, .int 0), (5, .int 0), (4, .int 0), (3, .int 0), (0, .ref (φ 8 i0)), (1, .ref (φ 2 i1)), (2, .int a2)]) hx hb dX8_consider_9 hl (by decide) rfl (fun ls hl => ?_)
  obtain ⟨q37, e38, hF⟩ := bn hF
  refine loop_w (f := B_X8_consider_11 i0 i1 a2 h) (Z := fun q => ∀ (H : Heap) (locs : List Loc) (ls : Array Slot), HW D cA A φ h H → va_S A s.heap H locs → lv_has ls 8 [(0, .ref (φ 8 i0)), (1, .ref (φ 2 i1)), (2, .int a2), (3, .int (q.1)), (4, .int (q.2.1)), (5, .int (q.2.2.1)), (6, .int (q.2.2.2))] → W p l e (rmo 1 23 0 0) s m args below meth c H locs 0 0 Q (F0 m 11 ls [])) (K := fun q => match q with | .inl q => (∀ (H : Heap) (locs : List Loc) (ls : Array Slot), HW D cA A φ h H → va_S A s.heap H locs → lv_has ls 8 [] → W p l e (rmo 1 23 0 0) s m args below meth c H locs 0 0 Q (F0 m 61 ls [])) | .inr q => (∀ (H : Heap) (locs : List Loc) (ls : Array Slot), HW D cA A φ h H → va_S A s.heap H locs → lv_has ls 8 [(0, .ref (φ 8 i0)), (2, .int a2), (4, .int (q.1)), (5, .int (q.2))] → W p l e (rmo 1 23 0 0) s m args below meth c H locs 0 0 Q (F0 m 92 ls []))) ?_ LF _ q37 e38 ?_ _ _ _ hW hS (lv_sub hl [4, 5, 6, 3, 2, 1, 0] rfl)
  · intro q v hF hK H locs ls hW hS hl
    obtain ⟨x1, x2, x3, x4⟩ := q
    unfold B_X8_consider_11 at hF
    have hF := u4d hF
    have hl : lv_has ls 8 [(0, .ref (φ 8 i0)), (1, .ref (φ 2 i1)), (2, .int a2), (3, .int x1), (4, .int x2), (5, .int x3), (6, .int x4)] := hl
    refine lv_iload hx hb dX8_consider_11 (lv_at hl 6 rfl) ?_
    refine lv_aload_n hx hb dX8_consider_13 rfl (lv_at hl 0 rfl) ?_
    refine r_geti X hW al_0 fl_8_29 dX8_consider_14 ?_
    refine lv_icmp_ge (tgt := 92) hx hb dX8_consider_17 (by decide) (fun c36 => ?_) (fun c36 => ?_)
    · have hF := it c36 hF
      obtain rfl := sj hF
      exact hK _ _ _ hW hS (lv_sub hl [0, 2, 4, 5] rfl)
    · have hF := ie c36 hF
      refine lv_iload_n hx hb dX8_consider_20 rfl (lv_at hl 2 rfl) ?_
      refine lv_iload hx hb dX8_consider_21 (lv_at hl 6 rfl) ?_
      refine lv_ishr hx hb dX8_consider_23 ?_
      refine lv_iconst (v := 1) hx hb dX8_consider_24 (by decide) ?_
      refine lv_iand hx hb dX8_consider_25 ?_
      refine lv_iconst (v := 1) hx hb dX8_consider_26 (by decide) ?_
      refine lv_icmp_ne (tgt := 86) hx hb dX8_consider_27 (by decide) (fun c35 => ?_) (fun c35 => ?_)
      · have hF := ie c35 hF
        obtain ⟨x5, e6, hF⟩ := nmx hF
        refine lv_iinc (v := x5) (lv' := [(6, .int x5), (0, .ref (φ 8 i0)), (1, .ref (φ 2 i1)), (2, .int a2), (3, .int x1), (4, .int x2), (5, .int x3)]) hx hb dX8_consider_86 hl (k := 6) rfl (by rw [e6]; rfl) (by decide) rfl (fun ls hl => ?_)
        refine lv_goto (tgt := 11) hx hb dX8_consider_89 (by decide) ?_
        obtain rfl := sj hF
        exact hK _ _ _ hW hS (lv_sub hl [1, 2, 3, 4, 5, 6, 0] rfl)
      · have hF := it c35 hF
        refine lv_aload_n hx hb dX8_consider_30 rfl (lv_at hl 1 rfl) ?_
        obtain ⟨o7, e8, hF⟩ := bn hF
        refine r_getr X hW al_1 fl_8_45 e8 dX8_consider_31 (fun al9 => ?_)
        refine lv_aload_n hx hb dX8_consider_34 rfl (lv_at hl 0 rfl) ?_
        obtain ⟨o10, e11, hF⟩ := bn hF
        refine r_getr X hW al_0 fl_8_9 e11 dX8_consider_35 (fun al12 => ?_)
        refine lv_iload hx hb dX8_consider_38 (lv_at hl 6 rfl) ?_
        obtain ⟨x13, e14, hF⟩ := bn hF
        obtain ⟨b15, e14⟩ := ga_s e14
        refine r_iald X hW al12 rfl b15 dX8_consider_40 ?_
        refine nmi e14 ?_
        obtain ⟨o16, e17, hF⟩ := bn hF
        obtain ⟨b18, e17⟩ := gar_s e17
        refine r_aald (t0 := 3) X hW al9 rfl rfl b18 e17 dX8_consider_41 (fun al19 => ?_)
        refine lv_astore (lv' := [(7, .ref (φ 1 o16)), (0, .ref (φ 8 i0)), (1, .ref (φ 2 i1)), (2, .int a2), (3, .int x1), (4, .int x2), (5, .int x3), (6, .int x4)]) hx hb dX8_consider_42 hl (by decide) rfl (fun ls hl => ?_)
        refine lv_iload_n hx hb dX8_consider_44 rfl (lv_at hl 4 rfl) ?_
        refine lv_aload hx hb dX8_consider_45 (lv_at hl 0 rfl) ?_
        refine r_geti X hW al19 fl_8_58 dX8_consider_47 ?_
        refine lv_iadd hx hb dX8_consider_50 ?_
        obtain ⟨x20, e21, hF⟩ := nmx hF
        refine nmi e21 ?_
        refine lv_istore_n (lv' := [(3, .int x20), (7, .ref (φ 1 o16)), (0, .ref (φ 8 i0)), (1, .ref (φ 2 i1)), (2, .int a2), (4, .int x2), (5, .int x3), (6, .int x4)]) hx hb dX8_consider_51 rfl hl (by decide) rfl (fun ls hl => ?_)
        refine lv_iload_n hx hb dX8_consider_52 rfl (lv_at hl 0 rfl) ?_
        refine lv_aload hx hb dX8_consider_53 (lv_at hl 1 rfl) ?_
        refine r_geti X hW al19 fl_8_55 dX8_consider_55 ?_
        refine lv_icmp_le (tgt := 62) hx hb dX8_consider_58 (by decide) (fun c34 => ?_) (fun c34 => ?_)
        · have hF := it c34 hF
          refine lv_iload hx hb dX8_consider_62 (lv_at hl 5 rfl) ?_
          refine lv_aload hx hb dX8_consider_64 (lv_at hl 1 rfl) ?_
          refine r_geti X hW al19 fl_8_61 dX8_consider_66 ?_
          refine lv_iadd hx hb dX8_consider_69 ?_
          obtain ⟨x22, e23, hF⟩ := nmx hF
          refine nmi e23 ?_
          refine lv_istore (lv' := [(4, .int x22), (3, .int x20), (7, .ref (φ 1 o16)), (0, .ref (φ 8 i0)), (1, .ref (φ 2 i1)), (2, .int a2), (5, .int x3), (6, .int x4)]) hx hb dX8_consider_70 hl (by decide) rfl (fun ls hl => ?_)
          refine lv_iload hx hb dX8_consider_72 (lv_at hl 6 rfl) ?_
          refine lv_iconst (v := 1) hx hb dX8_consider_74 (by decide) ?_
          refine lv_aload_n hx hb dX8_consider_75 rfl (lv_at hl 3 rfl) ?_
          obtain ⟨o24, e25, hF⟩ := bn hF
          refine r_getr X hW al_0 fl_8_9 e25 dX8_consider_76 (fun al26 => ?_)
          refine lv_iload hx hb dX8_consider_79 (lv_at hl 7 rfl) ?_
          obtain ⟨x27, e28, hF⟩ := bn hF
          obtain ⟨b29, e28⟩ := ga_s e28
          refine r_iald X hW al26 rfl b29 dX8_consider_81 ?_
          refine nmi e28 ?_
          refine lv_ishl hx hb dX8_consider_82 ?_
          refine lv_ior hx hb dX8_consider_83 ?_
          obtain ⟨x30, e31, hF⟩ := nmx hF
          refine nmi e31 ?_
          refine lv_istore (lv' := [(5, .int x30), (4, .int x22), (3, .int x20), (7, .ref (φ 1 o16)), (0, .ref (φ 8 i0)), (1, .ref (φ 2 i1)), (2, .int a2), (6, .int x4)]) hx hb dX8_consider_84 hl (by decide) rfl (fun ls hl => ?_)
          obtain ⟨x32, e33, hF⟩ := nmx hF
          refine lv_iinc (v := x32) (lv' := [(6, .int x32), (5, .int x30), (4, .int x22), (3, .int x20), (7, .ref (φ 1 o16)), (0, .ref (φ 8 i0)), (1, .ref (φ 2 i1)), (2, .int a2)]) hx hb dX8_consider_86 hl (k := 7) rfl (by rw [e33]; rfl) (by decide) rfl (fun ls hl => ?_)
          refine lv_goto (tgt := 11) hx hb dX8_consider_89 (by decide) ?_
          obtain rfl := sj hF
          exact hK _ _ _ hW hS (lv_sub hl [5, 6, 7, 3, 2, 1, 0] rfl)
        · have hF := ie c34 hF
          obtain rfl := sj hF
          exact hK _ _ _ hW hS (lv_sub hl [] rfl)
  · cases q37 with
    | inl q37 =>
      intro H locs ls hW hS hl
      have hl : lv_has ls 8 [] := hl
      obtain rfl := sj hF
      exact hfin _ _ _ _ (wdW rfl hW) hS dX8_consider_61
    | inr q37 =>
      intro H locs ls hW hS hl
      obtain ⟨x39, x40⟩ := q37
      have hF := u2d hF
      have hl : lv_has ls 8 [(0, .ref (φ 8 i0)), (2, .int a2), (4, .int x39), (5, .int x40)] := hl
      refine lv_aload_n hx hb dX8_consider_92 rfl (lv_at hl 0 rfl) ?_
      refine lv_iload_n hx hb dX8_consider_93 rfl (lv_at hl 1 rfl) ?_
      obtain ⟨x42, e41, hF⟩ := bn hF
      refine rc_i (Af := fun φ => [.int a2]) X hW hS ⟨Nat.zero_le _, Nat.zero_le _⟩ (rn_S (As := [.int a2]) (rest := [.ref (φ 8 i0)]) X hW hS cw_8_32 ⟨Nat.le_of_ble_eq_true rfl, Nat.le_of_ble_eq_true rfl⟩ rfl hl.1 rfl (Nat.le_of_ble_eq_true rfl) dX8_consider_94) (ok_J_bitCount a2 e41) (fun H locs hW hS => ?_)
      refine lv_iload hx hb dX8_consider_97 (lv_at hl 2 rfl) ?_
      refine lv_iload hx hb dX8_consider_99 (lv_at hl 3 rfl) ?_
      obtain ⟨x44, e43, hF⟩ := bn hF
      refine rc_i (Af := fun φ => [.ref (φ 8 i0), .int x42, .int x39, .int x40]) X hW hS ⟨Nat.zero_le _, Nat.zero_le _⟩ (rn_V (As := [.int x42, .int x39, .int x40]) (rest := []) X hW hS cw_8_64 al_0 rfl rfl rfl ⟨Nat.le_of_ble_eq_true rfl, Nat.le_of_ble_eq_true rfl⟩ rfl hl.1 rfl (Nat.le_of_ble_eq_true rfl) dX8_consider_101) (ok_X8_isBetter i0 x42 x39 x40 al_0 e43) (fun H locs hW hS => ?_)
      refine lv_if_eq (tgt := 127) hx hb dX8_consider_104 (by decide) (fun c56 => ?_) (fun c56 => ?_)
      · have hF := it c56 hF
        obtain rfl := sj hF
        exact hfin _ _ _ _ (wdW rfl hW) hS dX8_consider_127
      · have hF := ie c56 hF
        refine lv_aload_n hx hb dX8_consider_107 rfl (lv_at hl 0 rfl) ?_
        refine lv_iload_n hx hb dX8_consider_108 rfl (lv_at hl 1 rfl) ?_
        obtain ⟨x46, e45, hF⟩ := bn hF
        refine rc_i (Af := fun φ => [.int a2]) X hW hS ⟨Nat.zero_le _, Nat.zero_le _⟩ (rn_S (As := [.int a2]) (rest := [.ref (φ 8 i0)]) X hW hS cw_8_32 ⟨Nat.le_of_ble_eq_true rfl, Nat.le_of_ble_eq_true rfl⟩ rfl hl.1 rfl (Nat.le_of_ble_eq_true rfl) dX8_consider_109) (ok_J_bitCount a2 e45) (fun H locs hW hS => ?_)
        refine r_puti X hW hS al_0 fp_8_23 rfl rfl dX8_consider_112 (fun H locs hW hS => ?_)
        obtain ⟨h47, e48, hF⟩ := nmx hF
        have hW := nmW e48 hW
        have g49 : h47.2.2 = h.2.2 := by rw [e48]; exact rfl
        refine lv_aload_n hx hb dX8_consider_115 rfl (lv_at hl 0 rfl) ?_
        refine lv_iload hx hb dX8_consider_116 (lv_at hl 2 rfl) ?_
        refine r_puti X hW hS (gq g49 al_0) fp_8_26 rfl rfl dX8_consider_118 (fun H locs hW hS => ?_)
        obtain ⟨h50, e51, hF⟩ := nmx hF
        have hW := nmW e51 hW
        have g52 : h50.2.2 = h.2.2 := by rw [e51]; exact g49
        refine lv_aload_n hx hb dX8_consider_121 rfl (lv_at hl 0 rfl) ?_
        refine lv_iload hx hb dX8_consider_122 (lv_at hl 3 rfl) ?_
        refine r_puti X hW hS (gq g52 al_0) fp_8_19 rfl rfl dX8_consider_124 (fun H locs hW hS => ?_)
        obtain ⟨h53, e54, hF⟩ := nmx hF
        have hW := nmW e54 hW
        have g55 : h53.2.2 = h.2.2 := by rw [e54]; exact g52
        obtain rfl := sj hF
        exact hfin _ _ _ _ (wdW g55 hW) hS dX8_consider_127
def B_X8_plan_29 (i0 : Nat) (i1 : Nat) (h12 : HP) (q : Int32 × DP) : Option ((Int32 × DP) ⊕ (DP)) :=
  u2 q fun x17 d20 =>
  nm (wd h12 d20) fun h18 =>
  (if x17 ≤ 0 then
  some (.inr (dp h18))
  else
  (if (gi h18 8 i0 1) ≤ (gi h18 8 i0 3) then
  some (.inr (dp h18))
  else
  (F_J_bitCount x17).bind fun x22 =>
  (if x22 < (gi h18 8 i0 3) then
  nm (x17 + (-1)) fun x23 =>
  some (.inl (x23, (dp h18)))
  else
  (F_X8_consider i0 i1 x17 h18).bind fun d29 => nm (wd h18 d29) fun h26 =>
  nm (x17 + (-1)) fun x30 =>
  some (.inl (x30, (dp h26))))))
def F_X8_plan (i0 : Nat) (i1 : Nat) (h : HP) : Option (DP) :=
  (F_X8_gather i0 i1 h).bind fun d5 => nm (wd h d5) fun h2 =>
  nm (si h2 8 i0 2 0) fun h6 =>
  nm (si h6 8 i0 3 0) fun h9 =>
  nm (si h9 8 i0 4 0) fun h12 =>
  nm (((1 <<< ((gi h12 8 i0 1) &&& 31)) - 1)) fun x15 =>
  (loopN LF (B_X8_plan_29 i0 i1 h12) (x15, (dp h12))).bind fun d38 =>
  nm (wd h12 d38) fun h39 =>
  some (dp h39)
set_option maxHeartbeats 4000000 in
set_option maxRecDepth 100000 in
theorem ok_X8_plan {l : Launch} {D : va_G} {cA : Nat → ClassId} {h : HP}  {d : DP} (i0 : Nat) (i1 : Nat) (al_0 : i0 < gn h 8) (al_1 : i1 < gn h 2) (hF : F_X8_plan i0 i1 h = some d) : MV l D cA yX8_plan cX8_plan 3 none 2 50 (fun φ => [.ref (φ 8 i0), .ref (φ 2 i1)]) h (wd h d) := by
  refine mk_V (plainFor_of_name (by decide)) (fun φ => Nat.le_of_ble_eq_true rfl) ?_
  intro p e s m args below meth c ls φ A Q X hW hS hl hfin
  have hx := X.1
  have hb := X.2.1
  have hl : lv_has ls 3 [(0, .ref (φ 8 i0)), (1, .ref (φ 2 i1))] := hl
  unfold F_X8_plan at hF
  refine lv_aload_n hx hb dX8_plan_0 rfl (lv_at hl 0 rfl) ?_
  refine lv_aload_n hx hb dX8_plan_1 rfl (lv_at hl 1 rfl) ?_
  obtain ⟨d5, e1, hF⟩ := bn hF
  refine rc_v (Af := fun φ => [.ref (φ 8 i0), .ref (φ 2 i1)]) X hW hS ⟨Nat.zero_le _, Nat.zero_le _⟩ (rn_V (As := [.ref (φ 2 i1)]) (rest := []) X hW hS cw_8_15 al_0 rfl rfl rfl ⟨Nat.le_of_ble_eq_true rfl, Nat.le_of_ble_eq_true rfl⟩ rfl hl.1 rfl (Nat.le_of_ble_eq_true rfl) dX8_plan_2) (ok_X8_gather i0 i1 al_0 al_1 e1) (fun H locs hW hS => ?_)
  obtain ⟨h2, e4, hF⟩ := nmx hF
  have hW := nmW e4 hW
  have g3 : h2.2.2 = h.2.2 := by rw [e4]; exact rfl
  refine lv_aload_n hx hb dX8_plan_5 rfl (lv_at hl 0 rfl) ?_
  refine lv_iconst (v := 0) hx hb dX8_plan_6 (by decide) ?_
  refine r_puti X hW hS (gq g3 al_0) fp_8_19 rfl rfl dX8_plan_7 (fun H locs hW hS => ?_)
  obtain ⟨h6, e7, hF⟩ := nmx hF
  have hW := nmW e7 hW
  have g8 : h6.2.2 = h.2.2 := by rw [e7]; exact g3
  refine lv_aload_n hx hb dX8_plan_10 rfl (lv_at hl 0 rfl) ?_
  refine lv_iconst (v := 0) hx hb dX8_plan_11 (by decide) ?_
  refine r_puti X hW hS (gq g8 al_0) fp_8_23 rfl rfl dX8_plan_12 (fun H locs hW hS => ?_)
  obtain ⟨h9, e10, hF⟩ := nmx hF
  have hW := nmW e10 hW
  have g11 : h9.2.2 = h.2.2 := by rw [e10]; exact g8
  refine lv_aload_n hx hb dX8_plan_15 rfl (lv_at hl 0 rfl) ?_
  refine lv_iconst (v := 0) hx hb dX8_plan_16 (by decide) ?_
  refine r_puti X hW hS (gq g11 al_0) fp_8_26 rfl rfl dX8_plan_17 (fun H locs hW hS => ?_)
  obtain ⟨h12, e13, hF⟩ := nmx hF
  have hW := nmW e13 hW
  have g14 : h12.2.2 = h.2.2 := by rw [e13]; exact g11
  refine lv_iconst (v := 1) hx hb dX8_plan_20 (by decide) ?_
  refine lv_aload_n hx hb dX8_plan_21 rfl (lv_at hl 0 rfl) ?_
  refine r_geti X hW (gq g14 al_0) fl_8_29 dX8_plan_22 ?_
  refine lv_ishl hx hb dX8_plan_25 ?_
  refine lv_iconst (v := 1) hx hb dX8_plan_26 (by decide) ?_
  refine lv_isub hx hb dX8_plan_27 ?_
  obtain ⟨x15, e16, hF⟩ := nmx hF
  refine nmi e16 ?_
  refine lv_istore_n (lv' := [(2, .int x15), (0, .ref (φ 8 i0)), (1, .ref (φ 2 i1))]) hx hb dX8_plan_28 rfl hl (by decide) rfl (fun ls hl => ?_)
  obtain ⟨q35, e36, hF⟩ := bn hF
  refine loop_w (f := B_X8_plan_29 i0 i1 h12) (Z := fun q => ∀ (H : Heap) (locs : List Loc) (ls : Array Slot), HW D cA A φ (wd h12 q.2) H → va_S A s.heap H locs → lv_has ls 3 [(0, .ref (φ 8 i0)), (1, .ref (φ 2 i1)), (2, .int (q.1))] → W p l e (rmo 2 50 0 0) s m args below meth c H locs 0 0 Q (F0 m 29 ls [])) (K := fun q => ∀ (H : Heap) (locs : List Loc) (ls : Array Slot), HW D cA A φ (wd h12 q) H → va_S A s.heap H locs → lv_has ls 3 [] → W p l e (rmo 2 50 0 0) s m args below meth c H locs 0 0 Q (F0 m 67 ls [])) ?_ LF _ q35 e36 ?_ _ _ _ (wdW rfl hW) hS (lv_sub hl [1, 2, 0] rfl)
  · intro q v hF hK H locs ls hW hS hl
    obtain ⟨x17, d20⟩ := q
    unfold B_X8_plan_29 at hF
    have hF := u2d hF
    obtain ⟨h18, e37, hF⟩ := nmx hF
    have hW := nmW e37 hW
    have g19 : h18.2.2 = h.2.2 := by rw [e37]; exact g14
    have hl : lv_has ls 3 [(0, .ref (φ 8 i0)), (1, .ref (φ 2 i1)), (2, .int x17)] := hl
    refine lv_iload_n hx hb dX8_plan_29 rfl (lv_at hl 2 rfl) ?_
    refine lv_if_le (tgt := 67) hx hb dX8_plan_30 (by decide) (fun c34 => ?_) (fun c34 => ?_)
    · have hF := it c34 hF
      obtain rfl := sj hF
      exact hK _ _ _ (wdW (sq g19 g14) hW) hS (lv_sub hl [] rfl)
    · have hF := ie c34 hF
      refine lv_aload_n hx hb dX8_plan_33 rfl (lv_at hl 0 rfl) ?_
      refine r_geti X hW (gq g19 al_0) fl_8_23 dX8_plan_34 ?_
      refine lv_aload_n hx hb dX8_plan_37 rfl (lv_at hl 0 rfl) ?_
      refine r_geti X hW (gq g19 al_0) fl_8_29 dX8_plan_38 ?_
      refine lv_icmp_ge (tgt := 67) hx hb dX8_plan_41 (by decide) (fun c33 => ?_) (fun c33 => ?_)
      · have hF := it c33 hF
        obtain rfl := sj hF
        exact hK _ _ _ (wdW (sq g19 g14) hW) hS (lv_sub hl [] rfl)
      · have hF := ie c33 hF
        refine lv_iload_n hx hb dX8_plan_44 rfl (lv_at hl 2 rfl) ?_
        obtain ⟨x22, e21, hF⟩ := bn hF
        refine rc_i (Af := fun φ => [.int x17]) X hW hS ⟨Nat.zero_le _, Nat.zero_le _⟩ (rn_S (As := [.int x17]) (rest := []) X hW hS cw_8_32 ⟨Nat.le_of_ble_eq_true rfl, Nat.le_of_ble_eq_true rfl⟩ rfl hl.1 rfl (Nat.le_of_ble_eq_true rfl) dX8_plan_45) (ok_J_bitCount x17 e21) (fun H locs hW hS => ?_)
        refine lv_aload_n hx hb dX8_plan_48 rfl (lv_at hl 0 rfl) ?_
        refine r_geti X hW (gq g19 al_0) fl_8_23 dX8_plan_49 ?_
        refine lv_icmp_lt (tgt := 61) hx hb dX8_plan_52 (by decide) (fun c32 => ?_) (fun c32 => ?_)
        · have hF := it c32 hF
          obtain ⟨x23, e24, hF⟩ := nmx hF
          refine lv_iinc (v := x23) (lv' := [(2, .int x23), (0, .ref (φ 8 i0)), (1, .ref (φ 2 i1))]) hx hb dX8_plan_61 hl (k := 2) rfl (by rw [e24]; rfl) (by decide) rfl (fun ls hl => ?_)
          refine lv_goto (tgt := 29) hx hb dX8_plan_64 (by decide) ?_
          obtain rfl := sj hF
          exact hK _ _ _ (wdW (sq g19 g14) hW) hS (lv_sub hl [1, 2, 0] rfl)
        · have hF := ie c32 hF
          refine lv_aload_n hx hb dX8_plan_55 rfl (lv_at hl 0 rfl) ?_
          refine lv_aload_n hx hb dX8_plan_56 rfl (lv_at hl 1 rfl) ?_
          refine lv_iload_n hx hb dX8_plan_57 rfl (lv_at hl 2 rfl) ?_
          obtain ⟨d29, e25, hF⟩ := bn hF
          refine rc_v (Af := fun φ => [.ref (φ 8 i0), .ref (φ 2 i1), .int x17]) X hW hS ⟨Nat.zero_le _, Nat.zero_le _⟩ (rn_V (As := [.ref (φ 2 i1), .int x17]) (rest := []) X hW hS cw_8_38 (gq g19 al_0) rfl rfl rfl ⟨Nat.le_of_ble_eq_true rfl, Nat.le_of_ble_eq_true rfl⟩ rfl hl.1 rfl (Nat.le_of_ble_eq_true rfl) dX8_plan_58) (ok_X8_consider i0 i1 x17 (gq g19 al_0) (gq g19 al_1) e25) (fun H locs hW hS => ?_)
          obtain ⟨h26, e28, hF⟩ := nmx hF
          have hW := nmW e28 hW
          have g27 : h26.2.2 = h.2.2 := by rw [e28]; exact g19
          obtain ⟨x30, e31, hF⟩ := nmx hF
          refine lv_iinc (v := x30) (lv' := [(2, .int x30), (0, .ref (φ 8 i0)), (1, .ref (φ 2 i1))]) hx hb dX8_plan_61 hl (k := 2) rfl (by rw [e31]; rfl) (by decide) rfl (fun ls hl => ?_)
          refine lv_goto (tgt := 29) hx hb dX8_plan_64 (by decide) ?_
          obtain rfl := sj hF
          exact hK _ _ _ (wdW (sq g27 g14) hW) hS (lv_sub hl [1, 2, 0] rfl)
  · intro H locs ls hW hS hl
    obtain ⟨d38, rfl⟩ : ∃ z, z = q35 := ⟨_, rfl⟩
    obtain ⟨h39, e41, hF⟩ := nmx hF
    have hW := nmW e41 hW
    have g40 : h39.2.2 = h.2.2 := by rw [e41]; exact g14
    have hl : lv_has ls 3 [] := hl
    obtain rfl := sj hF
    exact hfin _ _ _ _ (wdW g40 hW) hS dX8_plan_67
def F_X11_sent (i0 : Nat) (a1 : Int32) (h : HP) : Option (Int32 × DP) :=
  (F_X11_isFrom a1 0 2).bind fun x2 =>
  (if x2 = 0 then
  some ((-2), dp h)
  else
  (gr h 11 i0 12).bind fun o3 =>
  (gr h 11 i0 3).bind fun o6 =>
  (F_X8_plan o3 o6 h).bind fun d13 => nm (wd h d13) fun h10 =>
  (if a1 = 0 then
  (gr h10 11 i0 12).bind fun o21 =>
  some ((gi h10 8 o21 2), dp h10)
  else
  (if a1 = 1 then
  (gr h10 11 i0 12).bind fun o17 =>
  some ((gi h10 8 o17 3), dp h10)
  else
  (gr h10 11 i0 12).bind fun o14 =>
  some ((gi h10 8 o14 4), dp h10))))
set_option maxHeartbeats 4000000 in
set_option maxRecDepth 100000 in
theorem ok_X11_sent {l : Launch} {D : va_G} {cA : Nat → ClassId} {h : HP} {r : Int32} {d : DP} (i0 : Nat) (a1 : Int32) (al_0 : i0 < gn h 11) (hF : F_X11_sent i0 a1 h = some (r, d)) : MI l D cA yX11_sent cX11_sent 2 (some .int) 3 72 (fun φ => [.ref (φ 11 i0), .int a1]) h r (wd h d) := by
  refine mk_I (plainFor_of_name (by decide)) (fun φ => Nat.le_of_ble_eq_true rfl) ?_
  intro p e s m args below meth c ls φ A Q X hW hS hl hfin
  have hx := X.1
  have hb := X.2.1
  have hl : lv_has ls 2 [(0, .ref (φ 11 i0)), (1, .int a1)] := hl
  unfold F_X11_sent at hF
  refine lv_iload_n hx hb dX11_sent_0 rfl (lv_at hl 1 rfl) ?_
  refine lv_iconst (v := 0) hx hb dX11_sent_1 (by decide) ?_
  refine lv_iconst (v := 2) hx hb dX11_sent_2 (by decide) ?_
  obtain ⟨x2, e1, hF⟩ := bn hF
  refine rc_i (Af := fun φ => [.int a1, .int 0, .int 2]) X hW hS ⟨Nat.zero_le _, Nat.zero_le _⟩ (rn_S (As := [.int a1, .int 0, .int 2]) (rest := []) X hW hS cw_11_81 ⟨Nat.le_of_ble_eq_true rfl, Nat.le_of_ble_eq_true rfl⟩ rfl hl.1 rfl (Nat.le_of_ble_eq_true rfl) dX11_sent_3) (ok_X11_isFrom a1 0 2 e1) (fun H locs hW hS => ?_)
  refine lv_if_ne (tgt := 12) hx hb dX11_sent_6 (by decide) (fun c25 => ?_) (fun c25 => ?_)
  · have hF := ie c25 hF
    refine lv_aload_n hx hb dX11_sent_12 rfl (lv_at hl 0 rfl) ?_
    obtain ⟨o3, e4, hF⟩ := bn hF
    refine r_getr X hW al_0 fl_11_63 e4 dX11_sent_13 (fun al5 => ?_)
    refine lv_aload_n hx hb dX11_sent_16 rfl (lv_at hl 0 rfl) ?_
    obtain ⟨o6, e7, hF⟩ := bn hF
    refine r_getr X hW al_0 fl_11_16 e7 dX11_sent_17 (fun al8 => ?_)
    obtain ⟨d13, e9, hF⟩ := bn hF
    refine rc_v (Af := fun φ => [.ref (φ 8 o3), .ref (φ 2 o6)]) X hW hS ⟨Nat.zero_le _, Nat.zero_le _⟩ (rn_V (As := [.ref (φ 2 o6)]) (rest := []) X hW hS cw_11_321 al5 rfl rfl rfl ⟨Nat.le_of_ble_eq_true rfl, Nat.le_of_ble_eq_true rfl⟩ rfl hl.1 rfl (Nat.le_of_ble_eq_true rfl) dX11_sent_20) (ok_X8_plan o3 o6 al5 al8 e9) (fun H locs hW hS => ?_)
    obtain ⟨h10, e12, hF⟩ := nmx hF
    have hW := nmW e12 hW
    have g11 : h10.2.2 = h.2.2 := by rw [e12]; exact rfl
    refine lv_iload_n hx hb dX11_sent_23 rfl (lv_at hl 1 rfl) ?_
    refine lv_if_ne (tgt := 35) hx hb dX11_sent_24 (by decide) (fun c24 => ?_) (fun c24 => ?_)
    · have hF := ie c24 hF
      refine lv_iload_n hx hb dX11_sent_35 rfl (lv_at hl 1 rfl) ?_
      refine lv_iconst (v := 1) hx hb dX11_sent_36 (by decide) ?_
      refine lv_icmp_ne (tgt := 50) hx hb dX11_sent_37 (by decide) (fun c20 => ?_) (fun c20 => ?_)
      · have hF := ie c20 hF
        refine lv_aload_n hx hb dX11_sent_50 rfl (lv_at hl 0 rfl) ?_
        obtain ⟨o14, e15, hF⟩ := bn hF
        refine r_getr X hW (gq g11 al_0) fl_11_63 e15 dX11_sent_51 (fun al16 => ?_)
        have al16 := qg g11 al16
        refine r_geti X hW (gq g11 al16) fl_11_330 dX11_sent_54 ?_
        obtain ⟨rfl, rfl⟩ := sj2 hF
        exact hfin _ _ _ _ (wdW g11 hW) hS dX11_sent_57
      · have hF := it c20 hF
        refine lv_aload_n hx hb dX11_sent_40 rfl (lv_at hl 0 rfl) ?_
        obtain ⟨o17, e18, hF⟩ := bn hF
        refine r_getr X hW (gq g11 al_0) fl_11_63 e18 dX11_sent_41 (fun al19 => ?_)
        have al19 := qg g11 al19
        refine r_geti X hW (gq g11 al19) fl_11_327 dX11_sent_44 ?_
        refine lv_goto (tgt := 57) hx hb dX11_sent_47 (by decide) ?_
        obtain ⟨rfl, rfl⟩ := sj2 hF
        exact hfin _ _ _ _ (wdW g11 hW) hS dX11_sent_57
    · have hF := it c24 hF
      refine lv_aload_n hx hb dX11_sent_27 rfl (lv_at hl 0 rfl) ?_
      obtain ⟨o21, e22, hF⟩ := bn hF
      refine r_getr X hW (gq g11 al_0) fl_11_63 e22 dX11_sent_28 (fun al23 => ?_)
      have al23 := qg g11 al23
      refine r_geti X hW (gq g11 al23) fl_11_324 dX11_sent_31 ?_
      obtain ⟨rfl, rfl⟩ := sj2 hF
      exact hfin _ _ _ _ (wdW g11 hW) hS dX11_sent_34
  · have hF := it c25 hF
    refine lv_bipush (v := (-2)) hx hb dX11_sent_9 (by decide) ?_
    obtain ⟨rfl, rfl⟩ := sj2 hF
    exact hfin _ _ _ _ (wdW rfl hW) hS dX11_sent_11
def F_X11_isProof (a0 : Int32) : Option (Int32) :=
  (F_X11_isFrom a0 0 4).bind fun x2 =>
  (bz x2).bind fun x3 => some x3
set_option maxHeartbeats 4000000 in
set_option maxRecDepth 100000 in
theorem ok_X11_isProof {l : Launch} {D : va_G} {cA : Nat → ClassId} {h : HP} {r : Int32}  (a0 : Int32)  (hF : F_X11_isProof a0 = some r) : MI l D cA yX11_isProof cX11_isProof 1 (some .boolean) 1 22 (fun φ => [.int a0]) h r h := by
  refine mk_Z (plainFor_of_name (by decide)) (fun φ => Nat.le_of_ble_eq_true rfl) ?_
  intro p e s m args below meth c ls φ A Q X hW hS hl hfin
  have hx := X.1
  have hb := X.2.1
  have hl : lv_has ls 1 [(0, .int a0)] := hl
  unfold F_X11_isProof at hF
  refine lv_iload_n hx hb dX11_isProof_0 rfl (lv_at hl 0 rfl) ?_
  refine lv_iconst (v := 0) hx hb dX11_isProof_1 (by decide) ?_
  refine lv_iconst (v := 4) hx hb dX11_isProof_2 (by decide) ?_
  obtain ⟨x2, e1, hF⟩ := bn hF
  refine rc_i (Af := fun φ => [.int a0, .int 0, .int 4]) X hW hS ⟨Nat.zero_le _, Nat.zero_le _⟩ (rn_S (As := [.int a0, .int 0, .int 4]) (rest := []) X hW hS cw_11_81 ⟨Nat.le_of_ble_eq_true rfl, Nat.le_of_ble_eq_true rfl⟩ rfl hl.1 rfl (Nat.le_of_ble_eq_true rfl) dX11_isProof_3) (ok_X11_isFrom a0 0 4 e1) (fun H locs hW hS => ?_)
  obtain ⟨x3, e4, hF⟩ := bn hF
  obtain ⟨b5, e4⟩ := bz_s e4
  refine nmi e4 ?_
  rw [← e4] at b5
  obtain rfl := sj hF
  exact hfin _ _ _ _ hW hS b5 dX11_isProof_6
def F_X3_add (i0 : Nat) (a1 : Int32) (a2 : Int32) (a3 : Int32) (a4 : Int32) (h : HP) : Option (DP) :=
  (if 30 ≤ (gi h 3 i0 5) then
  some (dp h)
  else
  (gr h 3 i0 0).bind fun o1 =>
  (sa h 24 o1 30 (gi h 3 i0 5) a1).bind fun h4 =>
  (gr h4 3 i0 1).bind fun o8 =>
  (sa h4 25 o8 30 (gi h4 3 i0 5) a2).bind fun h11 =>
  (gr h11 3 i0 2).bind fun o15 =>
  (sa h11 26 o15 30 (gi h11 3 i0 5) a3).bind fun h18 =>
  (gr h18 3 i0 3).bind fun o22 =>
  (sa h18 27 o22 30 (gi h18 3 i0 5) a4).bind fun h25 =>
  nm (si h25 3 i0 5 ((gi h25 3 i0 5) + 1)) fun h29 =>
  some (dp h29))
set_option maxHeartbeats 4000000 in
set_option maxRecDepth 100000 in
theorem ok_X3_add {l : Launch} {D : va_G} {cA : Nat → ClassId} {h : HP}  {d : DP} (i0 : Nat) (a1 : Int32) (a2 : Int32) (a3 : Int32) (a4 : Int32) (al_0 : i0 < gn h 3) (hF : F_X3_add i0 a1 a2 a3 a4 h = some d) : MV l D cA yX3_add cX3_add 5 none 0 0 (fun φ => [.ref (φ 3 i0), .int a1, .int a2, .int a3, .int a4]) h (wd h d) := by
  refine mk_V (plainFor_of_name (by decide)) (fun φ => Nat.le_of_ble_eq_true rfl) ?_
  intro p e s m args below meth c ls φ A Q X hW hS hl hfin
  have hx := X.1
  have hb := X.2.1
  have hl : lv_has ls 5 [(0, .ref (φ 3 i0)), (1, .int a1), (2, .int a2), (3, .int a3), (4, .int a4)] := hl
  unfold F_X3_add at hF
  refine lv_aload_n hx hb dX3_add_0 rfl (lv_at hl 0 rfl) ?_
  refine r_geti X hW al_0 fl_3_27 dX3_add_1 ?_
  refine lv_bipush (v := 30) hx hb dX3_add_4 (by decide) ?_
  refine lv_icmp_ge (tgt := 60) hx hb dX3_add_6 (by decide) (fun c32 => ?_) (fun c32 => ?_)
  · have hF := it c32 hF
    obtain rfl := sj hF
    exact hfin _ _ _ _ (wdW rfl hW) hS dX3_add_60
  · have hF := ie c32 hF
    refine lv_aload_n hx hb dX3_add_9 rfl (lv_at hl 0 rfl) ?_
    obtain ⟨o1, e2, hF⟩ := bn hF
    refine r_getr X hW al_0 fl_3_9 e2 dX3_add_10 (fun al3 => ?_)
    refine lv_aload_n hx hb dX3_add_13 rfl (lv_at hl 0 rfl) ?_
    refine r_geti X hW al_0 fl_3_27 dX3_add_14 ?_
    refine lv_iload_n hx hb dX3_add_17 rfl (lv_at hl 1 rfl) ?_
    obtain ⟨h4, e5, hF⟩ := bn hF
    obtain ⟨b6, e5⟩ := sa_s e5
    refine r_iast X hW hS al3 rfl b6 dX3_add_18 (fun H locs hW hS => ?_)
    have hW := nmW e5 hW
    have g7 : h4.2.2 = h.2.2 := by rw [e5]; exact rfl
    refine lv_aload_n hx hb dX3_add_19 rfl (lv_at hl 0 rfl) ?_
    obtain ⟨o8, e9, hF⟩ := bn hF
    refine r_getr X hW (gq g7 al_0) fl_3_15 e9 dX3_add_20 (fun al10 => ?_)
    have al10 := qg g7 al10
    refine lv_aload_n hx hb dX3_add_23 rfl (lv_at hl 0 rfl) ?_
    refine r_geti X hW (gq g7 al_0) fl_3_27 dX3_add_24 ?_
    refine lv_iload_n hx hb dX3_add_27 rfl (lv_at hl 2 rfl) ?_
    obtain ⟨h11, e12, hF⟩ := bn hF
    obtain ⟨b13, e12⟩ := sa_s e12
    refine r_iast X hW hS (gq g7 al10) rfl b13 dX3_add_28 (fun H locs hW hS => ?_)
    have hW := nmW e12 hW
    have g14 : h11.2.2 = h.2.2 := by rw [e12]; exact g7
    refine lv_aload_n hx hb dX3_add_29 rfl (lv_at hl 0 rfl) ?_
    obtain ⟨o15, e16, hF⟩ := bn hF
    refine r_getr X hW (gq g14 al_0) fl_3_18 e16 dX3_add_30 (fun al17 => ?_)
    have al17 := qg g14 al17
    refine lv_aload_n hx hb dX3_add_33 rfl (lv_at hl 0 rfl) ?_
    refine r_geti X hW (gq g14 al_0) fl_3_27 dX3_add_34 ?_
    refine lv_iload_n hx hb dX3_add_37 rfl (lv_at hl 3 rfl) ?_
    obtain ⟨h18, e19, hF⟩ := bn hF
    obtain ⟨b20, e19⟩ := sa_s e19
    refine r_iast X hW hS (gq g14 al17) rfl b20 dX3_add_38 (fun H locs hW hS => ?_)
    have hW := nmW e19 hW
    have g21 : h18.2.2 = h.2.2 := by rw [e19]; exact g14
    refine lv_aload_n hx hb dX3_add_39 rfl (lv_at hl 0 rfl) ?_
    obtain ⟨o22, e23, hF⟩ := bn hF
    refine r_getr X hW (gq g21 al_0) fl_3_21 e23 dX3_add_40 (fun al24 => ?_)
    have al24 := qg g21 al24
    refine lv_aload_n hx hb dX3_add_43 rfl (lv_at hl 0 rfl) ?_
    refine r_geti X hW (gq g21 al_0) fl_3_27 dX3_add_44 ?_
    refine lv_iload hx hb dX3_add_47 (lv_at hl 4 rfl) ?_
    obtain ⟨h25, e26, hF⟩ := bn hF
    obtain ⟨b27, e26⟩ := sa_s e26
    refine r_iast X hW hS (gq g21 al24) rfl b27 dX3_add_49 (fun H locs hW hS => ?_)
    have hW := nmW e26 hW
    have g28 : h25.2.2 = h.2.2 := by rw [e26]; exact g21
    refine lv_aload_n hx hb dX3_add_50 rfl (lv_at hl 0 rfl) ?_
    refine lv_dup hx hb dX3_add_51 rfl ?_
    refine r_geti X hW (gq g28 al_0) fl_3_27 dX3_add_52 ?_
    refine lv_iconst (v := 1) hx hb dX3_add_55 (by decide) ?_
    refine lv_iadd hx hb dX3_add_56 ?_
    refine r_puti X hW hS (gq g28 al_0) fp_3_27 rfl rfl dX3_add_57 (fun H locs hW hS => ?_)
    obtain ⟨h29, e30, hF⟩ := nmx hF
    have hW := nmW e30 hW
    have g31 : h29.2.2 = h.2.2 := by rw [e30]; exact g28
    obtain rfl := sj hF
    exact hfin _ _ _ _ (wdW g31 hW) hS dX3_add_60
def F_X11_claim (i0 : Nat) (a1 : Int32) (a2 : Int32) (a3 : Int32) (a4 : Int32) (h : HP) : Option (Int32 × DP) :=
  (F_X11_isParish i0 a1 h).bind fun x2 =>
  (if x2 = 0 then
  some ((-2), dp h)
  else
  (gr h 11 i0 3).bind fun o3 =>
  (F_X2_has o3 a2 h).bind fun x7 =>
  (if x7 = 0 then
  some ((-2), dp h)
  else
  (F_X11_isProof a3).bind fun x9 =>
  (if x9 = 0 then
  some ((-2), dp h)
  else
  (F_X11_isWeek a4).bind fun x11 =>
  (if x11 = 0 then
  some ((-2), dp h)
  else
  (gr h 11 i0 13).bind fun o12 =>
  (if (gi h 3 o12 5) < 30 then
  (gr h 11 i0 13).bind fun o15 =>
  (F_X3_add o15 a1 a2 a3 a4 h).bind fun d22 => nm (wd h d22) fun h19 =>
  (gr h19 11 i0 13).bind fun o23 =>
  some ((gi h19 3 o23 5), dp h19)
  else
  some ((-4), dp h))))))
set_option maxHeartbeats 4000000 in
set_option maxRecDepth 100000 in
theorem ok_X11_claim {l : Launch} {D : va_G} {cA : Nat → ClassId} {h : HP} {r : Int32} {d : DP} (i0 : Nat) (a1 : Int32) (a2 : Int32) (a3 : Int32) (a4 : Int32) (al_0 : i0 < gn h 11) (hF : F_X11_claim i0 a1 a2 a3 a4 h = some (r, d)) : MI l D cA yX11_claim cX11_claim 5 (some .int) 2 43 (fun φ => [.ref (φ 11 i0), .int a1, .int a2, .int a3, .int a4]) h r (wd h d) := by
  refine mk_I (plainFor_of_name (by decide)) (fun φ => Nat.le_of_ble_eq_true rfl) ?_
  intro p e s m args below meth c ls φ A Q X hW hS hl hfin
  have hx := X.1
  have hb := X.2.1
  have hl : lv_has ls 5 [(0, .ref (φ 11 i0)), (1, .int a1), (2, .int a2), (3, .int a3), (4, .int a4)] := hl
  unfold F_X11_claim at hF
  refine lv_aload_n hx hb dX11_claim_0 rfl (lv_at hl 0 rfl) ?_
  refine lv_iload_n hx hb dX11_claim_1 rfl (lv_at hl 1 rfl) ?_
  obtain ⟨x2, e1, hF⟩ := bn hF
  refine rc_i (Af := fun φ => [.ref (φ 11 i0), .int a1]) X hW hS ⟨Nat.zero_le _, Nat.zero_le _⟩ (rn_V (As := [.int a1]) (rest := []) X hW hS cw_11_96 al_0 rfl rfl rfl ⟨Nat.le_of_ble_eq_true rfl, Nat.le_of_ble_eq_true rfl⟩ rfl hl.1 rfl (Nat.le_of_ble_eq_true rfl) dX11_claim_2) (ok_X11_isParish i0 a1 al_0 e1) (fun H locs hW hS => ?_)
  refine lv_if_eq (tgt := 34) hx hb dX11_claim_5 (by decide) (fun c30 => ?_) (fun c30 => ?_)
  · have hF := it c30 hF
    refine lv_bipush (v := (-2)) hx hb dX11_claim_34 (by decide) ?_
    obtain ⟨rfl, rfl⟩ := sj2 hF
    exact hfin _ _ _ _ (wdW rfl hW) hS dX11_claim_36
  · have hF := ie c30 hF
    refine lv_aload_n hx hb dX11_claim_8 rfl (lv_at hl 0 rfl) ?_
    obtain ⟨o3, e4, hF⟩ := bn hF
    refine r_getr X hW al_0 fl_11_16 e4 dX11_claim_9 (fun al5 => ?_)
    refine lv_iload_n hx hb dX11_claim_12 rfl (lv_at hl 2 rfl) ?_
    obtain ⟨x7, e6, hF⟩ := bn hF
    refine rc_i (Af := fun φ => [.ref (φ 2 o3), .int a2]) X hW hS ⟨Nat.zero_le _, Nat.zero_le _⟩ (rn_V (As := [.int a2]) (rest := []) X hW hS cw_11_137 al5 rfl rfl rfl ⟨Nat.le_of_ble_eq_true rfl, Nat.le_of_ble_eq_true rfl⟩ rfl hl.1 rfl (Nat.le_of_ble_eq_true rfl) dX11_claim_13) (ok_X2_has o3 a2 al5 e6) (fun H locs hW hS => ?_)
    refine lv_if_eq (tgt := 34) hx hb dX11_claim_16 (by decide) (fun c29 => ?_) (fun c29 => ?_)
    · have hF := it c29 hF
      refine lv_bipush (v := (-2)) hx hb dX11_claim_34 (by decide) ?_
      obtain ⟨rfl, rfl⟩ := sj2 hF
      exact hfin _ _ _ _ (wdW rfl hW) hS dX11_claim_36
    · have hF := ie c29 hF
      refine lv_iload_n hx hb dX11_claim_19 rfl (lv_at hl 3 rfl) ?_
      obtain ⟨x9, e8, hF⟩ := bn hF
      refine rc_i (Af := fun φ => [.int a3]) X hW hS ⟨Nat.zero_le _, Nat.zero_le _⟩ (rn_S (As := [.int a3]) (rest := []) X hW hS cw_11_333 ⟨Nat.le_of_ble_eq_true rfl, Nat.le_of_ble_eq_true rfl⟩ rfl hl.1 rfl (Nat.le_of_ble_eq_true rfl) dX11_claim_20) (ok_X11_isProof a3 e8) (fun H locs hW hS => ?_)
      refine lv_if_eq (tgt := 34) hx hb dX11_claim_23 (by decide) (fun c28 => ?_) (fun c28 => ?_)
      · have hF := it c28 hF
        refine lv_bipush (v := (-2)) hx hb dX11_claim_34 (by decide) ?_
        obtain ⟨rfl, rfl⟩ := sj2 hF
        exact hfin _ _ _ _ (wdW rfl hW) hS dX11_claim_36
      · have hF := ie c28 hF
        refine lv_iload hx hb dX11_claim_26 (lv_at hl 4 rfl) ?_
        obtain ⟨x11, e10, hF⟩ := bn hF
        refine rc_i (Af := fun φ => [.int a4]) X hW hS ⟨Nat.zero_le _, Nat.zero_le _⟩ (rn_S (As := [.int a4]) (rest := []) X hW hS cw_11_199 ⟨Nat.le_of_ble_eq_true rfl, Nat.le_of_ble_eq_true rfl⟩ rfl hl.1 rfl (Nat.le_of_ble_eq_true rfl) dX11_claim_28) (ok_X11_isWeek a4 e10) (fun H locs hW hS => ?_)
        refine lv_if_ne (tgt := 37) hx hb dX11_claim_31 (by decide) (fun c27 => ?_) (fun c27 => ?_)
        · have hF := ie c27 hF
          refine lv_aload_n hx hb dX11_claim_37 rfl (lv_at hl 0 rfl) ?_
          obtain ⟨o12, e13, hF⟩ := bn hF
          refine r_getr X hW al_0 fl_11_70 e13 dX11_claim_38 (fun al14 => ?_)
          refine r_geti X hW al14 fl_11_336 dX11_claim_41 ?_
          refine lv_bipush (v := 30) hx hb dX11_claim_44 (by decide) ?_
          refine lv_icmp_lt (tgt := 52) hx hb dX11_claim_46 (by decide) (fun c26 => ?_) (fun c26 => ?_)
          · have hF := it c26 hF
            refine lv_aload_n hx hb dX11_claim_52 rfl (lv_at hl 0 rfl) ?_
            obtain ⟨o15, e16, hF⟩ := bn hF
            refine r_getr X hW al_0 fl_11_70 e16 dX11_claim_53 (fun al17 => ?_)
            refine lv_iload_n hx hb dX11_claim_56 rfl (lv_at hl 1 rfl) ?_
            refine lv_iload_n hx hb dX11_claim_57 rfl (lv_at hl 2 rfl) ?_
            refine lv_iload_n hx hb dX11_claim_58 rfl (lv_at hl 3 rfl) ?_
            refine lv_iload hx hb dX11_claim_59 (lv_at hl 4 rfl) ?_
            obtain ⟨d22, e18, hF⟩ := bn hF
            refine rc_v (Af := fun φ => [.ref (φ 3 o15), .int a1, .int a2, .int a3, .int a4]) X hW hS ⟨Nat.zero_le _, Nat.zero_le _⟩ (rn_V (As := [.int a1, .int a2, .int a3, .int a4]) (rest := []) X hW hS cw_11_337 al17 rfl rfl rfl ⟨Nat.le_of_ble_eq_true rfl, Nat.le_of_ble_eq_true rfl⟩ rfl hl.1 rfl (Nat.le_of_ble_eq_true rfl) dX11_claim_61) (ok_X3_add o15 a1 a2 a3 a4 al17 e18) (fun H locs hW hS => ?_)
            obtain ⟨h19, e21, hF⟩ := nmx hF
            have hW := nmW e21 hW
            have g20 : h19.2.2 = h.2.2 := by rw [e21]; exact rfl
            refine lv_aload_n hx hb dX11_claim_64 rfl (lv_at hl 0 rfl) ?_
            obtain ⟨o23, e24, hF⟩ := bn hF
            refine r_getr X hW (gq g20 al_0) fl_11_70 e24 dX11_claim_65 (fun al25 => ?_)
            have al25 := qg g20 al25
            refine r_geti X hW (gq g20 al25) fl_11_336 dX11_claim_68 ?_
            obtain ⟨rfl, rfl⟩ := sj2 hF
            exact hfin _ _ _ _ (wdW g20 hW) hS dX11_claim_71
          · have hF := ie c26 hF
            refine lv_bipush (v := (-4)) hx hb dX11_claim_49 (by decide) ?_
            obtain ⟨rfl, rfl⟩ := sj2 hF
            exact hfin _ _ _ _ (wdW rfl hW) hS dX11_claim_51
        · have hF := it c27 hF
          refine lv_bipush (v := (-2)) hx hb dX11_claim_34 (by decide) ?_
          obtain ⟨rfl, rfl⟩ := sj2 hF
          exact hfin _ _ _ _ (wdW rfl hW) hS dX11_claim_36
def F_X11_rank (i0 : Nat) (a1 : Int32) (a2 : Int32) (h : HP) : Option (Int32 × DP) :=
  (F_X11_isProof a1).bind fun x2 =>
  (if x2 = 0 then
  some ((-2), dp h)
  else
  (F_X11_isFrom a2 0 9).bind fun x4 =>
  (if x4 = 0 then
  some ((-2), dp h)
  else
  (gr h 11 i0 13).bind fun o5 =>
  (gr h 3 o5 4).bind fun o8 =>
  (ga h 28 o8 5 a1).bind fun x11 =>
  (gr h 11 i0 13).bind fun o14 =>
  (gr h 3 o14 4).bind fun o17 =>
  (sa h 28 o17 5 a1 a2).bind fun h20 =>
  some (x11, dp h20)))
set_option maxHeartbeats 4000000 in
set_option maxRecDepth 100000 in
theorem ok_X11_rank {l : Launch} {D : va_G} {cA : Nat → ClassId} {h : HP} {r : Int32} {d : DP} (i0 : Nat) (a1 : Int32) (a2 : Int32) (al_0 : i0 < gn h 11) (hF : F_X11_rank i0 a1 a2 h = some (r, d)) : MI l D cA yX11_rank cX11_rank 4 (some .int) 2 42 (fun φ => [.ref (φ 11 i0), .int a1, .int a2]) h r (wd h d) := by
  refine mk_I (plainFor_of_name (by decide)) (fun φ => Nat.le_of_ble_eq_true rfl) ?_
  intro p e s m args below meth c ls φ A Q X hW hS hl hfin
  have hx := X.1
  have hb := X.2.1
  have hl : lv_has ls 4 [(0, .ref (φ 11 i0)), (1, .int a1), (2, .int a2)] := hl
  unfold F_X11_rank at hF
  refine lv_iload_n hx hb dX11_rank_0 rfl (lv_at hl 1 rfl) ?_
  obtain ⟨x2, e1, hF⟩ := bn hF
  refine rc_i (Af := fun φ => [.int a1]) X hW hS ⟨Nat.zero_le _, Nat.zero_le _⟩ (rn_S (As := [.int a1]) (rest := []) X hW hS cw_11_333 ⟨Nat.le_of_ble_eq_true rfl, Nat.le_of_ble_eq_true rfl⟩ rfl hl.1 rfl (Nat.le_of_ble_eq_true rfl) dX11_rank_1) (ok_X11_isProof a1 e1) (fun H locs hW hS => ?_)
  refine lv_if_eq (tgt := 17) hx hb dX11_rank_4 (by decide) (fun c25 => ?_) (fun c25 => ?_)
  · have hF := it c25 hF
    refine lv_bipush (v := (-2)) hx hb dX11_rank_17 (by decide) ?_
    obtain ⟨rfl, rfl⟩ := sj2 hF
    exact hfin _ _ _ _ (wdW rfl hW) hS dX11_rank_19
  · have hF := ie c25 hF
    refine lv_iload_n hx hb dX11_rank_7 rfl (lv_at hl 2 rfl) ?_
    refine lv_iconst (v := 0) hx hb dX11_rank_8 (by decide) ?_
    refine lv_bipush (v := 9) hx hb dX11_rank_9 (by decide) ?_
    obtain ⟨x4, e3, hF⟩ := bn hF
    refine rc_i (Af := fun φ => [.int a2, .int 0, .int 9]) X hW hS ⟨Nat.zero_le _, Nat.zero_le _⟩ (rn_S (As := [.int a2, .int 0, .int 9]) (rest := []) X hW hS cw_11_81 ⟨Nat.le_of_ble_eq_true rfl, Nat.le_of_ble_eq_true rfl⟩ rfl hl.1 rfl (Nat.le_of_ble_eq_true rfl) dX11_rank_11) (ok_X11_isFrom a2 0 9 e3) (fun H locs hW hS => ?_)
    refine lv_if_ne (tgt := 20) hx hb dX11_rank_14 (by decide) (fun c24 => ?_) (fun c24 => ?_)
    · have hF := ie c24 hF
      refine lv_aload_n hx hb dX11_rank_20 rfl (lv_at hl 0 rfl) ?_
      obtain ⟨o5, e6, hF⟩ := bn hF
      refine r_getr X hW al_0 fl_11_70 e6 dX11_rank_21 (fun al7 => ?_)
      obtain ⟨o8, e9, hF⟩ := bn hF
      refine r_getr X hW al7 fl_11_339 e9 dX11_rank_24 (fun al10 => ?_)
      refine lv_iload_n hx hb dX11_rank_27 rfl (lv_at hl 1 rfl) ?_
      obtain ⟨x11, e12, hF⟩ := bn hF
      obtain ⟨b13, e12⟩ := ga_s e12
      refine r_iald X hW al10 rfl b13 dX11_rank_28 ?_
      refine nmi e12 ?_
      refine lv_istore_n (lv' := [(3, .int x11), (0, .ref (φ 11 i0)), (1, .int a1), (2, .int a2)]) hx hb dX11_rank_29 rfl hl (by decide) rfl (fun ls hl => ?_)
      refine lv_aload_n hx hb dX11_rank_30 rfl (lv_at hl 1 rfl) ?_
      obtain ⟨o14, e15, hF⟩ := bn hF
      refine r_getr X hW al_0 fl_11_70 e15 dX11_rank_31 (fun al16 => ?_)
      obtain ⟨o17, e18, hF⟩ := bn hF
      refine r_getr X hW al16 fl_11_339 e18 dX11_rank_34 (fun al19 => ?_)
      refine lv_iload_n hx hb dX11_rank_37 rfl (lv_at hl 2 rfl) ?_
      refine lv_iload_n hx hb dX11_rank_38 rfl (lv_at hl 3 rfl) ?_
      obtain ⟨h20, e21, hF⟩ := bn hF
      obtain ⟨b22, e21⟩ := sa_s e21
      refine r_iast X hW hS al19 rfl b22 dX11_rank_39 (fun H locs hW hS => ?_)
      have hW := nmW e21 hW
      have g23 : h20.2.2 = h.2.2 := by rw [e21]; exact rfl
      refine lv_iload_n hx hb dX11_rank_40 rfl (lv_at hl 0 rfl) ?_
      obtain ⟨rfl, rfl⟩ := sj2 hF
      exact hfin _ _ _ _ (wdW g23 hW) hS dX11_rank_41
    · have hF := it c24 hF
      refine lv_bipush (v := (-2)) hx hb dX11_rank_17 (by decide) ?_
      obtain ⟨rfl, rfl⟩ := sj2 hF
      exact hfin _ _ _ _ (wdW rfl hW) hS dX11_rank_19
def F_X3_isTold (i0 : Nat) (a1 : Int32) (a2 : Int32) (a3 : Int32) (h : HP) : Option (Int32) :=
  (gr h 3 i0 1).bind fun o1 =>
  (ga h 25 o1 30 a1).bind fun x4 =>
  (if x4 = a2 then
  (gr h 3 i0 3).bind fun o7 =>
  (ga h 27 o7 30 a1).bind fun x10 =>
  (if a3 < x10 then
  some 0
  else
  some 1)
  else
  some 0)
set_option maxHeartbeats 4000000 in
set_option maxRecDepth 100000 in
theorem ok_X3_isTold {l : Launch} {D : va_G} {cA : Nat → ClassId} {h : HP} {r : Int32}  (i0 : Nat) (a1 : Int32) (a2 : Int32) (a3 : Int32) (al_0 : i0 < gn h 3) (hF : F_X3_isTold i0 a1 a2 a3 h = some r) : MI l D cA yX3_isTold cX3_isTold 4 (some .boolean) 0 0 (fun φ => [.ref (φ 3 i0), .int a1, .int a2, .int a3]) h r h := by
  refine mk_Z (plainFor_of_name (by decide)) (fun φ => Nat.le_of_ble_eq_true rfl) ?_
  intro p e s m args below meth c ls φ A Q X hW hS hl hfin
  have hx := X.1
  have hb := X.2.1
  have hl : lv_has ls 4 [(0, .ref (φ 3 i0)), (1, .int a1), (2, .int a2), (3, .int a3)] := hl
  unfold F_X3_isTold at hF
  refine lv_aload_n hx hb dX3_isTold_0 rfl (lv_at hl 0 rfl) ?_
  obtain ⟨o1, e2, hF⟩ := bn hF
  refine r_getr X hW al_0 fl_3_15 e2 dX3_isTold_1 (fun al3 => ?_)
  refine lv_iload_n hx hb dX3_isTold_4 rfl (lv_at hl 1 rfl) ?_
  obtain ⟨x4, e5, hF⟩ := bn hF
  obtain ⟨b6, e5⟩ := ga_s e5
  refine r_iald X hW al3 rfl b6 dX3_isTold_5 ?_
  refine nmi e5 ?_
  refine lv_iload_n hx hb dX3_isTold_6 rfl (lv_at hl 2 rfl) ?_
  refine lv_icmp_ne (tgt := 24) hx hb dX3_isTold_7 (by decide) (fun c14 => ?_) (fun c14 => ?_)
  · have hF := ie c14 hF
    refine lv_iconst (v := 0) hx hb dX3_isTold_24 (by decide) ?_
    obtain rfl := sj hF
    exact hfin _ _ _ _ hW hS (Or.inl rfl) dX3_isTold_25
  · have hF := it c14 hF
    refine lv_aload_n hx hb dX3_isTold_10 rfl (lv_at hl 0 rfl) ?_
    obtain ⟨o7, e8, hF⟩ := bn hF
    refine r_getr X hW al_0 fl_3_21 e8 dX3_isTold_11 (fun al9 => ?_)
    refine lv_iload_n hx hb dX3_isTold_14 rfl (lv_at hl 1 rfl) ?_
    obtain ⟨x10, e11, hF⟩ := bn hF
    obtain ⟨b12, e11⟩ := ga_s e11
    refine r_iald X hW al9 rfl b12 dX3_isTold_15 ?_
    refine nmi e11 ?_
    refine lv_iload_n hx hb dX3_isTold_16 rfl (lv_at hl 3 rfl) ?_
    refine lv_icmp_gt (tgt := 24) hx hb dX3_isTold_17 (by decide) (fun c13 => ?_) (fun c13 => ?_)
    · have hF := it c13 hF
      refine lv_iconst (v := 0) hx hb dX3_isTold_24 (by decide) ?_
      obtain rfl := sj hF
      exact hfin _ _ _ _ hW hS (Or.inl rfl) dX3_isTold_25
    · have hF := ie c13 hF
      refine lv_iconst (v := 1) hx hb dX3_isTold_20 (by decide) ?_
      refine lv_goto (tgt := 25) hx hb dX3_isTold_21 (by decide) ?_
      obtain rfl := sj hF
      exact hfin _ _ _ _ hW hS (Or.inr rfl) dX3_isTold_25
