def J_X12_read_103 (i0 : Nat) (a1 : Int32) (v2_103 : Int32) (t0_103 : Int32) (hj103 : HP) : Option ((Int32 × Int32 × DP) ⊕ ((Int32 × DP))) :=
  (if t0_103 = 0 then
  nm ((v2_103 + 0)) fun x14 =>
  some (.inl (x14, t0_103, (dp hj103)))
  else
  nm ((v2_103 + 1)) fun x16 =>
  some (.inl (x16, t0_103, (dp hj103))))
def B_X12_read_29 (i0 : Nat) (a1 : Int32) (h : HP) (q : Int32 × Int32 × DP) : Option ((Int32 × Int32 × DP) ⊕ ((Int32 × DP))) :=
  u3 q fun x9 x10 d13 =>
  nm (wd h d13) fun h11 =>
  (if x10 = 0 then
  some (.inr (x9, (dp h11)))
  else
  (gr h11 12 i0 1).bind fun o19 =>
  (ga h11 46 o19 4 a1).bind fun x22 =>
  (if x22 < ((4 * x9) + 4) then
  some (.inr (x9, (dp h11)))
  else
  nm (((60 * a1) + (4 * x9))) fun x25 =>
  (gr h11 12 i0 2).bind fun o27 =>
  (ga h11 47 o27 240 x25).bind fun x30 =>
  (gr h11 12 i0 2).bind fun o33 =>
  (ga h11 47 o33 240 (x25 + 1)).bind fun x36 =>
  (gr h11 12 i0 2).bind fun o39 =>
  (ga h11 47 o39 240 (x25 + 2)).bind fun x42 =>
  (gr h11 12 i0 2).bind fun o45 =>
  (ga h11 47 o45 240 (x25 + 3)).bind fun x48 =>
  (F_X12_bell i0 x30 x36 x42 x48 h11).bind fun q56 => u2 q56 fun x57 d55 => nm (wd h11 d55) fun h52 =>
  (if x57 < 0 then
  J_X12_read_103 i0 a1 x9 0 h52
  else
  J_X12_read_103 i0 a1 x9 1 h52)))
def F_X12_read (i0 : Nat) (a1 : Int32) (h : HP) : Option (Int32 × DP) :=
  (F_X12_isSheet a1).bind fun x2 =>
  (if x2 = 0 then
  some ((-2), dp h)
  else
  (gr h 12 i0 0).bind fun o3 =>
  (ga h 45 o3 4 a1).bind fun x6 =>
  (if 0 ≤ x6 then
  (loopN LF (B_X12_read_29 i0 a1 h) (0, 1, (dp h))).bind fun q61 => u2 q61 fun x64 d65 =>
  nm (wd h d65) fun h66 =>
  some (x64, dp h66)
  else
  (F_X12_met i0 1 h).bind fun q74 => u2 q74 fun x75 d73 => nm (wd h d73) fun h70 =>
  some (x75, dp h70)))
set_option maxHeartbeats 4000000 in
set_option maxRecDepth 100000 in
theorem ok_X12_read {l : Launch} {D : va_G} {cA : Nat → ClassId} {h : HP} {r : Int32} {d : DP} (i0 : Nat) (a1 : Int32) (al_0 : i0 < gn h 12) (hF : F_X12_read i0 a1 h = some (r, d)) : MI l D cA yX12_read cX12_read 5 (some .int) 3 71 (fun φ => [.ref (φ 12 i0), .int a1]) h r (wd h d) := by
  refine mk_I (plainFor_of_name (by decide)) (fun φ => Nat.le_of_ble_eq_true rfl) ?_
  intro p e s m args below meth c ls φ A Q X hW hS hl hfin
  have hx := X.1
  have hb := X.2.1
  have hl : lv_has ls 5 [(0, .ref (φ 12 i0)), (1, .int a1)] := hl
  unfold F_X12_read at hF
  refine lv_iload_n hx hb dX12_read_0 rfl (lv_at hl 1 rfl) ?_
  obtain ⟨x2, e1, hF⟩ := bn hF
  refine rc_i (Af := fun φ => [.int a1]) X hW hS ⟨Nat.zero_le _, Nat.zero_le _⟩ (rn_S (As := [.int a1]) (rest := []) X hW hS cw_12_143 ⟨Nat.le_of_ble_eq_true rfl, Nat.le_of_ble_eq_true rfl⟩ rfl hl.1 rfl (Nat.le_of_ble_eq_true rfl) dX12_read_1) (ok_X12_isSheet a1 e1) (fun H locs hW hS => ?_)
  refine lv_if_ne (tgt := 10) hx hb dX12_read_4 (by decide) (fun c77 => ?_) (fun c77 => ?_)
  · have hF := ie c77 hF
    refine lv_aload_n hx hb dX12_read_10 rfl (lv_at hl 0 rfl) ?_
    obtain ⟨o3, e4, hF⟩ := bn hF
    refine r_getr X hW al_0 fl_12_7 e4 dX12_read_11 (fun al5 => ?_)
    refine lv_iload_n hx hb dX12_read_14 rfl (lv_at hl 1 rfl) ?_
    obtain ⟨x6, e7, hF⟩ := bn hF
    obtain ⟨b8, e7⟩ := ga_s e7
    refine r_iald X hW al5 rfl b8 dX12_read_15 ?_
    refine nmi e7 ?_
    refine lv_if_ge (tgt := 25) hx hb dX12_read_16 (by decide) (fun c76 => ?_) (fun c76 => ?_)
    · have hF := it c76 hF
      refine lv_iconst (v := 0) hx hb dX12_read_25 (by decide) ?_
      refine lv_istore_n (lv' := [(2, .int 0), (0, .ref (φ 12 i0)), (1, .int a1)]) hx hb dX12_read_26 rfl hl (by decide) rfl (fun ls hl => ?_)
      refine lv_iconst (v := 1) hx hb dX12_read_27 (by decide) ?_
      refine lv_istore_n (lv' := [(3, .int 1), (2, .int 0), (0, .ref (φ 12 i0)), (1, .int a1)]) hx hb dX12_read_28 rfl hl (by decide) rfl (fun ls hl => ?_)
      obtain ⟨q61, e62, hF⟩ := bn hF
      refine loop_w (f := B_X12_read_29 i0 a1 h) (Z := fun q => ∀ (H : Heap) (locs : List Loc) (ls : Array Slot), HW D cA A φ (wd h q.2.2) H → va_S A s.heap H locs → lv_has ls 5 [(0, .ref (φ 12 i0)), (1, .int a1), (2, .int (q.1)), (3, .int (q.2.1))] → W p l e (rmo 3 71 0 0) s m args below meth c H locs 0 0 Q (F0 m 29 ls [])) (K := fun q => ∀ (H : Heap) (locs : List Loc) (ls : Array Slot), HW D cA A φ (wd h q.2) H → va_S A s.heap H locs → lv_has ls 5 [(2, .int (q.1))] → W p l e (rmo 3 71 0 0) s m args below meth c H locs 0 0 Q (F0 m 119 ls [])) ?_ LF _ q61 e62 ?_ _ _ _ (wdW rfl hW) hS (lv_sub hl [2, 3, 1, 0] rfl)
      · intro q v hF hK H locs ls hW hS hl
        obtain ⟨x9, x10, d13⟩ := q
        unfold B_X12_read_29 at hF
        have hF := u3d hF
        obtain ⟨h11, e63, hF⟩ := nmx hF
        have hW := nmW e63 hW
        have g12 : h11.2.2 = h.2.2 := by rw [e63]; exact rfl
        have hl : lv_has ls 5 [(0, .ref (φ 12 i0)), (1, .int a1), (2, .int x9), (3, .int x10)] := hl
        have j_103 : ∀ (v2_103 : Int32) (t0_103 : Int32) (hj103 : HP) (H : Heap) (locs : List Loc) (ls : Array Slot), hj103.2.2 = h.2.2 → J_X12_read_103 i0 a1 v2_103 t0_103 hj103 = some v → HW D cA A φ hj103 H → va_S A s.heap H locs → lv_has ls 5 [(0, .ref (φ 12 i0)), (1, .int a1), (2, .int v2_103)] → W p l e (rmo 3 71 0 0) s m args below meth c H locs 0 0 Q (F0 m 103 ls [.int t0_103]) := by
          intro v2_103 t0_103 hj103 H locs ls gj103 hF hW hS hl
          unfold J_X12_read_103 at hF
          refine lv_istore_n (lv' := [(3, .int t0_103), (0, .ref (φ 12 i0)), (1, .int a1), (2, .int v2_103)]) hx hb dX12_read_103 rfl hl (by decide) rfl (fun ls hl => ?_)
          refine lv_iload_n hx hb dX12_read_104 rfl (lv_at hl 3 rfl) ?_
          refine lv_iload_n hx hb dX12_read_105 rfl (lv_at hl 0 rfl) ?_
          refine lv_if_eq (tgt := 113) hx hb dX12_read_106 (by decide) (fun c18 => ?_) (fun c18 => ?_)
          · have hF := it c18 hF
            refine lv_iconst (v := 0) hx hb dX12_read_113 (by decide) ?_
            refine lv_iadd hx hb dX12_read_114 ?_
            obtain ⟨x14, e15, hF⟩ := nmx hF
            refine nmi e15 ?_
            refine lv_istore_n (lv' := [(2, .int x14), (3, .int t0_103), (0, .ref (φ 12 i0)), (1, .int a1)]) hx hb dX12_read_115 rfl hl (by decide) rfl (fun ls hl => ?_)
            refine lv_goto (tgt := 29) hx hb dX12_read_116 (by decide) ?_
            obtain rfl := sj hF
            exact hK _ _ _ (wdW (sq gj103 rfl) hW) hS (lv_sub hl [2, 3, 0, 1] rfl)
          · have hF := ie c18 hF
            refine lv_iconst (v := 1) hx hb dX12_read_109 (by decide) ?_
            refine lv_goto (tgt := 114) hx hb dX12_read_110 (by decide) ?_
            refine lv_iadd hx hb dX12_read_114 ?_
            obtain ⟨x16, e17, hF⟩ := nmx hF
            refine nmi e17 ?_
            refine lv_istore_n (lv' := [(2, .int x16), (3, .int t0_103), (0, .ref (φ 12 i0)), (1, .int a1)]) hx hb dX12_read_115 rfl hl (by decide) rfl (fun ls hl => ?_)
            refine lv_goto (tgt := 29) hx hb dX12_read_116 (by decide) ?_
            obtain rfl := sj hF
            exact hK _ _ _ (wdW (sq gj103 rfl) hW) hS (lv_sub hl [2, 3, 0, 1] rfl)
        refine lv_iload_n hx hb dX12_read_29 rfl (lv_at hl 3 rfl) ?_
        refine lv_if_eq (tgt := 119) hx hb dX12_read_30 (by decide) (fun c60 => ?_) (fun c60 => ?_)
        · have hF := it c60 hF
          obtain rfl := sj hF
          exact hK _ _ _ (wdW (sq g12 rfl) hW) hS (lv_sub hl [2] rfl)
        · have hF := ie c60 hF
          refine lv_iconst (v := 4) hx hb dX12_read_33 (by decide) ?_
          refine lv_iload_n hx hb dX12_read_34 rfl (lv_at hl 2 rfl) ?_
          refine lv_imul hx hb dX12_read_35 ?_
          refine lv_iconst (v := 4) hx hb dX12_read_36 (by decide) ?_
          refine lv_iadd hx hb dX12_read_37 ?_
          refine lv_aload_n hx hb dX12_read_38 rfl (lv_at hl 0 rfl) ?_
          obtain ⟨o19, e20, hF⟩ := bn hF
          refine r_getr X hW (gq g12 al_0) fl_12_13 e20 dX12_read_39 (fun al21 => ?_)
          have al21 := qg g12 al21
          refine lv_iload_n hx hb dX12_read_42 rfl (lv_at hl 1 rfl) ?_
          obtain ⟨x22, e23, hF⟩ := bn hF
          obtain ⟨b24, e23⟩ := ga_s e23
          refine r_iald X hW (gq g12 al21) rfl b24 dX12_read_43 ?_
          refine nmi e23 ?_
          refine lv_icmp_gt (tgt := 119) hx hb dX12_read_44 (by decide) (fun c59 => ?_) (fun c59 => ?_)
          · have hF := it c59 hF
            obtain rfl := sj hF
            exact hK _ _ _ (wdW (sq g12 rfl) hW) hS (lv_sub hl [2] rfl)
          · have hF := ie c59 hF
            refine lv_bipush (v := 60) hx hb dX12_read_47 (by decide) ?_
            refine lv_iload_n hx hb dX12_read_49 rfl (lv_at hl 1 rfl) ?_
            refine lv_imul hx hb dX12_read_50 ?_
            refine lv_iconst (v := 4) hx hb dX12_read_51 (by decide) ?_
            refine lv_iload_n hx hb dX12_read_52 rfl (lv_at hl 2 rfl) ?_
            refine lv_imul hx hb dX12_read_53 ?_
            refine lv_iadd hx hb dX12_read_54 ?_
            obtain ⟨x25, e26, hF⟩ := nmx hF
            refine nmi e26 ?_
            refine lv_istore (lv' := [(4, .int x25), (0, .ref (φ 12 i0)), (1, .int a1), (2, .int x9), (3, .int x10)]) hx hb dX12_read_55 hl (by decide) rfl (fun ls hl => ?_)
            refine lv_aload_n hx hb dX12_read_57 rfl (lv_at hl 1 rfl) ?_
            refine lv_aload_n hx hb dX12_read_58 rfl (lv_at hl 1 rfl) ?_
            obtain ⟨o27, e28, hF⟩ := bn hF
            refine r_getr X hW (gq g12 al_0) fl_12_16 e28 dX12_read_59 (fun al29 => ?_)
            have al29 := qg g12 al29
            refine lv_iload hx hb dX12_read_62 (lv_at hl 0 rfl) ?_
            obtain ⟨x30, e31, hF⟩ := bn hF
            obtain ⟨b32, e31⟩ := ga_s e31
            refine r_iald X hW (gq g12 al29) rfl b32 dX12_read_64 ?_
            refine nmi e31 ?_
            refine lv_aload_n hx hb dX12_read_65 rfl (lv_at hl 1 rfl) ?_
            obtain ⟨o33, e34, hF⟩ := bn hF
            refine r_getr X hW (gq g12 al_0) fl_12_16 e34 dX12_read_66 (fun al35 => ?_)
            have al35 := qg g12 al35
            refine lv_iload hx hb dX12_read_69 (lv_at hl 0 rfl) ?_
            refine lv_iconst (v := 1) hx hb dX12_read_71 (by decide) ?_
            refine lv_iadd hx hb dX12_read_72 ?_
            obtain ⟨x36, e37, hF⟩ := bn hF
            obtain ⟨b38, e37⟩ := ga_s e37
            refine r_iald X hW (gq g12 al35) rfl b38 dX12_read_73 ?_
            refine nmi e37 ?_
            refine lv_aload_n hx hb dX12_read_74 rfl (lv_at hl 1 rfl) ?_
            obtain ⟨o39, e40, hF⟩ := bn hF
            refine r_getr X hW (gq g12 al_0) fl_12_16 e40 dX12_read_75 (fun al41 => ?_)
            have al41 := qg g12 al41
            refine lv_iload hx hb dX12_read_78 (lv_at hl 0 rfl) ?_
            refine lv_iconst (v := 2) hx hb dX12_read_80 (by decide) ?_
            refine lv_iadd hx hb dX12_read_81 ?_
            obtain ⟨x42, e43, hF⟩ := bn hF
            obtain ⟨b44, e43⟩ := ga_s e43
            refine r_iald X hW (gq g12 al41) rfl b44 dX12_read_82 ?_
            refine nmi e43 ?_
            refine lv_aload_n hx hb dX12_read_83 rfl (lv_at hl 1 rfl) ?_
            obtain ⟨o45, e46, hF⟩ := bn hF
            refine r_getr X hW (gq g12 al_0) fl_12_16 e46 dX12_read_84 (fun al47 => ?_)
            have al47 := qg g12 al47
            refine lv_iload hx hb dX12_read_87 (lv_at hl 0 rfl) ?_
            refine lv_iconst (v := 3) hx hb dX12_read_89 (by decide) ?_
            refine lv_iadd hx hb dX12_read_90 ?_
            obtain ⟨x48, e49, hF⟩ := bn hF
            obtain ⟨b50, e49⟩ := ga_s e49
            refine r_iald X hW (gq g12 al47) rfl b50 dX12_read_91 ?_
            refine nmi e49 ?_
            obtain ⟨q56, e51, hF⟩ := bn hF
            obtain ⟨x57, d55⟩ := q56
            have hF := u2d hF
            refine rc_i (Af := fun φ => [.ref (φ 12 i0), .int x30, .int x36, .int x42, .int x48]) X hW hS ⟨Nat.zero_le _, Nat.zero_le _⟩ (rn_V (As := [.int x30, .int x36, .int x42, .int x48]) (rest := []) X hW hS cw_12_186 (gq g12 al_0) rfl rfl rfl ⟨Nat.le_of_ble_eq_true rfl, Nat.le_of_ble_eq_true rfl⟩ rfl hl.1 rfl (Nat.le_of_ble_eq_true rfl) dX12_read_92) (ok_X12_bell i0 x30 x36 x42 x48 (gq g12 al_0) e51) (fun H locs hW hS => ?_)
            obtain ⟨h52, e54, hF⟩ := nmx hF
            have hW := nmW e54 hW
            have g53 : h52.2.2 = h.2.2 := by rw [e54]; exact g12
            refine lv_if_lt (tgt := 102) hx hb dX12_read_95 (by decide) (fun c58 => ?_) (fun c58 => ?_)
            · have hF := it c58 hF
              refine lv_iconst (v := 0) hx hb dX12_read_102 (by decide) ?_
              exact j_103 x9 0 h52 _ _ _ g53 hF hW hS (lv_sub hl [1, 2, 3] rfl)
            · have hF := ie c58 hF
              refine lv_iconst (v := 1) hx hb dX12_read_98 (by decide) ?_
              refine lv_goto (tgt := 103) hx hb dX12_read_99 (by decide) ?_
              exact j_103 x9 1 h52 _ _ _ g53 hF hW hS (lv_sub hl [1, 2, 3] rfl)
      · intro H locs ls hW hS hl
        obtain ⟨x64, d65⟩ := q61
        have hF := u2d hF
        obtain ⟨h66, e68, hF⟩ := nmx hF
        have hW := nmW e68 hW
        have g67 : h66.2.2 = h.2.2 := by rw [e68]; exact rfl
        have hl : lv_has ls 5 [(2, .int x64)] := hl
        refine lv_iload_n hx hb dX12_read_119 rfl (lv_at hl 0 rfl) ?_
        obtain ⟨rfl, rfl⟩ := sj2 hF
        exact hfin _ _ _ _ (wdW g67 hW) hS dX12_read_120
    · have hF := ie c76 hF
      refine lv_aload_n hx hb dX12_read_19 rfl (lv_at hl 0 rfl) ?_
      refine lv_iconst (v := 1) hx hb dX12_read_20 (by decide) ?_
      obtain ⟨q74, e69, hF⟩ := bn hF
      obtain ⟨x75, d73⟩ := q74
      have hF := u2d hF
      refine rc_i (Af := fun φ => [.ref (φ 12 i0), .int 1]) X hW hS ⟨Nat.zero_le _, Nat.zero_le _⟩ (rn_V (As := [.int 1]) (rest := []) X hW hS cw_12_149 al_0 rfl rfl rfl ⟨Nat.le_of_ble_eq_true rfl, Nat.le_of_ble_eq_true rfl⟩ rfl hl.1 rfl (Nat.le_of_ble_eq_true rfl) dX12_read_21) (ok_X12_met i0 1 al_0 e69) (fun H locs hW hS => ?_)
      obtain ⟨h70, e72, hF⟩ := nmx hF
      have hW := nmW e72 hW
      have g71 : h70.2.2 = h.2.2 := by rw [e72]; exact rfl
      obtain ⟨rfl, rfl⟩ := sj2 hF
      exact hfin _ _ _ _ (wdW g71 hW) hS dX12_read_24
  · have hF := it c77 hF
    refine lv_bipush (v := (-2)) hx hb dX12_read_7 (by decide) ?_
    obtain ⟨rfl, rfl⟩ := sj2 hF
    exact hfin _ _ _ _ (wdW rfl hW) hS dX12_read_9
def F_X12_tone (i0 : Nat) (a1 : Int32) (a2 : Int32) (a3 : Int32) (h : HP) : Option (Int32 × DP) :=
  (F_X12_isBell i0 a1 h).bind fun x2 =>
  (if x2 = 0 then
  some ((-1000), dp h)
  else
  (F_X12_in ((a2).toInt64) 0 4).bind fun x4 =>
  (if x4 = 0 then
  some ((-1000), dp h)
  else
  (F_X12_in ((a3).toInt64) (-1) 9999).bind fun x6 =>
  (if x6 = 0 then
  some ((-1000), dp h)
  else
  (gr h 12 i0 13).bind fun o7 =>
  (ga h 54 o7 100 ((5 * a1) + a2)).bind fun x10 =>
  (gr h 12 i0 13).bind fun o13 =>
  (sa h 54 o13 100 ((5 * a1) + a2) a3).bind fun h16 =>
  some (x10, dp h16))))
set_option maxHeartbeats 4000000 in
set_option maxRecDepth 100000 in
theorem ok_X12_tone {l : Launch} {D : va_G} {cA : Nat → ClassId} {h : HP} {r : Int32} {d : DP} (i0 : Nat) (a1 : Int32) (a2 : Int32) (a3 : Int32) (al_0 : i0 < gn h 12) (hF : F_X12_tone i0 a1 a2 a3 h = some (r, d)) : MI l D cA yX12_tone cX12_tone 5 (some .int) 2 46 (fun φ => [.ref (φ 12 i0), .int a1, .int a2, .int a3]) h r (wd h d) := by
  refine mk_I (plainFor_of_name (by decide)) (fun φ => Nat.le_of_ble_eq_true rfl) ?_
  intro p e s m args below meth c ls φ A Q X hW hS hl hfin
  have hx := X.1
  have hb := X.2.1
  have hl : lv_has ls 5 [(0, .ref (φ 12 i0)), (1, .int a1), (2, .int a2), (3, .int a3)] := hl
  unfold F_X12_tone at hF
  refine lv_aload_n hx hb dX12_tone_0 rfl (lv_at hl 0 rfl) ?_
  refine lv_iload_n hx hb dX12_tone_1 rfl (lv_at hl 1 rfl) ?_
  obtain ⟨x2, e1, hF⟩ := bn hF
  refine rc_i (Af := fun φ => [.ref (φ 12 i0), .int a1]) X hW hS ⟨Nat.zero_le _, Nat.zero_le _⟩ (rn_V (As := [.int a1]) (rest := []) X hW hS cw_12_190 al_0 rfl rfl rfl ⟨Nat.le_of_ble_eq_true rfl, Nat.le_of_ble_eq_true rfl⟩ rfl hl.1 rfl (Nat.le_of_ble_eq_true rfl) dX12_tone_2) (ok_X12_isBell i0 a1 al_0 e1) (fun H locs hW hS => ?_)
  refine lv_if_eq (tgt := 34) hx hb dX12_tone_5 (by decide) (fun c22 => ?_) (fun c22 => ?_)
  · have hF := it c22 hF
    refine lv_sipush (v := (-1000)) hx hb dX12_tone_34 (by decide) ?_
    obtain ⟨rfl, rfl⟩ := sj2 hF
    exact hfin _ _ _ _ (wdW rfl hW) hS dX12_tone_37
  · have hF := ie c22 hF
    refine lv_iload_n hx hb dX12_tone_8 rfl (lv_at hl 2 rfl) ?_
    refine lv_i2l (v := (a2).toInt64) hx hb dX12_tone_9 rfl ?_
    refine lv_lconst (v := 0) hx hb dX12_tone_10 (by decide) ?_
    refine lv_ldc2 (v := 4) hx hb X.2.2.2.1 (X.2.2.2.2.1 _ (AL_of 1246 (by decide +kernel) rfl)) dX12_tone_11 ?_
    obtain ⟨x4, e3, hF⟩ := bn hF
    refine rc_i (Af := fun φ => [.long ((a2).toInt64), .long 0, .long 4]) X hW hS ⟨Nat.zero_le _, Nat.zero_le _⟩ (rn_S (As := [.long ((a2).toInt64), .long 0, .long 4]) (rest := []) X hW hS cw_12_139 ⟨Nat.le_of_ble_eq_true rfl, Nat.le_of_ble_eq_true rfl⟩ rfl hl.1 rfl (Nat.le_of_ble_eq_true rfl) dX12_tone_14) (ok_X12_in ((a2).toInt64) 0 4 e3) (fun H locs hW hS => ?_)
    refine lv_if_eq (tgt := 34) hx hb dX12_tone_17 (by decide) (fun c21 => ?_) (fun c21 => ?_)
    · have hF := it c21 hF
      refine lv_sipush (v := (-1000)) hx hb dX12_tone_34 (by decide) ?_
      obtain ⟨rfl, rfl⟩ := sj2 hF
      exact hfin _ _ _ _ (wdW rfl hW) hS dX12_tone_37
    · have hF := ie c21 hF
      refine lv_iload_n hx hb dX12_tone_20 rfl (lv_at hl 3 rfl) ?_
      refine lv_i2l (v := (a3).toInt64) hx hb dX12_tone_21 rfl ?_
      refine lv_ldc2 (v := (-1)) hx hb X.2.2.2.1 (X.2.2.2.2.1 _ (AL_of 1247 (by decide +kernel) rfl)) dX12_tone_22 ?_
      refine lv_ldc2 (v := 9999) hx hb X.2.2.2.1 (X.2.2.2.2.1 _ (AL_of 1229 (by decide +kernel) rfl)) dX12_tone_25 ?_
      obtain ⟨x6, e5, hF⟩ := bn hF
      refine rc_i (Af := fun φ => [.long ((a3).toInt64), .long (-1), .long 9999]) X hW hS ⟨Nat.zero_le _, Nat.zero_le _⟩ (rn_S (As := [.long ((a3).toInt64), .long (-1), .long 9999]) (rest := []) X hW hS cw_12_139 ⟨Nat.le_of_ble_eq_true rfl, Nat.le_of_ble_eq_true rfl⟩ rfl hl.1 rfl (Nat.le_of_ble_eq_true rfl) dX12_tone_28) (ok_X12_in ((a3).toInt64) (-1) 9999 e5) (fun H locs hW hS => ?_)
      refine lv_if_ne (tgt := 38) hx hb dX12_tone_31 (by decide) (fun c20 => ?_) (fun c20 => ?_)
      · have hF := ie c20 hF
        refine lv_aload_n hx hb dX12_tone_38 rfl (lv_at hl 0 rfl) ?_
        obtain ⟨o7, e8, hF⟩ := bn hF
        refine r_getr X hW al_0 fl_12_37 e8 dX12_tone_39 (fun al9 => ?_)
        refine lv_iconst (v := 5) hx hb dX12_tone_42 (by decide) ?_
        refine lv_iload_n hx hb dX12_tone_43 rfl (lv_at hl 1 rfl) ?_
        refine lv_imul hx hb dX12_tone_44 ?_
        refine lv_iload_n hx hb dX12_tone_45 rfl (lv_at hl 2 rfl) ?_
        refine lv_iadd hx hb dX12_tone_46 ?_
        obtain ⟨x10, e11, hF⟩ := bn hF
        obtain ⟨b12, e11⟩ := ga_s e11
        refine r_iald X hW al9 rfl b12 dX12_tone_47 ?_
        refine nmi e11 ?_
        refine lv_istore (lv' := [(4, .int x10), (0, .ref (φ 12 i0)), (1, .int a1), (2, .int a2), (3, .int a3)]) hx hb dX12_tone_48 hl (by decide) rfl (fun ls hl => ?_)
        refine lv_aload_n hx hb dX12_tone_50 rfl (lv_at hl 1 rfl) ?_
        obtain ⟨o13, e14, hF⟩ := bn hF
        refine r_getr X hW al_0 fl_12_37 e14 dX12_tone_51 (fun al15 => ?_)
        refine lv_iconst (v := 5) hx hb dX12_tone_54 (by decide) ?_
        refine lv_iload_n hx hb dX12_tone_55 rfl (lv_at hl 2 rfl) ?_
        refine lv_imul hx hb dX12_tone_56 ?_
        refine lv_iload_n hx hb dX12_tone_57 rfl (lv_at hl 3 rfl) ?_
        refine lv_iadd hx hb dX12_tone_58 ?_
        refine lv_iload_n hx hb dX12_tone_59 rfl (lv_at hl 4 rfl) ?_
        obtain ⟨h16, e17, hF⟩ := bn hF
        obtain ⟨b18, e17⟩ := sa_s e17
        refine r_iast X hW hS al15 rfl b18 dX12_tone_60 (fun H locs hW hS => ?_)
        have hW := nmW e17 hW
        have g19 : h16.2.2 = h.2.2 := by rw [e17]; exact rfl
        refine lv_iload hx hb dX12_tone_61 (lv_at hl 0 rfl) ?_
        obtain ⟨rfl, rfl⟩ := sj2 hF
        exact hfin _ _ _ _ (wdW g19 hW) hS dX12_tone_63
      · have hF := it c20 hF
        refine lv_sipush (v := (-1000)) hx hb dX12_tone_34 (by decide) ?_
        obtain ⟨rfl, rfl⟩ := sj2 hF
        exact hfin _ _ _ _ (wdW rfl hW) hS dX12_tone_37
def B_X12_wasIn_5 (i0 : Nat) (a1 : Int32) (a2 : Int32) (h : HP) (q : Int32 × Int32) : Option ((Int32 × Int32) ⊕ (Int32)) :=
  u2 q fun x1 x2 =>
  (gr h 12 i0 17).bind fun o3 =>
  (ga h 58 o3 20 a1).bind fun x6 =>
  (if x6 ≤ x2 then
  some (.inr x1)
  else
  (gr h 12 i0 19).bind fun o9 =>
  (ga h 60 o9 320 ((16 * a1) + x2)).bind fun x12 =>
  (if a2 < x12 then
  nm (x2 + 1) fun x15 =>
  some (.inl (x1, x15))
  else
  (gr h 12 i0 18).bind fun o17 =>
  (ga h 59 o17 320 ((16 * a1) + x2)).bind fun x20 =>
  nm (x2 + 1) fun x23 =>
  some (.inl (x20, x23))))
def F_X12_wasIn (i0 : Nat) (a1 : Int32) (a2 : Int32) (h : HP) : Option (Int32) :=
  (loopN LF (B_X12_wasIn_5 i0 a1 a2 h) (0, 0)).bind fun x29 =>
  some x29
set_option maxHeartbeats 4000000 in
set_option maxRecDepth 100000 in
theorem ok_X12_wasIn {l : Launch} {D : va_G} {cA : Nat → ClassId} {h : HP} {r : Int32}  (i0 : Nat) (a1 : Int32) (a2 : Int32) (al_0 : i0 < gn h 12) (hF : F_X12_wasIn i0 a1 a2 h = some r) : MI l D cA yX12_wasIn cX12_wasIn 5 (some .int) 0 0 (fun φ => [.ref (φ 12 i0), .int a1, .int a2]) h r h := by
  refine mk_I (plainFor_of_name (by decide)) (fun φ => Nat.le_of_ble_eq_true rfl) ?_
  intro p e s m args below meth c ls φ A Q X hW hS hl hfin
  have hx := X.1
  have hb := X.2.1
  have hl : lv_has ls 5 [(0, .ref (φ 12 i0)), (1, .int a1), (2, .int a2)] := hl
  unfold F_X12_wasIn at hF
  refine lv_iconst (v := 0) hx hb dX12_wasIn_0 (by decide) ?_
  refine lv_istore_n (lv' := [(3, .int 0), (0, .ref (φ 12 i0)), (1, .int a1), (2, .int a2)]) hx hb dX12_wasIn_1 rfl hl (by decide) rfl (fun ls hl => ?_)
  refine lv_iconst (v := 0) hx hb dX12_wasIn_2 (by decide) ?_
  refine lv_istore (lv' := [(4, .int 0), (3, .int 0), (0, .ref (φ 12 i0)), (1, .int a1), (2, .int a2)]) hx hb dX12_wasIn_3 hl (by decide) rfl (fun ls hl => ?_)
  obtain ⟨q27, e28, hF⟩ := bn hF
  refine loop_w (f := B_X12_wasIn_5 i0 a1 a2 h) (Z := fun q => ∀ (H : Heap) (locs : List Loc) (ls : Array Slot), HW D cA A φ h H → va_S A s.heap H locs → lv_has ls 5 [(0, .ref (φ 12 i0)), (1, .int a1), (2, .int a2), (3, .int (q.1)), (4, .int (q.2))] → W p l e (rmo 0 0 0 0) s m args below meth c H locs 0 0 Q (F0 m 5 ls [])) (K := fun q => ∀ (H : Heap) (locs : List Loc) (ls : Array Slot), HW D cA A φ h H → va_S A s.heap H locs → lv_has ls 5 [(3, .int q)] → W p l e (rmo 0 0 0 0) s m args below meth c H locs 0 0 Q (F0 m 55 ls [])) ?_ LF _ q27 e28 ?_ _ _ _ hW hS (lv_sub hl [2, 3, 4, 1, 0] rfl)
  · intro q v hF hK H locs ls hW hS hl
    obtain ⟨x1, x2⟩ := q
    unfold B_X12_wasIn_5 at hF
    have hF := u2d hF
    have hl : lv_has ls 5 [(0, .ref (φ 12 i0)), (1, .int a1), (2, .int a2), (3, .int x1), (4, .int x2)] := hl
    refine lv_iload hx hb dX12_wasIn_5 (lv_at hl 4 rfl) ?_
    refine lv_aload_n hx hb dX12_wasIn_7 rfl (lv_at hl 0 rfl) ?_
    obtain ⟨o3, e4, hF⟩ := bn hF
    refine r_getr X hW al_0 fl_12_49 e4 dX12_wasIn_8 (fun al5 => ?_)
    refine lv_iload_n hx hb dX12_wasIn_11 rfl (lv_at hl 1 rfl) ?_
    obtain ⟨x6, e7, hF⟩ := bn hF
    obtain ⟨b8, e7⟩ := ga_s e7
    refine r_iald X hW al5 rfl b8 dX12_wasIn_12 ?_
    refine nmi e7 ?_
    refine lv_icmp_ge (tgt := 55) hx hb dX12_wasIn_13 (by decide) (fun c26 => ?_) (fun c26 => ?_)
    · have hF := it c26 hF
      obtain rfl := sj hF
      exact hK _ _ _ hW hS (lv_sub hl [3] rfl)
    · have hF := ie c26 hF
      refine lv_aload_n hx hb dX12_wasIn_16 rfl (lv_at hl 0 rfl) ?_
      obtain ⟨o9, e10, hF⟩ := bn hF
      refine r_getr X hW al_0 fl_12_55 e10 dX12_wasIn_17 (fun al11 => ?_)
      refine lv_bipush (v := 16) hx hb dX12_wasIn_20 (by decide) ?_
      refine lv_iload_n hx hb dX12_wasIn_22 rfl (lv_at hl 1 rfl) ?_
      refine lv_imul hx hb dX12_wasIn_23 ?_
      refine lv_iload hx hb dX12_wasIn_24 (lv_at hl 4 rfl) ?_
      refine lv_iadd hx hb dX12_wasIn_26 ?_
      obtain ⟨x12, e13, hF⟩ := bn hF
      obtain ⟨b14, e13⟩ := ga_s e13
      refine r_iald X hW al11 rfl b14 dX12_wasIn_27 ?_
      refine nmi e13 ?_
      refine lv_iload_n hx hb dX12_wasIn_28 rfl (lv_at hl 2 rfl) ?_
      refine lv_icmp_gt (tgt := 47) hx hb dX12_wasIn_29 (by decide) (fun c25 => ?_) (fun c25 => ?_)
      · have hF := it c25 hF
        refine lv_iload_n hx hb dX12_wasIn_47 rfl (lv_at hl 3 rfl) ?_
        refine lv_istore_n (lv' := [(3, .int x1), (0, .ref (φ 12 i0)), (1, .int a1), (2, .int a2), (4, .int x2)]) hx hb dX12_wasIn_48 rfl hl (by decide) rfl (fun ls hl => ?_)
        obtain ⟨x15, e16, hF⟩ := nmx hF
        refine lv_iinc (v := x15) (lv' := [(4, .int x15), (3, .int x1), (0, .ref (φ 12 i0)), (1, .int a1), (2, .int a2)]) hx hb dX12_wasIn_49 hl (k := 4) rfl (by rw [e16]; rfl) (by decide) rfl (fun ls hl => ?_)
        refine lv_goto (tgt := 5) hx hb dX12_wasIn_52 (by decide) ?_
        obtain rfl := sj hF
        exact hK _ _ _ hW hS (lv_sub hl [2, 3, 4, 1, 0] rfl)
      · have hF := ie c25 hF
        refine lv_aload_n hx hb dX12_wasIn_32 rfl (lv_at hl 0 rfl) ?_
        obtain ⟨o17, e18, hF⟩ := bn hF
        refine r_getr X hW al_0 fl_12_52 e18 dX12_wasIn_33 (fun al19 => ?_)
        refine lv_bipush (v := 16) hx hb dX12_wasIn_36 (by decide) ?_
        refine lv_iload_n hx hb dX12_wasIn_38 rfl (lv_at hl 1 rfl) ?_
        refine lv_imul hx hb dX12_wasIn_39 ?_
        refine lv_iload hx hb dX12_wasIn_40 (lv_at hl 4 rfl) ?_
        refine lv_iadd hx hb dX12_wasIn_42 ?_
        obtain ⟨x20, e21, hF⟩ := bn hF
        obtain ⟨b22, e21⟩ := ga_s e21
        refine r_iald X hW al19 rfl b22 dX12_wasIn_43 ?_
        refine nmi e21 ?_
        refine lv_goto (tgt := 48) hx hb dX12_wasIn_44 (by decide) ?_
        refine lv_istore_n (lv' := [(3, .int x20), (0, .ref (φ 12 i0)), (1, .int a1), (2, .int a2), (4, .int x2)]) hx hb dX12_wasIn_48 rfl hl (by decide) rfl (fun ls hl => ?_)
        obtain ⟨x23, e24, hF⟩ := nmx hF
        refine lv_iinc (v := x23) (lv' := [(4, .int x23), (3, .int x20), (0, .ref (φ 12 i0)), (1, .int a1), (2, .int a2)]) hx hb dX12_wasIn_49 hl (k := 4) rfl (by rw [e24]; rfl) (by decide) rfl (fun ls hl => ?_)
        refine lv_goto (tgt := 5) hx hb dX12_wasIn_52 (by decide) ?_
        obtain rfl := sj hF
        exact hK _ _ _ hW hS (lv_sub hl [2, 3, 4, 1, 0] rfl)
  · intro H locs ls hW hS hl
    obtain ⟨x29, rfl⟩ : ∃ z, z = q27 := ⟨_, rfl⟩
    have hl : lv_has ls 5 [(3, .int x29)] := hl
    refine lv_iload_n hx hb dX12_wasIn_55 rfl (lv_at hl 0 rfl) ?_
    obtain rfl := sj hF
    exact hfin _ _ _ _ hW hS dX12_wasIn_56
def F_X12_stateOf (i0 : Nat) (a1 : Int32) (h : HP) : Option (Int32) :=
  (F_X12_wasIn i0 a1 (gi h 12 i0 5) h).bind fun x2 =>
  some x2
set_option maxHeartbeats 4000000 in
set_option maxRecDepth 100000 in
theorem ok_X12_stateOf {l : Launch} {D : va_G} {cA : Nat → ClassId} {h : HP} {r : Int32}  (i0 : Nat) (a1 : Int32) (al_0 : i0 < gn h 12) (hF : F_X12_stateOf i0 a1 h = some r) : MI l D cA yX12_stateOf cX12_stateOf 2 (some .int) 1 24 (fun φ => [.ref (φ 12 i0), .int a1]) h r h := by
  refine mk_I (plainFor_of_name (by decide)) (fun φ => Nat.le_of_ble_eq_true rfl) ?_
  intro p e s m args below meth c ls φ A Q X hW hS hl hfin
  have hx := X.1
  have hb := X.2.1
  have hl : lv_has ls 2 [(0, .ref (φ 12 i0)), (1, .int a1)] := hl
  unfold F_X12_stateOf at hF
  refine lv_aload_n hx hb dX12_stateOf_0 rfl (lv_at hl 0 rfl) ?_
  refine lv_iload_n hx hb dX12_stateOf_1 rfl (lv_at hl 1 rfl) ?_
  refine lv_aload_n hx hb dX12_stateOf_2 rfl (lv_at hl 0 rfl) ?_
  refine r_geti X hW al_0 fl_12_172 dX12_stateOf_3 ?_
  obtain ⟨x2, e1, hF⟩ := bn hF
  refine rc_i (Af := fun φ => [.ref (φ 12 i0), .int a1, .int (gi h 12 i0 5)]) X hW hS ⟨Nat.zero_le _, Nat.zero_le _⟩ (rn_V (As := [.int a1, .int (gi h 12 i0 5)]) (rest := []) X hW hS cw_12_197 al_0 rfl rfl rfl ⟨Nat.le_of_ble_eq_true rfl, Nat.le_of_ble_eq_true rfl⟩ rfl hl.1 rfl (Nat.le_of_ble_eq_true rfl) dX12_stateOf_6) (ok_X12_wasIn i0 a1 (gi h 12 i0 5) al_0 e1) (fun H locs hW hS => ?_)
  obtain rfl := sj hF
  exact hfin _ _ _ _ hW hS dX12_stateOf_9
def F_X12_about (i0 : Nat) (a1 : Int32) (a2 : Int32) (h : HP) : Option (Int32) :=
  (F_X12_isBell i0 a1 h).bind fun x2 =>
  (if x2 = 0 then
  some (-1000)
  else
  (if a2 = 0 then
  (gr h 12 i0 9).bind fun o4 =>
  (ga h 50 o4 20 a1).bind fun x7 =>
  some x7
  else
  (if a2 = 1 then
  (gr h 12 i0 10).bind fun o11 =>
  (ga h 51 o11 20 a1).bind fun x14 =>
  some x14
  else
  (if a2 = 2 then
  (gr h 12 i0 11).bind fun o18 =>
  (ga h 52 o18 20 a1).bind fun x21 =>
  some x21
  else
  (if a2 = 3 then
  (gr h 12 i0 12).bind fun o25 =>
  (ga h 53 o25 20 a1).bind fun x28 =>
  some x28
  else
  (if a2 = 4 then
  (F_X12_stateOf i0 a1 h).bind fun x33 =>
  some x33
  else
  (if a2 = 5 then
  (gr h 12 i0 14).bind fun o35 =>
  (ga h 55 o35 20 a1).bind fun x38 =>
  some x38
  else
  (if a2 = 6 then
  (gr h 12 i0 17).bind fun o42 =>
  (ga h 58 o42 20 a1).bind fun x45 =>
  some x45
  else
  (if a2 = 7 then
  (gr h 12 i0 15).bind fun o49 =>
  (ga h 56 o49 20 a1).bind fun x52 =>
  some x52
  else
  (if a2 = 8 then
  (gr h 12 i0 16).bind fun o56 =>
  (ga h 57 o56 20 a1).bind fun x59 =>
  some x59
  else
  some (-1000)))))))))))
set_option maxHeartbeats 4000000 in
set_option maxRecDepth 100000 in
theorem ok_X12_about {l : Launch} {D : va_G} {cA : Nat → ClassId} {h : HP} {r : Int32}  (i0 : Nat) (a1 : Int32) (a2 : Int32) (al_0 : i0 < gn h 12) (hF : F_X12_about i0 a1 a2 h = some r) : MI l D cA yX12_about cX12_about 3 (some .int) 2 46 (fun φ => [.ref (φ 12 i0), .int a1, .int a2]) h r h := by
  refine mk_I (plainFor_of_name (by decide)) (fun φ => Nat.le_of_ble_eq_true rfl) ?_
  intro p e s m args below meth c ls φ A Q X hW hS hl hfin
  have hx := X.1
  have hb := X.2.1
  have hl : lv_has ls 3 [(0, .ref (φ 12 i0)), (1, .int a1), (2, .int a2)] := hl
  unfold F_X12_about at hF
  refine lv_aload_n hx hb dX12_about_0 rfl (lv_at hl 0 rfl) ?_
  refine lv_iload_n hx hb dX12_about_1 rfl (lv_at hl 1 rfl) ?_
  obtain ⟨x2, e1, hF⟩ := bn hF
  refine rc_i (Af := fun φ => [.ref (φ 12 i0), .int a1]) X hW hS ⟨Nat.zero_le _, Nat.zero_le _⟩ (rn_V (As := [.int a1]) (rest := []) X hW hS cw_12_190 al_0 rfl rfl rfl ⟨Nat.le_of_ble_eq_true rfl, Nat.le_of_ble_eq_true rfl⟩ rfl hl.1 rfl (Nat.le_of_ble_eq_true rfl) dX12_about_2) (ok_X12_isBell i0 a1 al_0 e1) (fun H locs hW hS => ?_)
  refine lv_if_ne (tgt := 12) hx hb dX12_about_5 (by decide) (fun c62 => ?_) (fun c62 => ?_)
  · have hF := ie c62 hF
    refine lv_iload_n hx hb dX12_about_12 rfl (lv_at hl 2 rfl) ?_
    by_cases c3 : a2 = 0
    · have hF := it c3 hF
      refine lv_tableIn (tgt := 64) hx hb dX12_about_13 (by rw [c3]; decide) (by rw [c3]; decide) (off := 51) (by rw [c3]; rfl) (by decide) ?_
      refine lv_aload_n hx hb dX12_about_64 rfl (lv_at hl 0 rfl) ?_
      obtain ⟨o4, e5, hF⟩ := bn hF
      refine r_getr X hW al_0 fl_12_25 e5 dX12_about_65 (fun al6 => ?_)
      refine lv_iload_n hx hb dX12_about_68 rfl (lv_at hl 1 rfl) ?_
      obtain ⟨x7, e8, hF⟩ := bn hF
      obtain ⟨b9, e8⟩ := ga_s e8
      refine r_iald X hW al6 rfl b9 dX12_about_69 ?_
      refine nmi e8 ?_
      obtain rfl := sj hF
      exact hfin _ _ _ _ hW hS dX12_about_70
    have hF := ie c3 hF
    by_cases c10 : a2 = 1
    · have hF := it c10 hF
      refine lv_tableIn (tgt := 71) hx hb dX12_about_13 (by rw [c10]; decide) (by rw [c10]; decide) (off := 58) (by rw [c10]; rfl) (by decide) ?_
      refine lv_aload_n hx hb dX12_about_71 rfl (lv_at hl 0 rfl) ?_
      obtain ⟨o11, e12, hF⟩ := bn hF
      refine r_getr X hW al_0 fl_12_28 e12 dX12_about_72 (fun al13 => ?_)
      refine lv_iload_n hx hb dX12_about_75 rfl (lv_at hl 1 rfl) ?_
      obtain ⟨x14, e15, hF⟩ := bn hF
      obtain ⟨b16, e15⟩ := ga_s e15
      refine r_iald X hW al13 rfl b16 dX12_about_76 ?_
      refine nmi e15 ?_
      obtain rfl := sj hF
      exact hfin _ _ _ _ hW hS dX12_about_77
    have hF := ie c10 hF
    by_cases c17 : a2 = 2
    · have hF := it c17 hF
      refine lv_tableIn (tgt := 78) hx hb dX12_about_13 (by rw [c17]; decide) (by rw [c17]; decide) (off := 65) (by rw [c17]; rfl) (by decide) ?_
      refine lv_aload_n hx hb dX12_about_78 rfl (lv_at hl 0 rfl) ?_
      obtain ⟨o18, e19, hF⟩ := bn hF
      refine r_getr X hW al_0 fl_12_31 e19 dX12_about_79 (fun al20 => ?_)
      refine lv_iload_n hx hb dX12_about_82 rfl (lv_at hl 1 rfl) ?_
      obtain ⟨x21, e22, hF⟩ := bn hF
      obtain ⟨b23, e22⟩ := ga_s e22
      refine r_iald X hW al20 rfl b23 dX12_about_83 ?_
      refine nmi e22 ?_
      obtain rfl := sj hF
      exact hfin _ _ _ _ hW hS dX12_about_84
    have hF := ie c17 hF
    by_cases c24 : a2 = 3
    · have hF := it c24 hF
      refine lv_tableIn (tgt := 85) hx hb dX12_about_13 (by rw [c24]; decide) (by rw [c24]; decide) (off := 72) (by rw [c24]; rfl) (by decide) ?_
      refine lv_aload_n hx hb dX12_about_85 rfl (lv_at hl 0 rfl) ?_
      obtain ⟨o25, e26, hF⟩ := bn hF
      refine r_getr X hW al_0 fl_12_34 e26 dX12_about_86 (fun al27 => ?_)
      refine lv_iload_n hx hb dX12_about_89 rfl (lv_at hl 1 rfl) ?_
      obtain ⟨x28, e29, hF⟩ := bn hF
      obtain ⟨b30, e29⟩ := ga_s e29
      refine r_iald X hW al27 rfl b30 dX12_about_90 ?_
      refine nmi e29 ?_
      obtain rfl := sj hF
      exact hfin _ _ _ _ hW hS dX12_about_91
    have hF := ie c24 hF
    by_cases c31 : a2 = 4
    · have hF := it c31 hF
      refine lv_tableIn (tgt := 92) hx hb dX12_about_13 (by rw [c31]; decide) (by rw [c31]; decide) (off := 79) (by rw [c31]; rfl) (by decide) ?_
      refine lv_aload_n hx hb dX12_about_92 rfl (lv_at hl 0 rfl) ?_
      refine lv_iload_n hx hb dX12_about_93 rfl (lv_at hl 1 rfl) ?_
      obtain ⟨x33, e32, hF⟩ := bn hF
      refine rc_i (Af := fun φ => [.ref (φ 12 i0), .int a1]) X hW hS ⟨Nat.zero_le _, Nat.zero_le _⟩ (rn_V (As := [.int a1]) (rest := []) X hW hS cw_12_200 al_0 rfl rfl rfl ⟨Nat.le_of_ble_eq_true rfl, Nat.le_of_ble_eq_true rfl⟩ rfl hl.1 rfl (Nat.le_of_ble_eq_true rfl) dX12_about_94) (ok_X12_stateOf i0 a1 al_0 e32) (fun H locs hW hS => ?_)
      obtain rfl := sj hF
      exact hfin _ _ _ _ hW hS dX12_about_97
    have hF := ie c31 hF
    by_cases c34 : a2 = 5
    · have hF := it c34 hF
      refine lv_tableIn (tgt := 98) hx hb dX12_about_13 (by rw [c34]; decide) (by rw [c34]; decide) (off := 85) (by rw [c34]; rfl) (by decide) ?_
      refine lv_aload_n hx hb dX12_about_98 rfl (lv_at hl 0 rfl) ?_
      obtain ⟨o35, e36, hF⟩ := bn hF
      refine r_getr X hW al_0 fl_12_40 e36 dX12_about_99 (fun al37 => ?_)
      refine lv_iload_n hx hb dX12_about_102 rfl (lv_at hl 1 rfl) ?_
      obtain ⟨x38, e39, hF⟩ := bn hF
      obtain ⟨b40, e39⟩ := ga_s e39
      refine r_iald X hW al37 rfl b40 dX12_about_103 ?_
      refine nmi e39 ?_
      obtain rfl := sj hF
      exact hfin _ _ _ _ hW hS dX12_about_104
    have hF := ie c34 hF
    by_cases c41 : a2 = 6
    · have hF := it c41 hF
      refine lv_tableIn (tgt := 105) hx hb dX12_about_13 (by rw [c41]; decide) (by rw [c41]; decide) (off := 92) (by rw [c41]; rfl) (by decide) ?_
      refine lv_aload_n hx hb dX12_about_105 rfl (lv_at hl 0 rfl) ?_
      obtain ⟨o42, e43, hF⟩ := bn hF
      refine r_getr X hW al_0 fl_12_49 e43 dX12_about_106 (fun al44 => ?_)
      refine lv_iload_n hx hb dX12_about_109 rfl (lv_at hl 1 rfl) ?_
      obtain ⟨x45, e46, hF⟩ := bn hF
      obtain ⟨b47, e46⟩ := ga_s e46
      refine r_iald X hW al44 rfl b47 dX12_about_110 ?_
      refine nmi e46 ?_
      obtain rfl := sj hF
      exact hfin _ _ _ _ hW hS dX12_about_111
    have hF := ie c41 hF
    by_cases c48 : a2 = 7
    · have hF := it c48 hF
      refine lv_tableIn (tgt := 112) hx hb dX12_about_13 (by rw [c48]; decide) (by rw [c48]; decide) (off := 99) (by rw [c48]; rfl) (by decide) ?_
      refine lv_aload_n hx hb dX12_about_112 rfl (lv_at hl 0 rfl) ?_
      obtain ⟨o49, e50, hF⟩ := bn hF
      refine r_getr X hW al_0 fl_12_43 e50 dX12_about_113 (fun al51 => ?_)
      refine lv_iload_n hx hb dX12_about_116 rfl (lv_at hl 1 rfl) ?_
      obtain ⟨x52, e53, hF⟩ := bn hF
      obtain ⟨b54, e53⟩ := ga_s e53
      refine r_iald X hW al51 rfl b54 dX12_about_117 ?_
      refine nmi e53 ?_
      obtain rfl := sj hF
      exact hfin _ _ _ _ hW hS dX12_about_118
    have hF := ie c48 hF
    by_cases c55 : a2 = 8
    · have hF := it c55 hF
      refine lv_tableIn (tgt := 119) hx hb dX12_about_13 (by rw [c55]; decide) (by rw [c55]; decide) (off := 106) (by rw [c55]; rfl) (by decide) ?_
      refine lv_aload_n hx hb dX12_about_119 rfl (lv_at hl 0 rfl) ?_
      obtain ⟨o56, e57, hF⟩ := bn hF
      refine r_getr X hW al_0 fl_12_46 e57 dX12_about_120 (fun al58 => ?_)
      refine lv_iload_n hx hb dX12_about_123 rfl (lv_at hl 1 rfl) ?_
      obtain ⟨x59, e60, hF⟩ := bn hF
      obtain ⟨b61, e60⟩ := ga_s e60
      refine r_iald X hW al58 rfl b61 dX12_about_124 ?_
      refine nmi e60 ?_
      obtain rfl := sj hF
      exact hfin _ _ _ _ hW hS dX12_about_125
    have hF := ie c55 hF
    refine lv_tableOut (tgt := 126) hx hb dX12_about_13 (by have n0 := lv_neT (a := 0) c3 (by decide); have n1 := lv_neT (a := 1) c10 (by decide); have n2 := lv_neT (a := 2) c17 (by decide); have n3 := lv_neT (a := 3) c24 (by decide); have n4 := lv_neT (a := 4) c31 (by decide); have n5 := lv_neT (a := 5) c34 (by decide); have n6 := lv_neT (a := 6) c41 (by decide); have n7 := lv_neT (a := 7) c48 (by decide); have n8 := lv_neT (a := 8) c55 (by decide); omega) (by decide) ?_
    refine lv_sipush (v := (-1000)) hx hb dX12_about_126 (by decide) ?_
    obtain rfl := sj hF
    exact hfin _ _ _ _ hW hS dX12_about_129
  · have hF := it c62 hF
    refine lv_sipush (v := (-1000)) hx hb dX12_about_8 (by decide) ?_
    obtain rfl := sj hF
    exact hfin _ _ _ _ hW hS dX12_about_11
def F_X12_may (a0 : Int32) (a1 : Int32) : Option (Int32) :=
  (if a1 = 0 then
  (if a0 = 1 then
  some 1
  else
  some 0)
  else
  (if a1 = 1 then
  (if a0 = 0 then
  some 1
  else
  (if a0 = 5 then
  some 1
  else
  some 0))
  else
  (if a1 = 2 then
  (if a0 = 0 then
  some 1
  else
  (if a0 = 1 then
  some 1
  else
  (if a0 = 5 then
  some 1
  else
  some 0)))
  else
  (if a1 = 3 then
  (if a0 = 2 then
  some 1
  else
  some 0)
  else
  (if a0 = 3 then
  some 1
  else
  some 0)))))
set_option maxHeartbeats 4000000 in
set_option maxRecDepth 100000 in
theorem ok_X12_may {l : Launch} {D : va_G} {cA : Nat → ClassId} {h : HP} {r : Int32}  (a0 : Int32) (a1 : Int32)  (hF : F_X12_may a0 a1 = some r) : MI l D cA yX12_may cX12_may 2 (some .boolean) 0 0 (fun φ => [.int a0, .int a1]) h r h := by
  refine mk_Z (plainFor_of_name (by decide)) (fun φ => Nat.le_of_ble_eq_true rfl) ?_
  intro p e s m args below meth c ls φ A Q X hW hS hl hfin
  have hx := X.1
  have hb := X.2.1
  have hl : lv_has ls 2 [(0, .int a0), (1, .int a1)] := hl
  unfold F_X12_may at hF
  refine lv_iload_n hx hb dX12_may_0 rfl (lv_at hl 1 rfl) ?_
  refine lv_if_ne (tgt := 15) hx hb dX12_may_1 (by decide) (fun c12 => ?_) (fun c12 => ?_)
  · have hF := ie c12 hF
    refine lv_iload_n hx hb dX12_may_15 rfl (lv_at hl 1 rfl) ?_
    refine lv_iconst (v := 1) hx hb dX12_may_16 (by decide) ?_
    refine lv_icmp_ne (tgt := 35) hx hb dX12_may_17 (by decide) (fun c10 => ?_) (fun c10 => ?_)
    · have hF := ie c10 hF
      refine lv_iload_n hx hb dX12_may_35 rfl (lv_at hl 1 rfl) ?_
      refine lv_iconst (v := 2) hx hb dX12_may_36 (by decide) ?_
      refine lv_icmp_ne (tgt := 60) hx hb dX12_may_37 (by decide) (fun c7 => ?_) (fun c7 => ?_)
      · have hF := ie c7 hF
        refine lv_iload_n hx hb dX12_may_60 rfl (lv_at hl 1 rfl) ?_
        refine lv_iconst (v := 3) hx hb dX12_may_61 (by decide) ?_
        refine lv_icmp_ne (tgt := 78) hx hb dX12_may_62 (by decide) (fun c3 => ?_) (fun c3 => ?_)
        · have hF := ie c3 hF
          refine lv_iload_n hx hb dX12_may_78 rfl (lv_at hl 0 rfl) ?_
          refine lv_iconst (v := 3) hx hb dX12_may_79 (by decide) ?_
          refine lv_icmp_ne (tgt := 87) hx hb dX12_may_80 (by decide) (fun c1 => ?_) (fun c1 => ?_)
          · have hF := ie c1 hF
            refine lv_iconst (v := 0) hx hb dX12_may_87 (by decide) ?_
            obtain rfl := sj hF
            exact hfin _ _ _ _ hW hS (Or.inl rfl) dX12_may_88
          · have hF := it c1 hF
            refine lv_iconst (v := 1) hx hb dX12_may_83 (by decide) ?_
            refine lv_goto (tgt := 88) hx hb dX12_may_84 (by decide) ?_
            obtain rfl := sj hF
            exact hfin _ _ _ _ hW hS (Or.inr rfl) dX12_may_88
        · have hF := it c3 hF
          refine lv_iload_n hx hb dX12_may_65 rfl (lv_at hl 0 rfl) ?_
          refine lv_iconst (v := 2) hx hb dX12_may_66 (by decide) ?_
          refine lv_icmp_ne (tgt := 74) hx hb dX12_may_67 (by decide) (fun c2 => ?_) (fun c2 => ?_)
          · have hF := ie c2 hF
            refine lv_iconst (v := 0) hx hb dX12_may_74 (by decide) ?_
            refine lv_goto (tgt := 88) hx hb dX12_may_75 (by decide) ?_
            obtain rfl := sj hF
            exact hfin _ _ _ _ hW hS (Or.inl rfl) dX12_may_88
          · have hF := it c2 hF
            refine lv_iconst (v := 1) hx hb dX12_may_70 (by decide) ?_
            refine lv_goto (tgt := 88) hx hb dX12_may_71 (by decide) ?_
            obtain rfl := sj hF
            exact hfin _ _ _ _ hW hS (Or.inr rfl) dX12_may_88
      · have hF := it c7 hF
        refine lv_iload_n hx hb dX12_may_40 rfl (lv_at hl 0 rfl) ?_
        refine lv_if_eq (tgt := 54) hx hb dX12_may_41 (by decide) (fun c6 => ?_) (fun c6 => ?_)
        · have hF := it c6 hF
          refine lv_iconst (v := 1) hx hb dX12_may_54 (by decide) ?_
          refine lv_goto (tgt := 59) hx hb dX12_may_55 (by decide) ?_
          obtain rfl := sj hF
          exact hfin _ _ _ _ hW hS (Or.inr rfl) dX12_may_59
        · have hF := ie c6 hF
          refine lv_iload_n hx hb dX12_may_44 rfl (lv_at hl 0 rfl) ?_
          refine lv_iconst (v := 1) hx hb dX12_may_45 (by decide) ?_
          refine lv_icmp_eq (tgt := 54) hx hb dX12_may_46 (by decide) (fun c5 => ?_) (fun c5 => ?_)
          · have hF := it c5 hF
            refine lv_iconst (v := 1) hx hb dX12_may_54 (by decide) ?_
            refine lv_goto (tgt := 59) hx hb dX12_may_55 (by decide) ?_
            obtain rfl := sj hF
            exact hfin _ _ _ _ hW hS (Or.inr rfl) dX12_may_59
          · have hF := ie c5 hF
            refine lv_iload_n hx hb dX12_may_49 rfl (lv_at hl 0 rfl) ?_
            refine lv_iconst (v := 5) hx hb dX12_may_50 (by decide) ?_
            refine lv_icmp_ne (tgt := 58) hx hb dX12_may_51 (by decide) (fun c4 => ?_) (fun c4 => ?_)
            · have hF := ie c4 hF
              refine lv_iconst (v := 0) hx hb dX12_may_58 (by decide) ?_
              obtain rfl := sj hF
              exact hfin _ _ _ _ hW hS (Or.inl rfl) dX12_may_59
            · have hF := it c4 hF
              refine lv_iconst (v := 1) hx hb dX12_may_54 (by decide) ?_
              refine lv_goto (tgt := 59) hx hb dX12_may_55 (by decide) ?_
              obtain rfl := sj hF
              exact hfin _ _ _ _ hW hS (Or.inr rfl) dX12_may_59
    · have hF := it c10 hF
      refine lv_iload_n hx hb dX12_may_20 rfl (lv_at hl 0 rfl) ?_
      refine lv_if_eq (tgt := 29) hx hb dX12_may_21 (by decide) (fun c9 => ?_) (fun c9 => ?_)
      · have hF := it c9 hF
        refine lv_iconst (v := 1) hx hb dX12_may_29 (by decide) ?_
        refine lv_goto (tgt := 34) hx hb dX12_may_30 (by decide) ?_
        obtain rfl := sj hF
        exact hfin _ _ _ _ hW hS (Or.inr rfl) dX12_may_34
      · have hF := ie c9 hF
        refine lv_iload_n hx hb dX12_may_24 rfl (lv_at hl 0 rfl) ?_
        refine lv_iconst (v := 5) hx hb dX12_may_25 (by decide) ?_
        refine lv_icmp_ne (tgt := 33) hx hb dX12_may_26 (by decide) (fun c8 => ?_) (fun c8 => ?_)
        · have hF := ie c8 hF
          refine lv_iconst (v := 0) hx hb dX12_may_33 (by decide) ?_
          obtain rfl := sj hF
          exact hfin _ _ _ _ hW hS (Or.inl rfl) dX12_may_34
        · have hF := it c8 hF
          refine lv_iconst (v := 1) hx hb dX12_may_29 (by decide) ?_
          refine lv_goto (tgt := 34) hx hb dX12_may_30 (by decide) ?_
          obtain rfl := sj hF
          exact hfin _ _ _ _ hW hS (Or.inr rfl) dX12_may_34
  · have hF := it c12 hF
    refine lv_iload_n hx hb dX12_may_4 rfl (lv_at hl 0 rfl) ?_
    refine lv_iconst (v := 1) hx hb dX12_may_5 (by decide) ?_
    refine lv_icmp_ne (tgt := 13) hx hb dX12_may_6 (by decide) (fun c11 => ?_) (fun c11 => ?_)
    · have hF := ie c11 hF
      refine lv_iconst (v := 0) hx hb dX12_may_13 (by decide) ?_
      obtain rfl := sj hF
      exact hfin _ _ _ _ hW hS (Or.inl rfl) dX12_may_14
    · have hF := it c11 hF
      refine lv_iconst (v := 1) hx hb dX12_may_9 (by decide) ?_
      refine lv_goto (tgt := 14) hx hb dX12_may_10 (by decide) ?_
      obtain rfl := sj hF
      exact hfin _ _ _ _ hW hS (Or.inr rfl) dX12_may_14
def F_X12_become (i0 : Nat) (a1 : Int32) (a2 : Int32) (h : HP) : Option (Int32 × DP) :=
  (F_X12_isBell i0 a1 h).bind fun x2 =>
  (if x2 = 0 then
  some ((-2), dp h)
  else
  (F_X12_in ((a2).toInt64) 0 5).bind fun x4 =>
  (if x4 = 0 then
  some ((-2), dp h)
  else
  (F_X12_stateOf i0 a1 h).bind fun x6 =>
  (F_X12_may x6 a2).bind fun x8 =>
  (if x8 = 0 then
  some ((-3), dp h)
  else
  (gr h 12 i0 17).bind fun o9 =>
  (ga h 58 o9 20 a1).bind fun x12 =>
  (if x12 = 16 then
  some ((-4), dp h)
  else
  (gr h 12 i0 18).bind fun o15 =>
  (gr h 12 i0 17).bind fun o18 =>
  (ga h 58 o18 20 a1).bind fun x21 =>
  (sa h 59 o15 320 ((16 * a1) + x21) a2).bind fun h24 =>
  (gr h24 12 i0 19).bind fun o28 =>
  (gr h24 12 i0 17).bind fun o31 =>
  (ga h24 58 o31 20 a1).bind fun x34 =>
  (sa h24 60 o28 320 ((16 * a1) + x34) (gi h24 12 i0 5)).bind fun h37 =>
  (gr h37 12 i0 17).bind fun o41 =>
  (ga h37 58 o41 20 a1).bind fun x44 =>
  (sa h37 58 o41 20 a1 (x44 + 1)).bind fun h47 =>
  some (x6, dp h47)))))
set_option maxHeartbeats 4000000 in
set_option maxRecDepth 100000 in
theorem ok_X12_become {l : Launch} {D : va_G} {cA : Nat → ClassId} {h : HP} {r : Int32} {d : DP} (i0 : Nat) (a1 : Int32) (a2 : Int32) (al_0 : i0 < gn h 12) (hF : F_X12_become i0 a1 a2 h = some (r, d)) : MI l D cA yX12_become cX12_become 4 (some .int) 2 46 (fun φ => [.ref (φ 12 i0), .int a1, .int a2]) h r (wd h d) := by
  refine mk_I (plainFor_of_name (by decide)) (fun φ => Nat.le_of_ble_eq_true rfl) ?_
  intro p e s m args below meth c ls φ A Q X hW hS hl hfin
  have hx := X.1
  have hb := X.2.1
  have hl : lv_has ls 4 [(0, .ref (φ 12 i0)), (1, .int a1), (2, .int a2)] := hl
  unfold F_X12_become at hF
  refine lv_aload_n hx hb dX12_become_0 rfl (lv_at hl 0 rfl) ?_
  refine lv_iload_n hx hb dX12_become_1 rfl (lv_at hl 1 rfl) ?_
  obtain ⟨x2, e1, hF⟩ := bn hF
  refine rc_i (Af := fun φ => [.ref (φ 12 i0), .int a1]) X hW hS ⟨Nat.zero_le _, Nat.zero_le _⟩ (rn_V (As := [.int a1]) (rest := []) X hW hS cw_12_190 al_0 rfl rfl rfl ⟨Nat.le_of_ble_eq_true rfl, Nat.le_of_ble_eq_true rfl⟩ rfl hl.1 rfl (Nat.le_of_ble_eq_true rfl) dX12_become_2) (ok_X12_isBell i0 a1 al_0 e1) (fun H locs hW hS => ?_)
  refine lv_if_eq (tgt := 20) hx hb dX12_become_5 (by decide) (fun c54 => ?_) (fun c54 => ?_)
  · have hF := it c54 hF
    refine lv_bipush (v := (-2)) hx hb dX12_become_20 (by decide) ?_
    obtain ⟨rfl, rfl⟩ := sj2 hF
    exact hfin _ _ _ _ (wdW rfl hW) hS dX12_become_22
  · have hF := ie c54 hF
    refine lv_iload_n hx hb dX12_become_8 rfl (lv_at hl 2 rfl) ?_
    refine lv_i2l (v := (a2).toInt64) hx hb dX12_become_9 rfl ?_
    refine lv_lconst (v := 0) hx hb dX12_become_10 (by decide) ?_
    refine lv_ldc2 (v := 5) hx hb X.2.2.2.1 (X.2.2.2.2.1 _ (AL_of 1264 (by decide +kernel) rfl)) dX12_become_11 ?_
    obtain ⟨x4, e3, hF⟩ := bn hF
    refine rc_i (Af := fun φ => [.long ((a2).toInt64), .long 0, .long 5]) X hW hS ⟨Nat.zero_le _, Nat.zero_le _⟩ (rn_S (As := [.long ((a2).toInt64), .long 0, .long 5]) (rest := []) X hW hS cw_12_139 ⟨Nat.le_of_ble_eq_true rfl, Nat.le_of_ble_eq_true rfl⟩ rfl hl.1 rfl (Nat.le_of_ble_eq_true rfl) dX12_become_14) (ok_X12_in ((a2).toInt64) 0 5 e3) (fun H locs hW hS => ?_)
    refine lv_if_ne (tgt := 23) hx hb dX12_become_17 (by decide) (fun c53 => ?_) (fun c53 => ?_)
    · have hF := ie c53 hF
      refine lv_aload_n hx hb dX12_become_23 rfl (lv_at hl 0 rfl) ?_
      refine lv_iload_n hx hb dX12_become_24 rfl (lv_at hl 1 rfl) ?_
      obtain ⟨x6, e5, hF⟩ := bn hF
      refine rc_i (Af := fun φ => [.ref (φ 12 i0), .int a1]) X hW hS ⟨Nat.zero_le _, Nat.zero_le _⟩ (rn_V (As := [.int a1]) (rest := []) X hW hS cw_12_200 al_0 rfl rfl rfl ⟨Nat.le_of_ble_eq_true rfl, Nat.le_of_ble_eq_true rfl⟩ rfl hl.1 rfl (Nat.le_of_ble_eq_true rfl) dX12_become_25) (ok_X12_stateOf i0 a1 al_0 e5) (fun H locs hW hS => ?_)
      refine lv_istore_n (lv' := [(3, .int x6), (0, .ref (φ 12 i0)), (1, .int a1), (2, .int a2)]) hx hb dX12_become_28 rfl hl (by decide) rfl (fun ls hl => ?_)
      refine lv_iload_n hx hb dX12_become_29 rfl (lv_at hl 0 rfl) ?_
      refine lv_iload_n hx hb dX12_become_30 rfl (lv_at hl 3 rfl) ?_
      obtain ⟨x8, e7, hF⟩ := bn hF
      refine rc_i (Af := fun φ => [.int x6, .int a2]) X hW hS ⟨Nat.zero_le _, Nat.zero_le _⟩ (rn_S (As := [.int x6, .int a2]) (rest := []) X hW hS cw_12_205 ⟨Nat.le_of_ble_eq_true rfl, Nat.le_of_ble_eq_true rfl⟩ rfl hl.1 rfl (Nat.le_of_ble_eq_true rfl) dX12_become_31) (ok_X12_may x6 a2 e7) (fun H locs hW hS => ?_)
      refine lv_if_ne (tgt := 40) hx hb dX12_become_34 (by decide) (fun c52 => ?_) (fun c52 => ?_)
      · have hF := ie c52 hF
        refine lv_aload_n hx hb dX12_become_40 rfl (lv_at hl 1 rfl) ?_
        obtain ⟨o9, e10, hF⟩ := bn hF
        refine r_getr X hW al_0 fl_12_49 e10 dX12_become_41 (fun al11 => ?_)
        refine lv_iload_n hx hb dX12_become_44 rfl (lv_at hl 2 rfl) ?_
        obtain ⟨x12, e13, hF⟩ := bn hF
        obtain ⟨b14, e13⟩ := ga_s e13
        refine r_iald X hW al11 rfl b14 dX12_become_45 ?_
        refine nmi e13 ?_
        refine lv_bipush (v := 16) hx hb dX12_become_46 (by decide) ?_
        refine lv_icmp_ne (tgt := 54) hx hb dX12_become_48 (by decide) (fun c51 => ?_) (fun c51 => ?_)
        · have hF := ie c51 hF
          refine lv_aload_n hx hb dX12_become_54 rfl (lv_at hl 1 rfl) ?_
          obtain ⟨o15, e16, hF⟩ := bn hF
          refine r_getr X hW al_0 fl_12_52 e16 dX12_become_55 (fun al17 => ?_)
          refine lv_bipush (v := 16) hx hb dX12_become_58 (by decide) ?_
          refine lv_iload_n hx hb dX12_become_60 rfl (lv_at hl 2 rfl) ?_
          refine lv_imul hx hb dX12_become_61 ?_
          refine lv_aload_n hx hb dX12_become_62 rfl (lv_at hl 1 rfl) ?_
          obtain ⟨o18, e19, hF⟩ := bn hF
          refine r_getr X hW al_0 fl_12_49 e19 dX12_become_63 (fun al20 => ?_)
          refine lv_iload_n hx hb dX12_become_66 rfl (lv_at hl 2 rfl) ?_
          obtain ⟨x21, e22, hF⟩ := bn hF
          obtain ⟨b23, e22⟩ := ga_s e22
          refine r_iald X hW al20 rfl b23 dX12_become_67 ?_
          refine nmi e22 ?_
          refine lv_iadd hx hb dX12_become_68 ?_
          refine lv_iload_n hx hb dX12_become_69 rfl (lv_at hl 3 rfl) ?_
          obtain ⟨h24, e25, hF⟩ := bn hF
          obtain ⟨b26, e25⟩ := sa_s e25
          refine r_iast X hW hS al17 rfl b26 dX12_become_70 (fun H locs hW hS => ?_)
          have hW := nmW e25 hW
          have g27 : h24.2.2 = h.2.2 := by rw [e25]; exact rfl
          refine lv_aload_n hx hb dX12_become_71 rfl (lv_at hl 1 rfl) ?_
          obtain ⟨o28, e29, hF⟩ := bn hF
          refine r_getr X hW (gq g27 al_0) fl_12_55 e29 dX12_become_72 (fun al30 => ?_)
          have al30 := qg g27 al30
          refine lv_bipush (v := 16) hx hb dX12_become_75 (by decide) ?_
          refine lv_iload_n hx hb dX12_become_77 rfl (lv_at hl 2 rfl) ?_
          refine lv_imul hx hb dX12_become_78 ?_
          refine lv_aload_n hx hb dX12_become_79 rfl (lv_at hl 1 rfl) ?_
          obtain ⟨o31, e32, hF⟩ := bn hF
          refine r_getr X hW (gq g27 al_0) fl_12_49 e32 dX12_become_80 (fun al33 => ?_)
          have al33 := qg g27 al33
          refine lv_iload_n hx hb dX12_become_83 rfl (lv_at hl 2 rfl) ?_
          obtain ⟨x34, e35, hF⟩ := bn hF
          obtain ⟨b36, e35⟩ := ga_s e35
          refine r_iald X hW (gq g27 al33) rfl b36 dX12_become_84 ?_
          refine nmi e35 ?_
          refine lv_iadd hx hb dX12_become_85 ?_
          refine lv_aload_n hx hb dX12_become_86 rfl (lv_at hl 1 rfl) ?_
          refine r_geti X hW (gq g27 al_0) fl_12_172 dX12_become_87 ?_
          obtain ⟨h37, e38, hF⟩ := bn hF
          obtain ⟨b39, e38⟩ := sa_s e38
          refine r_iast X hW hS (gq g27 al30) rfl b39 dX12_become_90 (fun H locs hW hS => ?_)
          have hW := nmW e38 hW
          have g40 : h37.2.2 = h.2.2 := by rw [e38]; exact g27
          refine lv_aload_n hx hb dX12_become_91 rfl (lv_at hl 1 rfl) ?_
          obtain ⟨o41, e42, hF⟩ := bn hF
          refine r_getr X hW (gq g40 al_0) fl_12_49 e42 dX12_become_92 (fun al43 => ?_)
          have al43 := qg g40 al43
          refine lv_iload_n hx hb dX12_become_95 rfl (lv_at hl 2 rfl) ?_
          refine lv_dup2_11 hx hb dX12_become_96 rfl rfl ?_
          obtain ⟨x44, e45, hF⟩ := bn hF
          obtain ⟨b46, e45⟩ := ga_s e45
          refine r_iald X hW (gq g40 al43) rfl b46 dX12_become_97 ?_
          refine nmi e45 ?_
          refine lv_iconst (v := 1) hx hb dX12_become_98 (by decide) ?_
          refine lv_iadd hx hb dX12_become_99 ?_
          obtain ⟨h47, e48, hF⟩ := bn hF
          obtain ⟨b49, e48⟩ := sa_s e48
          refine r_iast X hW hS (gq g40 al43) rfl b49 dX12_become_100 (fun H locs hW hS => ?_)
          have hW := nmW e48 hW
          have g50 : h47.2.2 = h.2.2 := by rw [e48]; exact g40
          refine lv_iload_n hx hb dX12_become_101 rfl (lv_at hl 0 rfl) ?_
          obtain ⟨rfl, rfl⟩ := sj2 hF
          exact hfin _ _ _ _ (wdW g50 hW) hS dX12_become_102
        · have hF := it c51 hF
          refine lv_bipush (v := (-4)) hx hb dX12_become_51 (by decide) ?_
          obtain ⟨rfl, rfl⟩ := sj2 hF
          exact hfin _ _ _ _ (wdW rfl hW) hS dX12_become_53
      · have hF := it c52 hF
        refine lv_bipush (v := (-3)) hx hb dX12_become_37 (by decide) ?_
        obtain ⟨rfl, rfl⟩ := sj2 hF
        exact hfin _ _ _ _ (wdW rfl hW) hS dX12_become_39
    · have hF := it c53 hF
      refine lv_bipush (v := (-2)) hx hb dX12_become_20 (by decide) ?_
      obtain ⟨rfl, rfl⟩ := sj2 hF
      exact hfin _ _ _ _ (wdW rfl hW) hS dX12_become_22
def F_X12_was (i0 : Nat) (a1 : Int32) (a2 : Int32) (h : HP) : Option (Int32) :=
  (F_X12_isBell i0 a1 h).bind fun x2 =>
  (if x2 = 0 then
  some (-2)
  else
  (F_X12_in ((a2).toInt64) 0 (((gi h 12 i0 5)).toInt64)).bind fun x4 =>
  (if x4 = 0 then
  some (-2)
  else
  (F_X12_wasIn i0 a1 a2 h).bind fun x6 =>
  some x6))
set_option maxHeartbeats 4000000 in
set_option maxRecDepth 100000 in
theorem ok_X12_was {l : Launch} {D : va_G} {cA : Nat → ClassId} {h : HP} {r : Int32}  (i0 : Nat) (a1 : Int32) (a2 : Int32) (al_0 : i0 < gn h 12) (hF : F_X12_was i0 a1 a2 h = some r) : MI l D cA yX12_was cX12_was 3 (some .int) 2 46 (fun φ => [.ref (φ 12 i0), .int a1, .int a2]) h r h := by
  refine mk_I (plainFor_of_name (by decide)) (fun φ => Nat.le_of_ble_eq_true rfl) ?_
  intro p e s m args below meth c ls φ A Q X hW hS hl hfin
  have hx := X.1
  have hb := X.2.1
  have hl : lv_has ls 3 [(0, .ref (φ 12 i0)), (1, .int a1), (2, .int a2)] := hl
  unfold F_X12_was at hF
  refine lv_aload_n hx hb dX12_was_0 rfl (lv_at hl 0 rfl) ?_
  refine lv_iload_n hx hb dX12_was_1 rfl (lv_at hl 1 rfl) ?_
  obtain ⟨x2, e1, hF⟩ := bn hF
  refine rc_i (Af := fun φ => [.ref (φ 12 i0), .int a1]) X hW hS ⟨Nat.zero_le _, Nat.zero_le _⟩ (rn_V (As := [.int a1]) (rest := []) X hW hS cw_12_190 al_0 rfl rfl rfl ⟨Nat.le_of_ble_eq_true rfl, Nat.le_of_ble_eq_true rfl⟩ rfl hl.1 rfl (Nat.le_of_ble_eq_true rfl) dX12_was_2) (ok_X12_isBell i0 a1 al_0 e1) (fun H locs hW hS => ?_)
  refine lv_if_eq (tgt := 31) hx hb dX12_was_5 (by decide) (fun c8 => ?_) (fun c8 => ?_)
  · have hF := it c8 hF
    refine lv_bipush (v := (-2)) hx hb dX12_was_31 (by decide) ?_
    obtain rfl := sj hF
    exact hfin _ _ _ _ hW hS dX12_was_33
  · have hF := ie c8 hF
    refine lv_iload_n hx hb dX12_was_8 rfl (lv_at hl 2 rfl) ?_
    refine lv_i2l (v := (a2).toInt64) hx hb dX12_was_9 rfl ?_
    refine lv_lconst (v := 0) hx hb dX12_was_10 (by decide) ?_
    refine lv_aload_n hx hb dX12_was_11 rfl (lv_at hl 0 rfl) ?_
    refine r_geti X hW al_0 fl_12_172 dX12_was_12 ?_
    refine lv_i2l (v := ((gi h 12 i0 5)).toInt64) hx hb dX12_was_15 rfl ?_
    obtain ⟨x4, e3, hF⟩ := bn hF
    refine rc_i (Af := fun φ => [.long ((a2).toInt64), .long 0, .long (((gi h 12 i0 5)).toInt64)]) X hW hS ⟨Nat.zero_le _, Nat.zero_le _⟩ (rn_S (As := [.long ((a2).toInt64), .long 0, .long (((gi h 12 i0 5)).toInt64)]) (rest := []) X hW hS cw_12_139 ⟨Nat.le_of_ble_eq_true rfl, Nat.le_of_ble_eq_true rfl⟩ rfl hl.1 rfl (Nat.le_of_ble_eq_true rfl) dX12_was_16) (ok_X12_in ((a2).toInt64) 0 (((gi h 12 i0 5)).toInt64) e3) (fun H locs hW hS => ?_)
    refine lv_if_eq (tgt := 31) hx hb dX12_was_19 (by decide) (fun c7 => ?_) (fun c7 => ?_)
    · have hF := it c7 hF
      refine lv_bipush (v := (-2)) hx hb dX12_was_31 (by decide) ?_
      obtain rfl := sj hF
      exact hfin _ _ _ _ hW hS dX12_was_33
    · have hF := ie c7 hF
      refine lv_aload_n hx hb dX12_was_22 rfl (lv_at hl 0 rfl) ?_
      refine lv_iload_n hx hb dX12_was_23 rfl (lv_at hl 1 rfl) ?_
      refine lv_iload_n hx hb dX12_was_24 rfl (lv_at hl 2 rfl) ?_
      obtain ⟨x6, e5, hF⟩ := bn hF
      refine rc_i (Af := fun φ => [.ref (φ 12 i0), .int a1, .int a2]) X hW hS ⟨Nat.zero_le _, Nat.zero_le _⟩ (rn_V (As := [.int a1, .int a2]) (rest := []) X hW hS cw_12_197 al_0 rfl rfl rfl ⟨Nat.le_of_ble_eq_true rfl, Nat.le_of_ble_eq_true rfl⟩ rfl hl.1 rfl (Nat.le_of_ble_eq_true rfl) dX12_was_25) (ok_X12_wasIn i0 a1 a2 al_0 e5) (fun H locs hW hS => ?_)
      refine lv_goto (tgt := 33) hx hb dX12_was_28 (by decide) ?_
      obtain rfl := sj hF
      exact hfin _ _ _ _ hW hS dX12_was_33
def F_X12_type (i0 : Nat) (a1 : Int32) (h : HP) : Option (Int32 × DP) :=
  (F_X12_in ((a1).toInt64) 0 255).bind fun x2 =>
  (if x2 = 0 then
  some ((-2), dp h)
  else
  (if (gi h 12 i0 21) = 100 then
  some ((-4), dp h)
  else
  (gr h 12 i0 20).bind fun o3 =>
  (sa h 61 o3 100 (gi h 12 i0 21) a1).bind fun h6 =>
  nm (si h6 12 i0 21 ((gi h6 12 i0 21) + 1)) fun h10 =>
  some ((gi h10 12 i0 21), dp h10)))
set_option maxHeartbeats 4000000 in
set_option maxRecDepth 100000 in
theorem ok_X12_type {l : Launch} {D : va_G} {cA : Nat → ClassId} {h : HP} {r : Int32} {d : DP} (i0 : Nat) (a1 : Int32) (al_0 : i0 < gn h 12) (hF : F_X12_type i0 a1 h = some (r, d)) : MI l D cA yX12_type cX12_type 2 (some .int) 1 25 (fun φ => [.ref (φ 12 i0), .int a1]) h r (wd h d) := by
  refine mk_I (plainFor_of_name (by decide)) (fun φ => Nat.le_of_ble_eq_true rfl) ?_
  intro p e s m args below meth c ls φ A Q X hW hS hl hfin
  have hx := X.1
  have hb := X.2.1
  have hl : lv_has ls 2 [(0, .ref (φ 12 i0)), (1, .int a1)] := hl
  unfold F_X12_type at hF
  refine lv_iload_n hx hb dX12_type_0 rfl (lv_at hl 1 rfl) ?_
  refine lv_i2l (v := (a1).toInt64) hx hb dX12_type_1 rfl ?_
  refine lv_lconst (v := 0) hx hb dX12_type_2 (by decide) ?_
  refine lv_ldc2 (v := 255) hx hb X.2.2.2.1 (X.2.2.2.2.1 _ (AL_of 1276 (by decide +kernel) rfl)) dX12_type_3 ?_
  obtain ⟨x2, e1, hF⟩ := bn hF
  refine rc_i (Af := fun φ => [.long ((a1).toInt64), .long 0, .long 255]) X hW hS ⟨Nat.zero_le _, Nat.zero_le _⟩ (rn_S (As := [.long ((a1).toInt64), .long 0, .long 255]) (rest := []) X hW hS cw_12_139 ⟨Nat.le_of_ble_eq_true rfl, Nat.le_of_ble_eq_true rfl⟩ rfl hl.1 rfl (Nat.le_of_ble_eq_true rfl) dX12_type_6) (ok_X12_in ((a1).toInt64) 0 255 e1) (fun H locs hW hS => ?_)
  refine lv_if_ne (tgt := 15) hx hb dX12_type_9 (by decide) (fun c14 => ?_) (fun c14 => ?_)
  · have hF := ie c14 hF
    refine lv_aload_n hx hb dX12_type_15 rfl (lv_at hl 0 rfl) ?_
    refine r_geti X hW al_0 fl_12_211 dX12_type_16 ?_
    refine lv_bipush (v := 100) hx hb dX12_type_19 (by decide) ?_
    refine lv_icmp_ne (tgt := 27) hx hb dX12_type_21 (by decide) (fun c13 => ?_) (fun c13 => ?_)
    · have hF := ie c13 hF
      refine lv_aload_n hx hb dX12_type_27 rfl (lv_at hl 0 rfl) ?_
      obtain ⟨o3, e4, hF⟩ := bn hF
      refine r_getr X hW al_0 fl_12_58 e4 dX12_type_28 (fun al5 => ?_)
      refine lv_aload_n hx hb dX12_type_31 rfl (lv_at hl 0 rfl) ?_
      refine r_geti X hW al_0 fl_12_211 dX12_type_32 ?_
      refine lv_iload_n hx hb dX12_type_35 rfl (lv_at hl 1 rfl) ?_
      obtain ⟨h6, e7, hF⟩ := bn hF
      obtain ⟨b8, e7⟩ := sa_s e7
      refine r_iast X hW hS al5 rfl b8 dX12_type_36 (fun H locs hW hS => ?_)
      have hW := nmW e7 hW
      have g9 : h6.2.2 = h.2.2 := by rw [e7]; exact rfl
      refine lv_aload_n hx hb dX12_type_37 rfl (lv_at hl 0 rfl) ?_
      refine lv_dup hx hb dX12_type_38 rfl ?_
      refine r_geti X hW (gq g9 al_0) fl_12_211 dX12_type_39 ?_
      refine lv_iconst (v := 1) hx hb dX12_type_42 (by decide) ?_
      refine lv_iadd hx hb dX12_type_43 ?_
      refine r_puti X hW hS (gq g9 al_0) fp_12_211 rfl rfl dX12_type_44 (fun H locs hW hS => ?_)
      obtain ⟨h10, e11, hF⟩ := nmx hF
      have hW := nmW e11 hW
      have g12 : h10.2.2 = h.2.2 := by rw [e11]; exact g9
      refine lv_aload_n hx hb dX12_type_47 rfl (lv_at hl 0 rfl) ?_
      refine r_geti X hW (gq g12 al_0) fl_12_211 dX12_type_48 ?_
      obtain ⟨rfl, rfl⟩ := sj2 hF
      exact hfin _ _ _ _ (wdW g12 hW) hS dX12_type_51
    · have hF := it c13 hF
      refine lv_bipush (v := (-4)) hx hb dX12_type_24 (by decide) ?_
      obtain ⟨rfl, rfl⟩ := sj2 hF
      exact hfin _ _ _ _ (wdW rfl hW) hS dX12_type_26
  · have hF := it c14 hF
    refine lv_bipush (v := (-2)) hx hb dX12_type_12 (by decide) ?_
    obtain ⟨rfl, rfl⟩ := sj2 hF
    exact hfin _ _ _ _ (wdW rfl hW) hS dX12_type_14
def F_X12_wipe (i0 : Nat) (h : HP) : Option (Int32 × DP) :=
  nm ((gi h 12 i0 21)) fun x1 =>
  nm (si h 12 i0 21 0) fun h3 =>
  some (x1, dp h3)
set_option maxHeartbeats 4000000 in
set_option maxRecDepth 100000 in
theorem ok_X12_wipe {l : Launch} {D : va_G} {cA : Nat → ClassId} {h : HP} {r : Int32} {d : DP} (i0 : Nat) (al_0 : i0 < gn h 12) (hF : F_X12_wipe i0 h = some (r, d)) : MI l D cA yX12_wipe cX12_wipe 2 (some .int) 0 0 (fun φ => [.ref (φ 12 i0)]) h r (wd h d) := by
  refine mk_I (plainFor_of_name (by decide)) (fun φ => Nat.le_of_ble_eq_true rfl) ?_
  intro p e s m args below meth c ls φ A Q X hW hS hl hfin
  have hx := X.1
  have hb := X.2.1
  have hl : lv_has ls 2 [(0, .ref (φ 12 i0))] := hl
  unfold F_X12_wipe at hF
  refine lv_aload_n hx hb dX12_wipe_0 rfl (lv_at hl 0 rfl) ?_
  refine r_geti X hW al_0 fl_12_211 dX12_wipe_1 ?_
  obtain ⟨x1, e2, hF⟩ := nmx hF
  refine nmi e2 ?_
  refine lv_istore_n (lv' := [(1, .int x1), (0, .ref (φ 12 i0))]) hx hb dX12_wipe_4 rfl hl (by decide) rfl (fun ls hl => ?_)
  refine lv_aload_n hx hb dX12_wipe_5 rfl (lv_at hl 1 rfl) ?_
  refine lv_iconst (v := 0) hx hb dX12_wipe_6 (by decide) ?_
  refine r_puti X hW hS al_0 fp_12_211 rfl rfl dX12_wipe_7 (fun H locs hW hS => ?_)
  obtain ⟨h3, e4, hF⟩ := nmx hF
  have hW := nmW e4 hW
  have g5 : h3.2.2 = h.2.2 := by rw [e4]; exact rfl
  refine lv_iload_n hx hb dX12_wipe_10 rfl (lv_at hl 0 rfl) ?_
  obtain ⟨rfl, rfl⟩ := sj2 hF
  exact hfin _ _ _ _ (wdW g5 hW) hS dX12_wipe_11
def J_X12_must_44 (v2_44 : Int32) (t0_44 : Int32) (t1_44 : Int32) (t2_44 : Nat) (hj44 : HP) : Option (Int32 × DP) :=
  nm (si hj44 12 t2_44 22 (t1_44 + t0_44)) fun h1 =>
  (bz v2_44).bind fun x4 => some (x4, dp h1)
def J_X12_must_29 (i0 : Nat) (t0_29 : Int32) (hj29 : HP) : Option (Int32 × DP) :=
  (if t0_29 = 0 then
  J_X12_must_44 t0_29 0 (gi hj29 12 i0 22) i0 hj29
  else
  J_X12_must_44 t0_29 1 (gi hj29 12 i0 22) i0 hj29)
def F_X12_must (i0 : Nat) (a1 : Int32) (h : HP) : Option (Int32 × DP) :=
  (if (gi h 12 i0 21) ≤ (gi h 12 i0 22) then
  J_X12_must_29 i0 0 h
  else
  (gr h 12 i0 20).bind fun o8 =>
  (ga h 61 o8 100 (gi h 12 i0 22)).bind fun x11 =>
  (if x11 = a1 then
  J_X12_must_29 i0 1 h
  else
  J_X12_must_29 i0 0 h))
set_option maxHeartbeats 4000000 in
set_option maxRecDepth 100000 in
theorem ok_X12_must {l : Launch} {D : va_G} {cA : Nat → ClassId} {h : HP} {r : Int32} {d : DP} (i0 : Nat) (a1 : Int32) (al_0 : i0 < gn h 12) (hF : F_X12_must i0 a1 h = some (r, d)) : MI l D cA yX12_must cX12_must 3 (some .boolean) 0 0 (fun φ => [.ref (φ 12 i0), .int a1]) h r (wd h d) := by
  refine mk_Z (plainFor_of_name (by decide)) (fun φ => Nat.le_of_ble_eq_true rfl) ?_
  intro p e s m args below meth c ls φ A Q X hW hS hl hfin
  have hx := X.1
  have hb := X.2.1
  have hl : lv_has ls 3 [(0, .ref (φ 12 i0)), (1, .int a1)] := hl
  unfold F_X12_must at hF
  have j_44 : ∀ (v2_44 : Int32) (t0_44 : Int32) (t1_44 : Int32) (t2_44 : Nat) (hj44 : HP) (H : Heap) (locs : List Loc) (ls : Array Slot), hj44.2.2 = h.2.2 → t2_44 < gn h 12 → J_X12_must_44 v2_44 t0_44 t1_44 t2_44 hj44 = some (r, d) → HW D cA A φ hj44 H → va_S A s.heap H locs → lv_has ls 3 [(2, .int v2_44)] → W p l e (rmo 0 0 0 0) s m args below meth c H locs 0 0 Q (F0 m 44 ls [.int t0_44, .int t1_44, .ref (φ 12 t2_44)]) := by
    intro v2_44 t0_44 t1_44 t2_44 hj44 H locs ls gj44 alt2_44 hF hW hS hl
    unfold J_X12_must_44 at hF
    refine lv_iadd hx hb dX12_must_44 ?_
    refine r_puti X hW hS (gq gj44 alt2_44) fp_12_214 rfl rfl dX12_must_45 (fun H locs hW hS => ?_)
    obtain ⟨h1, e2, hF⟩ := nmx hF
    have hW := nmW e2 hW
    have g3 : h1.2.2 = h.2.2 := by rw [e2]; exact gj44
    refine lv_iload_n hx hb dX12_must_48 rfl (lv_at hl 0 rfl) ?_
    obtain ⟨x4, e5, hF⟩ := bn hF
    obtain ⟨b6, e5⟩ := bz_s e5
    refine nmi e5 ?_
    rw [← e5] at b6
    obtain ⟨rfl, rfl⟩ := sj2 hF
    exact hfin _ _ _ _ (wdW g3 hW) hS b6 dX12_must_49
  have j_29 : ∀ (t0_29 : Int32) (hj29 : HP) (H : Heap) (locs : List Loc) (ls : Array Slot), hj29.2.2 = h.2.2 → J_X12_must_29 i0 t0_29 hj29 = some (r, d) → HW D cA A φ hj29 H → va_S A s.heap H locs → lv_has ls 3 [(0, .ref (φ 12 i0))] → W p l e (rmo 0 0 0 0) s m args below meth c H locs 0 0 Q (F0 m 29 ls [.int t0_29]) := by
    intro t0_29 hj29 H locs ls gj29 hF hW hS hl
    unfold J_X12_must_29 at hF
    refine lv_istore_n (lv' := [(2, .int t0_29), (0, .ref (φ 12 i0))]) hx hb dX12_must_29 rfl hl (by decide) rfl (fun ls hl => ?_)
    refine lv_aload_n hx hb dX12_must_30 rfl (lv_at hl 1 rfl) ?_
    refine lv_dup hx hb dX12_must_31 rfl ?_
    refine r_geti X hW (gq gj29 al_0) fl_12_214 dX12_must_32 ?_
    refine lv_iload_n hx hb dX12_must_35 rfl (lv_at hl 0 rfl) ?_
    refine lv_if_eq (tgt := 43) hx hb dX12_must_36 (by decide) (fun c7 => ?_) (fun c7 => ?_)
    · have hF := it c7 hF
      refine lv_iconst (v := 0) hx hb dX12_must_43 (by decide) ?_
      exact j_44 t0_29 0 (gi hj29 12 i0 22) i0 hj29 _ _ _ gj29 al_0 hF hW hS (lv_sub hl [0] rfl)
    · have hF := ie c7 hF
      refine lv_iconst (v := 1) hx hb dX12_must_39 (by decide) ?_
      refine lv_goto (tgt := 44) hx hb dX12_must_40 (by decide) ?_
      exact j_44 t0_29 1 (gi hj29 12 i0 22) i0 hj29 _ _ _ gj29 al_0 hF hW hS (lv_sub hl [0] rfl)
  refine lv_aload_n hx hb dX12_must_0 rfl (lv_at hl 0 rfl) ?_
  refine r_geti X hW al_0 fl_12_214 dX12_must_1 ?_
  refine lv_aload_n hx hb dX12_must_4 rfl (lv_at hl 0 rfl) ?_
  refine r_geti X hW al_0 fl_12_211 dX12_must_5 ?_
  refine lv_icmp_ge (tgt := 28) hx hb dX12_must_8 (by decide) (fun c15 => ?_) (fun c15 => ?_)
  · have hF := it c15 hF
    refine lv_iconst (v := 0) hx hb dX12_must_28 (by decide) ?_
    exact j_29 0 h _ _ _ rfl hF hW hS (lv_sub hl [0] rfl)
  · have hF := ie c15 hF
    refine lv_aload_n hx hb dX12_must_11 rfl (lv_at hl 0 rfl) ?_
    obtain ⟨o8, e9, hF⟩ := bn hF
    refine r_getr X hW al_0 fl_12_58 e9 dX12_must_12 (fun al10 => ?_)
    refine lv_aload_n hx hb dX12_must_15 rfl (lv_at hl 0 rfl) ?_
    refine r_geti X hW al_0 fl_12_214 dX12_must_16 ?_
    obtain ⟨x11, e12, hF⟩ := bn hF
    obtain ⟨b13, e12⟩ := ga_s e12
    refine r_iald X hW al10 rfl b13 dX12_must_19 ?_
    refine nmi e12 ?_
    refine lv_iload_n hx hb dX12_must_20 rfl (lv_at hl 1 rfl) ?_
    refine lv_icmp_ne (tgt := 28) hx hb dX12_must_21 (by decide) (fun c14 => ?_) (fun c14 => ?_)
    · have hF := ie c14 hF
      refine lv_iconst (v := 0) hx hb dX12_must_28 (by decide) ?_
      exact j_29 0 h _ _ _ rfl hF hW hS (lv_sub hl [0] rfl)
    · have hF := it c14 hF
      refine lv_iconst (v := 1) hx hb dX12_must_24 (by decide) ?_
      refine lv_goto (tgt := 29) hx hb dX12_must_25 (by decide) ?_
      exact j_29 1 h _ _ _ rfl hF hW hS (lv_sub hl [0] rfl)
def B_X12_number_9 (i0 : Nat) (a1 : Int32) (a2 : Int32) (a3 : Int32) (a4 : Int32) (x1 : Int32) (h : HP) (q : Int32 × DP) : Option ((Int32 × DP) ⊕ ((Int32 × DP))) :=
  u2 q fun x3 d6 =>
  nm (wd h d6) fun h4 =>
  (if (gi h4 12 i0 21) ≤ (gi h4 12 i0 22) then
  some (.inr (x3, (dp h4)))
  else
  (if (x1 + a2) ≤ (gi h4 12 i0 22) then
  some (.inr (x3, (dp h4)))
  else
  (gr h4 12 i0 20).bind fun o7 =>
  (ga h4 61 o7 100 (gi h4 12 i0 22)).bind fun x10 =>
  (F_X12_in ((x10).toInt64) 48 57).bind fun x14 =>
  (if x14 = 0 then
  some (.inr (x3, (dp h4)))
  else
  (gr h4 12 i0 20).bind fun o15 =>
  (ga h4 61 o15 100 (gi h4 12 i0 22)).bind fun x18 =>
  nm ((((10 * x3) + x18) - 48)) fun x21 =>
  nm (si h4 12 i0 22 ((gi h4 12 i0 22) + 1)) fun h23 =>
  some (.inl (x21, (dp h23))))))
def F_X12_number (i0 : Nat) (a1 : Int32) (a2 : Int32) (a3 : Int32) (a4 : Int32) (h : HP) : Option (Int32 × DP) :=
  nm ((gi h 12 i0 22)) fun x1 =>
  (loopN LF (B_X12_number_9 i0 a1 a2 a3 a4 x1 h) (0, (dp h))).bind fun q29 => u2 q29 fun x32 d33 =>
  nm (wd h d33) fun h34 =>
  (if (x1 + a1) ≤ (gi h34 12 i0 22) then
  (F_X12_in ((x32).toInt64) ((a3).toInt64) ((a4).toInt64)).bind fun x37 =>
  (if x37 = 0 then
  nm (si h34 12 i0 22 x1) fun h38 =>
  some ((-1), dp h38)
  else
  some (x32, dp h34))
  else
  some ((-1), dp h34))
set_option maxHeartbeats 4000000 in
set_option maxRecDepth 100000 in
theorem ok_X12_number {l : Launch} {D : va_G} {cA : Nat → ClassId} {h : HP} {r : Int32} {d : DP} (i0 : Nat) (a1 : Int32) (a2 : Int32) (a3 : Int32) (a4 : Int32) (al_0 : i0 < gn h 12) (hF : F_X12_number i0 a1 a2 a3 a4 h = some (r, d)) : MI l D cA yX12_number cX12_number 7 (some .int) 1 25 (fun φ => [.ref (φ 12 i0), .int a1, .int a2, .int a3, .int a4]) h r (wd h d) := by
  refine mk_I (plainFor_of_name (by decide)) (fun φ => Nat.le_of_ble_eq_true rfl) ?_
  intro p e s m args below meth c ls φ A Q X hW hS hl hfin
  have hx := X.1
  have hb := X.2.1
  have hl : lv_has ls 7 [(0, .ref (φ 12 i0)), (1, .int a1), (2, .int a2), (3, .int a3), (4, .int a4)] := hl
  unfold F_X12_number at hF
  refine lv_aload_n hx hb dX12_number_0 rfl (lv_at hl 0 rfl) ?_
  refine r_geti X hW al_0 fl_12_214 dX12_number_1 ?_
  obtain ⟨x1, e2, hF⟩ := nmx hF
  refine nmi e2 ?_
  refine lv_istore (lv' := [(5, .int x1), (0, .ref (φ 12 i0)), (1, .int a1), (2, .int a2), (3, .int a3), (4, .int a4)]) hx hb dX12_number_4 hl (by decide) rfl (fun ls hl => ?_)
  refine lv_iconst (v := 0) hx hb dX12_number_6 (by decide) ?_
  refine lv_istore (lv' := [(6, .int 0), (5, .int x1), (0, .ref (φ 12 i0)), (1, .int a1), (2, .int a2), (3, .int a3), (4, .int a4)]) hx hb dX12_number_7 hl (by decide) rfl (fun ls hl => ?_)
  obtain ⟨q29, e30, hF⟩ := bn hF
  refine loop_w (f := B_X12_number_9 i0 a1 a2 a3 a4 x1 h) (Z := fun q => ∀ (H : Heap) (locs : List Loc) (ls : Array Slot), HW D cA A φ (wd h q.2) H → va_S A s.heap H locs → lv_has ls 7 [(0, .ref (φ 12 i0)), (1, .int a1), (2, .int a2), (3, .int a3), (4, .int a4), (5, .int x1), (6, .int (q.1))] → W p l e (rmo 1 25 0 0) s m args below meth c H locs 0 0 Q (F0 m 9 ls [])) (K := fun q => ∀ (H : Heap) (locs : List Loc) (ls : Array Slot), HW D cA A φ (wd h q.2) H → va_S A s.heap H locs → lv_has ls 7 [(0, .ref (φ 12 i0)), (1, .int a1), (3, .int a3), (4, .int a4), (5, .int x1), (6, .int (q.1))] → W p l e (rmo 1 25 0 0) s m args below meth c H locs 0 0 Q (F0 m 86 ls [])) ?_ LF _ q29 e30 ?_ _ _ _ (wdW rfl hW) hS (lv_sub hl [2, 3, 4, 5, 6, 1, 0] rfl)
  · intro q v hF hK H locs ls hW hS hl
    obtain ⟨x3, d6⟩ := q
    unfold B_X12_number_9 at hF
    have hF := u2d hF
    obtain ⟨h4, e31, hF⟩ := nmx hF
    have hW := nmW e31 hW
    have g5 : h4.2.2 = h.2.2 := by rw [e31]; exact rfl
    have hl : lv_has ls 7 [(0, .ref (φ 12 i0)), (1, .int a1), (2, .int a2), (3, .int a3), (4, .int a4), (5, .int x1), (6, .int x3)] := hl
    refine lv_aload_n hx hb dX12_number_9 rfl (lv_at hl 0 rfl) ?_
    refine r_geti X hW (gq g5 al_0) fl_12_214 dX12_number_10 ?_
    refine lv_aload_n hx hb dX12_number_13 rfl (lv_at hl 0 rfl) ?_
    refine r_geti X hW (gq g5 al_0) fl_12_211 dX12_number_14 ?_
    refine lv_icmp_ge (tgt := 86) hx hb dX12_number_17 (by decide) (fun c28 => ?_) (fun c28 => ?_)
    · have hF := it c28 hF
      obtain rfl := sj hF
      exact hK _ _ _ (wdW (sq g5 rfl) hW) hS (lv_sub hl [0, 1, 3, 4, 5, 6] rfl)
    · have hF := ie c28 hF
      refine lv_aload_n hx hb dX12_number_20 rfl (lv_at hl 0 rfl) ?_
      refine r_geti X hW (gq g5 al_0) fl_12_214 dX12_number_21 ?_
      refine lv_iload hx hb dX12_number_24 (lv_at hl 5 rfl) ?_
      refine lv_iload_n hx hb dX12_number_26 rfl (lv_at hl 2 rfl) ?_
      refine lv_iadd hx hb dX12_number_27 ?_
      refine lv_icmp_ge (tgt := 86) hx hb dX12_number_28 (by decide) (fun c27 => ?_) (fun c27 => ?_)
      · have hF := it c27 hF
        obtain rfl := sj hF
        exact hK _ _ _ (wdW (sq g5 rfl) hW) hS (lv_sub hl [0, 1, 3, 4, 5, 6] rfl)
      · have hF := ie c27 hF
        refine lv_aload_n hx hb dX12_number_31 rfl (lv_at hl 0 rfl) ?_
        obtain ⟨o7, e8, hF⟩ := bn hF
        refine r_getr X hW (gq g5 al_0) fl_12_58 e8 dX12_number_32 (fun al9 => ?_)
        have al9 := qg g5 al9
        refine lv_aload_n hx hb dX12_number_35 rfl (lv_at hl 0 rfl) ?_
        refine r_geti X hW (gq g5 al_0) fl_12_214 dX12_number_36 ?_
        obtain ⟨x10, e11, hF⟩ := bn hF
        obtain ⟨b12, e11⟩ := ga_s e11
        refine r_iald X hW (gq g5 al9) rfl b12 dX12_number_39 ?_
        refine nmi e11 ?_
        refine lv_i2l (v := (x10).toInt64) hx hb dX12_number_40 rfl ?_
        refine lv_ldc2 (v := 48) hx hb X.2.2.2.1 (X.2.2.2.2.1 _ (AL_of 1301 (by decide +kernel) rfl)) dX12_number_41 ?_
        refine lv_ldc2 (v := 57) hx hb X.2.2.2.1 (X.2.2.2.2.1 _ (AL_of 1302 (by decide +kernel) rfl)) dX12_number_44 ?_
        obtain ⟨x14, e13, hF⟩ := bn hF
        refine rc_i (Af := fun φ => [.long ((x10).toInt64), .long 48, .long 57]) X hW hS ⟨Nat.zero_le _, Nat.zero_le _⟩ (rn_S (As := [.long ((x10).toInt64), .long 48, .long 57]) (rest := []) X hW hS cw_12_139 ⟨Nat.le_of_ble_eq_true rfl, Nat.le_of_ble_eq_true rfl⟩ rfl hl.1 rfl (Nat.le_of_ble_eq_true rfl) dX12_number_47) (ok_X12_in ((x10).toInt64) 48 57 e13) (fun H locs hW hS => ?_)
        refine lv_if_eq (tgt := 86) hx hb dX12_number_50 (by decide) (fun c26 => ?_) (fun c26 => ?_)
        · have hF := it c26 hF
          obtain rfl := sj hF
          exact hK _ _ _ (wdW (sq g5 rfl) hW) hS (lv_sub hl [0, 1, 3, 4, 5, 6] rfl)
        · have hF := ie c26 hF
          refine lv_bipush (v := 10) hx hb dX12_number_53 (by decide) ?_
          refine lv_iload hx hb dX12_number_55 (lv_at hl 6 rfl) ?_
          refine lv_imul hx hb dX12_number_57 ?_
          refine lv_aload_n hx hb dX12_number_58 rfl (lv_at hl 0 rfl) ?_
          obtain ⟨o15, e16, hF⟩ := bn hF
          refine r_getr X hW (gq g5 al_0) fl_12_58 e16 dX12_number_59 (fun al17 => ?_)
          have al17 := qg g5 al17
          refine lv_aload_n hx hb dX12_number_62 rfl (lv_at hl 0 rfl) ?_
          refine r_geti X hW (gq g5 al_0) fl_12_214 dX12_number_63 ?_
          obtain ⟨x18, e19, hF⟩ := bn hF
          obtain ⟨b20, e19⟩ := ga_s e19
          refine r_iald X hW (gq g5 al17) rfl b20 dX12_number_66 ?_
          refine nmi e19 ?_
          refine lv_iadd hx hb dX12_number_67 ?_
          refine lv_bipush (v := 48) hx hb dX12_number_68 (by decide) ?_
          refine lv_isub hx hb dX12_number_70 ?_
          obtain ⟨x21, e22, hF⟩ := nmx hF
          refine nmi e22 ?_
          refine lv_istore (lv' := [(6, .int x21), (0, .ref (φ 12 i0)), (1, .int a1), (2, .int a2), (3, .int a3), (4, .int a4), (5, .int x1)]) hx hb dX12_number_71 hl (by decide) rfl (fun ls hl => ?_)
          refine lv_aload_n hx hb dX12_number_73 rfl (lv_at hl 1 rfl) ?_
          refine lv_dup hx hb dX12_number_74 rfl ?_
          refine r_geti X hW (gq g5 al_0) fl_12_214 dX12_number_75 ?_
          refine lv_iconst (v := 1) hx hb dX12_number_78 (by decide) ?_
          refine lv_iadd hx hb dX12_number_79 ?_
          refine r_puti X hW hS (gq g5 al_0) fp_12_214 rfl rfl dX12_number_80 (fun H locs hW hS => ?_)
          obtain ⟨h23, e24, hF⟩ := nmx hF
          have hW := nmW e24 hW
          have g25 : h23.2.2 = h.2.2 := by rw [e24]; exact g5
          refine lv_goto (tgt := 9) hx hb dX12_number_83 (by decide) ?_
          obtain rfl := sj hF
          exact hK _ _ _ (wdW (sq g25 rfl) hW) hS (lv_sub hl [1, 2, 3, 4, 5, 6, 0] rfl)
  · intro H locs ls hW hS hl
    obtain ⟨x32, d33⟩ := q29
    have hF := u2d hF
    obtain ⟨h34, e43, hF⟩ := nmx hF
    have hW := nmW e43 hW
    have g35 : h34.2.2 = h.2.2 := by rw [e43]; exact rfl
    have hl : lv_has ls 7 [(0, .ref (φ 12 i0)), (1, .int a1), (3, .int a3), (4, .int a4), (5, .int x1), (6, .int x32)] := hl
    refine lv_aload_n hx hb dX12_number_86 rfl (lv_at hl 0 rfl) ?_
    refine r_geti X hW (gq g35 al_0) fl_12_214 dX12_number_87 ?_
    refine lv_iload hx hb dX12_number_90 (lv_at hl 4 rfl) ?_
    refine lv_iload_n hx hb dX12_number_92 rfl (lv_at hl 1 rfl) ?_
    refine lv_iadd hx hb dX12_number_93 ?_
    refine lv_icmp_ge (tgt := 99) hx hb dX12_number_94 (by decide) (fun c42 => ?_) (fun c42 => ?_)
    · have hF := it c42 hF
      refine lv_iload hx hb dX12_number_99 (lv_at hl 5 rfl) ?_
      refine lv_i2l (v := (x32).toInt64) hx hb dX12_number_101 rfl ?_
      refine lv_iload_n hx hb dX12_number_102 rfl (lv_at hl 2 rfl) ?_
      refine lv_i2l (v := (a3).toInt64) hx hb dX12_number_103 rfl ?_
      refine lv_iload hx hb dX12_number_104 (lv_at hl 3 rfl) ?_
      refine lv_i2l (v := (a4).toInt64) hx hb dX12_number_106 rfl ?_
      obtain ⟨x37, e36, hF⟩ := bn hF
      refine rc_i (Af := fun φ => [.long ((x32).toInt64), .long ((a3).toInt64), .long ((a4).toInt64)]) X hW hS ⟨Nat.zero_le _, Nat.zero_le _⟩ (rn_S (As := [.long ((x32).toInt64), .long ((a3).toInt64), .long ((a4).toInt64)]) (rest := []) X hW hS cw_12_139 ⟨Nat.le_of_ble_eq_true rfl, Nat.le_of_ble_eq_true rfl⟩ rfl hl.1 rfl (Nat.le_of_ble_eq_true rfl) dX12_number_107) (ok_X12_in ((x32).toInt64) ((a3).toInt64) ((a4).toInt64) e36) (fun H locs hW hS => ?_)
      refine lv_if_ne (tgt := 121) hx hb dX12_number_110 (by decide) (fun c41 => ?_) (fun c41 => ?_)
      · have hF := ie c41 hF
        refine lv_iload hx hb dX12_number_121 (lv_at hl 5 rfl) ?_
        obtain ⟨rfl, rfl⟩ := sj2 hF
        exact hfin _ _ _ _ (wdW g35 hW) hS dX12_number_123
      · have hF := it c41 hF
        refine lv_aload_n hx hb dX12_number_113 rfl (lv_at hl 0 rfl) ?_
        refine lv_iload hx hb dX12_number_114 (lv_at hl 4 rfl) ?_
        refine r_puti X hW hS (gq g35 al_0) fp_12_214 rfl rfl dX12_number_116 (fun H locs hW hS => ?_)
        obtain ⟨h38, e39, hF⟩ := nmx hF
        have hW := nmW e39 hW
        have g40 : h38.2.2 = h.2.2 := by rw [e39]; exact g35
        refine lv_iconst (v := (-1)) hx hb dX12_number_119 (by decide) ?_
        obtain ⟨rfl, rfl⟩ := sj2 hF
        exact hfin _ _ _ _ (wdW g40 hW) hS dX12_number_120
    · have hF := ie c42 hF
      refine lv_iconst (v := (-1)) hx hb dX12_number_97 (by decide) ?_
      obtain ⟨rfl, rfl⟩ := sj2 hF
      exact hfin _ _ _ _ (wdW g35 hW) hS dX12_number_98
