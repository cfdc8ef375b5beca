def B_X12_needs_7 (i0 : Nat) (a1 : Int32) (h2 : HP) (q : Int32 × DP) : Option ((Int32 × DP) ⊕ (DP)) :=
  u2 q fun x8 d11 =>
  nm (wd h2 d11) fun h9 =>
  (if (gi h9 12 i0 8) ≤ x8 then
  some (.inr (dp h9))
  else
  (gr h9 12 i0 49).bind fun o12 =>
  (sa h9 77 o12 20 x8 (-1)).bind fun h15 =>
  nm (x8 + 1) fun x19 =>
  some (.inl (x19, (dp h15))))
def J_X12_needs_208 (i0 : Nat) (a1 : Int32) (v4_208 : Int32) (t0_208 : Int32) (t1_208 : Nat) (hj208 : HP) : Option ((Int64 × Int32 × DP) ⊕ (DP)) :=
  nm (si hj208 12 t1_208 51 t0_208) fun h42 =>
  nm (v4_208 + 1) fun x45 =>
  some (.inl (0, x45, (dp h42)))
def B_X12_needs_112 (i0 : Nat) (a1 : Int32) (v4_110 : Int32) (v5_110 : Int64) (hj110 : HP) (q : Int64 × Int32 × DP) : Option ((Int64 × Int32 × DP) ⊕ ((Int64 × DP))) :=
  u3 q fun x47 x48 d51 =>
  nm (wd hj110 d51) fun h49 =>
  (if x48 = (-1) then
  some (.inr (x47, (dp h49)))
  else
  (gr h49 12 i0 49).bind fun o52 =>
  (sa h49 77 o52 20 x48 v4_110).bind fun h55 =>
  nm (si h55 12 i0 52 ((gi h55 12 i0 52) + 1)) fun h59 =>
  (gr h59 12 i0 10).bind fun o62 =>
  (ga h59 51 o62 20 x48).bind fun x65 =>
  nm ((x47 + (x65).toInt64)) fun x68 =>
  (if 0 ≤ (lg_cmp x68 v5_110) then
  some (.inl (x68, (-1), (dp h59)))
  else
  (F_X12_nextMelt i0 v4_110 h59).bind fun x71 =>
  some (.inl (x68, x71, (dp h59)))))
def J_X12_needs_110 (i0 : Nat) (a1 : Int32) (v2_110 : Int64) (v4_110 : Int32) (v5_110 : Int64) (t0_110 : Int32) (hj110 : HP) : Option ((Int64 × Int32 × DP) ⊕ (DP)) :=
  (loopN LF (B_X12_needs_112 i0 a1 v4_110 v5_110 hj110) (v2_110, t0_110, (dp hj110))).bind fun q74 => u2 q74 fun x77 d78 =>
  nm (wd hj110 d78) fun h79 =>
  (if 0 ≤ (lg_cmp x77 v5_110) then
  nm ((x77 - v5_110)) fun x81 =>
  nm (v4_110 + 1) fun x83 =>
  some (.inl (x81, x83, (dp h79)))
  else
  nm (sL h79 12 i0 50 ((gl h79 12 i0 50) + (v5_110 - x77))) fun h85 =>
  (if (gi h85 12 i0 51) = (-1) then
  J_X12_needs_208 i0 a1 v4_110 v4_110 i0 h85
  else
  J_X12_needs_208 i0 a1 v4_110 (gi h85 12 i0 51) i0 h85))
def J_X12_needs_91 (i0 : Nat) (a1 : Int32) (v2_91 : Int64) (v4_91 : Int32) (t0_91 : Int64) (hj91 : HP) : Option ((Int64 × Int32 × DP) ⊕ (DP)) :=
  (if 0 ≤ (lg_cmp v2_91 t0_91) then
  J_X12_needs_110 i0 a1 v2_91 v4_91 t0_91 (-1) hj91
  else
  (F_X12_nextMelt i0 v4_91 hj91).bind fun x92 =>
  J_X12_needs_110 i0 a1 v2_91 v4_91 t0_91 x92 hj91)
def B_X12_needs_48 (i0 : Nat) (a1 : Int32) (h34 : HP) (q : Int64 × Int32 × DP) : Option ((Int64 × Int32 × DP) ⊕ (DP)) :=
  u3 q fun x37 x38 d41 =>
  nm (wd h34 d41) fun h39 =>
  (gr h39 12 i0 1).bind fun o94 =>
  (ga h39 46 o94 4 a1).bind fun x97 =>
  (if x97 ≤ x38 then
  some (.inr (dp h39))
  else
  (gr h39 12 i0 2).bind fun o100 =>
  (ga h39 47 o100 240 ((60 * a1) + x38)).bind fun x103 =>
  (if 0 ≤ x103 then
  (gr h39 12 i0 2).bind fun o106 =>
  (ga h39 47 o106 240 ((60 * a1) + x38)).bind fun x109 =>
  J_X12_needs_91 i0 a1 x37 x38 ((x109).toInt64) h39
  else
  J_X12_needs_91 i0 a1 x37 x38 0 h39))
def F_X12_needs (i0 : Nat) (a1 : Int32) (h : HP) : Option (DP) :=
  (F_X12_reads i0 h).bind fun q6 => u2 q6 fun x7 d5 => nm (wd h d5) fun h2 =>
  (loopN LF (B_X12_needs_7 i0 a1 h2) (0, (dp h2))).bind fun d25 =>
  nm (wd h2 d25) fun h26 =>
  nm (sL h26 12 i0 50 0) fun h28 =>
  nm (si h28 12 i0 51 (-1)) fun h31 =>
  nm (si h31 12 i0 52 0) fun h34 =>
  (loopN LF (B_X12_needs_48 i0 a1 h34) (0, 0, (dp h34))).bind fun d117 =>
  nm (wd h34 d117) fun h118 =>
  some (dp h118)
set_option maxHeartbeats 4000000 in
set_option maxRecDepth 100000 in
theorem ok_X12_needs {l : Launch} {D : va_G} {cA : Nat → ClassId} {h : HP}  {d : DP} (i0 : Nat) (a1 : Int32) (al_0 : i0 < gn h 12) (hF : F_X12_needs i0 a1 h = some d) : MV l D cA yX12_needs cX12_needs 8 none 4 97 (fun φ => [.ref (φ 12 i0), .int a1]) h (wd h d) := by
  refine mk_V (plainFor_of_name (by decide)) (fun φ => Nat.le_of_ble_eq_true rfl) ?_
  intro p e s m args below meth c ls φ A Q X hW hS hl hfin
  have hx := X.1
  have hb := X.2.1
  have hl : lv_has ls 8 [(0, .ref (φ 12 i0)), (1, .int a1)] := hl
  unfold F_X12_needs at hF
  refine lv_aload_n hx hb dX12_needs_0 rfl (lv_at hl 0 rfl) ?_
  obtain ⟨q6, e1, hF⟩ := bn hF
  obtain ⟨x7, d5⟩ := q6
  have hF := u2d hF
  refine rc_i (Af := fun φ => [.ref (φ 12 i0)]) X hW hS ⟨Nat.zero_le _, Nat.zero_le _⟩ (rn_V (As := []) (rest := []) X hW hS cw_12_234 al_0 rfl rfl rfl ⟨Nat.le_of_ble_eq_true rfl, Nat.le_of_ble_eq_true rfl⟩ rfl hl.1 rfl (Nat.le_of_ble_eq_true rfl) dX12_needs_1) (ok_X12_reads i0 al_0 e1) (fun H locs hW hS => ?_)
  obtain ⟨h2, e4, hF⟩ := nmx hF
  have hW := nmW e4 hW
  have g3 : h2.2.2 = h.2.2 := by rw [e4]; exact rfl
  refine lv_pop hx hb dX12_needs_4 rfl ?_
  refine lv_iconst (v := 0) hx hb dX12_needs_5 (by decide) ?_
  refine lv_istore_n (lv' := [(2, .int 0), (0, .ref (φ 12 i0)), (1, .int a1)]) hx hb dX12_needs_6 rfl hl (by decide) rfl (fun ls hl => ?_)
  obtain ⟨q22, e23, hF⟩ := bn hF
  refine loop_w (f := B_X12_needs_7 i0 a1 h2) (Z := fun q => ∀ (H : Heap) (locs : List Loc) (ls : Array Slot), HW D cA A φ (wd h2 q.2) H → va_S A s.heap H locs → lv_has ls 8 [(0, .ref (φ 12 i0)), (1, .int a1), (2, .int (q.1))] → W p l e (rmo 4 97 0 0) s m args below meth c H locs 0 0 Q (F0 m 7 ls [])) (K := fun q => ∀ (H : Heap) (locs : List Loc) (ls : Array Slot), HW D cA A φ (wd h2 q) H → va_S A s.heap H locs → lv_has ls 8 [(0, .ref (φ 12 i0)), (1, .int a1)] → W p l e (rmo 4 97 0 0) s m args below meth c H locs 0 0 Q (F0 m 28 ls [])) ?_ LF _ q22 e23 ?_ _ _ _ (wdW rfl hW) hS (lv_sub hl [1, 2, 0] rfl)
  · intro q v hF hK H locs ls hW hS hl
    obtain ⟨x8, d11⟩ := q
    unfold B_X12_needs_7 at hF
    have hF := u2d hF
    obtain ⟨h9, e24, hF⟩ := nmx hF
    have hW := nmW e24 hW
    have g10 : h9.2.2 = h.2.2 := by rw [e24]; exact g3
    have hl : lv_has ls 8 [(0, .ref (φ 12 i0)), (1, .int a1), (2, .int x8)] := hl
    refine lv_iload_n hx hb dX12_needs_7 rfl (lv_at hl 2 rfl) ?_
    refine lv_aload_n hx hb dX12_needs_8 rfl (lv_at hl 0 rfl) ?_
    refine r_geti X hW (gq g10 al_0) fl_12_167 dX12_needs_9 ?_
    refine lv_icmp_ge (tgt := 28) hx hb dX12_needs_12 (by decide) (fun c21 => ?_) (fun c21 => ?_)
    · have hF := it c21 hF
      obtain rfl := sj hF
      exact hK _ _ _ (wdW (sq g10 g3) hW) hS (lv_sub hl [0, 1] rfl)
    · have hF := ie c21 hF
      refine lv_aload_n hx hb dX12_needs_15 rfl (lv_at hl 0 rfl) ?_
      obtain ⟨o12, e13, hF⟩ := bn hF
      refine r_getr X hW (gq g10 al_0) fl_12_113 e13 dX12_needs_16 (fun al14 => ?_)
      have al14 := qg g10 al14
      refine lv_iload_n hx hb dX12_needs_19 rfl (lv_at hl 2 rfl) ?_
      refine lv_iconst (v := (-1)) hx hb dX12_needs_20 (by decide) ?_
      obtain ⟨h15, e16, hF⟩ := bn hF
      obtain ⟨b17, e16⟩ := sa_s e16
      refine r_iast X hW hS (gq g10 al14) rfl b17 dX12_needs_21 (fun H locs hW hS => ?_)
      have hW := nmW e16 hW
      have g18 : h15.2.2 = h.2.2 := by rw [e16]; exact g10
      obtain ⟨x19, e20, hF⟩ := nmx hF
      refine lv_iinc (v := x19) (lv' := [(2, .int x19), (0, .ref (φ 12 i0)), (1, .int a1)]) hx hb dX12_needs_22 hl (k := 2) rfl (by rw [e20]; rfl) (by decide) rfl (fun ls hl => ?_)
      refine lv_goto (tgt := 7) hx hb dX12_needs_25 (by decide) ?_
      obtain rfl := sj hF
      exact hK _ _ _ (wdW (sq g18 g3) hW) hS (lv_sub hl [1, 2, 0] rfl)
  · intro H locs ls hW hS hl
    obtain ⟨d25, rfl⟩ : ∃ z, z = q22 := ⟨_, rfl⟩
    obtain ⟨h26, e121, hF⟩ := nmx hF
    have hW := nmW e121 hW
    have g27 : h26.2.2 = h.2.2 := by rw [e121]; exact g3
    have hl : lv_has ls 8 [(0, .ref (φ 12 i0)), (1, .int a1)] := hl
    refine lv_aload_n hx hb dX12_needs_28 rfl (lv_at hl 0 rfl) ?_
    refine lv_lconst (v := 0) hx hb dX12_needs_29 (by decide) ?_
    refine r_putl X hW hS (gq g27 al_0) fp_12_345 dX12_needs_30 (fun H locs hW hS => ?_)
    obtain ⟨h28, e29, hF⟩ := nmx hF
    have hW := nmW e29 hW
    have g30 : h28.2.2 = h.2.2 := by rw [e29]; exact g27
    refine lv_aload_n hx hb dX12_needs_33 rfl (lv_at hl 0 rfl) ?_
    refine lv_iconst (v := (-1)) hx hb dX12_needs_34 (by decide) ?_
    refine r_puti X hW hS (gq g30 al_0) fp_12_349 rfl rfl dX12_needs_35 (fun H locs hW hS => ?_)
    obtain ⟨h31, e32, hF⟩ := nmx hF
    have hW := nmW e32 hW
    have g33 : h31.2.2 = h.2.2 := by rw [e32]; exact g30
    refine lv_aload_n hx hb dX12_needs_38 rfl (lv_at hl 0 rfl) ?_
    refine lv_iconst (v := 0) hx hb dX12_needs_39 (by decide) ?_
    refine r_puti X hW hS (gq g33 al_0) fp_12_352 rfl rfl dX12_needs_40 (fun H locs hW hS => ?_)
    obtain ⟨h34, e35, hF⟩ := nmx hF
    have hW := nmW e35 hW
    have g36 : h34.2.2 = h.2.2 := by rw [e35]; exact g33
    refine lv_lconst (v := 0) hx hb dX12_needs_43 (by decide) ?_
    refine lv_lstore_n (lv' := [(2, .long 0), (0, .ref (φ 12 i0)), (1, .int a1)]) hx hb dX12_needs_44 rfl hl (by decide) rfl (fun ls hl => ?_)
    refine lv_iconst (v := 0) hx hb dX12_needs_45 (by decide) ?_
    refine lv_istore (lv' := [(4, .int 0), (2, .long 0), (0, .ref (φ 12 i0)), (1, .int a1)]) hx hb dX12_needs_46 hl (by decide) rfl (fun ls hl => ?_)
    obtain ⟨q114, e115, hF⟩ := bn hF
    refine loop_w (f := B_X12_needs_48 i0 a1 h34) (Z := fun q => ∀ (H : Heap) (locs : List Loc) (ls : Array Slot), HW D cA A φ (wd h34 q.2.2) H → va_S A s.heap H locs → lv_has ls 8 [(0, .ref (φ 12 i0)), (1, .int a1), (2, .long (q.1)), (4, .int (q.2.1))] → W p l e (rmo 4 97 0 0) s m args below meth c H locs 0 0 Q (F0 m 48 ls [])) (K := fun q => ∀ (H : Heap) (locs : List Loc) (ls : Array Slot), HW D cA A φ (wd h34 q) H → va_S A s.heap H locs → lv_has ls 8 [] → W p l e (rmo 4 97 0 0) s m args below meth c H locs 0 0 Q (F0 m 227 ls [])) ?_ LF _ q114 e115 ?_ _ _ _ (wdW rfl hW) hS (lv_sub hl [2, 3, 1, 0] rfl)
    · intro q v hF hK H locs ls hW hS hl
      obtain ⟨x37, x38, d41⟩ := q
      unfold B_X12_needs_48 at hF
      have hF := u3d hF
      obtain ⟨h39, e116, hF⟩ := nmx hF
      have hW := nmW e116 hW
      have g40 : h39.2.2 = h.2.2 := by rw [e116]; exact g36
      have hl : lv_has ls 8 [(0, .ref (φ 12 i0)), (1, .int a1), (2, .long x37), (4, .int x38)] := hl
      have j_208 : ∀ (v4_208 : Int32) (t0_208 : Int32) (t1_208 : Nat) (hj208 : HP) (H : Heap) (locs : List Loc) (ls : Array Slot), hj208.2.2 = h.2.2 → t1_208 < gn h 12 → J_X12_needs_208 i0 a1 v4_208 t0_208 t1_208 hj208 = some v → HW D cA A φ hj208 H → va_S A s.heap H locs → lv_has ls 8 [(0, .ref (φ 12 i0)), (1, .int a1), (4, .int v4_208)] → W p l e (rmo 4 97 0 0) s m args below meth c H locs 0 0 Q (F0 m 208 ls [.int t0_208, .ref (φ 12 t1_208)]) := by
        intro v4_208 t0_208 t1_208 hj208 H locs ls gj208 alt1_208 hF hW hS hl
        unfold J_X12_needs_208 at hF
        refine r_puti X hW hS (gq gj208 alt1_208) fp_12_349 rfl rfl dX12_needs_208 (fun H locs hW hS => ?_)
        obtain ⟨h42, e43, hF⟩ := nmx hF
        have hW := nmW e43 hW
        have g44 : h42.2.2 = h.2.2 := by rw [e43]; exact gj208
        refine lv_lconst (v := 0) hx hb dX12_needs_211 (by decide) ?_
        refine lv_lstore_n (lv' := [(2, .long 0), (0, .ref (φ 12 i0)), (1, .int a1), (4, .int v4_208)]) hx hb dX12_needs_212 rfl hl (by decide) rfl (fun ls hl => ?_)
        refine lv_goto (tgt := 221) hx hb dX12_needs_213 (by decide) ?_
        obtain ⟨x45, e46, hF⟩ := nmx hF
        refine lv_iinc (v := x45) (lv' := [(4, .int x45), (2, .long 0), (0, .ref (φ 12 i0)), (1, .int a1)]) hx hb dX12_needs_221 hl (k := 3) rfl (by rw [e46]; rfl) (by decide) rfl (fun ls hl => ?_)
        refine lv_goto (tgt := 48) hx hb dX12_needs_224 (by decide) ?_
        obtain rfl := sj hF
        exact hK _ _ _ (wdW (sq g44 g36) hW) hS (lv_sub hl [2, 3, 1, 0] rfl)
      have j_110 : ∀ (v2_110 : Int64) (v4_110 : Int32) (v5_110 : Int64) (t0_110 : Int32) (hj110 : HP) (H : Heap) (locs : List Loc) (ls : Array Slot), hj110.2.2 = h.2.2 → J_X12_needs_110 i0 a1 v2_110 v4_110 v5_110 t0_110 hj110 = some v → HW D cA A φ hj110 H → va_S A s.heap H locs → lv_has ls 8 [(0, .ref (φ 12 i0)), (1, .int a1), (2, .long v2_110), (4, .int v4_110), (5, .long v5_110)] → W p l e (rmo 4 97 0 0) s m args below meth c H locs 0 0 Q (F0 m 110 ls [.int t0_110]) := by
        intro v2_110 v4_110 v5_110 t0_110 hj110 H locs ls gj110 hF hW hS hl
        unfold J_X12_needs_110 at hF
        refine lv_istore (lv' := [(7, .int t0_110), (0, .ref (φ 12 i0)), (1, .int a1), (2, .long v2_110), (4, .int v4_110), (5, .long v5_110)]) hx hb dX12_needs_110 hl (by decide) rfl (fun ls hl => ?_)
        obtain ⟨q74, e75, hF⟩ := bn hF
        refine loop_w (f := B_X12_needs_112 i0 a1 v4_110 v5_110 hj110) (Z := fun q => ∀ (H : Heap) (locs : List Loc) (ls : Array Slot), HW D cA A φ (wd hj110 q.2.2) H → va_S A s.heap H locs → lv_has ls 8 [(0, .ref (φ 12 i0)), (1, .int a1), (2, .long (q.1)), (4, .int v4_110), (5, .long v5_110), (7, .int (q.2.1))] → W p l e (rmo 4 97 0 0) s m args below meth c H locs 0 0 Q (F0 m 112 ls [])) (K := fun q => ∀ (H : Heap) (locs : List Loc) (ls : Array Slot), HW D cA A φ (wd hj110 q.2) H → va_S A s.heap H locs → lv_has ls 8 [(0, .ref (φ 12 i0)), (1, .int a1), (2, .long (q.1)), (4, .int v4_110), (5, .long v5_110)] → W p l e (rmo 4 97 0 0) s m args below meth c H locs 0 0 Q (F0 m 170 ls [])) ?_ LF _ q74 e75 ?_ _ _ _ (wdW rfl hW) hS (lv_sub hl [1, 2, 3, 4, 5, 0] rfl)
        · intro q v hF hK H locs ls hW hS hl
          obtain ⟨x47, x48, d51⟩ := q
          unfold B_X12_needs_112 at hF
          have hF := u3d hF
          obtain ⟨h49, e76, hF⟩ := nmx hF
          have hW := nmW e76 hW
          have g50 : h49.2.2 = h.2.2 := by rw [e76]; exact gj110
          have hl : lv_has ls 8 [(0, .ref (φ 12 i0)), (1, .int a1), (2, .long x47), (4, .int v4_110), (5, .long v5_110), (7, .int x48)] := hl
          refine lv_iload hx hb dX12_needs_112 (lv_at hl 5 rfl) ?_
          refine lv_iconst (v := (-1)) hx hb dX12_needs_114 (by decide) ?_
          refine lv_icmp_eq (tgt := 170) hx hb dX12_needs_115 (by decide) (fun c73 => ?_) (fun c73 => ?_)
          · have hF := it c73 hF
            obtain rfl := sj hF
            exact hK _ _ _ (wdW (sq g50 gj110) hW) hS (lv_sub hl [0, 1, 2, 3, 4] rfl)
          · have hF := ie c73 hF
            refine lv_aload_n hx hb dX12_needs_118 rfl (lv_at hl 0 rfl) ?_
            obtain ⟨o52, e53, hF⟩ := bn hF
            refine r_getr X hW (gq g50 al_0) fl_12_113 e53 dX12_needs_119 (fun al54 => ?_)
            have al54 := qg g50 al54
            refine lv_iload hx hb dX12_needs_122 (lv_at hl 5 rfl) ?_
            refine lv_iload hx hb dX12_needs_124 (lv_at hl 3 rfl) ?_
            obtain ⟨h55, e56, hF⟩ := bn hF
            obtain ⟨b57, e56⟩ := sa_s e56
            refine r_iast X hW hS (gq g50 al54) rfl b57 dX12_needs_126 (fun H locs hW hS => ?_)
            have hW := nmW e56 hW
            have g58 : h55.2.2 = h.2.2 := by rw [e56]; exact g50
            refine lv_aload_n hx hb dX12_needs_127 rfl (lv_at hl 0 rfl) ?_
            refine lv_dup hx hb dX12_needs_128 rfl ?_
            refine r_geti X hW (gq g58 al_0) fl_12_352 dX12_needs_129 ?_
            refine lv_iconst (v := 1) hx hb dX12_needs_132 (by decide) ?_
            refine lv_iadd hx hb dX12_needs_133 ?_
            refine r_puti X hW hS (gq g58 al_0) fp_12_352 rfl rfl dX12_needs_134 (fun H locs hW hS => ?_)
            obtain ⟨h59, e60, hF⟩ := nmx hF
            have hW := nmW e60 hW
            have g61 : h59.2.2 = h.2.2 := by rw [e60]; exact g58
            refine lv_lload_n hx hb dX12_needs_137 rfl (lv_at hl 2 rfl) ?_
            refine lv_aload_n hx hb dX12_needs_138 rfl (lv_at hl 0 rfl) ?_
            obtain ⟨o62, e63, hF⟩ := bn hF
            refine r_getr X hW (gq g61 al_0) fl_12_28 e63 dX12_needs_139 (fun al64 => ?_)
            have al64 := qg g61 al64
            refine lv_iload hx hb dX12_needs_142 (lv_at hl 5 rfl) ?_
            obtain ⟨x65, e66, hF⟩ := bn hF
            obtain ⟨b67, e66⟩ := ga_s e66
            refine r_iald X hW (gq g61 al64) rfl b67 dX12_needs_144 ?_
            refine nmi e66 ?_
            refine lv_i2l (v := (x65).toInt64) hx hb dX12_needs_145 rfl ?_
            refine lv_ladd hx hb dX12_needs_146 ?_
            obtain ⟨x68, e69, hF⟩ := nmx hF
            refine nml e69 ?_
            refine lv_lstore_n (lv' := [(2, .long x68), (0, .ref (φ 12 i0)), (1, .int a1), (4, .int v4_110), (5, .long v5_110), (7, .int x48)]) hx hb dX12_needs_147 rfl hl (by decide) rfl (fun ls hl => ?_)
            refine lv_lload_n hx hb dX12_needs_148 rfl (lv_at hl 0 rfl) ?_
            refine lv_lload hx hb dX12_needs_149 (lv_at hl 4 rfl) ?_
            refine W.lcmp hx hb dX12_needs_151 ?_
            refine lv_if_ge (tgt := 164) hx hb dX12_needs_152 (by decide) (fun c72 => ?_) (fun c72 => ?_)
            · have hF := it c72 hF
              refine lv_iconst (v := (-1)) hx hb dX12_needs_164 (by decide) ?_
              refine lv_istore (lv' := [(7, .int (-1)), (2, .long x68), (0, .ref (φ 12 i0)), (1, .int a1), (4, .int v4_110), (5, .long v5_110)]) hx hb dX12_needs_165 hl (by decide) rfl (fun ls hl => ?_)
              refine lv_goto (tgt := 112) hx hb dX12_needs_167 (by decide) ?_
              obtain rfl := sj hF
              exact hK _ _ _ (wdW (sq g61 gj110) hW) hS (lv_sub hl [2, 3, 1, 4, 5, 0] rfl)
            · have hF := ie c72 hF
              refine lv_aload_n hx hb dX12_needs_155 rfl (lv_at hl 1 rfl) ?_
              refine lv_iload hx hb dX12_needs_156 (lv_at hl 3 rfl) ?_
              obtain ⟨x71, e70, hF⟩ := bn hF
              refine rc_i (Af := fun φ => [.ref (φ 12 i0), .int v4_110]) X hW hS ⟨Nat.zero_le _, Nat.zero_le _⟩ (rn_V (As := [.int v4_110]) (rest := []) X hW hS cw_12_355 (gq g61 al_0) rfl rfl rfl ⟨Nat.le_of_ble_eq_true rfl, Nat.le_of_ble_eq_true rfl⟩ rfl hl.1 rfl (Nat.le_of_ble_eq_true rfl) dX12_needs_158) (ok_X12_nextMelt i0 v4_110 (gq g61 al_0) e70) (fun H locs hW hS => ?_)
              refine lv_goto (tgt := 165) hx hb dX12_needs_161 (by decide) ?_
              refine lv_istore (lv' := [(7, .int x71), (2, .long x68), (0, .ref (φ 12 i0)), (1, .int a1), (4, .int v4_110), (5, .long v5_110)]) hx hb dX12_needs_165 hl (by decide) rfl (fun ls hl => ?_)
              refine lv_goto (tgt := 112) hx hb dX12_needs_167 (by decide) ?_
              obtain rfl := sj hF
              exact hK _ _ _ (wdW (sq g61 gj110) hW) hS (lv_sub hl [2, 3, 1, 4, 5, 0] rfl)
        · intro H locs ls hW hS hl
          obtain ⟨x77, d78⟩ := q74
          have hF := u2d hF
          obtain ⟨h79, e90, hF⟩ := nmx hF
          have hW := nmW e90 hW
          have g80 : h79.2.2 = h.2.2 := by rw [e90]; exact gj110
          have hl : lv_has ls 8 [(0, .ref (φ 12 i0)), (1, .int a1), (2, .long x77), (4, .int v4_110), (5, .long v5_110)] := hl
          refine lv_lload_n hx hb dX12_needs_170 rfl (lv_at hl 2 rfl) ?_
          refine lv_lload hx hb dX12_needs_171 (lv_at hl 4 rfl) ?_
          refine W.lcmp hx hb dX12_needs_173 ?_
          refine lv_if_ge (tgt := 216) hx hb dX12_needs_174 (by decide) (fun c89 => ?_) (fun c89 => ?_)
          · have hF := it c89 hF
            refine lv_lload_n hx hb dX12_needs_216 rfl (lv_at hl 2 rfl) ?_
            refine lv_lload hx hb dX12_needs_217 (lv_at hl 4 rfl) ?_
            refine lv_lsub hx hb dX12_needs_219 ?_
            obtain ⟨x81, e82, hF⟩ := nmx hF
            refine nml e82 ?_
            refine lv_lstore_n (lv' := [(2, .long x81), (0, .ref (φ 12 i0)), (1, .int a1), (4, .int v4_110), (5, .long v5_110)]) hx hb dX12_needs_220 rfl hl (by decide) rfl (fun ls hl => ?_)
            obtain ⟨x83, e84, hF⟩ := nmx hF
            refine lv_iinc (v := x83) (lv' := [(4, .int x83), (2, .long x81), (0, .ref (φ 12 i0)), (1, .int a1), (5, .long v5_110)]) hx hb dX12_needs_221 hl (k := 3) rfl (by rw [e84]; rfl) (by decide) rfl (fun ls hl => ?_)
            refine lv_goto (tgt := 48) hx hb dX12_needs_224 (by decide) ?_
            obtain rfl := sj hF
            exact hK _ _ _ (wdW (sq g80 g36) hW) hS (lv_sub hl [2, 3, 1, 0] rfl)
          · have hF := ie c89 hF
            refine lv_aload_n hx hb dX12_needs_177 rfl (lv_at hl 0 rfl) ?_
            refine lv_dup hx hb dX12_needs_178 rfl ?_
            refine r_getl X hW (gq g80 al_0) fl_12_345 dX12_needs_179 ?_
            refine lv_lload hx hb dX12_needs_182 (lv_at hl 4 rfl) ?_
            refine lv_lload_n hx hb dX12_needs_184 rfl (lv_at hl 2 rfl) ?_
            refine lv_lsub hx hb dX12_needs_185 ?_
            refine lv_ladd hx hb dX12_needs_186 ?_
            refine r_putl X hW hS (gq g80 al_0) fp_12_345 dX12_needs_187 (fun H locs hW hS => ?_)
            obtain ⟨h85, e86, hF⟩ := nmx hF
            have hW := nmW e86 hW
            have g87 : h85.2.2 = h.2.2 := by rw [e86]; exact g80
            refine lv_aload_n hx hb dX12_needs_190 rfl (lv_at hl 0 rfl) ?_
            refine lv_aload_n hx hb dX12_needs_191 rfl (lv_at hl 0 rfl) ?_
            refine r_geti X hW (gq g87 al_0) fl_12_349 dX12_needs_192 ?_
            refine lv_iconst (v := (-1)) hx hb dX12_needs_195 (by decide) ?_
            refine lv_icmp_ne (tgt := 204) hx hb dX12_needs_196 (by decide) (fun c88 => ?_) (fun c88 => ?_)
            · have hF := ie c88 hF
              refine lv_aload_n hx hb dX12_needs_204 rfl (lv_at hl 0 rfl) ?_
              refine r_geti X hW (gq g87 al_0) fl_12_349 dX12_needs_205 ?_
              exact j_208 v4_110 (gi h85 12 i0 51) i0 h85 _ _ _ g87 al_0 hF hW hS (lv_sub hl [0, 1, 3] rfl)
            · have hF := it c88 hF
              refine lv_iload hx hb dX12_needs_199 (lv_at hl 3 rfl) ?_
              refine lv_goto (tgt := 208) hx hb dX12_needs_201 (by decide) ?_
              exact j_208 v4_110 v4_110 i0 h85 _ _ _ g87 al_0 hF hW hS (lv_sub hl [0, 1, 3] rfl)
      have j_91 : ∀ (v2_91 : Int64) (v4_91 : Int32) (t0_91 : Int64) (hj91 : HP) (H : Heap) (locs : List Loc) (ls : Array Slot), hj91.2.2 = h.2.2 → J_X12_needs_91 i0 a1 v2_91 v4_91 t0_91 hj91 = some v → HW D cA A φ hj91 H → va_S A s.heap H locs → lv_has ls 8 [(0, .ref (φ 12 i0)), (1, .int a1), (2, .long v2_91), (4, .int v4_91)] → W p l e (rmo 4 97 0 0) s m args below meth c H locs 0 0 Q (F0 m 91 ls [.long t0_91]) := by
        intro v2_91 v4_91 t0_91 hj91 H locs ls gj91 hF hW hS hl
        unfold J_X12_needs_91 at hF
        refine lv_lstore (lv' := [(5, .long t0_91), (0, .ref (φ 12 i0)), (1, .int a1), (2, .long v2_91), (4, .int v4_91)]) hx hb dX12_needs_91 hl (by decide) rfl (fun ls hl => ?_)
        refine lv_lload_n hx hb dX12_needs_93 rfl (lv_at hl 3 rfl) ?_
        refine lv_lload hx hb dX12_needs_94 (lv_at hl 0 rfl) ?_
        refine W.lcmp hx hb dX12_needs_96 ?_
        refine lv_if_ge (tgt := 109) hx hb dX12_needs_97 (by decide) (fun c93 => ?_) (fun c93 => ?_)
        · have hF := it c93 hF
          refine lv_iconst (v := (-1)) hx hb dX12_needs_109 (by decide) ?_
          exact j_110 v2_91 v4_91 t0_91 (-1) hj91 _ _ _ gj91 hF hW hS (lv_sub hl [1, 2, 3, 4, 0] rfl)
        · have hF := ie c93 hF
          refine lv_aload_n hx hb dX12_needs_100 rfl (lv_at hl 1 rfl) ?_
          refine lv_iload hx hb dX12_needs_101 (lv_at hl 4 rfl) ?_
          obtain ⟨x92, e91, hF⟩ := bn hF
          refine rc_i (Af := fun φ => [.ref (φ 12 i0), .int v4_91]) X hW hS ⟨Nat.zero_le _, Nat.zero_le _⟩ (rn_V (As := [.int v4_91]) (rest := []) X hW hS cw_12_355 (gq gj91 al_0) rfl rfl rfl ⟨Nat.le_of_ble_eq_true rfl, Nat.le_of_ble_eq_true rfl⟩ rfl hl.1 rfl (Nat.le_of_ble_eq_true rfl) dX12_needs_103) (ok_X12_nextMelt i0 v4_91 (gq gj91 al_0) e91) (fun H locs hW hS => ?_)
          refine lv_goto (tgt := 110) hx hb dX12_needs_106 (by decide) ?_
          exact j_110 v2_91 v4_91 t0_91 x92 hj91 _ _ _ gj91 hF hW hS (lv_sub hl [1, 2, 3, 4, 0] rfl)
      refine lv_iload hx hb dX12_needs_48 (lv_at hl 3 rfl) ?_
      refine lv_aload_n hx hb dX12_needs_50 rfl (lv_at hl 0 rfl) ?_
      obtain ⟨o94, e95, hF⟩ := bn hF
      refine r_getr X hW (gq g40 al_0) fl_12_13 e95 dX12_needs_51 (fun al96 => ?_)
      have al96 := qg g40 al96
      refine lv_iload_n hx hb dX12_needs_54 rfl (lv_at hl 1 rfl) ?_
      obtain ⟨x97, e98, hF⟩ := bn hF
      obtain ⟨b99, e98⟩ := ga_s e98
      refine r_iald X hW (gq g40 al96) rfl b99 dX12_needs_55 ?_
      refine nmi e98 ?_
      refine lv_icmp_ge (tgt := 227) hx hb dX12_needs_56 (by decide) (fun c113 => ?_) (fun c113 => ?_)
      · have hF := it c113 hF
        obtain rfl := sj hF
        exact hK _ _ _ (wdW (sq g40 g36) hW) hS (lv_sub hl [] rfl)
      · have hF := ie c113 hF
        refine lv_aload_n hx hb dX12_needs_59 rfl (lv_at hl 0 rfl) ?_
        obtain ⟨o100, e101, hF⟩ := bn hF
        refine r_getr X hW (gq g40 al_0) fl_12_16 e101 dX12_needs_60 (fun al102 => ?_)
        have al102 := qg g40 al102
        refine lv_bipush (v := 60) hx hb dX12_needs_63 (by decide) ?_
        refine lv_iload_n hx hb dX12_needs_65 rfl (lv_at hl 1 rfl) ?_
        refine lv_imul hx hb dX12_needs_66 ?_
        refine lv_iload hx hb dX12_needs_67 (lv_at hl 3 rfl) ?_
        refine lv_iadd hx hb dX12_needs_69 ?_
        obtain ⟨x103, e104, hF⟩ := bn hF
        obtain ⟨b105, e104⟩ := ga_s e104
        refine r_iald X hW (gq g40 al102) rfl b105 dX12_needs_70 ?_
        refine nmi e104 ?_
        refine lv_if_ge (tgt := 78) hx hb dX12_needs_71 (by decide) (fun c112 => ?_) (fun c112 => ?_)
        · have hF := it c112 hF
          refine lv_aload_n hx hb dX12_needs_78 rfl (lv_at hl 0 rfl) ?_
          obtain ⟨o106, e107, hF⟩ := bn hF
          refine r_getr X hW (gq g40 al_0) fl_12_16 e107 dX12_needs_79 (fun al108 => ?_)
          have al108 := qg g40 al108
          refine lv_bipush (v := 60) hx hb dX12_needs_82 (by decide) ?_
          refine lv_iload_n hx hb dX12_needs_84 rfl (lv_at hl 1 rfl) ?_
          refine lv_imul hx hb dX12_needs_85 ?_
          refine lv_iload hx hb dX12_needs_86 (lv_at hl 3 rfl) ?_
          refine lv_iadd hx hb dX12_needs_88 ?_
          obtain ⟨x109, e110, hF⟩ := bn hF
          obtain ⟨b111, e110⟩ := ga_s e110
          refine r_iald X hW (gq g40 al108) rfl b111 dX12_needs_89 ?_
          refine nmi e110 ?_
          refine lv_i2l (v := (x109).toInt64) hx hb dX12_needs_90 rfl ?_
          exact j_91 x37 x38 ((x109).toInt64) h39 _ _ _ g40 hF hW hS (lv_sub hl [0, 1, 2, 3] rfl)
        · have hF := ie c112 hF
          refine lv_lconst (v := 0) hx hb dX12_needs_74 (by decide) ?_
          refine lv_goto (tgt := 91) hx hb dX12_needs_75 (by decide) ?_
          exact j_91 x37 x38 0 h39 _ _ _ g40 hF hW hS (lv_sub hl [0, 1, 2, 3] rfl)
    · intro H locs ls hW hS hl
      obtain ⟨d117, rfl⟩ : ∃ z, z = q114 := ⟨_, rfl⟩
      obtain ⟨h118, e120, hF⟩ := nmx hF
      have hW := nmW e120 hW
      have g119 : h118.2.2 = h.2.2 := by rw [e120]; exact g36
      have hl : lv_has ls 8 [] := hl
      obtain rfl := sj hF
      exact hfin _ _ _ _ (wdW g119 hW) hS dX12_needs_227
def F_X12_melts (i0 : Nat) (a1 : Int32) (a2 : Int32) (h : HP) : Option (Int32 × DP) :=
  (F_X12_isSheet a1).bind fun x2 =>
  (if x2 = 0 then
  some ((-2), dp h)
  else
  (F_X12_isBell i0 a2 h).bind fun x4 =>
  (if x4 = 0 then
  some ((-2), dp h)
  else
  (gr h 12 i0 0).bind fun o5 =>
  (ga h 45 o5 4 a1).bind fun x8 =>
  (if 0 ≤ x8 then
  (F_X12_needs i0 a1 h).bind fun d15 => nm (wd h d15) fun h12 =>
  (gr h12 12 i0 49).bind fun o16 =>
  (ga h12 77 o16 20 a2).bind fun x19 =>
  some (x19, dp h12)
  else
  (F_X12_met i0 1 h).bind fun q27 => u2 q27 fun x28 d26 => nm (wd h d26) fun h23 =>
  some (x28, dp h23))))
set_option maxHeartbeats 4000000 in
set_option maxRecDepth 100000 in
theorem ok_X12_melts {l : Launch} {D : va_G} {cA : Nat → ClassId} {h : HP} {r : Int32} {d : DP} (i0 : Nat) (a1 : Int32) (a2 : Int32) (al_0 : i0 < gn h 12) (hF : F_X12_melts i0 a1 a2 h = some (r, d)) : MI l D cA yX12_melts cX12_melts 3 (some .int) 5 124 (fun φ => [.ref (φ 12 i0), .int a1, .int a2]) h r (wd h d) := by
  refine mk_I (plainFor_of_name (by decide)) (fun φ => Nat.le_of_ble_eq_true rfl) ?_
  intro p e s m args below meth c ls φ A Q X hW hS hl hfin
  have hx := X.1
  have hb := X.2.1
  have hl : lv_has ls 3 [(0, .ref (φ 12 i0)), (1, .int a1), (2, .int a2)] := hl
  unfold F_X12_melts at hF
  refine lv_iload_n hx hb dX12_melts_0 rfl (lv_at hl 1 rfl) ?_
  obtain ⟨x2, e1, hF⟩ := bn hF
  refine rc_i (Af := fun φ => [.int a1]) X hW hS ⟨Nat.zero_le _, Nat.zero_le _⟩ (rn_S (As := [.int a1]) (rest := []) X hW hS cw_12_143 ⟨Nat.le_of_ble_eq_true rfl, Nat.le_of_ble_eq_true rfl⟩ rfl hl.1 rfl (Nat.le_of_ble_eq_true rfl) dX12_melts_1) (ok_X12_isSheet a1 e1) (fun H locs hW hS => ?_)
  refine lv_if_eq (tgt := 15) hx hb dX12_melts_4 (by decide) (fun c31 => ?_) (fun c31 => ?_)
  · have hF := it c31 hF
    refine lv_bipush (v := (-2)) hx hb dX12_melts_15 (by decide) ?_
    obtain ⟨rfl, rfl⟩ := sj2 hF
    exact hfin _ _ _ _ (wdW rfl hW) hS dX12_melts_17
  · have hF := ie c31 hF
    refine lv_aload_n hx hb dX12_melts_7 rfl (lv_at hl 0 rfl) ?_
    refine lv_iload_n hx hb dX12_melts_8 rfl (lv_at hl 2 rfl) ?_
    obtain ⟨x4, e3, hF⟩ := bn hF
    refine rc_i (Af := fun φ => [.ref (φ 12 i0), .int a2]) X hW hS ⟨Nat.zero_le _, Nat.zero_le _⟩ (rn_V (As := [.int a2]) (rest := []) X hW hS cw_12_190 al_0 rfl rfl rfl ⟨Nat.le_of_ble_eq_true rfl, Nat.le_of_ble_eq_true rfl⟩ rfl hl.1 rfl (Nat.le_of_ble_eq_true rfl) dX12_melts_9) (ok_X12_isBell i0 a2 al_0 e3) (fun H locs hW hS => ?_)
    refine lv_if_ne (tgt := 18) hx hb dX12_melts_12 (by decide) (fun c30 => ?_) (fun c30 => ?_)
    · have hF := ie c30 hF
      refine lv_aload_n hx hb dX12_melts_18 rfl (lv_at hl 0 rfl) ?_
      obtain ⟨o5, e6, hF⟩ := bn hF
      refine r_getr X hW al_0 fl_12_7 e6 dX12_melts_19 (fun al7 => ?_)
      refine lv_iload_n hx hb dX12_melts_22 rfl (lv_at hl 1 rfl) ?_
      obtain ⟨x8, e9, hF⟩ := bn hF
      obtain ⟨b10, e9⟩ := ga_s e9
      refine r_iald X hW al7 rfl b10 dX12_melts_23 ?_
      refine nmi e9 ?_
      refine lv_if_ge (tgt := 33) hx hb dX12_melts_24 (by decide) (fun c29 => ?_) (fun c29 => ?_)
      · have hF := it c29 hF
        refine lv_aload_n hx hb dX12_melts_33 rfl (lv_at hl 0 rfl) ?_
        refine lv_iload_n hx hb dX12_melts_34 rfl (lv_at hl 1 rfl) ?_
        obtain ⟨d15, e11, hF⟩ := bn hF
        refine rc_v (Af := fun φ => [.ref (φ 12 i0), .int a1]) X hW hS ⟨Nat.zero_le _, Nat.zero_le _⟩ (rn_V (As := [.int a1]) (rest := []) X hW hS cw_12_358 al_0 rfl rfl rfl ⟨Nat.le_of_ble_eq_true rfl, Nat.le_of_ble_eq_true rfl⟩ rfl hl.1 rfl (Nat.le_of_ble_eq_true rfl) dX12_melts_35) (ok_X12_needs i0 a1 al_0 e11) (fun H locs hW hS => ?_)
        obtain ⟨h12, e14, hF⟩ := nmx hF
        have hW := nmW e14 hW
        have g13 : h12.2.2 = h.2.2 := by rw [e14]; exact rfl
        refine lv_aload_n hx hb dX12_melts_38 rfl (lv_at hl 0 rfl) ?_
        obtain ⟨o16, e17, hF⟩ := bn hF
        refine r_getr X hW (gq g13 al_0) fl_12_113 e17 dX12_melts_39 (fun al18 => ?_)
        have al18 := qg g13 al18
        refine lv_iload_n hx hb dX12_melts_42 rfl (lv_at hl 2 rfl) ?_
        obtain ⟨x19, e20, hF⟩ := bn hF
        obtain ⟨b21, e20⟩ := ga_s e20
        refine r_iald X hW (gq g13 al18) rfl b21 dX12_melts_43 ?_
        refine nmi e20 ?_
        obtain ⟨rfl, rfl⟩ := sj2 hF
        exact hfin _ _ _ _ (wdW g13 hW) hS dX12_melts_44
      · have hF := ie c29 hF
        refine lv_aload_n hx hb dX12_melts_27 rfl (lv_at hl 0 rfl) ?_
        refine lv_iconst (v := 1) hx hb dX12_melts_28 (by decide) ?_
        obtain ⟨q27, e22, hF⟩ := bn hF
        obtain ⟨x28, d26⟩ := q27
        have hF := u2d hF
        refine rc_i (Af := fun φ => [.ref (φ 12 i0), .int 1]) X hW hS ⟨Nat.zero_le _, Nat.zero_le _⟩ (rn_V (As := [.int 1]) (rest := []) X hW hS cw_12_149 al_0 rfl rfl rfl ⟨Nat.le_of_ble_eq_true rfl, Nat.le_of_ble_eq_true rfl⟩ rfl hl.1 rfl (Nat.le_of_ble_eq_true rfl) dX12_melts_29) (ok_X12_met i0 1 al_0 e22) (fun H locs hW hS => ?_)
        obtain ⟨h23, e25, hF⟩ := nmx hF
        have hW := nmW e25 hW
        have g24 : h23.2.2 = h.2.2 := by rw [e25]; exact rfl
        obtain ⟨rfl, rfl⟩ := sj2 hF
        exact hfin _ _ _ _ (wdW g24 hW) hS dX12_melts_32
    · have hF := it c30 hF
      refine lv_bipush (v := (-2)) hx hb dX12_melts_15 (by decide) ?_
      obtain ⟨rfl, rfl⟩ := sj2 hF
      exact hfin _ _ _ _ (wdW rfl hW) hS dX12_melts_17
def F_X12_shorts (i0 : Nat) (a1 : Int32) (a2 : Int32) (h : HP) : Option (Int32 × DP) :=
  (F_X12_isSheet a1).bind fun x2 =>
  (if x2 = 0 then
  some ((-2), dp h)
  else
  (F_X12_in ((a2).toInt64) 0 2).bind fun x4 =>
  (if x4 = 0 then
  some ((-2), dp h)
  else
  (gr h 12 i0 0).bind fun o5 =>
  (ga h 45 o5 4 a1).bind fun x8 =>
  (if 0 ≤ x8 then
  (F_X12_needs i0 a1 h).bind fun d15 => nm (wd h d15) fun h12 =>
  (if a2 = 0 then
  (if (lg_cmp (gl h12 12 i0 50) 1000000000) ≤ 0 then
  some (((gl h12 12 i0 50)).toInt32, dp h12)
  else
  some ((1000000000).toInt32, dp h12))
  else
  (if a2 = 1 then
  some ((gi h12 12 i0 51), dp h12)
  else
  some ((gi h12 12 i0 52), dp h12)))
  else
  (F_X12_met i0 1 h).bind fun q24 => u2 q24 fun x25 d23 => nm (wd h d23) fun h20 =>
  some (x25, dp h20))))
set_option maxHeartbeats 4000000 in
set_option maxRecDepth 100000 in
theorem ok_X12_shorts {l : Launch} {D : va_G} {cA : Nat → ClassId} {h : HP} {r : Int32} {d : DP} (i0 : Nat) (a1 : Int32) (a2 : Int32) (al_0 : i0 < gn h 12) (hF : F_X12_shorts i0 a1 a2 h = some (r, d)) : MI l D cA yX12_shorts cX12_shorts 3 (some .int) 5 124 (fun φ => [.ref (φ 12 i0), .int a1, .int a2]) h r (wd h d) := by
  refine mk_I (plainFor_of_name (by decide)) (fun φ => Nat.le_of_ble_eq_true rfl) ?_
  intro p e s m args below meth c ls φ A Q X hW hS hl hfin
  have hx := X.1
  have hb := X.2.1
  have hl : lv_has ls 3 [(0, .ref (φ 12 i0)), (1, .int a1), (2, .int a2)] := hl
  unfold F_X12_shorts at hF
  refine lv_iload_n hx hb dX12_shorts_0 rfl (lv_at hl 1 rfl) ?_
  obtain ⟨x2, e1, hF⟩ := bn hF
  refine rc_i (Af := fun φ => [.int a1]) X hW hS ⟨Nat.zero_le _, Nat.zero_le _⟩ (rn_S (As := [.int a1]) (rest := []) X hW hS cw_12_143 ⟨Nat.le_of_ble_eq_true rfl, Nat.le_of_ble_eq_true rfl⟩ rfl hl.1 rfl (Nat.le_of_ble_eq_true rfl) dX12_shorts_1) (ok_X12_isSheet a1 e1) (fun H locs hW hS => ?_)
  refine lv_if_eq (tgt := 19) hx hb dX12_shorts_4 (by decide) (fun c28 => ?_) (fun c28 => ?_)
  · have hF := it c28 hF
    refine lv_bipush (v := (-2)) hx hb dX12_shorts_19 (by decide) ?_
    obtain ⟨rfl, rfl⟩ := sj2 hF
    exact hfin _ _ _ _ (wdW rfl hW) hS dX12_shorts_21
  · have hF := ie c28 hF
    refine lv_iload_n hx hb dX12_shorts_7 rfl (lv_at hl 2 rfl) ?_
    refine lv_i2l (v := (a2).toInt64) hx hb dX12_shorts_8 rfl ?_
    refine lv_lconst (v := 0) hx hb dX12_shorts_9 (by decide) ?_
    refine lv_ldc2 (v := 2) hx hb X.2.2.2.1 (X.2.2.2.2.1 _ (AL_of 1179 (by decide +kernel) rfl)) dX12_shorts_10 ?_
    obtain ⟨x4, e3, hF⟩ := bn hF
    refine rc_i (Af := fun φ => [.long ((a2).toInt64), .long 0, .long 2]) X hW hS ⟨Nat.zero_le _, Nat.zero_le _⟩ (rn_S (As := [.long ((a2).toInt64), .long 0, .long 2]) (rest := []) X hW hS cw_12_139 ⟨Nat.le_of_ble_eq_true rfl, Nat.le_of_ble_eq_true rfl⟩ rfl hl.1 rfl (Nat.le_of_ble_eq_true rfl) dX12_shorts_13) (ok_X12_in ((a2).toInt64) 0 2 e3) (fun H locs hW hS => ?_)
    refine lv_if_ne (tgt := 22) hx hb dX12_shorts_16 (by decide) (fun c27 => ?_) (fun c27 => ?_)
    · have hF := ie c27 hF
      refine lv_aload_n hx hb dX12_shorts_22 rfl (lv_at hl 0 rfl) ?_
      obtain ⟨o5, e6, hF⟩ := bn hF
      refine r_getr X hW al_0 fl_12_7 e6 dX12_shorts_23 (fun al7 => ?_)
      refine lv_iload_n hx hb dX12_shorts_26 rfl (lv_at hl 1 rfl) ?_
      obtain ⟨x8, e9, hF⟩ := bn hF
      obtain ⟨b10, e9⟩ := ga_s e9
      refine r_iald X hW al7 rfl b10 dX12_shorts_27 ?_
      refine nmi e9 ?_
      refine lv_if_ge (tgt := 37) hx hb dX12_shorts_28 (by decide) (fun c26 => ?_) (fun c26 => ?_)
      · have hF := it c26 hF
        refine lv_aload_n hx hb dX12_shorts_37 rfl (lv_at hl 0 rfl) ?_
        refine lv_iload_n hx hb dX12_shorts_38 rfl (lv_at hl 1 rfl) ?_
        obtain ⟨d15, e11, hF⟩ := bn hF
        refine rc_v (Af := fun φ => [.ref (φ 12 i0), .int a1]) X hW hS ⟨Nat.zero_le _, Nat.zero_le _⟩ (rn_V (As := [.int a1]) (rest := []) X hW hS cw_12_358 al_0 rfl rfl rfl ⟨Nat.le_of_ble_eq_true rfl, Nat.le_of_ble_eq_true rfl⟩ rfl hl.1 rfl (Nat.le_of_ble_eq_true rfl) dX12_shorts_39) (ok_X12_needs i0 a1 al_0 e11) (fun H locs hW hS => ?_)
        obtain ⟨h12, e14, hF⟩ := nmx hF
        have hW := nmW e14 hW
        have g13 : h12.2.2 = h.2.2 := by rw [e14]; exact rfl
        refine lv_iload_n hx hb dX12_shorts_42 rfl (lv_at hl 2 rfl) ?_
        refine lv_if_ne (tgt := 71) hx hb dX12_shorts_43 (by decide) (fun c18 => ?_) (fun c18 => ?_)
        · have hF := ie c18 hF
          refine lv_iload_n hx hb dX12_shorts_71 rfl (lv_at hl 2 rfl) ?_
          refine lv_iconst (v := 1) hx hb dX12_shorts_72 (by decide) ?_
          refine lv_icmp_ne (tgt := 83) hx hb dX12_shorts_73 (by decide) (fun c16 => ?_) (fun c16 => ?_)
          · have hF := ie c16 hF
            refine lv_aload_n hx hb dX12_shorts_83 rfl (lv_at hl 0 rfl) ?_
            refine r_geti X hW (gq g13 al_0) fl_12_352 dX12_shorts_84 ?_
            obtain ⟨rfl, rfl⟩ := sj2 hF
            exact hfin _ _ _ _ (wdW g13 hW) hS dX12_shorts_87
          · have hF := it c16 hF
            refine lv_aload_n hx hb dX12_shorts_76 rfl (lv_at hl 0 rfl) ?_
            refine r_geti X hW (gq g13 al_0) fl_12_349 dX12_shorts_77 ?_
            refine lv_goto (tgt := 87) hx hb dX12_shorts_80 (by decide) ?_
            obtain ⟨rfl, rfl⟩ := sj2 hF
            exact hfin _ _ _ _ (wdW g13 hW) hS dX12_shorts_87
        · have hF := it c18 hF
          refine lv_aload_n hx hb dX12_shorts_46 rfl (lv_at hl 0 rfl) ?_
          refine r_getl X hW (gq g13 al_0) fl_12_345 dX12_shorts_47 ?_
          refine lv_ldc2 (v := 1000000000) hx hb X.2.2.2.1 (X.2.2.2.2.1 _ (AL_of 1484 (by decide +kernel) rfl)) dX12_shorts_50 ?_
          refine W.lcmp hx hb dX12_shorts_53 ?_
          refine lv_if_le (tgt := 63) hx hb dX12_shorts_54 (by decide) (fun c17 => ?_) (fun c17 => ?_)
          · have hF := it c17 hF
            refine lv_aload_n hx hb dX12_shorts_63 rfl (lv_at hl 0 rfl) ?_
            refine r_getl X hW (gq g13 al_0) fl_12_345 dX12_shorts_64 ?_
            refine lv_l2i (v := ((gl h12 12 i0 50)).toInt32) hx hb dX12_shorts_67 rfl ?_
            refine lv_goto (tgt := 87) hx hb dX12_shorts_68 (by decide) ?_
            obtain ⟨rfl, rfl⟩ := sj2 hF
            exact hfin _ _ _ _ (wdW g13 hW) hS dX12_shorts_87
          · have hF := ie c17 hF
            refine lv_ldc2 (v := 1000000000) hx hb X.2.2.2.1 (X.2.2.2.2.1 _ (AL_of 1484 (by decide +kernel) rfl)) dX12_shorts_57 ?_
            refine lv_goto (tgt := 67) hx hb dX12_shorts_60 (by decide) ?_
            refine lv_l2i (v := (1000000000).toInt32) hx hb dX12_shorts_67 rfl ?_
            refine lv_goto (tgt := 87) hx hb dX12_shorts_68 (by decide) ?_
            obtain ⟨rfl, rfl⟩ := sj2 hF
            exact hfin _ _ _ _ (wdW g13 hW) hS dX12_shorts_87
      · have hF := ie c26 hF
        refine lv_aload_n hx hb dX12_shorts_31 rfl (lv_at hl 0 rfl) ?_
        refine lv_iconst (v := 1) hx hb dX12_shorts_32 (by decide) ?_
        obtain ⟨q24, e19, hF⟩ := bn hF
        obtain ⟨x25, d23⟩ := q24
        have hF := u2d hF
        refine rc_i (Af := fun φ => [.ref (φ 12 i0), .int 1]) X hW hS ⟨Nat.zero_le _, Nat.zero_le _⟩ (rn_V (As := [.int 1]) (rest := []) X hW hS cw_12_149 al_0 rfl rfl rfl ⟨Nat.le_of_ble_eq_true rfl, Nat.le_of_ble_eq_true rfl⟩ rfl hl.1 rfl (Nat.le_of_ble_eq_true rfl) dX12_shorts_33) (ok_X12_met i0 1 al_0 e19) (fun H locs hW hS => ?_)
        obtain ⟨h20, e22, hF⟩ := nmx hF
        have hW := nmW e22 hW
        have g21 : h20.2.2 = h.2.2 := by rw [e22]; exact rfl
        obtain ⟨rfl, rfl⟩ := sj2 hF
        exact hfin _ _ _ _ (wdW g21 hW) hS dX12_shorts_36
    · have hF := it c27 hF
      refine lv_bipush (v := (-2)) hx hb dX12_shorts_19 (by decide) ?_
      obtain ⟨rfl, rfl⟩ := sj2 hF
      exact hfin _ _ _ _ (wdW rfl hW) hS dX12_shorts_21
def J_X12_send_70 (i0 : Nat) (a1 : Int32) (a2 : Int32) (a3 : Int32) (t0_70 : Int32) (hj70 : HP) : Option (Int32 × DP) :=
  (if a2 = 0 then
  (gr hj70 12 i0 15).bind fun o8 =>
  (sa hj70 56 o8 20 a1 a3).bind fun h11 =>
  some (t0_70, dp h11)
  else
  (gr hj70 12 i0 16).bind fun o1 =>
  (sa hj70 57 o1 20 a1 a3).bind fun h4 =>
  some (t0_70, dp h4))
def J_X12_send_42 (i0 : Nat) (a1 : Int32) (a2 : Int32) (a3 : Int32) (t0_42 : Int64) (t1_42 : Int64) (t2_42 : Int64) (hj42 : HP) : Option (Int32 × DP) :=
  (F_X12_in t2_42 t1_42 t0_42).bind fun x17 =>
  (if x17 = 0 then
  some ((-2), dp hj42)
  else
  (if a2 = 0 then
  (gr hj42 12 i0 15).bind fun o24 =>
  (ga hj42 56 o24 20 a1).bind fun x27 =>
  J_X12_send_70 i0 a1 a2 a3 x27 hj42
  else
  (gr hj42 12 i0 16).bind fun o18 =>
  (ga hj42 57 o18 20 a1).bind fun x21 =>
  J_X12_send_70 i0 a1 a2 a3 x21 hj42))
def J_X12_send_29 (i0 : Nat) (a1 : Int32) (a2 : Int32) (a3 : Int32) (t0_29 : Int64) (t1_29 : Int64) (hj29 : HP) : Option (Int32 × DP) :=
  (if a2 = 0 then
  J_X12_send_42 i0 a1 a2 a3 99 t0_29 t1_29 hj29
  else
  J_X12_send_42 i0 a1 a2 a3 999 t0_29 t1_29 hj29)
def F_X12_send (i0 : Nat) (a1 : Int32) (a2 : Int32) (a3 : Int32) (h : HP) : Option (Int32 × DP) :=
  (F_X12_isBell i0 a1 h).bind fun x34 =>
  (if x34 = 0 then
  some ((-2), dp h)
  else
  (F_X12_in ((a2).toInt64) 0 1).bind fun x36 =>
  (if x36 = 0 then
  some ((-2), dp h)
  else
  (if a2 = 0 then
  J_X12_send_29 i0 a1 a2 a3 1 ((a3).toInt64) h
  else
  J_X12_send_29 i0 a1 a2 a3 0 ((a3).toInt64) h)))
set_option maxHeartbeats 4000000 in
set_option maxRecDepth 100000 in
theorem ok_X12_send {l : Launch} {D : va_G} {cA : Nat → ClassId} {h : HP} {r : Int32} {d : DP} (i0 : Nat) (a1 : Int32) (a2 : Int32) (a3 : Int32) (al_0 : i0 < gn h 12) (hF : F_X12_send i0 a1 a2 a3 h = some (r, d)) : MI l D cA yX12_send cX12_send 5 (some .int) 2 46 (fun φ => [.ref (φ 12 i0), .int a1, .int a2, .int a3]) h r (wd h d) := by
  refine mk_I (plainFor_of_name (by decide)) (fun φ => Nat.le_of_ble_eq_true rfl) ?_
  intro p e s m args below meth c ls φ A Q X hW hS hl hfin
  have hx := X.1
  have hb := X.2.1
  have hl : lv_has ls 5 [(0, .ref (φ 12 i0)), (1, .int a1), (2, .int a2), (3, .int a3)] := hl
  unfold F_X12_send at hF
  have j_70 : ∀ (t0_70 : Int32) (hj70 : HP) (H : Heap) (locs : List Loc) (ls : Array Slot), hj70.2.2 = h.2.2 → J_X12_send_70 i0 a1 a2 a3 t0_70 hj70 = some (r, d) → HW D cA A φ hj70 H → va_S A s.heap H locs → lv_has ls 5 [(0, .ref (φ 12 i0)), (1, .int a1), (2, .int a2), (3, .int a3)] → W p l e (rmo 2 46 0 0) s m args below meth c H locs 0 0 Q (F0 m 70 ls [.int t0_70]) := by
    intro t0_70 hj70 H locs ls gj70 hF hW hS hl
    unfold J_X12_send_70 at hF
    refine lv_istore (lv' := [(4, .int t0_70), (0, .ref (φ 12 i0)), (1, .int a1), (2, .int a2), (3, .int a3)]) hx hb dX12_send_70 hl (by decide) rfl (fun ls hl => ?_)
    refine lv_iload_n hx hb dX12_send_72 rfl (lv_at hl 3 rfl) ?_
    refine lv_if_ne (tgt := 86) hx hb dX12_send_73 (by decide) (fun c15 => ?_) (fun c15 => ?_)
    · have hF := ie c15 hF
      refine lv_aload_n hx hb dX12_send_86 rfl (lv_at hl 1 rfl) ?_
      obtain ⟨o1, e2, hF⟩ := bn hF
      refine r_getr X hW (gq gj70 al_0) fl_12_46 e2 dX12_send_87 (fun al3 => ?_)
      have al3 := qg gj70 al3
      refine lv_iload_n hx hb dX12_send_90 rfl (lv_at hl 2 rfl) ?_
      refine lv_iload_n hx hb dX12_send_91 rfl (lv_at hl 4 rfl) ?_
      obtain ⟨h4, e5, hF⟩ := bn hF
      obtain ⟨b6, e5⟩ := sa_s e5
      refine r_iast X hW hS (gq gj70 al3) rfl b6 dX12_send_92 (fun H locs hW hS => ?_)
      have hW := nmW e5 hW
      have g7 : h4.2.2 = h.2.2 := by rw [e5]; exact gj70
      refine lv_iload hx hb dX12_send_93 (lv_at hl 0 rfl) ?_
      obtain ⟨rfl, rfl⟩ := sj2 hF
      exact hfin _ _ _ _ (wdW g7 hW) hS dX12_send_95
    · have hF := it c15 hF
      refine lv_aload_n hx hb dX12_send_76 rfl (lv_at hl 1 rfl) ?_
      obtain ⟨o8, e9, hF⟩ := bn hF
      refine r_getr X hW (gq gj70 al_0) fl_12_43 e9 dX12_send_77 (fun al10 => ?_)
      have al10 := qg gj70 al10
      refine lv_iload_n hx hb dX12_send_80 rfl (lv_at hl 2 rfl) ?_
      refine lv_iload_n hx hb dX12_send_81 rfl (lv_at hl 4 rfl) ?_
      obtain ⟨h11, e12, hF⟩ := bn hF
      obtain ⟨b13, e12⟩ := sa_s e12
      refine r_iast X hW hS (gq gj70 al10) rfl b13 dX12_send_82 (fun H locs hW hS => ?_)
      have hW := nmW e12 hW
      have g14 : h11.2.2 = h.2.2 := by rw [e12]; exact gj70
      refine lv_goto (tgt := 93) hx hb dX12_send_83 (by decide) ?_
      refine lv_iload hx hb dX12_send_93 (lv_at hl 0 rfl) ?_
      obtain ⟨rfl, rfl⟩ := sj2 hF
      exact hfin _ _ _ _ (wdW g14 hW) hS dX12_send_95
  have j_42 : ∀ (t0_42 : Int64) (t1_42 : Int64) (t2_42 : Int64) (hj42 : HP) (H : Heap) (locs : List Loc) (ls : Array Slot), hj42.2.2 = h.2.2 → J_X12_send_42 i0 a1 a2 a3 t0_42 t1_42 t2_42 hj42 = some (r, d) → HW D cA A φ hj42 H → va_S A s.heap H locs → lv_has ls 5 [(0, .ref (φ 12 i0)), (1, .int a1), (2, .int a2), (3, .int a3)] → W p l e (rmo 2 46 0 0) s m args below meth c H locs 0 0 Q (F0 m 42 ls [.long t0_42, .long t1_42, .long t2_42]) := by
    intro t0_42 t1_42 t2_42 hj42 H locs ls gj42 hF hW hS hl
    unfold J_X12_send_42 at hF
    obtain ⟨x17, e16, hF⟩ := bn hF
    refine rc_i (Af := fun φ => [.long t2_42, .long t1_42, .long t0_42]) X hW hS ⟨Nat.zero_le _, Nat.zero_le _⟩ (rn_S (As := [.long t2_42, .long t1_42, .long t0_42]) (rest := []) X hW hS cw_12_139 ⟨Nat.le_of_ble_eq_true rfl, Nat.le_of_ble_eq_true rfl⟩ rfl hl.1 rfl (Nat.le_of_ble_eq_true rfl) dX12_send_42) (ok_X12_in t2_42 t1_42 t0_42 e16) (fun H locs hW hS => ?_)
    refine lv_if_ne (tgt := 51) hx hb dX12_send_45 (by decide) (fun c31 => ?_) (fun c31 => ?_)
    · have hF := ie c31 hF
      refine lv_iload_n hx hb dX12_send_51 rfl (lv_at hl 2 rfl) ?_
      refine lv_if_ne (tgt := 64) hx hb dX12_send_52 (by decide) (fun c30 => ?_) (fun c30 => ?_)
      · have hF := ie c30 hF
        refine lv_aload_n hx hb dX12_send_64 rfl (lv_at hl 0 rfl) ?_
        obtain ⟨o18, e19, hF⟩ := bn hF
        refine r_getr X hW (gq gj42 al_0) fl_12_46 e19 dX12_send_65 (fun al20 => ?_)
        have al20 := qg gj42 al20
        refine lv_iload_n hx hb dX12_send_68 rfl (lv_at hl 1 rfl) ?_
        obtain ⟨x21, e22, hF⟩ := bn hF
        obtain ⟨b23, e22⟩ := ga_s e22
        refine r_iald X hW (gq gj42 al20) rfl b23 dX12_send_69 ?_
        refine nmi e22 ?_
        exact j_70 x21 hj42 _ _ _ gj42 hF hW hS (lv_sub hl [0, 1, 2, 3] rfl)
      · have hF := it c30 hF
        refine lv_aload_n hx hb dX12_send_55 rfl (lv_at hl 0 rfl) ?_
        obtain ⟨o24, e25, hF⟩ := bn hF
        refine r_getr X hW (gq gj42 al_0) fl_12_43 e25 dX12_send_56 (fun al26 => ?_)
        have al26 := qg gj42 al26
        refine lv_iload_n hx hb dX12_send_59 rfl (lv_at hl 1 rfl) ?_
        obtain ⟨x27, e28, hF⟩ := bn hF
        obtain ⟨b29, e28⟩ := ga_s e28
        refine r_iald X hW (gq gj42 al26) rfl b29 dX12_send_60 ?_
        refine nmi e28 ?_
        refine lv_goto (tgt := 70) hx hb dX12_send_61 (by decide) ?_
        exact j_70 x27 hj42 _ _ _ gj42 hF hW hS (lv_sub hl [0, 1, 2, 3] rfl)
    · have hF := it c31 hF
      refine lv_bipush (v := (-2)) hx hb dX12_send_48 (by decide) ?_
      obtain ⟨rfl, rfl⟩ := sj2 hF
      exact hfin _ _ _ _ (wdW gj42 hW) hS dX12_send_50
  have j_29 : ∀ (t0_29 : Int64) (t1_29 : Int64) (hj29 : HP) (H : Heap) (locs : List Loc) (ls : Array Slot), hj29.2.2 = h.2.2 → J_X12_send_29 i0 a1 a2 a3 t0_29 t1_29 hj29 = some (r, d) → HW D cA A φ hj29 H → va_S A s.heap H locs → lv_has ls 5 [(0, .ref (φ 12 i0)), (1, .int a1), (2, .int a2), (3, .int a3)] → W p l e (rmo 2 46 0 0) s m args below meth c H locs 0 0 Q (F0 m 29 ls [.long t0_29, .long t1_29]) := by
    intro t0_29 t1_29 hj29 H locs ls gj29 hF hW hS hl
    unfold J_X12_send_29 at hF
    refine lv_iload_n hx hb dX12_send_29 rfl (lv_at hl 2 rfl) ?_
    refine lv_if_ne (tgt := 39) hx hb dX12_send_30 (by decide) (fun c32 => ?_) (fun c32 => ?_)
    · have hF := ie c32 hF
      refine lv_ldc2 (v := 999) hx hb X.2.2.2.1 (X.2.2.2.2.1 _ (AL_of 1348 (by decide +kernel) rfl)) dX12_send_39 ?_
      exact j_42 999 t0_29 t1_29 hj29 _ _ _ gj29 hF hW hS (lv_sub hl [0, 1, 2, 3] rfl)
    · have hF := it c32 hF
      refine lv_ldc2 (v := 99) hx hb X.2.2.2.1 (X.2.2.2.2.1 _ (AL_of 1347 (by decide +kernel) rfl)) dX12_send_33 ?_
      refine lv_goto (tgt := 42) hx hb dX12_send_36 (by decide) ?_
      exact j_42 99 t0_29 t1_29 hj29 _ _ _ gj29 hF hW hS (lv_sub hl [0, 1, 2, 3] rfl)
  refine lv_aload_n hx hb dX12_send_0 rfl (lv_at hl 0 rfl) ?_
  refine lv_iload_n hx hb dX12_send_1 rfl (lv_at hl 1 rfl) ?_
  obtain ⟨x34, e33, hF⟩ := bn hF
  refine rc_i (Af := fun φ => [.ref (φ 12 i0), .int a1]) X hW hS ⟨Nat.zero_le _, Nat.zero_le _⟩ (rn_V (As := [.int a1]) (rest := []) X hW hS cw_12_190 al_0 rfl rfl rfl ⟨Nat.le_of_ble_eq_true rfl, Nat.le_of_ble_eq_true rfl⟩ rfl hl.1 rfl (Nat.le_of_ble_eq_true rfl) dX12_send_2) (ok_X12_isBell i0 a1 al_0 e33) (fun H locs hW hS => ?_)
  refine lv_if_eq (tgt := 48) hx hb dX12_send_5 (by decide) (fun c39 => ?_) (fun c39 => ?_)
  · have hF := it c39 hF
    refine lv_bipush (v := (-2)) hx hb dX12_send_48 (by decide) ?_
    obtain ⟨rfl, rfl⟩ := sj2 hF
    exact hfin _ _ _ _ (wdW rfl hW) hS dX12_send_50
  · have hF := ie c39 hF
    refine lv_iload_n hx hb dX12_send_8 rfl (lv_at hl 2 rfl) ?_
    refine lv_i2l (v := (a2).toInt64) hx hb dX12_send_9 rfl ?_
    refine lv_lconst (v := 0) hx hb dX12_send_10 (by decide) ?_
    refine lv_lconst (v := 1) hx hb dX12_send_11 (by decide) ?_
    obtain ⟨x36, e35, hF⟩ := bn hF
    refine rc_i (Af := fun φ => [.long ((a2).toInt64), .long 0, .long 1]) X hW hS ⟨Nat.zero_le _, Nat.zero_le _⟩ (rn_S (As := [.long ((a2).toInt64), .long 0, .long 1]) (rest := []) X hW hS cw_12_139 ⟨Nat.le_of_ble_eq_true rfl, Nat.le_of_ble_eq_true rfl⟩ rfl hl.1 rfl (Nat.le_of_ble_eq_true rfl) dX12_send_12) (ok_X12_in ((a2).toInt64) 0 1 e35) (fun H locs hW hS => ?_)
    refine lv_if_eq (tgt := 48) hx hb dX12_send_15 (by decide) (fun c38 => ?_) (fun c38 => ?_)
    · have hF := it c38 hF
      refine lv_bipush (v := (-2)) hx hb dX12_send_48 (by decide) ?_
      obtain ⟨rfl, rfl⟩ := sj2 hF
      exact hfin _ _ _ _ (wdW rfl hW) hS dX12_send_50
    · have hF := ie c38 hF
      refine lv_iload_n hx hb dX12_send_18 rfl (lv_at hl 3 rfl) ?_
      refine lv_i2l (v := (a3).toInt64) hx hb dX12_send_19 rfl ?_
      refine lv_iload_n hx hb dX12_send_20 rfl (lv_at hl 2 rfl) ?_
      refine lv_if_ne (tgt := 28) hx hb dX12_send_21 (by decide) (fun c37 => ?_) (fun c37 => ?_)
      · have hF := ie c37 hF
        refine lv_lconst (v := 0) hx hb dX12_send_28 (by decide) ?_
        exact j_29 0 ((a3).toInt64) h _ _ _ rfl hF hW hS (lv_sub hl [0, 1, 2, 3] rfl)
      · have hF := it c37 hF
        refine lv_lconst (v := 1) hx hb dX12_send_24 (by decide) ?_
        refine lv_goto (tgt := 29) hx hb dX12_send_25 (by decide) ?_
        exact j_29 1 ((a3).toInt64) h _ _ _ rfl hF hW hS (lv_sub hl [0, 1, 2, 3] rfl)
def B_X12_inTime_17 (i0 : Nat) (a1 : Int32) (a2 : Int32) (x1 : Int32) (x2 : Int32) (h : HP) (q : Int32 × Int32) : Option ((Int32 × Int32) ⊕ (Int32)) :=
  u2 q fun x3 x4 =>
  (if a2 ≤ x4 then
  some (.inr x3)
  else
  (if ((a1 >>> (x4 &&& 31)) &&& 1) = 1 then
  (gr h 12 i0 16).bind fun o9 =>
  (gr h 12 i0 53).bind fun o12 =>
  (ga h 78 o12 10 x4).bind fun x15 =>
  (ga h 57 o9 20 x15).bind fun x18 =>
  (gr h 12 i0 16).bind fun o21 =>
  (gr h 12 i0 53).bind fun o24 =>
  (ga h 78 o24 10 x2).bind fun x27 =>
  (ga h 57 o21 20 x27).bind fun x30 =>
  (if x30 < x18 then
  nm ((x3 + 0)) fun x33 =>
  nm (x4 + 1) fun x35 =>
  some (.inl (x33, x35))
  else
  (gr h 12 i0 15).bind fun o37 =>
  (gr h 12 i0 53).bind fun o40 =>
  (ga h 78 o40 10 x4).bind fun x43 =>
  (ga h 56 o37 20 x43).bind fun x46 =>
  nm ((x3 + x46)) fun x49 =>
  nm (x4 + 1) fun x51 =>
  some (.inl (x49, x51)))
  else
  nm ((x3 + 0)) fun x5 =>
  nm (x4 + 1) fun x7 =>
  some (.inl (x5, x7))))
def B_X12_inTime_5 (i0 : Nat) (a1 : Int32) (a2 : Int32) (h : HP) (q : Int32 × Int32) : Option ((Int32 × Int32) ⊕ (Int32)) :=
  u2 q fun x1 x2 =>
  (if a2 ≤ x2 then
  some (.inr x1)
  else
  (loopN LF (B_X12_inTime_17 i0 a1 a2 x1 x2 h) (0, 0)).bind fun x58 =>
  (if x1 = 0 then
  nm (x2 + 1) fun x59 =>
  some (.inl (0, x59))
  else
  (if ((a1 >>> (x2 &&& 31)) &&& 1) = 0 then
  nm (x2 + 1) fun x61 =>
  some (.inl (1, x61))
  else
  (gr h 12 i0 16).bind fun o63 =>
  (gr h 12 i0 53).bind fun o66 =>
  (ga h 78 o66 10 x2).bind fun x69 =>
  (ga h 57 o63 20 x69).bind fun x72 =>
  (if x72 < x58 then
  nm (x2 + 1) fun x75 =>
  some (.inl (0, x75))
  else
  nm (x2 + 1) fun x77 =>
  some (.inl (1, x77))))))
def F_X12_inTime (i0 : Nat) (a1 : Int32) (a2 : Int32) (h : HP) : Option (Int32) :=
  (loopN LF (B_X12_inTime_5 i0 a1 a2 h) (1, 0)).bind fun x85 =>
  (bz x85).bind fun x86 => some x86
set_option maxHeartbeats 4000000 in
set_option maxRecDepth 100000 in
theorem ok_X12_inTime {l : Launch} {D : va_G} {cA : Nat → ClassId} {h : HP} {r : Int32}  (i0 : Nat) (a1 : Int32) (a2 : Int32) (al_0 : i0 < gn h 12) (hF : F_X12_inTime i0 a1 a2 h = some r) : MI l D cA yX12_inTime cX12_inTime 7 (some .boolean) 0 0 (fun φ => [.ref (φ 12 i0), .int a1, .int a2]) h r h := by
  refine mk_Z (plainFor_of_name (by decide)) (fun φ => Nat.le_of_ble_eq_true rfl) ?_
  intro p e s m args below meth c ls φ A Q X hW hS hl hfin
  have hx := X.1
  have hb := X.2.1
  have hl : lv_has ls 7 [(0, .ref (φ 12 i0)), (1, .int a1), (2, .int a2)] := hl
  unfold F_X12_inTime at hF
  refine lv_iconst (v := 1) hx hb dX12_inTime_0 (by decide) ?_
  refine lv_istore_n (lv' := [(3, .int 1), (0, .ref (φ 12 i0)), (1, .int a1), (2, .int a2)]) hx hb dX12_inTime_1 rfl hl (by decide) rfl (fun ls hl => ?_)
  refine lv_iconst (v := 0) hx hb dX12_inTime_2 (by decide) ?_
  refine lv_istore (lv' := [(4, .int 0), (3, .int 1), (0, .ref (φ 12 i0)), (1, .int a1), (2, .int a2)]) hx hb dX12_inTime_3 hl (by decide) rfl (fun ls hl => ?_)
  obtain ⟨q83, e84, hF⟩ := bn hF
  refine loop_w (f := B_X12_inTime_5 i0 a1 a2 h) (Z := fun q => ∀ (H : Heap) (locs : List Loc) (ls : Array Slot), HW D cA A φ h H → va_S A s.heap H locs → lv_has ls 7 [(0, .ref (φ 12 i0)), (1, .int a1), (2, .int a2), (3, .int (q.1)), (4, .int (q.2))] → W p l e (rmo 0 0 0 0) s m args below meth c H locs 0 0 Q (F0 m 5 ls [])) (K := fun q => ∀ (H : Heap) (locs : List Loc) (ls : Array Slot), HW D cA A φ h H → va_S A s.heap H locs → lv_has ls 7 [(3, .int q)] → W p l e (rmo 0 0 0 0) s m args below meth c H locs 0 0 Q (F0 m 129 ls [])) ?_ LF _ q83 e84 ?_ _ _ _ hW hS (lv_sub hl [2, 3, 4, 1, 0] rfl)
  · intro q v hF hK H locs ls hW hS hl
    obtain ⟨x1, x2⟩ := q
    unfold B_X12_inTime_5 at hF
    have hF := u2d hF
    have hl : lv_has ls 7 [(0, .ref (φ 12 i0)), (1, .int a1), (2, .int a2), (3, .int x1), (4, .int x2)] := hl
    refine lv_iload hx hb dX12_inTime_5 (lv_at hl 4 rfl) ?_
    refine lv_iload_n hx hb dX12_inTime_7 rfl (lv_at hl 2 rfl) ?_
    refine lv_icmp_ge (tgt := 129) hx hb dX12_inTime_8 (by decide) (fun c82 => ?_) (fun c82 => ?_)
    · have hF := it c82 hF
      obtain rfl := sj hF
      exact hK _ _ _ hW hS (lv_sub hl [3] rfl)
    · have hF := ie c82 hF
      refine lv_iconst (v := 0) hx hb dX12_inTime_11 (by decide) ?_
      refine lv_istore (lv' := [(5, .int 0), (0, .ref (φ 12 i0)), (1, .int a1), (2, .int a2), (3, .int x1), (4, .int x2)]) hx hb dX12_inTime_12 hl (by decide) rfl (fun ls hl => ?_)
      refine lv_iconst (v := 0) hx hb dX12_inTime_14 (by decide) ?_
      refine lv_istore (lv' := [(6, .int 0), (5, .int 0), (0, .ref (φ 12 i0)), (1, .int a1), (2, .int a2), (3, .int x1), (4, .int x2)]) hx hb dX12_inTime_15 hl (by decide) rfl (fun ls hl => ?_)
      obtain ⟨q56, e57, hF⟩ := bn hF
      refine loop_w (f := B_X12_inTime_17 i0 a1 a2 x1 x2 h) (Z := fun q => ∀ (H : Heap) (locs : List Loc) (ls : Array Slot), HW D cA A φ h H → va_S A s.heap H locs → lv_has ls 7 [(0, .ref (φ 12 i0)), (1, .int a1), (2, .int a2), (3, .int x1), (4, .int x2), (5, .int (q.1)), (6, .int (q.2))] → W p l e (rmo 0 0 0 0) s m args below meth c H locs 0 0 Q (F0 m 17 ls [])) (K := fun q => ∀ (H : Heap) (locs : List Loc) (ls : Array Slot), HW D cA A φ h H → va_S A s.heap H locs → lv_has ls 7 [(0, .ref (φ 12 i0)), (1, .int a1), (2, .int a2), (3, .int x1), (4, .int x2), (5, .int q)] → W p l e (rmo 0 0 0 0) s m args below meth c H locs 0 0 Q (F0 m 87 ls [])) ?_ LF _ q56 e57 ?_ _ _ _ hW hS (lv_sub hl [2, 3, 4, 5, 6, 1, 0] rfl)
      · intro q v hF hK H locs ls hW hS hl
        obtain ⟨x3, x4⟩ := q
        unfold B_X12_inTime_17 at hF
        have hF := u2d hF
        have hl : lv_has ls 7 [(0, .ref (φ 12 i0)), (1, .int a1), (2, .int a2), (3, .int x1), (4, .int x2), (5, .int x3), (6, .int x4)] := hl
        refine lv_iload hx hb dX12_inTime_17 (lv_at hl 6 rfl) ?_
        refine lv_iload_n hx hb dX12_inTime_19 rfl (lv_at hl 2 rfl) ?_
        refine lv_icmp_ge (tgt := 87) hx hb dX12_inTime_20 (by decide) (fun c55 => ?_) (fun c55 => ?_)
        · have hF := it c55 hF
          obtain rfl := sj hF
          exact hK _ _ _ hW hS (lv_sub hl [0, 1, 2, 3, 4, 5] rfl)
        · have hF := ie c55 hF
          refine lv_iload hx hb dX12_inTime_23 (lv_at hl 5 rfl) ?_
          refine lv_iload_n hx hb dX12_inTime_25 rfl (lv_at hl 1 rfl) ?_
          refine lv_iload hx hb dX12_inTime_26 (lv_at hl 6 rfl) ?_
          refine lv_ishr hx hb dX12_inTime_28 ?_
          refine lv_iconst (v := 1) hx hb dX12_inTime_29 (by decide) ?_
          refine lv_iand hx hb dX12_inTime_30 ?_
          refine lv_iconst (v := 1) hx hb dX12_inTime_31 (by decide) ?_
          refine lv_icmp_ne (tgt := 77) hx hb dX12_inTime_32 (by decide) (fun c54 => ?_) (fun c54 => ?_)
          · have hF := ie c54 hF
            refine lv_iconst (v := 0) hx hb dX12_inTime_77 (by decide) ?_
            refine lv_iadd hx hb dX12_inTime_78 ?_
            obtain ⟨x5, e6, hF⟩ := nmx hF
            refine nmi e6 ?_
            refine lv_istore (lv' := [(5, .int x5), (0, .ref (φ 12 i0)), (1, .int a1), (2, .int a2), (3, .int x1), (4, .int x2), (6, .int x4)]) hx hb dX12_inTime_79 hl (by decide) rfl (fun ls hl => ?_)
            obtain ⟨x7, e8, hF⟩ := nmx hF
            refine lv_iinc (v := x7) (lv' := [(6, .int x7), (5, .int x5), (0, .ref (φ 12 i0)), (1, .int a1), (2, .int a2), (3, .int x1), (4, .int x2)]) hx hb dX12_inTime_81 hl (k := 6) rfl (by rw [e8]; rfl) (by decide) rfl (fun ls hl => ?_)
            refine lv_goto (tgt := 17) hx hb dX12_inTime_84 (by decide) ?_
            obtain rfl := sj hF
            exact hK _ _ _ hW hS (lv_sub hl [2, 3, 4, 5, 6, 1, 0] rfl)
          · have hF := it c54 hF
            refine lv_aload_n hx hb dX12_inTime_35 rfl (lv_at hl 0 rfl) ?_
            obtain ⟨o9, e10, hF⟩ := bn hF
            refine r_getr X hW al_0 fl_12_46 e10 dX12_inTime_36 (fun al11 => ?_)
            refine lv_aload_n hx hb dX12_inTime_39 rfl (lv_at hl 0 rfl) ?_
            obtain ⟨o12, e13, hF⟩ := bn hF
            refine r_getr X hW al_0 fl_12_116 e13 dX12_inTime_40 (fun al14 => ?_)
            refine lv_iload hx hb dX12_inTime_43 (lv_at hl 6 rfl) ?_
            obtain ⟨x15, e16, hF⟩ := bn hF
            obtain ⟨b17, e16⟩ := ga_s e16
            refine r_iald X hW al14 rfl b17 dX12_inTime_45 ?_
            refine nmi e16 ?_
            obtain ⟨x18, e19, hF⟩ := bn hF
            obtain ⟨b20, e19⟩ := ga_s e19
            refine r_iald X hW al11 rfl b20 dX12_inTime_46 ?_
            refine nmi e19 ?_
            refine lv_aload_n hx hb dX12_inTime_47 rfl (lv_at hl 0 rfl) ?_
            obtain ⟨o21, e22, hF⟩ := bn hF
            refine r_getr X hW al_0 fl_12_46 e22 dX12_inTime_48 (fun al23 => ?_)
            refine lv_aload_n hx hb dX12_inTime_51 rfl (lv_at hl 0 rfl) ?_
            obtain ⟨o24, e25, hF⟩ := bn hF
            refine r_getr X hW al_0 fl_12_116 e25 dX12_inTime_52 (fun al26 => ?_)
            refine lv_iload hx hb dX12_inTime_55 (lv_at hl 4 rfl) ?_
            obtain ⟨x27, e28, hF⟩ := bn hF
            obtain ⟨b29, e28⟩ := ga_s e28
            refine r_iald X hW al26 rfl b29 dX12_inTime_57 ?_
            refine nmi e28 ?_
            obtain ⟨x30, e31, hF⟩ := bn hF
            obtain ⟨b32, e31⟩ := ga_s e31
            refine r_iald X hW al23 rfl b32 dX12_inTime_58 ?_
            refine nmi e31 ?_
            refine lv_icmp_gt (tgt := 77) hx hb dX12_inTime_59 (by decide) (fun c53 => ?_) (fun c53 => ?_)
            · have hF := it c53 hF
              refine lv_iconst (v := 0) hx hb dX12_inTime_77 (by decide) ?_
              refine lv_iadd hx hb dX12_inTime_78 ?_
              obtain ⟨x33, e34, hF⟩ := nmx hF
              refine nmi e34 ?_
              refine lv_istore (lv' := [(5, .int x33), (0, .ref (φ 12 i0)), (1, .int a1), (2, .int a2), (3, .int x1), (4, .int x2), (6, .int x4)]) hx hb dX12_inTime_79 hl (by decide) rfl (fun ls hl => ?_)
              obtain ⟨x35, e36, hF⟩ := nmx hF
              refine lv_iinc (v := x35) (lv' := [(6, .int x35), (5, .int x33), (0, .ref (φ 12 i0)), (1, .int a1), (2, .int a2), (3, .int x1), (4, .int x2)]) hx hb dX12_inTime_81 hl (k := 6) rfl (by rw [e36]; rfl) (by decide) rfl (fun ls hl => ?_)
              refine lv_goto (tgt := 17) hx hb dX12_inTime_84 (by decide) ?_
              obtain rfl := sj hF
              exact hK _ _ _ hW hS (lv_sub hl [2, 3, 4, 5, 6, 1, 0] rfl)
            · have hF := ie c53 hF
              refine lv_aload_n hx hb dX12_inTime_62 rfl (lv_at hl 0 rfl) ?_
              obtain ⟨o37, e38, hF⟩ := bn hF
              refine r_getr X hW al_0 fl_12_43 e38 dX12_inTime_63 (fun al39 => ?_)
              refine lv_aload_n hx hb dX12_inTime_66 rfl (lv_at hl 0 rfl) ?_
              obtain ⟨o40, e41, hF⟩ := bn hF
              refine r_getr X hW al_0 fl_12_116 e41 dX12_inTime_67 (fun al42 => ?_)
              refine lv_iload hx hb dX12_inTime_70 (lv_at hl 6 rfl) ?_
              obtain ⟨x43, e44, hF⟩ := bn hF
              obtain ⟨b45, e44⟩ := ga_s e44
              refine r_iald X hW al42 rfl b45 dX12_inTime_72 ?_
              refine nmi e44 ?_
              obtain ⟨x46, e47, hF⟩ := bn hF
              obtain ⟨b48, e47⟩ := ga_s e47
              refine r_iald X hW al39 rfl b48 dX12_inTime_73 ?_
              refine nmi e47 ?_
              refine lv_goto (tgt := 78) hx hb dX12_inTime_74 (by decide) ?_
              refine lv_iadd hx hb dX12_inTime_78 ?_
              obtain ⟨x49, e50, hF⟩ := nmx hF
              refine nmi e50 ?_
              refine lv_istore (lv' := [(5, .int x49), (0, .ref (φ 12 i0)), (1, .int a1), (2, .int a2), (3, .int x1), (4, .int x2), (6, .int x4)]) hx hb dX12_inTime_79 hl (by decide) rfl (fun ls hl => ?_)
              obtain ⟨x51, e52, hF⟩ := nmx hF
              refine lv_iinc (v := x51) (lv' := [(6, .int x51), (5, .int x49), (0, .ref (φ 12 i0)), (1, .int a1), (2, .int a2), (3, .int x1), (4, .int x2)]) hx hb dX12_inTime_81 hl (k := 6) rfl (by rw [e52]; rfl) (by decide) rfl (fun ls hl => ?_)
              refine lv_goto (tgt := 17) hx hb dX12_inTime_84 (by decide) ?_
              obtain rfl := sj hF
              exact hK _ _ _ hW hS (lv_sub hl [2, 3, 4, 5, 6, 1, 0] rfl)
      · intro H locs ls hW hS hl
        obtain ⟨x58, rfl⟩ : ∃ z, z = q56 := ⟨_, rfl⟩
        have hl : lv_has ls 7 [(0, .ref (φ 12 i0)), (1, .int a1), (2, .int a2), (3, .int x1), (4, .int x2), (5, .int x58)] := hl
        refine lv_iload_n hx hb dX12_inTime_87 rfl (lv_at hl 3 rfl) ?_
        refine lv_if_eq (tgt := 121) hx hb dX12_inTime_88 (by decide) (fun c81 => ?_) (fun c81 => ?_)
        · have hF := it c81 hF
          refine lv_iconst (v := 0) hx hb dX12_inTime_121 (by decide) ?_
          refine lv_istore_n (lv' := [(3, .int 0), (0, .ref (φ 12 i0)), (1, .int a1), (2, .int a2), (4, .int x2), (5, .int x58)]) hx hb dX12_inTime_122 rfl hl (by decide) rfl (fun ls hl => ?_)
          obtain ⟨x59, e60, hF⟩ := nmx hF
          refine lv_iinc (v := x59) (lv' := [(4, .int x59), (3, .int 0), (0, .ref (φ 12 i0)), (1, .int a1), (2, .int a2), (5, .int x58)]) hx hb dX12_inTime_123 hl (k := 4) rfl (by rw [e60]; rfl) (by decide) rfl (fun ls hl => ?_)
          refine lv_goto (tgt := 5) hx hb dX12_inTime_126 (by decide) ?_
          obtain rfl := sj hF
          exact hK _ _ _ hW hS (lv_sub hl [2, 3, 4, 1, 0] rfl)
        · have hF := ie c81 hF
          refine lv_iload_n hx hb dX12_inTime_91 rfl (lv_at hl 1 rfl) ?_
          refine lv_iload hx hb dX12_inTime_92 (lv_at hl 4 rfl) ?_
          refine lv_ishr hx hb dX12_inTime_94 ?_
          refine lv_iconst (v := 1) hx hb dX12_inTime_95 (by decide) ?_
          refine lv_iand hx hb dX12_inTime_96 ?_
          refine lv_if_eq (tgt := 117) hx hb dX12_inTime_97 (by decide) (fun c80 => ?_) (fun c80 => ?_)
          · have hF := it c80 hF
            refine lv_iconst (v := 1) hx hb dX12_inTime_117 (by decide) ?_
            refine lv_goto (tgt := 122) hx hb dX12_inTime_118 (by decide) ?_
            refine lv_istore_n (lv' := [(3, .int 1), (0, .ref (φ 12 i0)), (1, .int a1), (2, .int a2), (4, .int x2), (5, .int x58)]) hx hb dX12_inTime_122 rfl hl (by decide) rfl (fun ls hl => ?_)
            obtain ⟨x61, e62, hF⟩ := nmx hF
            refine lv_iinc (v := x61) (lv' := [(4, .int x61), (3, .int 1), (0, .ref (φ 12 i0)), (1, .int a1), (2, .int a2), (5, .int x58)]) hx hb dX12_inTime_123 hl (k := 4) rfl (by rw [e62]; rfl) (by decide) rfl (fun ls hl => ?_)
            refine lv_goto (tgt := 5) hx hb dX12_inTime_126 (by decide) ?_
            obtain rfl := sj hF
            exact hK _ _ _ hW hS (lv_sub hl [2, 3, 4, 1, 0] rfl)
          · have hF := ie c80 hF
            refine lv_iload hx hb dX12_inTime_100 (lv_at hl 5 rfl) ?_
            refine lv_aload_n hx hb dX12_inTime_102 rfl (lv_at hl 0 rfl) ?_
            obtain ⟨o63, e64, hF⟩ := bn hF
            refine r_getr X hW al_0 fl_12_46 e64 dX12_inTime_103 (fun al65 => ?_)
            refine lv_aload_n hx hb dX12_inTime_106 rfl (lv_at hl 0 rfl) ?_
            obtain ⟨o66, e67, hF⟩ := bn hF
            refine r_getr X hW al_0 fl_12_116 e67 dX12_inTime_107 (fun al68 => ?_)
            refine lv_iload hx hb dX12_inTime_110 (lv_at hl 4 rfl) ?_
            obtain ⟨x69, e70, hF⟩ := bn hF
            obtain ⟨b71, e70⟩ := ga_s e70
            refine r_iald X hW al68 rfl b71 dX12_inTime_112 ?_
            refine nmi e70 ?_
            obtain ⟨x72, e73, hF⟩ := bn hF
            obtain ⟨b74, e73⟩ := ga_s e73
            refine r_iald X hW al65 rfl b74 dX12_inTime_113 ?_
            refine nmi e73 ?_
            refine lv_icmp_gt (tgt := 121) hx hb dX12_inTime_114 (by decide) (fun c79 => ?_) (fun c79 => ?_)
            · have hF := it c79 hF
              refine lv_iconst (v := 0) hx hb dX12_inTime_121 (by decide) ?_
              refine lv_istore_n (lv' := [(3, .int 0), (0, .ref (φ 12 i0)), (1, .int a1), (2, .int a2), (4, .int x2), (5, .int x58)]) hx hb dX12_inTime_122 rfl hl (by decide) rfl (fun ls hl => ?_)
              obtain ⟨x75, e76, hF⟩ := nmx hF
              refine lv_iinc (v := x75) (lv' := [(4, .int x75), (3, .int 0), (0, .ref (φ 12 i0)), (1, .int a1), (2, .int a2), (5, .int x58)]) hx hb dX12_inTime_123 hl (k := 4) rfl (by rw [e76]; rfl) (by decide) rfl (fun ls hl => ?_)
              refine lv_goto (tgt := 5) hx hb dX12_inTime_126 (by decide) ?_
              obtain rfl := sj hF
              exact hK _ _ _ hW hS (lv_sub hl [2, 3, 4, 1, 0] rfl)
            · have hF := ie c79 hF
              refine lv_iconst (v := 1) hx hb dX12_inTime_117 (by decide) ?_
              refine lv_goto (tgt := 122) hx hb dX12_inTime_118 (by decide) ?_
              refine lv_istore_n (lv' := [(3, .int 1), (0, .ref (φ 12 i0)), (1, .int a1), (2, .int a2), (4, .int x2), (5, .int x58)]) hx hb dX12_inTime_122 rfl hl (by decide) rfl (fun ls hl => ?_)
              obtain ⟨x77, e78, hF⟩ := nmx hF
              refine lv_iinc (v := x77) (lv' := [(4, .int x77), (3, .int 1), (0, .ref (φ 12 i0)), (1, .int a1), (2, .int a2), (5, .int x58)]) hx hb dX12_inTime_123 hl (k := 4) rfl (by rw [e78]; rfl) (by decide) rfl (fun ls hl => ?_)
              refine lv_goto (tgt := 5) hx hb dX12_inTime_126 (by decide) ?_
              obtain rfl := sj hF
              exact hK _ _ _ hW hS (lv_sub hl [2, 3, 4, 1, 0] rfl)
  · intro H locs ls hW hS hl
    obtain ⟨x85, rfl⟩ : ∃ z, z = q83 := ⟨_, rfl⟩
    have hl : lv_has ls 7 [(3, .int x85)] := hl
    refine lv_iload_n hx hb dX12_inTime_129 rfl (lv_at hl 0 rfl) ?_
    obtain ⟨x86, e87, hF⟩ := bn hF
    obtain ⟨b88, e87⟩ := bz_s e87
    refine nmi e87 ?_
    rw [← e87] at b88
    obtain rfl := sj hF
    exact hfin _ _ _ _ hW hS b88 dX12_inTime_130
def B_X12_weightOf_5 (i0 : Nat) (a1 : Int32) (a2 : Int32) (h : HP) (q : Int32 × Int32) : Option ((Int32 × Int32) ⊕ (Int32)) :=
  u2 q fun x1 x2 =>
  (if a2 ≤ x2 then
  some (.inr x1)
  else
  (if ((a1 >>> (x2 &&& 31)) &&& 1) = 1 then
  (gr h 12 i0 10).bind fun o7 =>
  (gr h 12 i0 53).bind fun o10 =>
  (ga h 78 o10 10 x2).bind fun x13 =>
  (ga h 51 o7 20 x13).bind fun x16 =>
  nm ((x1 + x16)) fun x19 =>
  nm (x2 + 1) fun x21 =>
  some (.inl (x19, x21))
  else
  nm ((x1 + 0)) fun x3 =>
  nm (x2 + 1) fun x5 =>
  some (.inl (x3, x5))))
def F_X12_weightOf (i0 : Nat) (a1 : Int32) (a2 : Int32) (h : HP) : Option (Int32) :=
  (loopN LF (B_X12_weightOf_5 i0 a1 a2 h) (0, 0)).bind fun x27 =>
  some x27
set_option maxHeartbeats 4000000 in
set_option maxRecDepth 100000 in
theorem ok_X12_weightOf {l : Launch} {D : va_G} {cA : Nat → ClassId} {h : HP} {r : Int32}  (i0 : Nat) (a1 : Int32) (a2 : Int32) (al_0 : i0 < gn h 12) (hF : F_X12_weightOf i0 a1 a2 h = some r) : MI l D cA yX12_weightOf cX12_weightOf 5 (some .int) 0 0 (fun φ => [.ref (φ 12 i0), .int a1, .int a2]) h r h := by
  refine mk_I (plainFor_of_name (by decide)) (fun φ => Nat.le_of_ble_eq_true rfl) ?_
  intro p e s m args below meth c ls φ A Q X hW hS hl hfin
  have hx := X.1
  have hb := X.2.1
  have hl : lv_has ls 5 [(0, .ref (φ 12 i0)), (1, .int a1), (2, .int a2)] := hl
  unfold F_X12_weightOf at hF
  refine lv_iconst (v := 0) hx hb dX12_weightOf_0 (by decide) ?_
  refine lv_istore_n (lv' := [(3, .int 0), (0, .ref (φ 12 i0)), (1, .int a1), (2, .int a2)]) hx hb dX12_weightOf_1 rfl hl (by decide) rfl (fun ls hl => ?_)
  refine lv_iconst (v := 0) hx hb dX12_weightOf_2 (by decide) ?_
  refine lv_istore (lv' := [(4, .int 0), (3, .int 0), (0, .ref (φ 12 i0)), (1, .int a1), (2, .int a2)]) hx hb dX12_weightOf_3 hl (by decide) rfl (fun ls hl => ?_)
  obtain ⟨q25, e26, hF⟩ := bn hF
  refine loop_w (f := B_X12_weightOf_5 i0 a1 a2 h) (Z := fun q => ∀ (H : Heap) (locs : List Loc) (ls : Array Slot), HW D cA A φ h H → va_S A s.heap H locs → lv_has ls 5 [(0, .ref (φ 12 i0)), (1, .int a1), (2, .int a2), (3, .int (q.1)), (4, .int (q.2))] → W p l e (rmo 0 0 0 0) s m args below meth c H locs 0 0 Q (F0 m 5 ls [])) (K := fun q => ∀ (H : Heap) (locs : List Loc) (ls : Array Slot), HW D cA A φ h H → va_S A s.heap H locs → lv_has ls 5 [(3, .int q)] → W p l e (rmo 0 0 0 0) s m args below meth c H locs 0 0 Q (F0 m 46 ls [])) ?_ LF _ q25 e26 ?_ _ _ _ hW hS (lv_sub hl [2, 3, 4, 1, 0] rfl)
  · intro q v hF hK H locs ls hW hS hl
    obtain ⟨x1, x2⟩ := q
    unfold B_X12_weightOf_5 at hF
    have hF := u2d hF
    have hl : lv_has ls 5 [(0, .ref (φ 12 i0)), (1, .int a1), (2, .int a2), (3, .int x1), (4, .int x2)] := hl
    refine lv_iload hx hb dX12_weightOf_5 (lv_at hl 4 rfl) ?_
    refine lv_iload_n hx hb dX12_weightOf_7 rfl (lv_at hl 2 rfl) ?_
    refine lv_icmp_ge (tgt := 46) hx hb dX12_weightOf_8 (by decide) (fun c24 => ?_) (fun c24 => ?_)
    · have hF := it c24 hF
      obtain rfl := sj hF
      exact hK _ _ _ hW hS (lv_sub hl [3] rfl)
    · have hF := ie c24 hF
      refine lv_iload_n hx hb dX12_weightOf_11 rfl (lv_at hl 3 rfl) ?_
      refine lv_iload_n hx hb dX12_weightOf_12 rfl (lv_at hl 1 rfl) ?_
      refine lv_iload hx hb dX12_weightOf_13 (lv_at hl 4 rfl) ?_
      refine lv_ishr hx hb dX12_weightOf_15 ?_
      refine lv_iconst (v := 1) hx hb dX12_weightOf_16 (by decide) ?_
      refine lv_iand hx hb dX12_weightOf_17 ?_
      refine lv_iconst (v := 1) hx hb dX12_weightOf_18 (by decide) ?_
      refine lv_icmp_ne (tgt := 37) hx hb dX12_weightOf_19 (by decide) (fun c23 => ?_) (fun c23 => ?_)
      · have hF := ie c23 hF
        refine lv_iconst (v := 0) hx hb dX12_weightOf_37 (by decide) ?_
        refine lv_iadd hx hb dX12_weightOf_38 ?_
        obtain ⟨x3, e4, hF⟩ := nmx hF
        refine nmi e4 ?_
        refine lv_istore_n (lv' := [(3, .int x3), (0, .ref (φ 12 i0)), (1, .int a1), (2, .int a2), (4, .int x2)]) hx hb dX12_weightOf_39 rfl hl (by decide) rfl (fun ls hl => ?_)
        obtain ⟨x5, e6, hF⟩ := nmx hF
        refine lv_iinc (v := x5) (lv' := [(4, .int x5), (3, .int x3), (0, .ref (φ 12 i0)), (1, .int a1), (2, .int a2)]) hx hb dX12_weightOf_40 hl (k := 4) rfl (by rw [e6]; rfl) (by decide) rfl (fun ls hl => ?_)
        refine lv_goto (tgt := 5) hx hb dX12_weightOf_43 (by decide) ?_
        obtain rfl := sj hF
        exact hK _ _ _ hW hS (lv_sub hl [2, 3, 4, 1, 0] rfl)
      · have hF := it c23 hF
        refine lv_aload_n hx hb dX12_weightOf_22 rfl (lv_at hl 0 rfl) ?_
        obtain ⟨o7, e8, hF⟩ := bn hF
        refine r_getr X hW al_0 fl_12_28 e8 dX12_weightOf_23 (fun al9 => ?_)
        refine lv_aload_n hx hb dX12_weightOf_26 rfl (lv_at hl 0 rfl) ?_
        obtain ⟨o10, e11, hF⟩ := bn hF
        refine r_getr X hW al_0 fl_12_116 e11 dX12_weightOf_27 (fun al12 => ?_)
        refine lv_iload hx hb dX12_weightOf_30 (lv_at hl 4 rfl) ?_
        obtain ⟨x13, e14, hF⟩ := bn hF
        obtain ⟨b15, e14⟩ := ga_s e14
        refine r_iald X hW al12 rfl b15 dX12_weightOf_32 ?_
        refine nmi e14 ?_
        obtain ⟨x16, e17, hF⟩ := bn hF
        obtain ⟨b18, e17⟩ := ga_s e17
        refine r_iald X hW al9 rfl b18 dX12_weightOf_33 ?_
        refine nmi e17 ?_
        refine lv_goto (tgt := 38) hx hb dX12_weightOf_34 (by decide) ?_
        refine lv_iadd hx hb dX12_weightOf_38 ?_
        obtain ⟨x19, e20, hF⟩ := nmx hF
        refine nmi e20 ?_
        refine lv_istore_n (lv' := [(3, .int x19), (0, .ref (φ 12 i0)), (1, .int a1), (2, .int a2), (4, .int x2)]) hx hb dX12_weightOf_39 rfl hl (by decide) rfl (fun ls hl => ?_)
        obtain ⟨x21, e22, hF⟩ := nmx hF
        refine lv_iinc (v := x21) (lv' := [(4, .int x21), (3, .int x19), (0, .ref (φ 12 i0)), (1, .int a1), (2, .int a2)]) hx hb dX12_weightOf_40 hl (k := 4) rfl (by rw [e22]; rfl) (by decide) rfl (fun ls hl => ?_)
        refine lv_goto (tgt := 5) hx hb dX12_weightOf_43 (by decide) ?_
        obtain rfl := sj hF
        exact hK _ _ _ hW hS (lv_sub hl [2, 3, 4, 1, 0] rfl)
  · intro H locs ls hW hS hl
    obtain ⟨x27, rfl⟩ : ∃ z, z = q25 := ⟨_, rfl⟩
    have hl : lv_has ls 5 [(3, .int x27)] := hl
    refine lv_iload_n hx hb dX12_weightOf_46 rfl (lv_at hl 0 rfl) ?_
    obtain rfl := sj hF
    exact hfin _ _ _ _ hW hS dX12_weightOf_47
