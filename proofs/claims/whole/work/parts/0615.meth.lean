def B_X12_frees_2 (i0 : Nat) (h : HP) (q : Int32 × DP) : Option ((Int32 × DP) ⊕ (DP)) :=
  u2 q fun x1 d4 =>
  nm (wd h d4) fun h2 =>
  (if 8 ≤ x1 then
  some (.inr (dp h2))
  else
  (gr h2 12 i0 34).bind fun o5 =>
  (sa h2 71 o5 8 x1 21).bind fun h8 =>
  nm (x1 + 1) fun x12 =>
  some (.inl (x12, (dp h8))))
def F_X12_frees (i0 : Nat) (h : HP) : Option (DP) :=
  (loopN LF (B_X12_frees_2 i0 h) (0, (dp h))).bind fun d18 =>
  nm (wd h d18) fun h19 =>
  some (dp h19)
set_option maxHeartbeats 4000000 in
set_option maxRecDepth 100000 in
theorem ok_X12_frees {l : Launch} {D : va_G} {cA : Nat → ClassId} {h : HP}  {d : DP} (i0 : Nat) (al_0 : i0 < gn h 12) (hF : F_X12_frees i0 h = some d) : MV l D cA yX12_frees cX12_frees 2 none 0 0 (fun φ => [.ref (φ 12 i0)]) h (wd h d) := by
  refine mk_V (plainFor_of_name (by decide)) (fun φ => Nat.le_of_ble_eq_true rfl) ?_
  intro p e s m args below meth c ls φ A Q X hW hS hl hfin
  have hx := X.1
  have hb := X.2.1
  have hl : lv_has ls 2 [(0, .ref (φ 12 i0))] := hl
  unfold F_X12_frees at hF
  refine lv_iconst (v := 0) hx hb dX12_frees_0 (by decide) ?_
  refine lv_istore_n (lv' := [(1, .int 0), (0, .ref (φ 12 i0))]) hx hb dX12_frees_1 rfl hl (by decide) rfl (fun ls hl => ?_)
  obtain ⟨q15, e16, hF⟩ := bn hF
  refine loop_w (f := B_X12_frees_2 i0 h) (Z := fun q => ∀ (H : Heap) (locs : List Loc) (ls : Array Slot), HW D cA A φ (wd h q.2) H → va_S A s.heap H locs → lv_has ls 2 [(0, .ref (φ 12 i0)), (1, .int (q.1))] → W p l e (rmo 0 0 0 0) s m args below meth c H locs 0 0 Q (F0 m 2 ls [])) (K := fun q => ∀ (H : Heap) (locs : List Loc) (ls : Array Slot), HW D cA A φ (wd h q) H → va_S A s.heap H locs → lv_has ls 2 [] → W p l e (rmo 0 0 0 0) s m args below meth c H locs 0 0 Q (F0 m 22 ls [])) ?_ LF _ q15 e16 ?_ _ _ _ (wdW rfl hW) hS (lv_sub hl [1, 0] rfl)
  · intro q v hF hK H locs ls hW hS hl
    obtain ⟨x1, d4⟩ := q
    unfold B_X12_frees_2 at hF
    have hF := u2d hF
    obtain ⟨h2, e17, hF⟩ := nmx hF
    have hW := nmW e17 hW
    have g3 : h2.2.2 = h.2.2 := by rw [e17]; exact rfl
    have hl : lv_has ls 2 [(0, .ref (φ 12 i0)), (1, .int x1)] := hl
    refine lv_iload_n hx hb dX12_frees_2 rfl (lv_at hl 1 rfl) ?_
    refine lv_bipush (v := 8) hx hb dX12_frees_3 (by decide) ?_
    refine lv_icmp_ge (tgt := 22) hx hb dX12_frees_5 (by decide) (fun c14 => ?_) (fun c14 => ?_)
    · have hF := it c14 hF
      obtain rfl := sj hF
      exact hK _ _ _ (wdW (sq g3 rfl) hW) hS (lv_sub hl [] rfl)
    · have hF := ie c14 hF
      refine lv_aload_n hx hb dX12_frees_8 rfl (lv_at hl 0 rfl) ?_
      obtain ⟨o5, e6, hF⟩ := bn hF
      refine r_getr X hW (gq g3 al_0) fl_12_88 e6 dX12_frees_9 (fun al7 => ?_)
      have al7 := qg g3 al7
      refine lv_iload_n hx hb dX12_frees_12 rfl (lv_at hl 1 rfl) ?_
      refine lv_bipush (v := 21) hx hb dX12_frees_13 (by decide) ?_
      obtain ⟨h8, e9, hF⟩ := bn hF
      obtain ⟨b10, e9⟩ := sa_s e9
      refine r_iast X hW hS (gq g3 al7) rfl b10 dX12_frees_15 (fun H locs hW hS => ?_)
      have hW := nmW e9 hW
      have g11 : h8.2.2 = h.2.2 := by rw [e9]; exact g3
      obtain ⟨x12, e13, hF⟩ := nmx hF
      refine lv_iinc (v := x12) (lv' := [(1, .int x12), (0, .ref (φ 12 i0))]) hx hb dX12_frees_16 hl (k := 1) rfl (by rw [e13]; rfl) (by decide) rfl (fun ls hl => ?_)
      refine lv_goto (tgt := 2) hx hb dX12_frees_19 (by decide) ?_
      obtain rfl := sj hF
      exact hK _ _ _ (wdW (sq g11 rfl) hW) hS (lv_sub hl [1, 0] rfl)
  · intro H locs ls hW hS hl
    obtain ⟨d18, rfl⟩ : ∃ z, z = q15 := ⟨_, rfl⟩
    obtain ⟨h19, e21, hF⟩ := nmx hF
    have hW := nmW e21 hW
    have g20 : h19.2.2 = h.2.2 := by rw [e21]; exact rfl
    have hl : lv_has ls 2 [] := hl
    obtain rfl := sj hF
    exact hfin _ _ _ _ (wdW g20 hW) hS dX12_frees_22
def F_X12_laying (i0 : Nat) (a1 : Int32) (h : HP) : Option (Int32 × DP) :=
  (F_X12_in ((a1).toInt64) 0 1).bind fun x2 =>
  (if x2 = 0 then
  some ((-2), dp h)
  else
  (F_X12_frees i0 h).bind fun d7 => nm (wd h d7) fun h4 =>
  (F_X12_lays i0 h4).bind fun d12 => nm (wd h4 d12) fun h9 =>
  (if a1 = 0 then
  some ((gi h9 12 i0 35), dp h9)
  else
  some ((gi h9 12 i0 36), dp h9)))
set_option maxHeartbeats 4000000 in
set_option maxRecDepth 100000 in
theorem ok_X12_laying {l : Launch} {D : va_G} {cA : Nat → ClassId} {h : HP} {r : Int32} {d : DP} (i0 : Nat) (a1 : Int32) (al_0 : i0 < gn h 12) (hF : F_X12_laying i0 a1 h = some (r, d)) : MI l D cA yX12_laying cX12_laying 2 (some .int) 4 95 (fun φ => [.ref (φ 12 i0), .int a1]) h r (wd h d) := by
  refine mk_I (plainFor_of_name (by decide)) (fun φ => Nat.le_of_ble_eq_true rfl) ?_
  intro p e s m args below meth c ls φ A Q X hW hS hl hfin
  have hx := X.1
  have hb := X.2.1
  have hl : lv_has ls 2 [(0, .ref (φ 12 i0)), (1, .int a1)] := hl
  unfold F_X12_laying at hF
  refine lv_iload_n hx hb dX12_laying_0 rfl (lv_at hl 1 rfl) ?_
  refine lv_i2l (v := (a1).toInt64) hx hb dX12_laying_1 rfl ?_
  refine lv_lconst (v := 0) hx hb dX12_laying_2 (by decide) ?_
  refine lv_lconst (v := 1) hx hb dX12_laying_3 (by decide) ?_
  obtain ⟨x2, e1, hF⟩ := bn hF
  refine rc_i (Af := fun φ => [.long ((a1).toInt64), .long 0, .long 1]) X hW hS ⟨Nat.zero_le _, Nat.zero_le _⟩ (rn_S (As := [.long ((a1).toInt64), .long 0, .long 1]) (rest := []) X hW hS cw_12_139 ⟨Nat.le_of_ble_eq_true rfl, Nat.le_of_ble_eq_true rfl⟩ rfl hl.1 rfl (Nat.le_of_ble_eq_true rfl) dX12_laying_4) (ok_X12_in ((a1).toInt64) 0 1 e1) (fun H locs hW hS => ?_)
  refine lv_if_ne (tgt := 13) hx hb dX12_laying_7 (by decide) (fun c14 => ?_) (fun c14 => ?_)
  · have hF := ie c14 hF
    refine lv_aload_n hx hb dX12_laying_13 rfl (lv_at hl 0 rfl) ?_
    obtain ⟨d7, e3, hF⟩ := bn hF
    refine rc_v (Af := fun φ => [.ref (φ 12 i0)]) X hW hS ⟨Nat.zero_le _, Nat.zero_le _⟩ (rn_V (As := []) (rest := []) X hW hS cw_12_291 al_0 rfl rfl rfl ⟨Nat.le_of_ble_eq_true rfl, Nat.le_of_ble_eq_true rfl⟩ rfl hl.1 rfl (Nat.le_of_ble_eq_true rfl) dX12_laying_14) (ok_X12_frees i0 al_0 e3) (fun H locs hW hS => ?_)
    obtain ⟨h4, e6, hF⟩ := nmx hF
    have hW := nmW e6 hW
    have g5 : h4.2.2 = h.2.2 := by rw [e6]; exact rfl
    refine lv_aload_n hx hb dX12_laying_17 rfl (lv_at hl 0 rfl) ?_
    obtain ⟨d12, e8, hF⟩ := bn hF
    refine rc_v (Af := fun φ => [.ref (φ 12 i0)]) X hW hS ⟨Nat.zero_le _, Nat.zero_le _⟩ (rn_V (As := []) (rest := []) X hW hS cw_12_294 (gq g5 al_0) rfl rfl rfl ⟨Nat.le_of_ble_eq_true rfl, Nat.le_of_ble_eq_true rfl⟩ rfl hl.1 rfl (Nat.le_of_ble_eq_true rfl) dX12_laying_18) (ok_X12_lays i0 (gq g5 al_0) e8) (fun H locs hW hS => ?_)
    obtain ⟨h9, e11, hF⟩ := nmx hF
    have hW := nmW e11 hW
    have g10 : h9.2.2 = h.2.2 := by rw [e11]; exact g5
    refine lv_iload_n hx hb dX12_laying_21 rfl (lv_at hl 1 rfl) ?_
    refine lv_if_ne (tgt := 32) hx hb dX12_laying_22 (by decide) (fun c13 => ?_) (fun c13 => ?_)
    · have hF := ie c13 hF
      refine lv_aload_n hx hb dX12_laying_32 rfl (lv_at hl 0 rfl) ?_
      refine r_geti X hW (gq g10 al_0) fl_12_288 dX12_laying_33 ?_
      obtain ⟨rfl, rfl⟩ := sj2 hF
      exact hfin _ _ _ _ (wdW g10 hW) hS dX12_laying_36
    · have hF := it c13 hF
      refine lv_aload_n hx hb dX12_laying_25 rfl (lv_at hl 0 rfl) ?_
      refine r_geti X hW (gq g10 al_0) fl_12_285 dX12_laying_26 ?_
      refine lv_goto (tgt := 36) hx hb dX12_laying_29 (by decide) ?_
      obtain ⟨rfl, rfl⟩ := sj2 hF
      exact hfin _ _ _ _ (wdW g10 hW) hS dX12_laying_36
  · have hF := it c14 hF
    refine lv_bipush (v := (-2)) hx hb dX12_laying_10 (by decide) ?_
    obtain ⟨rfl, rfl⟩ := sj2 hF
    exact hfin _ _ _ _ (wdW rfl hW) hS dX12_laying_12
def J_X12_laid_146 (i0 : Nat) (a1 : Int32) (x13 : Int32) (x15 : Int32) (x17 : Int32) (v5_146 : Int32) (v6_146 : Int32) (t0_146 : Int32) (t1_146 : Int32) (t2_146 : Nat) (hj146 : HP) : Option ((Int32 × Int32 × DP) ⊕ (DP)) :=
  (sa hj146 71 t2_146 8 t1_146 t0_146).bind fun h26 =>
  nm (v6_146 + 1) fun x30 =>
  some (.inl (v5_146, x30, (dp h26)))
def J_X12_laid_126 (i0 : Nat) (a1 : Int32) (x13 : Int32) (x15 : Int32) (x17 : Int32) (v6_126 : Int32) (t0_126 : Int32) (hj126 : HP) : Option ((Int32 × Int32 × DP) ⊕ (DP)) :=
  (gr hj126 12 i0 34).bind fun o32 =>
  (if t0_126 = 0 then
  J_X12_laid_146 i0 a1 x13 x15 x17 t0_126 v6_126 v6_126 x17 o32 hj126
  else
  J_X12_laid_146 i0 a1 x13 x15 x17 t0_126 v6_126 21 x17 o32 hj126)
def J_X12_laid_92 (i0 : Nat) (a1 : Int32) (x13 : Int32) (x15 : Int32) (x17 : Int32) (v6_92 : Int32) (hj92 : HP) : Option ((Int32 × Int32 × DP) ⊕ (DP)) :=
  (gr hj92 12 i0 34).bind fun o36 =>
  (sa hj92 71 o36 8 x17 v6_92).bind fun h39 =>
  (F_X12_lays i0 h39).bind fun d47 => nm (wd h39 d47) fun h44 =>
  (if (gi h44 12 i0 35) = x13 then
  (if (gi h44 12 i0 36) = x15 then
  J_X12_laid_126 i0 a1 x13 x15 x17 v6_92 0 h44
  else
  J_X12_laid_126 i0 a1 x13 x15 x17 v6_92 1 h44)
  else
  J_X12_laid_126 i0 a1 x13 x15 x17 v6_92 1 h44)
def B_X12_laid_44 (i0 : Nat) (a1 : Int32) (x13 : Int32) (x15 : Int32) (x17 : Int32) (h18 : HP) (q : Int32 × Int32 × DP) : Option ((Int32 × Int32 × DP) ⊕ (DP)) :=
  u3 q fun x21 x22 d25 =>
  nm (wd h18 d25) fun h23 =>
  (if 20 < x22 then
  some (.inr (dp h23))
  else
  (if x21 = 0 then
  some (.inr (dp h23))
  else
  (if x22 = 20 then
  J_X12_laid_92 i0 a1 x13 x15 x17 x22 h23
  else
  (F_X12_isBell i0 x22 h23).bind fun x51 =>
  (if x51 = 0 then
  nm (x22 + 1) fun x52 =>
  some (.inl (x21, x52, (dp h23)))
  else
  (F_X12_isFixed i0 x22 h23).bind fun x55 =>
  (if x55 = 0 then
  (F_X12_couldBe i0 x17 x22 h23).bind fun x59 =>
  (if x59 = 0 then
  nm (x22 + 1) fun x60 =>
  some (.inl (x21, x60, (dp h23)))
  else
  J_X12_laid_92 i0 a1 x13 x15 x17 x22 h23)
  else
  nm (x22 + 1) fun x56 =>
  some (.inl (x21, x56, (dp h23))))))))
def B_X12_laid_32 (i0 : Nat) (a1 : Int32) (x13 : Int32) (x15 : Int32) (h9 : HP) (q : Int32 × DP) : Option ((Int32 × DP) ⊕ (DP)) :=
  u2 q fun x17 d20 =>
  nm (wd h9 d20) fun h18 =>
  (if a1 < x17 then
  some (.inr (dp h18))
  else
  (loopN LF (B_X12_laid_44 i0 a1 x13 x15 x17 h18) (1, 0, (dp h18))).bind fun d71 =>
  nm (wd h18 d71) fun h72 =>
  nm (x17 + 1) fun x74 =>
  some (.inl (x74, (dp h72))))
def F_X12_laid (i0 : Nat) (a1 : Int32) (h : HP) : Option (Int32 × DP) :=
  (F_X12_isUnnamed i0 a1 h).bind fun x2 =>
  (if x2 = 0 then
  some ((-2), dp h)
  else
  (F_X12_frees i0 h).bind fun d7 => nm (wd h d7) fun h4 =>
  (F_X12_lays i0 h4).bind fun d12 => nm (wd h4 d12) fun h9 =>
  nm ((gi h9 12 i0 35)) fun x13 =>
  nm ((gi h9 12 i0 36)) fun x15 =>
  (loopN LF (B_X12_laid_32 i0 a1 x13 x15 h9) (0, (dp h9))).bind fun d81 =>
  nm (wd h9 d81) fun h82 =>
  (gr h82 12 i0 34).bind fun o84 =>
  (ga h82 71 o84 8 a1).bind fun x87 =>
  (if x87 = 20 then
  some ((-1), dp h82)
  else
  (gr h82 12 i0 34).bind fun o90 =>
  (ga h82 71 o90 8 a1).bind fun x93 =>
  some (x93, dp h82)))
set_option maxHeartbeats 4000000 in
set_option maxRecDepth 100000 in
theorem ok_X12_laid {l : Launch} {D : va_G} {cA : Nat → ClassId} {h : HP} {r : Int32} {d : DP} (i0 : Nat) (a1 : Int32) (al_0 : i0 < gn h 12) (hF : F_X12_laid i0 a1 h = some (r, d)) : MI l D cA yX12_laid cX12_laid 7 (some .int) 4 95 (fun φ => [.ref (φ 12 i0), .int a1]) h r (wd h d) := by
  refine mk_I (plainFor_of_name (by decide)) (fun φ => Nat.le_of_ble_eq_true rfl) ?_
  intro p e s m args below meth c ls φ A Q X hW hS hl hfin
  have hx := X.1
  have hb := X.2.1
  have hl : lv_has ls 7 [(0, .ref (φ 12 i0)), (1, .int a1)] := hl
  unfold F_X12_laid at hF
  refine lv_aload_n hx hb dX12_laid_0 rfl (lv_at hl 0 rfl) ?_
  refine lv_iload_n hx hb dX12_laid_1 rfl (lv_at hl 1 rfl) ?_
  obtain ⟨x2, e1, hF⟩ := bn hF
  refine rc_i (Af := fun φ => [.ref (φ 12 i0), .int a1]) X hW hS ⟨Nat.zero_le _, Nat.zero_le _⟩ (rn_V (As := [.int a1]) (rest := []) X hW hS cw_12_266 al_0 rfl rfl rfl ⟨Nat.le_of_ble_eq_true rfl, Nat.le_of_ble_eq_true rfl⟩ rfl hl.1 rfl (Nat.le_of_ble_eq_true rfl) dX12_laid_2) (ok_X12_isUnnamed i0 a1 al_0 e1) (fun H locs hW hS => ?_)
  refine lv_if_ne (tgt := 11) hx hb dX12_laid_5 (by decide) (fun c98 => ?_) (fun c98 => ?_)
  · have hF := ie c98 hF
    refine lv_aload_n hx hb dX12_laid_11 rfl (lv_at hl 0 rfl) ?_
    obtain ⟨d7, e3, hF⟩ := bn hF
    refine rc_v (Af := fun φ => [.ref (φ 12 i0)]) X hW hS ⟨Nat.zero_le _, Nat.zero_le _⟩ (rn_V (As := []) (rest := []) X hW hS cw_12_291 al_0 rfl rfl rfl ⟨Nat.le_of_ble_eq_true rfl, Nat.le_of_ble_eq_true rfl⟩ rfl hl.1 rfl (Nat.le_of_ble_eq_true rfl) dX12_laid_12) (ok_X12_frees i0 al_0 e3) (fun H locs hW hS => ?_)
    obtain ⟨h4, e6, hF⟩ := nmx hF
    have hW := nmW e6 hW
    have g5 : h4.2.2 = h.2.2 := by rw [e6]; exact rfl
    refine lv_aload_n hx hb dX12_laid_15 rfl (lv_at hl 0 rfl) ?_
    obtain ⟨d12, e8, hF⟩ := bn hF
    refine rc_v (Af := fun φ => [.ref (φ 12 i0)]) X hW hS ⟨Nat.zero_le _, Nat.zero_le _⟩ (rn_V (As := []) (rest := []) X hW hS cw_12_294 (gq g5 al_0) rfl rfl rfl ⟨Nat.le_of_ble_eq_true rfl, Nat.le_of_ble_eq_true rfl⟩ rfl hl.1 rfl (Nat.le_of_ble_eq_true rfl) dX12_laid_16) (ok_X12_lays i0 (gq g5 al_0) e8) (fun H locs hW hS => ?_)
    obtain ⟨h9, e11, hF⟩ := nmx hF
    have hW := nmW e11 hW
    have g10 : h9.2.2 = h.2.2 := by rw [e11]; exact g5
    refine lv_aload_n hx hb dX12_laid_19 rfl (lv_at hl 0 rfl) ?_
    refine r_geti X hW (gq g10 al_0) fl_12_285 dX12_laid_20 ?_
    obtain ⟨x13, e14, hF⟩ := nmx hF
    refine nmi e14 ?_
    refine lv_istore_n (lv' := [(2, .int x13), (0, .ref (φ 12 i0)), (1, .int a1)]) hx hb dX12_laid_23 rfl hl (by decide) rfl (fun ls hl => ?_)
    refine lv_aload_n hx hb dX12_laid_24 rfl (lv_at hl 1 rfl) ?_
    refine r_geti X hW (gq g10 al_0) fl_12_288 dX12_laid_25 ?_
    obtain ⟨x15, e16, hF⟩ := nmx hF
    refine nmi e16 ?_
    refine lv_istore_n (lv' := [(3, .int x15), (2, .int x13), (0, .ref (φ 12 i0)), (1, .int a1)]) hx hb dX12_laid_28 rfl hl (by decide) rfl (fun ls hl => ?_)
    refine lv_iconst (v := 0) hx hb dX12_laid_29 (by decide) ?_
    refine lv_istore (lv' := [(4, .int 0), (3, .int x15), (2, .int x13), (0, .ref (φ 12 i0)), (1, .int a1)]) hx hb dX12_laid_30 hl (by decide) rfl (fun ls hl => ?_)
    obtain ⟨q78, e79, hF⟩ := bn hF
    refine loop_w (f := B_X12_laid_32 i0 a1 x13 x15 h9) (Z := fun q => ∀ (H : Heap) (locs : List Loc) (ls : Array Slot), HW D cA A φ (wd h9 q.2) H → va_S A s.heap H locs → lv_has ls 7 [(0, .ref (φ 12 i0)), (1, .int a1), (2, .int x13), (3, .int x15), (4, .int (q.1))] → W p l e (rmo 4 95 0 0) s m args below meth c H locs 0 0 Q (F0 m 32 ls [])) (K := fun q => ∀ (H : Heap) (locs : List Loc) (ls : Array Slot), HW D cA A φ (wd h9 q) H → va_S A s.heap H locs → lv_has ls 7 [(0, .ref (φ 12 i0)), (1, .int a1)] → W p l e (rmo 4 95 0 0) s m args below meth c H locs 0 0 Q (F0 m 159 ls [])) ?_ LF _ q78 e79 ?_ _ _ _ (wdW rfl hW) hS (lv_sub hl [3, 4, 2, 1, 0] rfl)
    · intro q v hF hK H locs ls hW hS hl
      obtain ⟨x17, d20⟩ := q
      unfold B_X12_laid_32 at hF
      have hF := u2d hF
      obtain ⟨h18, e80, hF⟩ := nmx hF
      have hW := nmW e80 hW
      have g19 : h18.2.2 = h.2.2 := by rw [e80]; exact g10
      have hl : lv_has ls 7 [(0, .ref (φ 12 i0)), (1, .int a1), (2, .int x13), (3, .int x15), (4, .int x17)] := hl
      refine lv_iload hx hb dX12_laid_32 (lv_at hl 4 rfl) ?_
      refine lv_iload_n hx hb dX12_laid_34 rfl (lv_at hl 1 rfl) ?_
      refine lv_icmp_gt (tgt := 159) hx hb dX12_laid_35 (by decide) (fun c77 => ?_) (fun c77 => ?_)
      · have hF := it c77 hF
        obtain rfl := sj hF
        exact hK _ _ _ (wdW (sq g19 g10) hW) hS (lv_sub hl [0, 1] rfl)
      · have hF := ie c77 hF
        refine lv_iconst (v := 1) hx hb dX12_laid_38 (by decide) ?_
        refine lv_istore (lv' := [(5, .int 1), (0, .ref (φ 12 i0)), (1, .int a1), (2, .int x13), (3, .int x15), (4, .int x17)]) hx hb dX12_laid_39 hl (by decide) rfl (fun ls hl => ?_)
        refine lv_iconst (v := 0) hx hb dX12_laid_41 (by decide) ?_
        refine lv_istore (lv' := [(6, .int 0), (5, .int 1), (0, .ref (φ 12 i0)), (1, .int a1), (2, .int x13), (3, .int x15), (4, .int x17)]) hx hb dX12_laid_42 hl (by decide) rfl (fun ls hl => ?_)
        obtain ⟨q68, e69, hF⟩ := bn hF
        refine loop_w (f := B_X12_laid_44 i0 a1 x13 x15 x17 h18) (Z := fun q => ∀ (H : Heap) (locs : List Loc) (ls : Array Slot), HW D cA A φ (wd h18 q.2.2) H → va_S A s.heap H locs → lv_has ls 7 [(0, .ref (φ 12 i0)), (1, .int a1), (2, .int x13), (3, .int x15), (4, .int x17), (5, .int (q.1)), (6, .int (q.2.1))] → W p l e (rmo 4 95 0 0) s m args below meth c H locs 0 0 Q (F0 m 44 ls [])) (K := fun q => ∀ (H : Heap) (locs : List Loc) (ls : Array Slot), HW D cA A φ (wd h18 q) H → va_S A s.heap H locs → lv_has ls 7 [(0, .ref (φ 12 i0)), (1, .int a1), (2, .int x13), (3, .int x15), (4, .int x17)] → W p l e (rmo 4 95 0 0) s m args below meth c H locs 0 0 Q (F0 m 153 ls [])) ?_ LF _ q68 e69 ?_ _ _ _ (wdW rfl hW) hS (lv_sub hl [2, 3, 4, 5, 6, 1, 0] rfl)
        · intro q v hF hK H locs ls hW hS hl
          obtain ⟨x21, x22, d25⟩ := q
          unfold B_X12_laid_44 at hF
          have hF := u3d hF
          obtain ⟨h23, e70, hF⟩ := nmx hF
          have hW := nmW e70 hW
          have g24 : h23.2.2 = h.2.2 := by rw [e70]; exact g19
          have hl : lv_has ls 7 [(0, .ref (φ 12 i0)), (1, .int a1), (2, .int x13), (3, .int x15), (4, .int x17), (5, .int x21), (6, .int x22)] := hl
          have j_146 : ∀ (v5_146 : Int32) (v6_146 : Int32) (t0_146 : Int32) (t1_146 : Int32) (t2_146 : Nat) (hj146 : HP) (H : Heap) (locs : List Loc) (ls : Array Slot), hj146.2.2 = h.2.2 → t2_146 < gn h 71 → J_X12_laid_146 i0 a1 x13 x15 x17 v5_146 v6_146 t0_146 t1_146 t2_146 hj146 = some v → HW D cA A φ hj146 H → va_S A s.heap H locs → lv_has ls 7 [(0, .ref (φ 12 i0)), (1, .int a1), (2, .int x13), (3, .int x15), (4, .int x17), (5, .int v5_146), (6, .int v6_146)] → W p l e (rmo 4 95 0 0) s m args below meth c H locs 0 0 Q (F0 m 146 ls [.int t0_146, .int t1_146, .ref (φ 71 t2_146)]) := by
            intro v5_146 v6_146 t0_146 t1_146 t2_146 hj146 H locs ls gj146 alt2_146 hF hW hS hl
            unfold J_X12_laid_146 at hF
            obtain ⟨h26, e27, hF⟩ := bn hF
            obtain ⟨b28, e27⟩ := sa_s e27
            refine r_iast X hW hS (gq gj146 alt2_146) rfl b28 dX12_laid_146 (fun H locs hW hS => ?_)
            have hW := nmW e27 hW
            have g29 : h26.2.2 = h.2.2 := by rw [e27]; exact gj146
            obtain ⟨x30, e31, hF⟩ := nmx hF
            refine lv_iinc (v := x30) (lv' := [(6, .int x30), (0, .ref (φ 12 i0)), (1, .int a1), (2, .int x13), (3, .int x15), (4, .int x17), (5, .int v5_146)]) hx hb dX12_laid_147 hl (k := 6) rfl (by rw [e31]; rfl) (by decide) rfl (fun ls hl => ?_)
            refine lv_goto (tgt := 44) hx hb dX12_laid_150 (by decide) ?_
            obtain rfl := sj hF
            exact hK _ _ _ (wdW (sq g29 g19) hW) hS (lv_sub hl [1, 2, 3, 4, 5, 6, 0] rfl)
          have j_126 : ∀ (v6_126 : Int32) (t0_126 : Int32) (hj126 : HP) (H : Heap) (locs : List Loc) (ls : Array Slot), hj126.2.2 = h.2.2 → J_X12_laid_126 i0 a1 x13 x15 x17 v6_126 t0_126 hj126 = some v → HW D cA A φ hj126 H → va_S A s.heap H locs → lv_has ls 7 [(0, .ref (φ 12 i0)), (1, .int a1), (2, .int x13), (3, .int x15), (4, .int x17), (6, .int v6_126)] → W p l e (rmo 4 95 0 0) s m args below meth c H locs 0 0 Q (F0 m 126 ls [.int t0_126]) := by
            intro v6_126 t0_126 hj126 H locs ls gj126 hF hW hS hl
            unfold J_X12_laid_126 at hF
            refine lv_istore (lv' := [(5, .int t0_126), (0, .ref (φ 12 i0)), (1, .int a1), (2, .int x13), (3, .int x15), (4, .int x17), (6, .int v6_126)]) hx hb dX12_laid_126 hl (by decide) rfl (fun ls hl => ?_)
            refine lv_aload_n hx hb dX12_laid_128 rfl (lv_at hl 1 rfl) ?_
            obtain ⟨o32, e33, hF⟩ := bn hF
            refine r_getr X hW (gq gj126 al_0) fl_12_88 e33 dX12_laid_129 (fun al34 => ?_)
            have al34 := qg gj126 al34
            refine lv_iload hx hb dX12_laid_132 (lv_at hl 5 rfl) ?_
            refine lv_iload hx hb dX12_laid_134 (lv_at hl 0 rfl) ?_
            refine lv_if_eq (tgt := 144) hx hb dX12_laid_136 (by decide) (fun c35 => ?_) (fun c35 => ?_)
            · have hF := it c35 hF
              refine lv_iload hx hb dX12_laid_144 (lv_at hl 6 rfl) ?_
              exact j_146 t0_126 v6_126 v6_126 x17 o32 hj126 _ _ _ gj126 al34 hF hW hS (lv_sub hl [1, 2, 3, 4, 5, 0, 6] rfl)
            · have hF := ie c35 hF
              refine lv_bipush (v := 21) hx hb dX12_laid_139 (by decide) ?_
              refine lv_goto (tgt := 146) hx hb dX12_laid_141 (by decide) ?_
              exact j_146 t0_126 v6_126 21 x17 o32 hj126 _ _ _ gj126 al34 hF hW hS (lv_sub hl [1, 2, 3, 4, 5, 0, 6] rfl)
          have j_92 : ∀ (v6_92 : Int32) (hj92 : HP) (H : Heap) (locs : List Loc) (ls : Array Slot), hj92.2.2 = h.2.2 → J_X12_laid_92 i0 a1 x13 x15 x17 v6_92 hj92 = some v → HW D cA A φ hj92 H → va_S A s.heap H locs → lv_has ls 7 [(0, .ref (φ 12 i0)), (1, .int a1), (2, .int x13), (3, .int x15), (4, .int x17), (6, .int v6_92)] → W p l e (rmo 4 95 0 0) s m args below meth c H locs 0 0 Q (F0 m 92 ls []) := by
            intro v6_92 hj92 H locs ls gj92 hF hW hS hl
            unfold J_X12_laid_92 at hF
            refine lv_aload_n hx hb dX12_laid_92 rfl (lv_at hl 0 rfl) ?_
            obtain ⟨o36, e37, hF⟩ := bn hF
            refine r_getr X hW (gq gj92 al_0) fl_12_88 e37 dX12_laid_93 (fun al38 => ?_)
            have al38 := qg gj92 al38
            refine lv_iload hx hb dX12_laid_96 (lv_at hl 4 rfl) ?_
            refine lv_iload hx hb dX12_laid_98 (lv_at hl 5 rfl) ?_
            obtain ⟨h39, e40, hF⟩ := bn hF
            obtain ⟨b41, e40⟩ := sa_s e40
            refine r_iast X hW hS (gq gj92 al38) rfl b41 dX12_laid_100 (fun H locs hW hS => ?_)
            have hW := nmW e40 hW
            have g42 : h39.2.2 = h.2.2 := by rw [e40]; exact gj92
            refine lv_aload_n hx hb dX12_laid_101 rfl (lv_at hl 0 rfl) ?_
            obtain ⟨d47, e43, hF⟩ := bn hF
            refine rc_v (Af := fun φ => [.ref (φ 12 i0)]) X hW hS ⟨Nat.zero_le _, Nat.zero_le _⟩ (rn_V (As := []) (rest := []) X hW hS cw_12_294 (gq g42 al_0) rfl rfl rfl ⟨Nat.le_of_ble_eq_true rfl, Nat.le_of_ble_eq_true rfl⟩ rfl hl.1 rfl (Nat.le_of_ble_eq_true rfl) dX12_laid_102) (ok_X12_lays i0 (gq g42 al_0) e43) (fun H locs hW hS => ?_)
            obtain ⟨h44, e46, hF⟩ := nmx hF
            have hW := nmW e46 hW
            have g45 : h44.2.2 = h.2.2 := by rw [e46]; exact g42
            refine lv_aload_n hx hb dX12_laid_105 rfl (lv_at hl 0 rfl) ?_
            refine r_geti X hW (gq g45 al_0) fl_12_285 dX12_laid_106 ?_
            refine lv_iload_n hx hb dX12_laid_109 rfl (lv_at hl 2 rfl) ?_
            refine lv_icmp_ne (tgt := 121) hx hb dX12_laid_110 (by decide) (fun c49 => ?_) (fun c49 => ?_)
            · have hF := ie c49 hF
              refine lv_iconst (v := 1) hx hb dX12_laid_121 (by decide) ?_
              refine lv_goto (tgt := 126) hx hb dX12_laid_122 (by decide) ?_
              exact j_126 v6_92 1 h44 _ _ _ g45 hF hW hS (lv_sub hl [0, 1, 2, 3, 4, 5] rfl)
            · have hF := it c49 hF
              refine lv_aload_n hx hb dX12_laid_113 rfl (lv_at hl 0 rfl) ?_
              refine r_geti X hW (gq g45 al_0) fl_12_288 dX12_laid_114 ?_
              refine lv_iload_n hx hb dX12_laid_117 rfl (lv_at hl 3 rfl) ?_
              refine lv_icmp_eq (tgt := 125) hx hb dX12_laid_118 (by decide) (fun c48 => ?_) (fun c48 => ?_)
              · have hF := it c48 hF
                refine lv_iconst (v := 0) hx hb dX12_laid_125 (by decide) ?_
                exact j_126 v6_92 0 h44 _ _ _ g45 hF hW hS (lv_sub hl [0, 1, 2, 3, 4, 5] rfl)
              · have hF := ie c48 hF
                refine lv_iconst (v := 1) hx hb dX12_laid_121 (by decide) ?_
                refine lv_goto (tgt := 126) hx hb dX12_laid_122 (by decide) ?_
                exact j_126 v6_92 1 h44 _ _ _ g45 hF hW hS (lv_sub hl [0, 1, 2, 3, 4, 5] rfl)
          refine lv_iload hx hb dX12_laid_44 (lv_at hl 6 rfl) ?_
          refine lv_bipush (v := 20) hx hb dX12_laid_46 (by decide) ?_
          refine lv_icmp_gt (tgt := 153) hx hb dX12_laid_48 (by decide) (fun c67 => ?_) (fun c67 => ?_)
          · have hF := it c67 hF
            obtain rfl := sj hF
            exact hK _ _ _ (wdW (sq g24 g19) hW) hS (lv_sub hl [0, 1, 2, 3, 4] rfl)
          · have hF := ie c67 hF
            refine lv_iload hx hb dX12_laid_51 (lv_at hl 5 rfl) ?_
            refine lv_if_eq (tgt := 153) hx hb dX12_laid_53 (by decide) (fun c66 => ?_) (fun c66 => ?_)
            · have hF := it c66 hF
              obtain rfl := sj hF
              exact hK _ _ _ (wdW (sq g24 g19) hW) hS (lv_sub hl [0, 1, 2, 3, 4] rfl)
            · have hF := ie c66 hF
              refine lv_iload hx hb dX12_laid_56 (lv_at hl 6 rfl) ?_
              refine lv_bipush (v := 20) hx hb dX12_laid_58 (by decide) ?_
              refine lv_icmp_eq (tgt := 92) hx hb dX12_laid_60 (by decide) (fun c65 => ?_) (fun c65 => ?_)
              · have hF := it c65 hF
                exact j_92 x22 h23 _ _ _ g24 hF hW hS (lv_sub hl [0, 1, 2, 3, 4, 6] rfl)
              · have hF := ie c65 hF
                refine lv_aload_n hx hb dX12_laid_63 rfl (lv_at hl 0 rfl) ?_
                refine lv_iload hx hb dX12_laid_64 (lv_at hl 6 rfl) ?_
                obtain ⟨x51, e50, hF⟩ := bn hF
                refine rc_i (Af := fun φ => [.ref (φ 12 i0), .int x22]) X hW hS ⟨Nat.zero_le _, Nat.zero_le _⟩ (rn_V (As := [.int x22]) (rest := []) X hW hS cw_12_190 (gq g24 al_0) rfl rfl rfl ⟨Nat.le_of_ble_eq_true rfl, Nat.le_of_ble_eq_true rfl⟩ rfl hl.1 rfl (Nat.le_of_ble_eq_true rfl) dX12_laid_66) (ok_X12_isBell i0 x22 (gq g24 al_0) e50) (fun H locs hW hS => ?_)
                refine lv_if_eq (tgt := 147) hx hb dX12_laid_69 (by decide) (fun c64 => ?_) (fun c64 => ?_)
                · have hF := it c64 hF
                  obtain ⟨x52, e53, hF⟩ := nmx hF
                  refine lv_iinc (v := x52) (lv' := [(6, .int x52), (0, .ref (φ 12 i0)), (1, .int a1), (2, .int x13), (3, .int x15), (4, .int x17), (5, .int x21)]) hx hb dX12_laid_147 hl (k := 6) rfl (by rw [e53]; rfl) (by decide) rfl (fun ls hl => ?_)
                  refine lv_goto (tgt := 44) hx hb dX12_laid_150 (by decide) ?_
                  obtain rfl := sj hF
                  exact hK _ _ _ (wdW (sq g24 g19) hW) hS (lv_sub hl [1, 2, 3, 4, 5, 6, 0] rfl)
                · have hF := ie c64 hF
                  refine lv_aload_n hx hb dX12_laid_72 rfl (lv_at hl 0 rfl) ?_
                  refine lv_iload hx hb dX12_laid_73 (lv_at hl 6 rfl) ?_
                  obtain ⟨x55, e54, hF⟩ := bn hF
                  refine rc_i (Af := fun φ => [.ref (φ 12 i0), .int x22]) X hW hS ⟨Nat.zero_le _, Nat.zero_le _⟩ (rn_V (As := [.int x22]) (rest := []) X hW hS cw_12_279 (gq g24 al_0) rfl rfl rfl ⟨Nat.le_of_ble_eq_true rfl, Nat.le_of_ble_eq_true rfl⟩ rfl hl.1 rfl (Nat.le_of_ble_eq_true rfl) dX12_laid_75) (ok_X12_isFixed i0 x22 (gq g24 al_0) e54) (fun H locs hW hS => ?_)
                  refine lv_if_ne (tgt := 147) hx hb dX12_laid_78 (by decide) (fun c63 => ?_) (fun c63 => ?_)
                  · have hF := ie c63 hF
                    obtain ⟨x56, e57, hF⟩ := nmx hF
                    refine lv_iinc (v := x56) (lv' := [(6, .int x56), (0, .ref (φ 12 i0)), (1, .int a1), (2, .int x13), (3, .int x15), (4, .int x17), (5, .int x21)]) hx hb dX12_laid_147 hl (k := 6) rfl (by rw [e57]; rfl) (by decide) rfl (fun ls hl => ?_)
                    refine lv_goto (tgt := 44) hx hb dX12_laid_150 (by decide) ?_
                    obtain rfl := sj hF
                    exact hK _ _ _ (wdW (sq g24 g19) hW) hS (lv_sub hl [1, 2, 3, 4, 5, 6, 0] rfl)
                  · have hF := it c63 hF
                    refine lv_aload_n hx hb dX12_laid_81 rfl (lv_at hl 0 rfl) ?_
                    refine lv_iload hx hb dX12_laid_82 (lv_at hl 4 rfl) ?_
                    refine lv_iload hx hb dX12_laid_84 (lv_at hl 6 rfl) ?_
                    obtain ⟨x59, e58, hF⟩ := bn hF
                    refine rc_i (Af := fun φ => [.ref (φ 12 i0), .int x17, .int x22]) X hW hS ⟨Nat.zero_le _, Nat.zero_le _⟩ (rn_V (As := [.int x17, .int x22]) (rest := []) X hW hS cw_12_263 (gq g24 al_0) rfl rfl rfl ⟨Nat.le_of_ble_eq_true rfl, Nat.le_of_ble_eq_true rfl⟩ rfl hl.1 rfl (Nat.le_of_ble_eq_true rfl) dX12_laid_86) (ok_X12_couldBe i0 x17 x22 (gq g24 al_0) e58) (fun H locs hW hS => ?_)
                    refine lv_if_eq (tgt := 147) hx hb dX12_laid_89 (by decide) (fun c62 => ?_) (fun c62 => ?_)
                    · have hF := it c62 hF
                      obtain ⟨x60, e61, hF⟩ := nmx hF
                      refine lv_iinc (v := x60) (lv' := [(6, .int x60), (0, .ref (φ 12 i0)), (1, .int a1), (2, .int x13), (3, .int x15), (4, .int x17), (5, .int x21)]) hx hb dX12_laid_147 hl (k := 6) rfl (by rw [e61]; rfl) (by decide) rfl (fun ls hl => ?_)
                      refine lv_goto (tgt := 44) hx hb dX12_laid_150 (by decide) ?_
                      obtain rfl := sj hF
                      exact hK _ _ _ (wdW (sq g24 g19) hW) hS (lv_sub hl [1, 2, 3, 4, 5, 6, 0] rfl)
                    · have hF := ie c62 hF
                      exact j_92 x22 h23 _ _ _ g24 hF hW hS (lv_sub hl [0, 1, 2, 3, 4, 6] rfl)
        · intro H locs ls hW hS hl
          obtain ⟨d71, rfl⟩ : ∃ z, z = q68 := ⟨_, rfl⟩
          obtain ⟨h72, e76, hF⟩ := nmx hF
          have hW := nmW e76 hW
          have g73 : h72.2.2 = h.2.2 := by rw [e76]; exact g19
          have hl : lv_has ls 7 [(0, .ref (φ 12 i0)), (1, .int a1), (2, .int x13), (3, .int x15), (4, .int x17)] := hl
          obtain ⟨x74, e75, hF⟩ := nmx hF
          refine lv_iinc (v := x74) (lv' := [(4, .int x74), (0, .ref (φ 12 i0)), (1, .int a1), (2, .int x13), (3, .int x15)]) hx hb dX12_laid_153 hl (k := 4) rfl (by rw [e75]; rfl) (by decide) rfl (fun ls hl => ?_)
          refine lv_goto (tgt := 32) hx hb dX12_laid_156 (by decide) ?_
          obtain rfl := sj hF
          exact hK _ _ _ (wdW (sq g73 g10) hW) hS (lv_sub hl [1, 2, 3, 4, 0] rfl)
    · intro H locs ls hW hS hl
      obtain ⟨d81, rfl⟩ : ∃ z, z = q78 := ⟨_, rfl⟩
      obtain ⟨h82, e97, hF⟩ := nmx hF
      have hW := nmW e97 hW
      have g83 : h82.2.2 = h.2.2 := by rw [e97]; exact g10
      have hl : lv_has ls 7 [(0, .ref (φ 12 i0)), (1, .int a1)] := hl
      refine lv_aload_n hx hb dX12_laid_159 rfl (lv_at hl 0 rfl) ?_
      obtain ⟨o84, e85, hF⟩ := bn hF
      refine r_getr X hW (gq g83 al_0) fl_12_88 e85 dX12_laid_160 (fun al86 => ?_)
      have al86 := qg g83 al86
      refine lv_iload_n hx hb dX12_laid_163 rfl (lv_at hl 1 rfl) ?_
      obtain ⟨x87, e88, hF⟩ := bn hF
      obtain ⟨b89, e88⟩ := ga_s e88
      refine r_iald X hW (gq g83 al86) rfl b89 dX12_laid_164 ?_
      refine nmi e88 ?_
      refine lv_bipush (v := 20) hx hb dX12_laid_165 (by decide) ?_
      refine lv_icmp_ne (tgt := 174) hx hb dX12_laid_167 (by decide) (fun c96 => ?_) (fun c96 => ?_)
      · have hF := ie c96 hF
        refine lv_aload_n hx hb dX12_laid_174 rfl (lv_at hl 0 rfl) ?_
        obtain ⟨o90, e91, hF⟩ := bn hF
        refine r_getr X hW (gq g83 al_0) fl_12_88 e91 dX12_laid_175 (fun al92 => ?_)
        have al92 := qg g83 al92
        refine lv_iload_n hx hb dX12_laid_178 rfl (lv_at hl 1 rfl) ?_
        obtain ⟨x93, e94, hF⟩ := bn hF
        obtain ⟨b95, e94⟩ := ga_s e94
        refine r_iald X hW (gq g83 al92) rfl b95 dX12_laid_179 ?_
        refine nmi e94 ?_
        obtain ⟨rfl, rfl⟩ := sj2 hF
        exact hfin _ _ _ _ (wdW g83 hW) hS dX12_laid_180
      · have hF := it c96 hF
        refine lv_iconst (v := (-1)) hx hb dX12_laid_170 (by decide) ?_
        refine lv_goto (tgt := 180) hx hb dX12_laid_171 (by decide) ?_
        obtain ⟨rfl, rfl⟩ := sj2 hF
        exact hfin _ _ _ _ (wdW g83 hW) hS dX12_laid_180
  · have hF := it c98 hF
    refine lv_bipush (v := (-2)) hx hb dX12_laid_8 (by decide) ?_
    obtain ⟨rfl, rfl⟩ := sj2 hF
    exact hfin _ _ _ _ (wdW rfl hW) hS dX12_laid_10
def J_X12_tune_50 (i0 : Nat) (a1 : Int32) (a2 : Int32) (t0_50 : Int32) (hj50 : HP) : Option (Int32 × DP) :=
  (if a1 = 0 then
  nm (si hj50 12 i0 37 a2) fun h4 =>
  some (t0_50, dp h4)
  else
  nm (si hj50 12 i0 38 a2) fun h1 =>
  some (t0_50, dp h1))
def J_X12_tune_26 (i0 : Nat) (a1 : Int32) (a2 : Int32) (t0_26 : Int64) (t1_26 : Int64) (t2_26 : Int64) (hj26 : HP) : Option (Int32 × DP) :=
  (F_X12_in t2_26 t1_26 t0_26).bind fun x9 =>
  (if x9 = 0 then
  some ((-2), dp hj26)
  else
  (if a1 = 0 then
  J_X12_tune_50 i0 a1 a2 (gi hj26 12 i0 37) hj26
  else
  J_X12_tune_50 i0 a1 a2 (gi hj26 12 i0 38) hj26))
def F_X12_tune (i0 : Nat) (a1 : Int32) (a2 : Int32) (h : HP) : Option (Int32 × DP) :=
  (F_X12_in ((a1).toInt64) 0 1).bind fun x13 =>
  (if x13 = 0 then
  some ((-2), dp h)
  else
  (if a1 = 0 then
  J_X12_tune_26 i0 a1 a2 49 0 ((a2).toInt64) h
  else
  J_X12_tune_26 i0 a1 a2 4095 0 ((a2).toInt64) h))
set_option maxHeartbeats 4000000 in
set_option maxRecDepth 100000 in
theorem ok_X12_tune {l : Launch} {D : va_G} {cA : Nat → ClassId} {h : HP} {r : Int32} {d : DP} (i0 : Nat) (a1 : Int32) (a2 : Int32) (al_0 : i0 < gn h 12) (hF : F_X12_tune i0 a1 a2 h = some (r, d)) : MI l D cA yX12_tune cX12_tune 4 (some .int) 1 25 (fun φ => [.ref (φ 12 i0), .int a1, .int a2]) h r (wd h d) := by
  refine mk_I (plainFor_of_name (by decide)) (fun φ => Nat.le_of_ble_eq_true rfl) ?_
  intro p e s m args below meth c ls φ A Q X hW hS hl hfin
  have hx := X.1
  have hb := X.2.1
  have hl : lv_has ls 4 [(0, .ref (φ 12 i0)), (1, .int a1), (2, .int a2)] := hl
  unfold F_X12_tune at hF
  have j_50 : ∀ (t0_50 : Int32) (hj50 : HP) (H : Heap) (locs : List Loc) (ls : Array Slot), hj50.2.2 = h.2.2 → J_X12_tune_50 i0 a1 a2 t0_50 hj50 = some (r, d) → HW D cA A φ hj50 H → va_S A s.heap H locs → lv_has ls 4 [(0, .ref (φ 12 i0)), (1, .int a1), (2, .int a2)] → W p l e (rmo 1 25 0 0) s m args below meth c H locs 0 0 Q (F0 m 50 ls [.int t0_50]) := by
    intro t0_50 hj50 H locs ls gj50 hF hW hS hl
    unfold J_X12_tune_50 at hF
    refine lv_istore_n (lv' := [(3, .int t0_50), (0, .ref (φ 12 i0)), (1, .int a1), (2, .int a2)]) hx hb dX12_tune_50 rfl hl (by decide) rfl (fun ls hl => ?_)
    refine lv_iload_n hx hb dX12_tune_51 rfl (lv_at hl 2 rfl) ?_
    refine lv_if_ne (tgt := 63) hx hb dX12_tune_52 (by decide) (fun c7 => ?_) (fun c7 => ?_)
    · have hF := ie c7 hF
      refine lv_aload_n hx hb dX12_tune_63 rfl (lv_at hl 1 rfl) ?_
      refine lv_iload_n hx hb dX12_tune_64 rfl (lv_at hl 3 rfl) ?_
      refine r_puti X hW hS (gq gj50 al_0) fp_12_95 rfl rfl dX12_tune_65 (fun H locs hW hS => ?_)
      obtain ⟨h1, e2, hF⟩ := nmx hF
      have hW := nmW e2 hW
      have g3 : h1.2.2 = h.2.2 := by rw [e2]; exact gj50
      refine lv_iload_n hx hb dX12_tune_68 rfl (lv_at hl 0 rfl) ?_
      obtain ⟨rfl, rfl⟩ := sj2 hF
      exact hfin _ _ _ _ (wdW g3 hW) hS dX12_tune_69
    · have hF := it c7 hF
      refine lv_aload_n hx hb dX12_tune_55 rfl (lv_at hl 1 rfl) ?_
      refine lv_iload_n hx hb dX12_tune_56 rfl (lv_at hl 3 rfl) ?_
      refine r_puti X hW hS (gq gj50 al_0) fp_12_91 rfl rfl dX12_tune_57 (fun H locs hW hS => ?_)
      obtain ⟨h4, e5, hF⟩ := nmx hF
      have hW := nmW e5 hW
      have g6 : h4.2.2 = h.2.2 := by rw [e5]; exact gj50
      refine lv_goto (tgt := 68) hx hb dX12_tune_60 (by decide) ?_
      refine lv_iload_n hx hb dX12_tune_68 rfl (lv_at hl 0 rfl) ?_
      obtain ⟨rfl, rfl⟩ := sj2 hF
      exact hfin _ _ _ _ (wdW g6 hW) hS dX12_tune_69
  have j_26 : ∀ (t0_26 : Int64) (t1_26 : Int64) (t2_26 : Int64) (hj26 : HP) (H : Heap) (locs : List Loc) (ls : Array Slot), hj26.2.2 = h.2.2 → J_X12_tune_26 i0 a1 a2 t0_26 t1_26 t2_26 hj26 = some (r, d) → HW D cA A φ hj26 H → va_S A s.heap H locs → lv_has ls 4 [(0, .ref (φ 12 i0)), (1, .int a1), (2, .int a2)] → W p l e (rmo 1 25 0 0) s m args below meth c H locs 0 0 Q (F0 m 26 ls [.long t0_26, .long t1_26, .long t2_26]) := by
    intro t0_26 t1_26 t2_26 hj26 H locs ls gj26 hF hW hS hl
    unfold J_X12_tune_26 at hF
    obtain ⟨x9, e8, hF⟩ := bn hF
    refine rc_i (Af := fun φ => [.long t2_26, .long t1_26, .long t0_26]) X hW hS ⟨Nat.zero_le _, Nat.zero_le _⟩ (rn_S (As := [.long t2_26, .long t1_26, .long t0_26]) (rest := []) X hW hS cw_12_139 ⟨Nat.le_of_ble_eq_true rfl, Nat.le_of_ble_eq_true rfl⟩ rfl hl.1 rfl (Nat.le_of_ble_eq_true rfl) dX12_tune_26) (ok_X12_in t2_26 t1_26 t0_26 e8) (fun H locs hW hS => ?_)
    refine lv_if_ne (tgt := 35) hx hb dX12_tune_29 (by decide) (fun c11 => ?_) (fun c11 => ?_)
    · have hF := ie c11 hF
      refine lv_iload_n hx hb dX12_tune_35 rfl (lv_at hl 1 rfl) ?_
      refine lv_if_ne (tgt := 46) hx hb dX12_tune_36 (by decide) (fun c10 => ?_) (fun c10 => ?_)
      · have hF := ie c10 hF
        refine lv_aload_n hx hb dX12_tune_46 rfl (lv_at hl 0 rfl) ?_
        refine r_geti X hW (gq gj26 al_0) fl_12_95 dX12_tune_47 ?_
        exact j_50 (gi hj26 12 i0 38) hj26 _ _ _ gj26 hF hW hS (lv_sub hl [0, 1, 2] rfl)
      · have hF := it c10 hF
        refine lv_aload_n hx hb dX12_tune_39 rfl (lv_at hl 0 rfl) ?_
        refine r_geti X hW (gq gj26 al_0) fl_12_91 dX12_tune_40 ?_
        refine lv_goto (tgt := 50) hx hb dX12_tune_43 (by decide) ?_
        exact j_50 (gi hj26 12 i0 37) hj26 _ _ _ gj26 hF hW hS (lv_sub hl [0, 1, 2] rfl)
    · have hF := it c11 hF
      refine lv_bipush (v := (-2)) hx hb dX12_tune_32 (by decide) ?_
      obtain ⟨rfl, rfl⟩ := sj2 hF
      exact hfin _ _ _ _ (wdW gj26 hW) hS dX12_tune_34
  refine lv_iload_n hx hb dX12_tune_0 rfl (lv_at hl 1 rfl) ?_
  refine lv_i2l (v := (a1).toInt64) hx hb dX12_tune_1 rfl ?_
  refine lv_lconst (v := 0) hx hb dX12_tune_2 (by decide) ?_
  refine lv_lconst (v := 1) hx hb dX12_tune_3 (by decide) ?_
  obtain ⟨x13, e12, hF⟩ := bn hF
  refine rc_i (Af := fun φ => [.long ((a1).toInt64), .long 0, .long 1]) X hW hS ⟨Nat.zero_le _, Nat.zero_le _⟩ (rn_S (As := [.long ((a1).toInt64), .long 0, .long 1]) (rest := []) X hW hS cw_12_139 ⟨Nat.le_of_ble_eq_true rfl, Nat.le_of_ble_eq_true rfl⟩ rfl hl.1 rfl (Nat.le_of_ble_eq_true rfl) dX12_tune_4) (ok_X12_in ((a1).toInt64) 0 1 e12) (fun H locs hW hS => ?_)
  refine lv_if_eq (tgt := 32) hx hb dX12_tune_7 (by decide) (fun c15 => ?_) (fun c15 => ?_)
  · have hF := it c15 hF
    refine lv_bipush (v := (-2)) hx hb dX12_tune_32 (by decide) ?_
    obtain ⟨rfl, rfl⟩ := sj2 hF
    exact hfin _ _ _ _ (wdW rfl hW) hS dX12_tune_34
  · have hF := ie c15 hF
    refine lv_iload_n hx hb dX12_tune_10 rfl (lv_at hl 2 rfl) ?_
    refine lv_i2l (v := (a2).toInt64) hx hb dX12_tune_11 rfl ?_
    refine lv_lconst (v := 0) hx hb dX12_tune_12 (by decide) ?_
    refine lv_iload_n hx hb dX12_tune_13 rfl (lv_at hl 1 rfl) ?_
    refine lv_if_ne (tgt := 23) hx hb dX12_tune_14 (by decide) (fun c14 => ?_) (fun c14 => ?_)
    · have hF := ie c14 hF
      refine lv_ldc2 (v := 4095) hx hb X.2.2.2.1 (X.2.2.2.2.1 _ (AL_of 1413 (by decide +kernel) rfl)) dX12_tune_23 ?_
      exact j_26 4095 0 ((a2).toInt64) h _ _ _ rfl hF hW hS (lv_sub hl [0, 1, 2] rfl)
    · have hF := it c14 hF
      refine lv_ldc2 (v := 49) hx hb X.2.2.2.1 (X.2.2.2.2.1 _ (AL_of 1412 (by decide +kernel) rfl)) dX12_tune_17 ?_
      refine lv_goto (tgt := 26) hx hb dX12_tune_20 (by decide) ?_
      exact j_26 49 0 ((a2).toInt64) h _ _ _ rfl hF hW hS (lv_sub hl [0, 1, 2] rfl)
def J_X12_rings_25 (i0 : Nat) (a2 : Int32) (h : HP) : Option (Int32) :=
  (gr h 12 i0 13).bind fun o1 =>
  (ga h 54 o1 100 ((5 * a2) + 4)).bind fun x4 =>
  (if x4 = (-1) then
  some 0
  else
  some 1)
def F_X12_rings (i0 : Nat) (a1 : Int32) (a2 : Int32) (h : HP) : Option (Int32) :=
  (F_X12_stateOf i0 a2 h).bind fun x9 =>
  (gr h 12 i0 9).bind fun o10 =>
  (ga h 50 o10 20 a2).bind fun x13 =>
  (if x13 = a1 then
  (if x9 = 0 then
  J_X12_rings_25 i0 a2 h
  else
  (if x9 = 5 then
  J_X12_rings_25 i0 a2 h
  else
  some 0))
  else
  some 0)
set_option maxHeartbeats 4000000 in
set_option maxRecDepth 100000 in
theorem ok_X12_rings {l : Launch} {D : va_G} {cA : Nat → ClassId} {h : HP} {r : Int32}  (i0 : Nat) (a1 : Int32) (a2 : Int32) (al_0 : i0 < gn h 12) (hF : F_X12_rings i0 a1 a2 h = some r) : MI l D cA yX12_rings cX12_rings 4 (some .boolean) 2 45 (fun φ => [.ref (φ 12 i0), .int a1, .int a2]) h r h := by
  refine mk_Z (plainFor_of_name (by decide)) (fun φ => Nat.le_of_ble_eq_true rfl) ?_
  intro p e s m args below meth c ls φ A Q X hW hS hl hfin
  have hx := X.1
  have hb := X.2.1
  have hl : lv_has ls 4 [(0, .ref (φ 12 i0)), (1, .int a1), (2, .int a2)] := hl
  unfold F_X12_rings at hF
  have j_25 : ∀  (H : Heap) (locs : List Loc) (ls : Array Slot), J_X12_rings_25 i0 a2 h = some r → HW D cA A φ h H → va_S A s.heap H locs → lv_has ls 4 [(0, .ref (φ 12 i0)), (2, .int a2)] → W p l e (rmo 2 45 0 0) s m args below meth c H locs 0 0 Q (F0 m 25 ls []) := by
    intro H locs ls hF hW hS hl
    unfold J_X12_rings_25 at hF
    refine lv_aload_n hx hb dX12_rings_25 rfl (lv_at hl 0 rfl) ?_
    obtain ⟨o1, e2, hF⟩ := bn hF
    refine r_getr X hW al_0 fl_12_37 e2 dX12_rings_26 (fun al3 => ?_)
    refine lv_iconst (v := 5) hx hb dX12_rings_29 (by decide) ?_
    refine lv_iload_n hx hb dX12_rings_30 rfl (lv_at hl 1 rfl) ?_
    refine lv_imul hx hb dX12_rings_31 ?_
    refine lv_iconst (v := 4) hx hb dX12_rings_32 (by decide) ?_
    refine lv_iadd hx hb dX12_rings_33 ?_
    obtain ⟨x4, e5, hF⟩ := bn hF
    obtain ⟨b6, e5⟩ := ga_s e5
    refine r_iald X hW al3 rfl b6 dX12_rings_34 ?_
    refine nmi e5 ?_
    refine lv_iconst (v := (-1)) hx hb dX12_rings_35 (by decide) ?_
    refine lv_icmp_eq (tgt := 43) hx hb dX12_rings_36 (by decide) (fun c7 => ?_) (fun c7 => ?_)
    · have hF := it c7 hF
      refine lv_iconst (v := 0) hx hb dX12_rings_43 (by decide) ?_
      obtain rfl := sj hF
      exact hfin _ _ _ _ hW hS (Or.inl rfl) dX12_rings_44
    · have hF := ie c7 hF
      refine lv_iconst (v := 1) hx hb dX12_rings_39 (by decide) ?_
      refine lv_goto (tgt := 44) hx hb dX12_rings_40 (by decide) ?_
      obtain rfl := sj hF
      exact hfin _ _ _ _ hW hS (Or.inr rfl) dX12_rings_44
  refine lv_aload_n hx hb dX12_rings_0 rfl (lv_at hl 0 rfl) ?_
  refine lv_iload_n hx hb dX12_rings_1 rfl (lv_at hl 2 rfl) ?_
  obtain ⟨x9, e8, hF⟩ := bn hF
  refine rc_i (Af := fun φ => [.ref (φ 12 i0), .int a2]) X hW hS ⟨Nat.zero_le _, Nat.zero_le _⟩ (rn_V (As := [.int a2]) (rest := []) X hW hS cw_12_200 al_0 rfl rfl rfl ⟨Nat.le_of_ble_eq_true rfl, Nat.le_of_ble_eq_true rfl⟩ rfl hl.1 rfl (Nat.le_of_ble_eq_true rfl) dX12_rings_2) (ok_X12_stateOf i0 a2 al_0 e8) (fun H locs hW hS => ?_)
  refine lv_istore_n (lv' := [(3, .int x9), (0, .ref (φ 12 i0)), (1, .int a1), (2, .int a2)]) hx hb dX12_rings_5 rfl hl (by decide) rfl (fun ls hl => ?_)
  refine lv_aload_n hx hb dX12_rings_6 rfl (lv_at hl 1 rfl) ?_
  obtain ⟨o10, e11, hF⟩ := bn hF
  refine r_getr X hW al_0 fl_12_25 e11 dX12_rings_7 (fun al12 => ?_)
  refine lv_iload_n hx hb dX12_rings_10 rfl (lv_at hl 3 rfl) ?_
  obtain ⟨x13, e14, hF⟩ := bn hF
  obtain ⟨b15, e14⟩ := ga_s e14
  refine r_iald X hW al12 rfl b15 dX12_rings_11 ?_
  refine nmi e14 ?_
  refine lv_iload_n hx hb dX12_rings_12 rfl (lv_at hl 2 rfl) ?_
  refine lv_icmp_ne (tgt := 43) hx hb dX12_rings_13 (by decide) (fun c18 => ?_) (fun c18 => ?_)
  · have hF := ie c18 hF
    refine lv_iconst (v := 0) hx hb dX12_rings_43 (by decide) ?_
    obtain rfl := sj hF
    exact hfin _ _ _ _ hW hS (Or.inl rfl) dX12_rings_44
  · have hF := it c18 hF
    refine lv_iload_n hx hb dX12_rings_16 rfl (lv_at hl 0 rfl) ?_
    refine lv_if_eq (tgt := 25) hx hb dX12_rings_17 (by decide) (fun c17 => ?_) (fun c17 => ?_)
    · have hF := it c17 hF
      exact j_25 _ _ _ hF hW hS (lv_sub hl [1, 3] rfl)
    · have hF := ie c17 hF
      refine lv_iload_n hx hb dX12_rings_20 rfl (lv_at hl 0 rfl) ?_
      refine lv_iconst (v := 5) hx hb dX12_rings_21 (by decide) ?_
      refine lv_icmp_ne (tgt := 43) hx hb dX12_rings_22 (by decide) (fun c16 => ?_) (fun c16 => ?_)
      · have hF := ie c16 hF
        refine lv_iconst (v := 0) hx hb dX12_rings_43 (by decide) ?_
        obtain rfl := sj hF
        exact hfin _ _ _ _ hW hS (Or.inl rfl) dX12_rings_44
      · have hF := it c16 hF
        exact j_25 _ _ _ hF hW hS (lv_sub hl [1, 3] rfl)
def B_X12_groundOf_4 (i0 : Nat) (a1 : Int32) (h : HP) (q : Int32 × Int32) : Option ((Int32 × Int32) ⊕ (Int32)) :=
  u2 q fun x1 x2 =>
  (if (gi h 12 i0 8) ≤ x2 then
  some (.inr x1)
  else
  (F_X12_rings i0 a1 x2 h).bind fun x4 =>
  (if x4 = 0 then
  nm (x2 + 1) fun x5 =>
  some (.inl (x1, x5))
  else
  (if x1 = (-1) then
  nm (x2 + 1) fun x7 =>
  some (.inl (x2, x7))
  else
  (gr h 12 i0 10).bind fun o9 =>
  (ga h 51 o9 20 x2).bind fun x12 =>
  (gr h 12 i0 10).bind fun o15 =>
  (ga h 51 o15 20 x1).bind fun x18 =>
  (if x12 ≤ x18 then
  nm (x2 + 1) fun x21 =>
  some (.inl (x1, x21))
  else
  nm (x2 + 1) fun x23 =>
  some (.inl (x2, x23))))))
def F_X12_groundOf (i0 : Nat) (a1 : Int32) (h : HP) : Option (Int32) :=
  (loopN LF (B_X12_groundOf_4 i0 a1 h) ((-1), 0)).bind fun x31 =>
  some x31
set_option maxHeartbeats 4000000 in
set_option maxRecDepth 100000 in
theorem ok_X12_groundOf {l : Launch} {D : va_G} {cA : Nat → ClassId} {h : HP} {r : Int32}  (i0 : Nat) (a1 : Int32) (al_0 : i0 < gn h 12) (hF : F_X12_groundOf i0 a1 h = some r) : MI l D cA yX12_groundOf cX12_groundOf 4 (some .int) 3 68 (fun φ => [.ref (φ 12 i0), .int a1]) h r h := by
  refine mk_I (plainFor_of_name (by decide)) (fun φ => Nat.le_of_ble_eq_true rfl) ?_
  intro p e s m args below meth c ls φ A Q X hW hS hl hfin
  have hx := X.1
  have hb := X.2.1
  have hl : lv_has ls 4 [(0, .ref (φ 12 i0)), (1, .int a1)] := hl
  unfold F_X12_groundOf at hF
  refine lv_iconst (v := (-1)) hx hb dX12_groundOf_0 (by decide) ?_
  refine lv_istore_n (lv' := [(2, .int (-1)), (0, .ref (φ 12 i0)), (1, .int a1)]) hx hb dX12_groundOf_1 rfl hl (by decide) rfl (fun ls hl => ?_)
  refine lv_iconst (v := 0) hx hb dX12_groundOf_2 (by decide) ?_
  refine lv_istore_n (lv' := [(3, .int 0), (2, .int (-1)), (0, .ref (φ 12 i0)), (1, .int a1)]) hx hb dX12_groundOf_3 rfl hl (by decide) rfl (fun ls hl => ?_)
  obtain ⟨q29, e30, hF⟩ := bn hF
  refine loop_w (f := B_X12_groundOf_4 i0 a1 h) (Z := fun q => ∀ (H : Heap) (locs : List Loc) (ls : Array Slot), HW D cA A φ h H → va_S A s.heap H locs → lv_has ls 4 [(0, .ref (φ 12 i0)), (1, .int a1), (2, .int (q.1)), (3, .int (q.2))] → W p l e (rmo 3 68 0 0) s m args below meth c H locs 0 0 Q (F0 m 4 ls [])) (K := fun q => ∀ (H : Heap) (locs : List Loc) (ls : Array Slot), HW D cA A φ h H → va_S A s.heap H locs → lv_has ls 4 [(2, .int q)] → W p l e (rmo 3 68 0 0) s m args below meth c H locs 0 0 Q (F0 m 53 ls [])) ?_ LF _ q29 e30 ?_ _ _ _ hW hS (lv_sub hl [2, 3, 1, 0] rfl)
  · intro q v hF hK H locs ls hW hS hl
    obtain ⟨x1, x2⟩ := q
    unfold B_X12_groundOf_4 at hF
    have hF := u2d hF
    have hl : lv_has ls 4 [(0, .ref (φ 12 i0)), (1, .int a1), (2, .int x1), (3, .int x2)] := hl
    refine lv_iload_n hx hb dX12_groundOf_4 rfl (lv_at hl 3 rfl) ?_
    refine lv_aload_n hx hb dX12_groundOf_5 rfl (lv_at hl 0 rfl) ?_
    refine r_geti X hW al_0 fl_12_167 dX12_groundOf_6 ?_
    refine lv_icmp_ge (tgt := 53) hx hb dX12_groundOf_9 (by decide) (fun c28 => ?_) (fun c28 => ?_)
    · have hF := it c28 hF
      obtain rfl := sj hF
      exact hK _ _ _ hW hS (lv_sub hl [2] rfl)
    · have hF := ie c28 hF
      refine lv_aload_n hx hb dX12_groundOf_12 rfl (lv_at hl 0 rfl) ?_
      refine lv_iload_n hx hb dX12_groundOf_13 rfl (lv_at hl 1 rfl) ?_
      refine lv_iload_n hx hb dX12_groundOf_14 rfl (lv_at hl 3 rfl) ?_
      obtain ⟨x4, e3, hF⟩ := bn hF
      refine rc_i (Af := fun φ => [.ref (φ 12 i0), .int a1, .int x2]) X hW hS ⟨Nat.zero_le _, Nat.zero_le _⟩ (rn_V (As := [.int a1, .int x2]) (rest := []) X hW hS cw_12_301 al_0 rfl rfl rfl ⟨Nat.le_of_ble_eq_true rfl, Nat.le_of_ble_eq_true rfl⟩ rfl hl.1 rfl (Nat.le_of_ble_eq_true rfl) dX12_groundOf_15) (ok_X12_rings i0 a1 x2 al_0 e3) (fun H locs hW hS => ?_)
      refine lv_if_eq (tgt := 45) hx hb dX12_groundOf_18 (by decide) (fun c27 => ?_) (fun c27 => ?_)
      · have hF := it c27 hF
        refine lv_iload_n hx hb dX12_groundOf_45 rfl (lv_at hl 2 rfl) ?_
        refine lv_istore_n (lv' := [(2, .int x1), (0, .ref (φ 12 i0)), (1, .int a1), (3, .int x2)]) hx hb dX12_groundOf_46 rfl hl (by decide) rfl (fun ls hl => ?_)
        obtain ⟨x5, e6, hF⟩ := nmx hF
        refine lv_iinc (v := x5) (lv' := [(3, .int x5), (2, .int x1), (0, .ref (φ 12 i0)), (1, .int a1)]) hx hb dX12_groundOf_47 hl (k := 3) rfl (by rw [e6]; rfl) (by decide) rfl (fun ls hl => ?_)
        refine lv_goto (tgt := 4) hx hb dX12_groundOf_50 (by decide) ?_
        obtain rfl := sj hF
        exact hK _ _ _ hW hS (lv_sub hl [2, 3, 1, 0] rfl)
      · have hF := ie c27 hF
        refine lv_iload_n hx hb dX12_groundOf_21 rfl (lv_at hl 2 rfl) ?_
        refine lv_iconst (v := (-1)) hx hb dX12_groundOf_22 (by decide) ?_
        refine lv_icmp_eq (tgt := 41) hx hb dX12_groundOf_23 (by decide) (fun c26 => ?_) (fun c26 => ?_)
        · have hF := it c26 hF
          refine lv_iload_n hx hb dX12_groundOf_41 rfl (lv_at hl 3 rfl) ?_
          refine lv_goto (tgt := 46) hx hb dX12_groundOf_42 (by decide) ?_
          refine lv_istore_n (lv' := [(2, .int x2), (0, .ref (φ 12 i0)), (1, .int a1), (3, .int x2)]) hx hb dX12_groundOf_46 rfl hl (by decide) rfl (fun ls hl => ?_)
          obtain ⟨x7, e8, hF⟩ := nmx hF
          refine lv_iinc (v := x7) (lv' := [(3, .int x7), (2, .int x2), (0, .ref (φ 12 i0)), (1, .int a1)]) hx hb dX12_groundOf_47 hl (k := 3) rfl (by rw [e8]; rfl) (by decide) rfl (fun ls hl => ?_)
          refine lv_goto (tgt := 4) hx hb dX12_groundOf_50 (by decide) ?_
          obtain rfl := sj hF
          exact hK _ _ _ hW hS (lv_sub hl [2, 3, 1, 0] rfl)
        · have hF := ie c26 hF
          refine lv_aload_n hx hb dX12_groundOf_26 rfl (lv_at hl 0 rfl) ?_
          obtain ⟨o9, e10, hF⟩ := bn hF
          refine r_getr X hW al_0 fl_12_28 e10 dX12_groundOf_27 (fun al11 => ?_)
          refine lv_iload_n hx hb dX12_groundOf_30 rfl (lv_at hl 3 rfl) ?_
          obtain ⟨x12, e13, hF⟩ := bn hF
          obtain ⟨b14, e13⟩ := ga_s e13
          refine r_iald X hW al11 rfl b14 dX12_groundOf_31 ?_
          refine nmi e13 ?_
          refine lv_aload_n hx hb dX12_groundOf_32 rfl (lv_at hl 0 rfl) ?_
          obtain ⟨o15, e16, hF⟩ := bn hF
          refine r_getr X hW al_0 fl_12_28 e16 dX12_groundOf_33 (fun al17 => ?_)
          refine lv_iload_n hx hb dX12_groundOf_36 rfl (lv_at hl 2 rfl) ?_
          obtain ⟨x18, e19, hF⟩ := bn hF
          obtain ⟨b20, e19⟩ := ga_s e19
          refine r_iald X hW al17 rfl b20 dX12_groundOf_37 ?_
          refine nmi e19 ?_
          refine lv_icmp_le (tgt := 45) hx hb dX12_groundOf_38 (by decide) (fun c25 => ?_) (fun c25 => ?_)
          · have hF := it c25 hF
            refine lv_iload_n hx hb dX12_groundOf_45 rfl (lv_at hl 2 rfl) ?_
            refine lv_istore_n (lv' := [(2, .int x1), (0, .ref (φ 12 i0)), (1, .int a1), (3, .int x2)]) hx hb dX12_groundOf_46 rfl hl (by decide) rfl (fun ls hl => ?_)
            obtain ⟨x21, e22, hF⟩ := nmx hF
            refine lv_iinc (v := x21) (lv' := [(3, .int x21), (2, .int x1), (0, .ref (φ 12 i0)), (1, .int a1)]) hx hb dX12_groundOf_47 hl (k := 3) rfl (by rw [e22]; rfl) (by decide) rfl (fun ls hl => ?_)
            refine lv_goto (tgt := 4) hx hb dX12_groundOf_50 (by decide) ?_
            obtain rfl := sj hF
            exact hK _ _ _ hW hS (lv_sub hl [2, 3, 1, 0] rfl)
          · have hF := ie c25 hF
            refine lv_iload_n hx hb dX12_groundOf_41 rfl (lv_at hl 3 rfl) ?_
            refine lv_goto (tgt := 46) hx hb dX12_groundOf_42 (by decide) ?_
            refine lv_istore_n (lv' := [(2, .int x2), (0, .ref (φ 12 i0)), (1, .int a1), (3, .int x2)]) hx hb dX12_groundOf_46 rfl hl (by decide) rfl (fun ls hl => ?_)
            obtain ⟨x23, e24, hF⟩ := nmx hF
            refine lv_iinc (v := x23) (lv' := [(3, .int x23), (2, .int x2), (0, .ref (φ 12 i0)), (1, .int a1)]) hx hb dX12_groundOf_47 hl (k := 3) rfl (by rw [e24]; rfl) (by decide) rfl (fun ls hl => ?_)
            refine lv_goto (tgt := 4) hx hb dX12_groundOf_50 (by decide) ?_
            obtain rfl := sj hF
            exact hK _ _ _ hW hS (lv_sub hl [2, 3, 1, 0] rfl)
  · intro H locs ls hW hS hl
    obtain ⟨x31, rfl⟩ : ∃ z, z = q29 := ⟨_, rfl⟩
    have hl : lv_has ls 4 [(2, .int x31)] := hl
    refine lv_iload_n hx hb dX12_groundOf_53 rfl (lv_at hl 0 rfl) ?_
    obtain rfl := sj hF
    exact hfin _ _ _ _ hW hS dX12_groundOf_54
def B_X12_stepOf_64 (i0 : Nat) (x1 : Int32) (h : HP) (x3 : Int32) : Option ((Int32) ⊕ (Int32 ⊕ Unit)) :=
  (if 13 ≤ x3 then
  some (.inr (.inr ()))
  else
  (F_X12_apart x1 (100 * x3)).bind fun x5 =>
  (if (gi h 12 i0 37) < x5 then
  nm (x3 + 1) fun x6 =>
  some (.inl x6)
  else
  some (.inr (.inl x3))))
def J_X12_stepOf_59 (i0 : Nat) (t0_59 : Int32) (t1_59 : Int32) (h : HP) : Option (Int32) :=
  nm ((t1_59 + t0_59)) fun x1 =>
  (loopN LF (B_X12_stepOf_64 i0 x1 h) 0).bind (fun q10 => match q10 with
  | .inl q10 => (fun x12 =>
  (rz x12 12).bind fun x13 =>
  some x13) q10
  | .inr q10 => (fun _ =>
  some (-1)) q10)
def F_X12_stepOf (i0 : Nat) (a1 : Int32) (a2 : Int32) (h : HP) : Option (Int32) :=
  (if a2 = (-1) then
  some (-1)
  else
  (gr h 12 i0 13).bind fun o16 =>
  (ga h 54 o16 100 ((5 * a1) + 4)).bind fun x19 =>
  (if x19 = (-1) then
  some (-1)
  else
  (gr h 12 i0 13).bind fun o22 =>
  (ga h 54 o22 100 ((5 * a1) + 4)).bind fun x25 =>
  (gr h 12 i0 13).bind fun o28 =>
  (ga h 54 o28 100 ((5 * a2) + 4)).bind fun x31 =>
  (rz (x25 - x31) 1200).bind fun x34 =>
  (if 0 ≤ x34 then
  J_X12_stepOf_59 i0 0 x34 h
  else
  J_X12_stepOf_59 i0 1200 x34 h)))
set_option maxHeartbeats 4000000 in
set_option maxRecDepth 100000 in
theorem ok_X12_stepOf {l : Launch} {D : va_G} {cA : Nat → ClassId} {h : HP} {r : Int32}  (i0 : Nat) (a1 : Int32) (a2 : Int32) (al_0 : i0 < gn h 12) (hF : F_X12_stepOf i0 a1 a2 h = some r) : MI l D cA yX12_stepOf cX12_stepOf 5 (some .int) 1 21 (fun φ => [.ref (φ 12 i0), .int a1, .int a2]) h r h := by
  refine mk_I (plainFor_of_name (by decide)) (fun φ => Nat.le_of_ble_eq_true rfl) ?_
  intro p e s m args below meth c ls φ A Q X hW hS hl hfin
  have hx := X.1
  have hb := X.2.1
  have hl : lv_has ls 5 [(0, .ref (φ 12 i0)), (1, .int a1), (2, .int a2)] := hl
  unfold F_X12_stepOf at hF
  have j_59 : ∀ (t0_59 : Int32) (t1_59 : Int32) (H : Heap) (locs : List Loc) (ls : Array Slot), J_X12_stepOf_59 i0 t0_59 t1_59 h = some r → HW D cA A φ h H → va_S A s.heap H locs → lv_has ls 5 [(0, .ref (φ 12 i0))] → W p l e (rmo 1 21 0 0) s m args below meth c H locs 0 0 Q (F0 m 59 ls [.int t0_59, .int t1_59]) := by
    intro t0_59 t1_59 H locs ls hF hW hS hl
    unfold J_X12_stepOf_59 at hF
    refine lv_iadd hx hb dX12_stepOf_59 ?_
    obtain ⟨x1, e2, hF⟩ := nmx hF
    refine nmi e2 ?_
    refine lv_istore_n (lv' := [(3, .int x1), (0, .ref (φ 12 i0))]) hx hb dX12_stepOf_60 rfl hl (by decide) rfl (fun ls hl => ?_)
    refine lv_iconst (v := 0) hx hb dX12_stepOf_61 (by decide) ?_
    refine lv_istore (lv' := [(4, .int 0), (3, .int x1), (0, .ref (φ 12 i0))]) hx hb dX12_stepOf_62 hl (by decide) rfl (fun ls hl => ?_)
    obtain ⟨q10, e11, hF⟩ := bn hF
    refine loop_w (f := B_X12_stepOf_64 i0 x1 h) (Z := fun q => ∀ (H : Heap) (locs : List Loc) (ls : Array Slot), HW D cA A φ h H → va_S A s.heap H locs → lv_has ls 5 [(0, .ref (φ 12 i0)), (3, .int x1), (4, .int q)] → W p l e (rmo 1 21 0 0) s m args below meth c H locs 0 0 Q (F0 m 64 ls [])) (K := fun q => match q with | .inl q => (∀ (H : Heap) (locs : List Loc) (ls : Array Slot), HW D cA A φ h H → va_S A s.heap H locs → lv_has ls 5 [(4, .int q)] → W p l e (rmo 1 21 0 0) s m args below meth c H locs 0 0 Q (F0 m 87 ls [])) | .inr q => (∀ (H : Heap) (locs : List Loc) (ls : Array Slot), HW D cA A φ h H → va_S A s.heap H locs → lv_has ls 5 [] → W p l e (rmo 1 21 0 0) s m args below meth c H locs 0 0 Q (F0 m 99 ls []))) ?_ LF _ q10 e11 ?_ _ _ _ hW hS (lv_sub hl [2, 1, 0] rfl)
    · intro x3 v hF hK H locs ls hW hS hl
      unfold B_X12_stepOf_64 at hF
      have hl : lv_has ls 5 [(0, .ref (φ 12 i0)), (3, .int x1), (4, .int x3)] := hl
      refine lv_iload hx hb dX12_stepOf_64 (lv_at hl 2 rfl) ?_
      refine lv_bipush (v := 13) hx hb dX12_stepOf_66 (by decide) ?_
      refine lv_icmp_ge (tgt := 99) hx hb dX12_stepOf_68 (by decide) (fun c9 => ?_) (fun c9 => ?_)
      · have hF := it c9 hF
        obtain rfl := sj hF
        exact hK _ _ _ hW hS (lv_sub hl [] rfl)
      · have hF := ie c9 hF
        refine lv_iload_n hx hb dX12_stepOf_71 rfl (lv_at hl 1 rfl) ?_
        refine lv_bipush (v := 100) hx hb dX12_stepOf_72 (by decide) ?_
        refine lv_iload hx hb dX12_stepOf_74 (lv_at hl 2 rfl) ?_
        refine lv_imul hx hb dX12_stepOf_76 ?_
        obtain ⟨x5, e4, hF⟩ := bn hF
        refine rc_i (Af := fun φ => [.int x1, .int (100 * x3)]) X hW hS ⟨Nat.zero_le _, Nat.zero_le _⟩ (rn_S (As := [.int x1, .int (100 * x3)]) (rest := []) X hW hS cw_12_260 ⟨Nat.le_of_ble_eq_true rfl, Nat.le_of_ble_eq_true rfl⟩ rfl hl.1 rfl (Nat.le_of_ble_eq_true rfl) dX12_stepOf_77) (ok_X12_apart x1 (100 * x3) e4) (fun H locs hW hS => ?_)
        refine lv_aload_n hx hb dX12_stepOf_80 rfl (lv_at hl 0 rfl) ?_
        refine r_geti X hW al_0 fl_12_91 dX12_stepOf_81 ?_
        refine lv_icmp_gt (tgt := 93) hx hb dX12_stepOf_84 (by decide) (fun c8 => ?_) (fun c8 => ?_)
        · have hF := it c8 hF
          obtain ⟨x6, e7, hF⟩ := nmx hF
          refine lv_iinc (v := x6) (lv' := [(4, .int x6), (0, .ref (φ 12 i0)), (3, .int x1)]) hx hb dX12_stepOf_93 hl (k := 2) rfl (by rw [e7]; rfl) (by decide) rfl (fun ls hl => ?_)
          refine lv_goto (tgt := 64) hx hb dX12_stepOf_96 (by decide) ?_
          obtain rfl := sj hF
          exact hK _ _ _ hW hS (lv_sub hl [1, 2, 0] rfl)
        · have hF := ie c8 hF
          obtain rfl := sj hF
          exact hK _ _ _ hW hS (lv_sub hl [2] rfl)
    · cases q10 with
      | inl q10 =>
        intro H locs ls hW hS hl
        obtain ⟨x12, rfl⟩ : ∃ z, z = q10 := ⟨_, rfl⟩
        have hl : lv_has ls 5 [(4, .int x12)] := hl
        refine lv_iload hx hb dX12_stepOf_87 (lv_at hl 0 rfl) ?_
        refine lv_bipush (v := 12) hx hb dX12_stepOf_89 (by decide) ?_
        obtain ⟨x13, e14, hF⟩ := bn hF
        obtain ⟨b15, e14⟩ := rz_s e14
        refine lv_irem hx hb dX12_stepOf_91 b15 ?_
        refine nmi e14 ?_
        obtain rfl := sj hF
        exact hfin _ _ _ _ hW hS dX12_stepOf_92
      | inr q10 =>
        intro H locs ls hW hS hl
        have hl : lv_has ls 5 [] := hl
        refine lv_iconst (v := (-1)) hx hb dX12_stepOf_99 (by decide) ?_
        obtain rfl := sj hF
        exact hfin _ _ _ _ hW hS dX12_stepOf_100
  refine lv_iload_n hx hb dX12_stepOf_0 rfl (lv_at hl 2 rfl) ?_
  refine lv_iconst (v := (-1)) hx hb dX12_stepOf_1 (by decide) ?_
  refine lv_icmp_eq (tgt := 19) hx hb dX12_stepOf_2 (by decide) (fun c39 => ?_) (fun c39 => ?_)
  · have hF := it c39 hF
    refine lv_iconst (v := (-1)) hx hb dX12_stepOf_19 (by decide) ?_
    obtain rfl := sj hF
    exact hfin _ _ _ _ hW hS dX12_stepOf_20
  · have hF := ie c39 hF
    refine lv_aload_n hx hb dX12_stepOf_5 rfl (lv_at hl 0 rfl) ?_
    obtain ⟨o16, e17, hF⟩ := bn hF
    refine r_getr X hW al_0 fl_12_37 e17 dX12_stepOf_6 (fun al18 => ?_)
    refine lv_iconst (v := 5) hx hb dX12_stepOf_9 (by decide) ?_
    refine lv_iload_n hx hb dX12_stepOf_10 rfl (lv_at hl 1 rfl) ?_
    refine lv_imul hx hb dX12_stepOf_11 ?_
    refine lv_iconst (v := 4) hx hb dX12_stepOf_12 (by decide) ?_
    refine lv_iadd hx hb dX12_stepOf_13 ?_
    obtain ⟨x19, e20, hF⟩ := bn hF
    obtain ⟨b21, e20⟩ := ga_s e20
    refine r_iald X hW al18 rfl b21 dX12_stepOf_14 ?_
    refine nmi e20 ?_
    refine lv_iconst (v := (-1)) hx hb dX12_stepOf_15 (by decide) ?_
    refine lv_icmp_ne (tgt := 21) hx hb dX12_stepOf_16 (by decide) (fun c38 => ?_) (fun c38 => ?_)
    · have hF := ie c38 hF
      refine lv_aload_n hx hb dX12_stepOf_21 rfl (lv_at hl 0 rfl) ?_
      obtain ⟨o22, e23, hF⟩ := bn hF
      refine r_getr X hW al_0 fl_12_37 e23 dX12_stepOf_22 (fun al24 => ?_)
      refine lv_iconst (v := 5) hx hb dX12_stepOf_25 (by decide) ?_
      refine lv_iload_n hx hb dX12_stepOf_26 rfl (lv_at hl 1 rfl) ?_
      refine lv_imul hx hb dX12_stepOf_27 ?_
      refine lv_iconst (v := 4) hx hb dX12_stepOf_28 (by decide) ?_
      refine lv_iadd hx hb dX12_stepOf_29 ?_
      obtain ⟨x25, e26, hF⟩ := bn hF
      obtain ⟨b27, e26⟩ := ga_s e26
      refine r_iald X hW al24 rfl b27 dX12_stepOf_30 ?_
      refine nmi e26 ?_
      refine lv_aload_n hx hb dX12_stepOf_31 rfl (lv_at hl 0 rfl) ?_
      obtain ⟨o28, e29, hF⟩ := bn hF
      refine r_getr X hW al_0 fl_12_37 e29 dX12_stepOf_32 (fun al30 => ?_)
      refine lv_iconst (v := 5) hx hb dX12_stepOf_35 (by decide) ?_
      refine lv_iload_n hx hb dX12_stepOf_36 rfl (lv_at hl 2 rfl) ?_
      refine lv_imul hx hb dX12_stepOf_37 ?_
      refine lv_iconst (v := 4) hx hb dX12_stepOf_38 (by decide) ?_
      refine lv_iadd hx hb dX12_stepOf_39 ?_
      obtain ⟨x31, e32, hF⟩ := bn hF
      obtain ⟨b33, e32⟩ := ga_s e32
      refine r_iald X hW al30 rfl b33 dX12_stepOf_40 ?_
      refine nmi e32 ?_
      refine lv_isub hx hb dX12_stepOf_41 ?_
      refine lv_sipush (v := 1200) hx hb dX12_stepOf_42 (by decide) ?_
      obtain ⟨x34, e35, hF⟩ := bn hF
      obtain ⟨b36, e35⟩ := rz_s e35
      refine lv_irem hx hb dX12_stepOf_45 b36 ?_
      refine nmi e35 ?_
      refine lv_istore_n (lv' := [(3, .int x34), (0, .ref (φ 12 i0)), (1, .int a1), (2, .int a2)]) hx hb dX12_stepOf_46 rfl hl (by decide) rfl (fun ls hl => ?_)
      refine lv_iload_n hx hb dX12_stepOf_47 rfl (lv_at hl 0 rfl) ?_
      refine lv_iload_n hx hb dX12_stepOf_48 rfl (lv_at hl 0 rfl) ?_
      refine lv_if_ge (tgt := 58) hx hb dX12_stepOf_49 (by decide) (fun c37 => ?_) (fun c37 => ?_)
      · have hF := it c37 hF
        refine lv_iconst (v := 0) hx hb dX12_stepOf_58 (by decide) ?_
        exact j_59 0 x34 _ _ _ hF hW hS (lv_sub hl [1] rfl)
      · have hF := ie c37 hF
        refine lv_sipush (v := 1200) hx hb dX12_stepOf_52 (by decide) ?_
        refine lv_goto (tgt := 59) hx hb dX12_stepOf_55 (by decide) ?_
        exact j_59 1200 x34 _ _ _ hF hW hS (lv_sub hl [1] rfl)
    · have hF := it c38 hF
      refine lv_iconst (v := (-1)) hx hb dX12_stepOf_19 (by decide) ?_
      obtain rfl := sj hF
      exact hfin _ _ _ _ hW hS dX12_stepOf_20
def J_X12_pealOf_62 (i0 : Nat) (a1 : Int32) (a2 : Int32) (x2 : Int32) (v4_62 : Int32) (v6_62 : Int32) (v7_62 : Int32) (v8_62 : Int32) (t0_62 : Int32) (t1_62 : Int32) (h : HP) : Option ((Int32 × Int32 × Int32 × Int32) ⊕ ((Int32 × Int32 × Int32))) :=
  nm ((t1_62 + t0_62)) fun x7 =>
  (if v8_62 = (-1) then
  nm ((v6_62 ||| 0)) fun x13 =>
  nm (v7_62 + 1) fun x15 =>
  some (.inl (v4_62, x7, x13, x15))
  else
  nm ((v6_62 ||| (1 <<< (v8_62 &&& 31)))) fun x9 =>
  nm (v7_62 + 1) fun x11 =>
  some (.inl (v4_62, x7, x9, x11)))
def B_X12_pealOf_18 (i0 : Nat) (a1 : Int32) (a2 : Int32) (x2 : Int32) (h : HP) (q : Int32 × Int32 × Int32 × Int32) : Option ((Int32 × Int32 × Int32 × Int32) ⊕ ((Int32 × Int32 × Int32))) :=
  u4 q fun x3 x4 x5 x6 =>
  (if (gi h 12 i0 8) ≤ x6 then
  some (.inr (x3, x4, x5))
  else
  (F_X12_rings i0 a1 x6 h).bind fun x19 =>
  (if x19 = 0 then
  nm (x6 + 1) fun x20 =>
  some (.inl (x3, x4, x5, x20))
  else
  nm (x3 + 1) fun x22 =>
  (F_X12_stepOf i0 x6 x2 h).bind fun x25 =>
  (if x25 = (-1) then
  J_X12_pealOf_62 i0 a1 a2 x2 x22 x5 x6 x25 1 x4 h
  else
  J_X12_pealOf_62 i0 a1 a2 x2 x22 x5 x6 x25 0 x4 h)))
def J_X12_pealOf_245 (i0 : Nat) (x2 : Int32) (x34 : Int32) (v8_245 : Int32) (v9_245 : Int32) (t0_245 : Int32) (h : HP) : Option ((Int32 × Int32) ⊕ (Int32)) :=
  (if t0_245 = 0 then
  nm (v9_245 + 1) fun x38 =>
  some (.inl (v8_245, x38))
  else
  (if v8_245 = (-1) then
  nm (v9_245 + 1) fun x40 =>
  some (.inl (v9_245, x40))
  else
  (gr h 12 i0 10).bind fun o42 =>
  (ga h 51 o42 20 v9_245).bind fun x45 =>
  (gr h 12 i0 10).bind fun o48 =>
  (ga h 51 o48 20 v8_245).bind fun x51 =>
  (if x45 ≤ x51 then
  nm (v9_245 + 1) fun x54 =>
  some (.inl (v8_245, x54))
  else
  nm (v9_245 + 1) fun x56 =>
  some (.inl (v9_245, x56)))))
def J_X12_pealOf_221 (i0 : Nat) (x2 : Int32) (x34 : Int32) (v8_221 : Int32) (v9_221 : Int32) (t0_221 : Int32) (h : HP) : Option ((Int32 × Int32) ⊕ (Int32)) :=
  (if t0_221 = (-1) then
  J_X12_pealOf_245 i0 x2 x34 v8_221 v9_221 0 h
  else
  (if ((x34 >>> (t0_221 &&& 31)) &&& 1) = 1 then
  J_X12_pealOf_245 i0 x2 x34 v8_221 v9_221 1 h
  else
  J_X12_pealOf_245 i0 x2 x34 v8_221 v9_221 0 h))
def J_X12_pealOf_210 (i0 : Nat) (x2 : Int32) (x34 : Int32) (v8_210 : Int32) (v9_210 : Int32) (h : HP) : Option ((Int32 × Int32) ⊕ (Int32)) :=
  (F_X12_stepOf i0 v9_210 x2 h).bind fun x64 =>
  J_X12_pealOf_221 i0 x2 x34 v8_210 v9_210 x64 h
def B_X12_pealOf_181 (i0 : Nat) (x2 : Int32) (x34 : Int32) (h : HP) (q : Int32 × Int32) : Option ((Int32 × Int32) ⊕ (Int32)) :=
  u2 q fun x36 x37 =>
  (if (gi h 12 i0 8) ≤ x37 then
  some (.inr x36)
  else
  (F_X12_stateOf i0 x37 h).bind fun x66 =>
  (if x66 = 2 then
  J_X12_pealOf_210 i0 x2 x34 x36 x37 h
  else
  (if x66 = 3 then
  J_X12_pealOf_210 i0 x2 x34 x36 x37 h
  else
  J_X12_pealOf_221 i0 x2 x34 x36 x37 (-1) h)))
def F_X12_pealOf (i0 : Nat) (a1 : Int32) (a2 : Int32) (h : HP) : Option (Int32) :=
  (F_X12_groundOf i0 a1 h).bind fun x2 =>
  (loopN LF (B_X12_pealOf_18 i0 a1 a2 x2 h) (0, 0, 0, 0)).bind fun q29 => u3 q29 fun x31 x32 x33 =>
  nm (((gi h 12 i0 38) &&& (x33 ^^^ (-1)))) fun x34 =>
  (if 4 ≤ a2 then
  (if a2 = 4 then
  (if x31 ≤ 0 then
  some 0
  else
  (if x32 = 0 then
  (if x34 = 0 then
  (if (x33 &&& ((gi h 12 i0 38) ^^^ (-1))) = 0 then
  some 1
  else
  some 0)
  else
  some 0)
  else
  some 0))
  else
  (loopN LF (B_X12_pealOf_181 i0 x2 x34 h) ((-1), 0)).bind fun x72 =>
  some x72)
  else
  (if a2 = 0 then
  some x31
  else
  (if a2 = 1 then
  some x2
  else
  (if a2 = 2 then
  some x32
  else
  some x34))))
set_option maxHeartbeats 4000000 in
set_option maxRecDepth 100000 in
theorem ok_X12_pealOf {l : Launch} {D : va_G} {cA : Nat → ClassId} {h : HP} {r : Int32}  (i0 : Nat) (a1 : Int32) (a2 : Int32) (al_0 : i0 < gn h 12) (hF : F_X12_pealOf i0 a1 a2 h = some r) : MI l D cA yX12_pealOf cX12_pealOf 13 (some .int) 4 91 (fun φ => [.ref (φ 12 i0), .int a1, .int a2]) h r h := by
  refine mk_I (plainFor_of_name (by decide)) (fun φ => Nat.le_of_ble_eq_true rfl) ?_
  intro p e s m args below meth c ls φ A Q X hW hS hl hfin
  have hx := X.1
  have hb := X.2.1
  have hl : lv_has ls 13 [(0, .ref (φ 12 i0)), (1, .int a1), (2, .int a2)] := hl
  unfold F_X12_pealOf at hF
  refine lv_aload_n hx hb dX12_pealOf_0 rfl (lv_at hl 0 rfl) ?_
  refine lv_iload_n hx hb dX12_pealOf_1 rfl (lv_at hl 1 rfl) ?_
  obtain ⟨x2, e1, hF⟩ := bn hF
  refine rc_i (Af := fun φ => [.ref (φ 12 i0), .int a1]) X hW hS ⟨Nat.zero_le _, Nat.zero_le _⟩ (rn_V (As := [.int a1]) (rest := []) X hW hS cw_12_304 al_0 rfl rfl rfl ⟨Nat.le_of_ble_eq_true rfl, Nat.le_of_ble_eq_true rfl⟩ rfl hl.1 rfl (Nat.le_of_ble_eq_true rfl) dX12_pealOf_2) (ok_X12_groundOf i0 a1 al_0 e1) (fun H locs hW hS => ?_)
  refine lv_istore_n (lv' := [(3, .int x2), (0, .ref (φ 12 i0)), (1, .int a1), (2, .int a2)]) hx hb dX12_pealOf_5 rfl hl (by decide) rfl (fun ls hl => ?_)
  refine lv_iconst (v := 0) hx hb dX12_pealOf_6 (by decide) ?_
  refine lv_istore (lv' := [(4, .int 0), (3, .int x2), (0, .ref (φ 12 i0)), (1, .int a1), (2, .int a2)]) hx hb dX12_pealOf_7 hl (by decide) rfl (fun ls hl => ?_)
  refine lv_iconst (v := 0) hx hb dX12_pealOf_9 (by decide) ?_
  refine lv_istore (lv' := [(5, .int 0), (4, .int 0), (3, .int x2), (0, .ref (φ 12 i0)), (1, .int a1), (2, .int a2)]) hx hb dX12_pealOf_10 hl (by decide) rfl (fun ls hl => ?_)
  refine lv_iconst (v := 0) hx hb dX12_pealOf_12 (by decide) ?_
  refine lv_istore (lv' := [(6, .int 0), (5, .int 0), (4, .int 0), (3, .int x2), (0, .ref (φ 12 i0)), (1, .int a1), (2, .int a2)]) hx hb dX12_pealOf_13 hl (by decide) rfl (fun ls hl => ?_)
  refine lv_iconst (v := 0) hx hb dX12_pealOf_15 (by decide) ?_
  refine lv_istore (lv' := [(7, .int 0), (6, .int 0), (5, .int 0), (4, .int 0), (3, .int x2), (0, .ref (φ 12 i0)), (1, .int a1), (2, .int a2)]) hx hb dX12_pealOf_16 hl (by decide) rfl (fun ls hl => ?_)
  obtain ⟨q29, e30, hF⟩ := bn hF
  refine loop_w (f := B_X12_pealOf_18 i0 a1 a2 x2 h) (Z := fun q => ∀ (H : Heap) (locs : List Loc) (ls : Array Slot), HW D cA A φ h H → va_S A s.heap H locs → lv_has ls 13 [(0, .ref (φ 12 i0)), (1, .int a1), (2, .int a2), (3, .int x2), (4, .int (q.1)), (5, .int (q.2.1)), (6, .int (q.2.2.1)), (7, .int (q.2.2.2))] → W p l e (rmo 4 91 0 0) s m args below meth c H locs 0 0 Q (F0 m 18 ls [])) (K := fun q => ∀ (H : Heap) (locs : List Loc) (ls : Array Slot), HW D cA A φ h H → va_S A s.heap H locs → lv_has ls 13 [(0, .ref (φ 12 i0)), (2, .int a2), (3, .int x2), (4, .int (q.1)), (5, .int (q.2.1)), (6, .int (q.2.2))] → W p l e (rmo 4 91 0 0) s m args below meth c H locs 0 0 Q (F0 m 90 ls [])) ?_ LF _ q29 e30 ?_ _ _ _ hW hS (lv_sub hl [5, 6, 7, 4, 3, 2, 1, 0] rfl)
  · intro q v hF hK H locs ls hW hS hl
    obtain ⟨x3, x4, x5, x6⟩ := q
    unfold B_X12_pealOf_18 at hF
    have hF := u4d hF
    have hl : lv_has ls 13 [(0, .ref (φ 12 i0)), (1, .int a1), (2, .int a2), (3, .int x2), (4, .int x3), (5, .int x4), (6, .int x5), (7, .int x6)] := hl
    have j_62 : ∀ (v4_62 : Int32) (v6_62 : Int32) (v7_62 : Int32) (v8_62 : Int32) (t0_62 : Int32) (t1_62 : Int32) (H : Heap) (locs : List Loc) (ls : Array Slot), J_X12_pealOf_62 i0 a1 a2 x2 v4_62 v6_62 v7_62 v8_62 t0_62 t1_62 h = some v → HW D cA A φ h H → va_S A s.heap H locs → lv_has ls 13 [(0, .ref (φ 12 i0)), (1, .int a1), (2, .int a2), (3, .int x2), (4, .int v4_62), (6, .int v6_62), (7, .int v7_62), (8, .int v8_62)] → W p l e (rmo 4 91 0 0) s m args below meth c H locs 0 0 Q (F0 m 62 ls [.int t0_62, .int t1_62]) := by
      intro v4_62 v6_62 v7_62 v8_62 t0_62 t1_62 H locs ls hF hW hS hl
      unfold J_X12_pealOf_62 at hF
      refine lv_iadd hx hb dX12_pealOf_62 ?_
      obtain ⟨x7, e8, hF⟩ := nmx hF
      refine nmi e8 ?_
      refine lv_istore (lv' := [(5, .int x7), (0, .ref (φ 12 i0)), (1, .int a1), (2, .int a2), (3, .int x2), (4, .int v4_62), (6, .int v6_62), (7, .int v7_62), (8, .int v8_62)]) hx hb dX12_pealOf_63 hl (by decide) rfl (fun ls hl => ?_)
      refine lv_iload hx hb dX12_pealOf_65 (lv_at hl 6 rfl) ?_
      refine lv_iload hx hb dX12_pealOf_67 (lv_at hl 8 rfl) ?_
      refine lv_iconst (v := (-1)) hx hb dX12_pealOf_69 (by decide) ?_
      refine lv_icmp_ne (tgt := 77) hx hb dX12_pealOf_70 (by decide) (fun c17 => ?_) (fun c17 => ?_)
      · have hF := ie c17 hF
        refine lv_iconst (v := 1) hx hb dX12_pealOf_77 (by decide) ?_
        refine lv_iload hx hb dX12_pealOf_78 (lv_at hl 8 rfl) ?_
        refine lv_ishl hx hb dX12_pealOf_80 ?_
        refine lv_ior hx hb dX12_pealOf_81 ?_
        obtain ⟨x9, e10, hF⟩ := nmx hF
        refine nmi e10 ?_
        refine lv_istore (lv' := [(6, .int x9), (5, .int x7), (0, .ref (φ 12 i0)), (1, .int a1), (2, .int a2), (3, .int x2), (4, .int v4_62), (7, .int v7_62), (8, .int v8_62)]) hx hb dX12_pealOf_82 hl (by decide) rfl (fun ls hl => ?_)
        obtain ⟨x11, e12, hF⟩ := nmx hF
        refine lv_iinc (v := x11) (lv' := [(7, .int x11), (6, .int x9), (5, .int x7), (0, .ref (φ 12 i0)), (1, .int a1), (2, .int a2), (3, .int x2), (4, .int v4_62), (8, .int v8_62)]) hx hb dX12_pealOf_84 hl (k := 7) rfl (by rw [e12]; rfl) (by decide) rfl (fun ls hl => ?_)
        refine lv_goto (tgt := 18) hx hb dX12_pealOf_87 (by decide) ?_
        obtain rfl := sj hF
        exact hK _ _ _ hW hS (lv_sub hl [3, 4, 5, 6, 7, 2, 1, 0] rfl)
      · have hF := it c17 hF
        refine lv_iconst (v := 0) hx hb dX12_pealOf_73 (by decide) ?_
        refine lv_goto (tgt := 81) hx hb dX12_pealOf_74 (by decide) ?_
        refine lv_ior hx hb dX12_pealOf_81 ?_
        obtain ⟨x13, e14, hF⟩ := nmx hF
        refine nmi e14 ?_
        refine lv_istore (lv' := [(6, .int x13), (5, .int x7), (0, .ref (φ 12 i0)), (1, .int a1), (2, .int a2), (3, .int x2), (4, .int v4_62), (7, .int v7_62), (8, .int v8_62)]) hx hb dX12_pealOf_82 hl (by decide) rfl (fun ls hl => ?_)
        obtain ⟨x15, e16, hF⟩ := nmx hF
        refine lv_iinc (v := x15) (lv' := [(7, .int x15), (6, .int x13), (5, .int x7), (0, .ref (φ 12 i0)), (1, .int a1), (2, .int a2), (3, .int x2), (4, .int v4_62), (8, .int v8_62)]) hx hb dX12_pealOf_84 hl (k := 7) rfl (by rw [e16]; rfl) (by decide) rfl (fun ls hl => ?_)
        refine lv_goto (tgt := 18) hx hb dX12_pealOf_87 (by decide) ?_
        obtain rfl := sj hF
        exact hK _ _ _ hW hS (lv_sub hl [3, 4, 5, 6, 7, 2, 1, 0] rfl)
    refine lv_iload hx hb dX12_pealOf_18 (lv_at hl 7 rfl) ?_
    refine lv_aload_n hx hb dX12_pealOf_20 rfl (lv_at hl 0 rfl) ?_
    refine r_geti X hW al_0 fl_12_167 dX12_pealOf_21 ?_
    refine lv_icmp_ge (tgt := 90) hx hb dX12_pealOf_24 (by decide) (fun c28 => ?_) (fun c28 => ?_)
    · have hF := it c28 hF
      obtain rfl := sj hF
      exact hK _ _ _ hW hS (lv_sub hl [0, 2, 3, 4, 5, 6] rfl)
    · have hF := ie c28 hF
      refine lv_aload_n hx hb dX12_pealOf_27 rfl (lv_at hl 0 rfl) ?_
      refine lv_iload_n hx hb dX12_pealOf_28 rfl (lv_at hl 1 rfl) ?_
      refine lv_iload hx hb dX12_pealOf_29 (lv_at hl 7 rfl) ?_
      obtain ⟨x19, e18, hF⟩ := bn hF
      refine rc_i (Af := fun φ => [.ref (φ 12 i0), .int a1, .int x6]) X hW hS ⟨Nat.zero_le _, Nat.zero_le _⟩ (rn_V (As := [.int a1, .int x6]) (rest := []) X hW hS cw_12_301 al_0 rfl rfl rfl ⟨Nat.le_of_ble_eq_true rfl, Nat.le_of_ble_eq_true rfl⟩ rfl hl.1 rfl (Nat.le_of_ble_eq_true rfl) dX12_pealOf_31) (ok_X12_rings i0 a1 x6 al_0 e18) (fun H locs hW hS => ?_)
      refine lv_if_eq (tgt := 84) hx hb dX12_pealOf_34 (by decide) (fun c27 => ?_) (fun c27 => ?_)
      · have hF := it c27 hF
        obtain ⟨x20, e21, hF⟩ := nmx hF
        refine lv_iinc (v := x20) (lv' := [(7, .int x20), (0, .ref (φ 12 i0)), (1, .int a1), (2, .int a2), (3, .int x2), (4, .int x3), (5, .int x4), (6, .int x5)]) hx hb dX12_pealOf_84 hl (k := 7) rfl (by rw [e21]; rfl) (by decide) rfl (fun ls hl => ?_)
        refine lv_goto (tgt := 18) hx hb dX12_pealOf_87 (by decide) ?_
        obtain rfl := sj hF
        exact hK _ _ _ hW hS (lv_sub hl [1, 2, 3, 4, 5, 6, 7, 0] rfl)
      · have hF := ie c27 hF
        obtain ⟨x22, e23, hF⟩ := nmx hF
        refine lv_iinc (v := x22) (lv' := [(4, .int x22), (0, .ref (φ 12 i0)), (1, .int a1), (2, .int a2), (3, .int x2), (5, .int x4), (6, .int x5), (7, .int x6)]) hx hb dX12_pealOf_37 hl (k := 4) rfl (by rw [e23]; rfl) (by decide) rfl (fun ls hl => ?_)
        refine lv_aload_n hx hb dX12_pealOf_40 rfl (lv_at hl 1 rfl) ?_
        refine lv_iload hx hb dX12_pealOf_41 (lv_at hl 7 rfl) ?_
        refine lv_iload_n hx hb dX12_pealOf_43 rfl (lv_at hl 4 rfl) ?_
        obtain ⟨x25, e24, hF⟩ := bn hF
        refine rc_i (Af := fun φ => [.ref (φ 12 i0), .int x6, .int x2]) X hW hS ⟨Nat.zero_le _, Nat.zero_le _⟩ (rn_V (As := [.int x6, .int x2]) (rest := []) X hW hS cw_12_307 al_0 rfl rfl rfl ⟨Nat.le_of_ble_eq_true rfl, Nat.le_of_ble_eq_true rfl⟩ rfl hl.1 rfl (Nat.le_of_ble_eq_true rfl) dX12_pealOf_44) (ok_X12_stepOf i0 x6 x2 al_0 e24) (fun H locs hW hS => ?_)
        refine lv_istore (lv' := [(8, .int x25), (4, .int x22), (0, .ref (φ 12 i0)), (1, .int a1), (2, .int a2), (3, .int x2), (5, .int x4), (6, .int x5), (7, .int x6)]) hx hb dX12_pealOf_47 hl (by decide) rfl (fun ls hl => ?_)
        refine lv_iload hx hb dX12_pealOf_49 (lv_at hl 6 rfl) ?_
        refine lv_iload hx hb dX12_pealOf_51 (lv_at hl 0 rfl) ?_
        refine lv_iconst (v := (-1)) hx hb dX12_pealOf_53 (by decide) ?_
        refine lv_icmp_ne (tgt := 61) hx hb dX12_pealOf_54 (by decide) (fun c26 => ?_) (fun c26 => ?_)
        · have hF := ie c26 hF
          refine lv_iconst (v := 0) hx hb dX12_pealOf_61 (by decide) ?_
          exact j_62 x22 x5 x6 x25 0 x4 _ _ _ hF hW hS (lv_sub hl [2, 3, 4, 5, 1, 7, 8, 0] rfl)
        · have hF := it c26 hF
          refine lv_iconst (v := 1) hx hb dX12_pealOf_57 (by decide) ?_
          refine lv_goto (tgt := 62) hx hb dX12_pealOf_58 (by decide) ?_
          exact j_62 x22 x5 x6 x25 1 x4 _ _ _ hF hW hS (lv_sub hl [2, 3, 4, 5, 1, 7, 8, 0] rfl)
  · intro H locs ls hW hS hl
    obtain ⟨x31, x32, x33⟩ := q29
    have hF := u3d hF
    have hl : lv_has ls 13 [(0, .ref (φ 12 i0)), (2, .int a2), (3, .int x2), (4, .int x31), (5, .int x32), (6, .int x33)] := hl
    refine lv_aload_n hx hb dX12_pealOf_90 rfl (lv_at hl 0 rfl) ?_
    refine r_geti X hW al_0 fl_12_95 dX12_pealOf_91 ?_
    refine lv_iload hx hb dX12_pealOf_94 (lv_at hl 5 rfl) ?_
    refine lv_iconst (v := (-1)) hx hb dX12_pealOf_96 (by decide) ?_
    refine lv_ixor hx hb dX12_pealOf_97 ?_
    refine lv_iand hx hb dX12_pealOf_98 ?_
    obtain ⟨x34, e35, hF⟩ := nmx hF
    refine nmi e35 ?_
    refine lv_istore (lv' := [(7, .int x34), (0, .ref (φ 12 i0)), (2, .int a2), (3, .int x2), (4, .int x31), (5, .int x32), (6, .int x33)]) hx hb dX12_pealOf_99 hl (by decide) rfl (fun ls hl => ?_)
    refine lv_iload_n hx hb dX12_pealOf_101 rfl (lv_at hl 2 rfl) ?_
    refine lv_iconst (v := 4) hx hb dX12_pealOf_102 (by decide) ?_
    refine lv_icmp_ge (tgt := 137) hx hb dX12_pealOf_103 (by decide) (fun c81 => ?_) (fun c81 => ?_)
    · have hF := it c81 hF
      refine lv_iload_n hx hb dX12_pealOf_137 rfl (lv_at hl 2 rfl) ?_
      refine lv_iconst (v := 4) hx hb dX12_pealOf_138 (by decide) ?_
      refine lv_icmp_ne (tgt := 175) hx hb dX12_pealOf_139 (by decide) (fun c77 => ?_) (fun c77 => ?_)
      · have hF := ie c77 hF
        refine lv_iconst (v := (-1)) hx hb dX12_pealOf_175 (by decide) ?_
        refine lv_istore (lv' := [(8, .int (-1)), (7, .int x34), (0, .ref (φ 12 i0)), (2, .int a2), (3, .int x2), (4, .int x31), (5, .int x32), (6, .int x33)]) hx hb dX12_pealOf_176 hl (by decide) rfl (fun ls hl => ?_)
        refine lv_iconst (v := 0) hx hb dX12_pealOf_178 (by decide) ?_
        refine lv_istore (lv' := [(9, .int 0), (8, .int (-1)), (7, .int x34), (0, .ref (φ 12 i0)), (2, .int a2), (3, .int x2), (4, .int x31), (5, .int x32), (6, .int x33)]) hx hb dX12_pealOf_179 hl (by decide) rfl (fun ls hl => ?_)
        obtain ⟨q70, e71, hF⟩ := bn hF
        refine loop_w (f := B_X12_pealOf_181 i0 x2 x34 h) (Z := fun q => ∀ (H : Heap) (locs : List Loc) (ls : Array Slot), HW D cA A φ h H → va_S A s.heap H locs → lv_has ls 13 [(0, .ref (φ 12 i0)), (3, .int x2), (7, .int x34), (8, .int (q.1)), (9, .int (q.2))] → W p l e (rmo 4 91 0 0) s m args below meth c H locs 0 0 Q (F0 m 181 ls [])) (K := fun q => ∀ (H : Heap) (locs : List Loc) (ls : Array Slot), HW D cA A φ h H → va_S A s.heap H locs → lv_has ls 13 [(8, .int q)] → W p l e (rmo 4 91 0 0) s m args below meth c H locs 0 0 Q (F0 m 290 ls [])) ?_ LF _ q70 e71 ?_ _ _ _ hW hS (lv_sub hl [3, 5, 2, 1, 0] rfl)
        · intro q v hF hK H locs ls hW hS hl
          obtain ⟨x36, x37⟩ := q
          unfold B_X12_pealOf_181 at hF
          have hF := u2d hF
          have hl : lv_has ls 13 [(0, .ref (φ 12 i0)), (3, .int x2), (7, .int x34), (8, .int x36), (9, .int x37)] := hl
          have j_245 : ∀ (v8_245 : Int32) (v9_245 : Int32) (t0_245 : Int32) (H : Heap) (locs : List Loc) (ls : Array Slot), J_X12_pealOf_245 i0 x2 x34 v8_245 v9_245 t0_245 h = some v → HW D cA A φ h H → va_S A s.heap H locs → lv_has ls 13 [(0, .ref (φ 12 i0)), (3, .int x2), (7, .int x34), (8, .int v8_245), (9, .int v9_245)] → W p l e (rmo 4 91 0 0) s m args below meth c H locs 0 0 Q (F0 m 245 ls [.int t0_245]) := by
            intro v8_245 v9_245 t0_245 H locs ls hF hW hS hl
            unfold J_X12_pealOf_245 at hF
            refine lv_istore (lv' := [(12, .int t0_245), (0, .ref (φ 12 i0)), (3, .int x2), (7, .int x34), (8, .int v8_245), (9, .int v9_245)]) hx hb dX12_pealOf_245 hl (by decide) rfl (fun ls hl => ?_)
            refine lv_iload hx hb dX12_pealOf_247 (lv_at hl 0 rfl) ?_
            refine lv_if_eq (tgt := 280) hx hb dX12_pealOf_249 (by decide) (fun c60 => ?_) (fun c60 => ?_)
            · have hF := it c60 hF
              refine lv_iload hx hb dX12_pealOf_280 (lv_at hl 4 rfl) ?_
              refine lv_istore (lv' := [(8, .int v8_245), (12, .int t0_245), (0, .ref (φ 12 i0)), (3, .int x2), (7, .int x34), (9, .int v9_245)]) hx hb dX12_pealOf_282 hl (by decide) rfl (fun ls hl => ?_)
              obtain ⟨x38, e39, hF⟩ := nmx hF
              refine lv_iinc (v := x38) (lv' := [(9, .int x38), (8, .int v8_245), (12, .int t0_245), (0, .ref (φ 12 i0)), (3, .int x2), (7, .int x34)]) hx hb dX12_pealOf_284 hl (k := 5) rfl (by rw [e39]; rfl) (by decide) rfl (fun ls hl => ?_)
              refine lv_goto (tgt := 181) hx hb dX12_pealOf_287 (by decide) ?_
              obtain rfl := sj hF
              exact hK _ _ _ hW hS (lv_sub hl [3, 4, 5, 1, 0] rfl)
            · have hF := ie c60 hF
              refine lv_iload hx hb dX12_pealOf_252 (lv_at hl 4 rfl) ?_
              refine lv_iconst (v := (-1)) hx hb dX12_pealOf_254 (by decide) ?_
              refine lv_icmp_eq (tgt := 275) hx hb dX12_pealOf_255 (by decide) (fun c59 => ?_) (fun c59 => ?_)
              · have hF := it c59 hF
                refine lv_iload hx hb dX12_pealOf_275 (lv_at hl 5 rfl) ?_
                refine lv_goto (tgt := 282) hx hb dX12_pealOf_277 (by decide) ?_
                refine lv_istore (lv' := [(8, .int v9_245), (12, .int t0_245), (0, .ref (φ 12 i0)), (3, .int x2), (7, .int x34), (9, .int v9_245)]) hx hb dX12_pealOf_282 hl (by decide) rfl (fun ls hl => ?_)
                obtain ⟨x40, e41, hF⟩ := nmx hF
                refine lv_iinc (v := x40) (lv' := [(9, .int x40), (8, .int v9_245), (12, .int t0_245), (0, .ref (φ 12 i0)), (3, .int x2), (7, .int x34)]) hx hb dX12_pealOf_284 hl (k := 5) rfl (by rw [e41]; rfl) (by decide) rfl (fun ls hl => ?_)
                refine lv_goto (tgt := 181) hx hb dX12_pealOf_287 (by decide) ?_
                obtain rfl := sj hF
                exact hK _ _ _ hW hS (lv_sub hl [3, 4, 5, 1, 0] rfl)
              · have hF := ie c59 hF
                refine lv_aload_n hx hb dX12_pealOf_258 rfl (lv_at hl 1 rfl) ?_
                obtain ⟨o42, e43, hF⟩ := bn hF
                refine r_getr X hW al_0 fl_12_28 e43 dX12_pealOf_259 (fun al44 => ?_)
                refine lv_iload hx hb dX12_pealOf_262 (lv_at hl 5 rfl) ?_
                obtain ⟨x45, e46, hF⟩ := bn hF
                obtain ⟨b47, e46⟩ := ga_s e46
                refine r_iald X hW al44 rfl b47 dX12_pealOf_264 ?_
                refine nmi e46 ?_
                refine lv_aload_n hx hb dX12_pealOf_265 rfl (lv_at hl 1 rfl) ?_
                obtain ⟨o48, e49, hF⟩ := bn hF
                refine r_getr X hW al_0 fl_12_28 e49 dX12_pealOf_266 (fun al50 => ?_)
                refine lv_iload hx hb dX12_pealOf_269 (lv_at hl 4 rfl) ?_
                obtain ⟨x51, e52, hF⟩ := bn hF
                obtain ⟨b53, e52⟩ := ga_s e52
                refine r_iald X hW al50 rfl b53 dX12_pealOf_271 ?_
                refine nmi e52 ?_
                refine lv_icmp_le (tgt := 280) hx hb dX12_pealOf_272 (by decide) (fun c58 => ?_) (fun c58 => ?_)
                · have hF := it c58 hF
                  refine lv_iload hx hb dX12_pealOf_280 (lv_at hl 4 rfl) ?_
                  refine lv_istore (lv' := [(8, .int v8_245), (12, .int t0_245), (0, .ref (φ 12 i0)), (3, .int x2), (7, .int x34), (9, .int v9_245)]) hx hb dX12_pealOf_282 hl (by decide) rfl (fun ls hl => ?_)
                  obtain ⟨x54, e55, hF⟩ := nmx hF
                  refine lv_iinc (v := x54) (lv' := [(9, .int x54), (8, .int v8_245), (12, .int t0_245), (0, .ref (φ 12 i0)), (3, .int x2), (7, .int x34)]) hx hb dX12_pealOf_284 hl (k := 5) rfl (by rw [e55]; rfl) (by decide) rfl (fun ls hl => ?_)
                  refine lv_goto (tgt := 181) hx hb dX12_pealOf_287 (by decide) ?_
                  obtain rfl := sj hF
                  exact hK _ _ _ hW hS (lv_sub hl [3, 4, 5, 1, 0] rfl)
                · have hF := ie c58 hF
                  refine lv_iload hx hb dX12_pealOf_275 (lv_at hl 5 rfl) ?_
                  refine lv_goto (tgt := 282) hx hb dX12_pealOf_277 (by decide) ?_
                  refine lv_istore (lv' := [(8, .int v9_245), (12, .int t0_245), (0, .ref (φ 12 i0)), (3, .int x2), (7, .int x34), (9, .int v9_245)]) hx hb dX12_pealOf_282 hl (by decide) rfl (fun ls hl => ?_)
                  obtain ⟨x56, e57, hF⟩ := nmx hF
                  refine lv_iinc (v := x56) (lv' := [(9, .int x56), (8, .int v9_245), (12, .int t0_245), (0, .ref (φ 12 i0)), (3, .int x2), (7, .int x34)]) hx hb dX12_pealOf_284 hl (k := 5) rfl (by rw [e57]; rfl) (by decide) rfl (fun ls hl => ?_)
                  refine lv_goto (tgt := 181) hx hb dX12_pealOf_287 (by decide) ?_
                  obtain rfl := sj hF
                  exact hK _ _ _ hW hS (lv_sub hl [3, 4, 5, 1, 0] rfl)
          have j_221 : ∀ (v8_221 : Int32) (v9_221 : Int32) (t0_221 : Int32) (H : Heap) (locs : List Loc) (ls : Array Slot), J_X12_pealOf_221 i0 x2 x34 v8_221 v9_221 t0_221 h = some v → HW D cA A φ h H → va_S A s.heap H locs → lv_has ls 13 [(0, .ref (φ 12 i0)), (3, .int x2), (7, .int x34), (8, .int v8_221), (9, .int v9_221)] → W p l e (rmo 4 91 0 0) s m args below meth c H locs 0 0 Q (F0 m 221 ls [.int t0_221]) := by
            intro v8_221 v9_221 t0_221 H locs ls hF hW hS hl
            unfold J_X12_pealOf_221 at hF
            refine lv_istore (lv' := [(11, .int t0_221), (0, .ref (φ 12 i0)), (3, .int x2), (7, .int x34), (8, .int v8_221), (9, .int v9_221)]) hx hb dX12_pealOf_221 hl (by decide) rfl (fun ls hl => ?_)
            refine lv_iload hx hb dX12_pealOf_223 (lv_at hl 0 rfl) ?_
            refine lv_iconst (v := (-1)) hx hb dX12_pealOf_225 (by decide) ?_
            refine lv_icmp_eq (tgt := 244) hx hb dX12_pealOf_226 (by decide) (fun c62 => ?_) (fun c62 => ?_)
            · have hF := it c62 hF
              refine lv_iconst (v := 0) hx hb dX12_pealOf_244 (by decide) ?_
              exact j_245 v8_221 v9_221 0 _ _ _ hF hW hS (lv_sub hl [1, 2, 3, 4, 5] rfl)
            · have hF := ie c62 hF
              refine lv_iload hx hb dX12_pealOf_229 (lv_at hl 3 rfl) ?_
              refine lv_iload hx hb dX12_pealOf_231 (lv_at hl 0 rfl) ?_
              refine lv_ishr hx hb dX12_pealOf_233 ?_
              refine lv_iconst (v := 1) hx hb dX12_pealOf_234 (by decide) ?_
              refine lv_iand hx hb dX12_pealOf_235 ?_
              refine lv_iconst (v := 1) hx hb dX12_pealOf_236 (by decide) ?_
              refine lv_icmp_ne (tgt := 244) hx hb dX12_pealOf_237 (by decide) (fun c61 => ?_) (fun c61 => ?_)
              · have hF := ie c61 hF
                refine lv_iconst (v := 0) hx hb dX12_pealOf_244 (by decide) ?_
                exact j_245 v8_221 v9_221 0 _ _ _ hF hW hS (lv_sub hl [1, 2, 3, 4, 5] rfl)
              · have hF := it c61 hF
                refine lv_iconst (v := 1) hx hb dX12_pealOf_240 (by decide) ?_
                refine lv_goto (tgt := 245) hx hb dX12_pealOf_241 (by decide) ?_
                exact j_245 v8_221 v9_221 1 _ _ _ hF hW hS (lv_sub hl [1, 2, 3, 4, 5] rfl)
          have j_210 : ∀ (v8_210 : Int32) (v9_210 : Int32) (H : Heap) (locs : List Loc) (ls : Array Slot), J_X12_pealOf_210 i0 x2 x34 v8_210 v9_210 h = some v → HW D cA A φ h H → va_S A s.heap H locs → lv_has ls 13 [(0, .ref (φ 12 i0)), (3, .int x2), (7, .int x34), (8, .int v8_210), (9, .int v9_210)] → W p l e (rmo 4 91 0 0) s m args below meth c H locs 0 0 Q (F0 m 210 ls []) := by
            intro v8_210 v9_210 H locs ls hF hW hS hl
            unfold J_X12_pealOf_210 at hF
            refine lv_aload_n hx hb dX12_pealOf_210 rfl (lv_at hl 0 rfl) ?_
            refine lv_iload hx hb dX12_pealOf_211 (lv_at hl 4 rfl) ?_
            refine lv_iload_n hx hb dX12_pealOf_213 rfl (lv_at hl 1 rfl) ?_
            obtain ⟨x64, e63, hF⟩ := bn hF
            refine rc_i (Af := fun φ => [.ref (φ 12 i0), .int v9_210, .int x2]) X hW hS ⟨Nat.zero_le _, Nat.zero_le _⟩ (rn_V (As := [.int v9_210, .int x2]) (rest := []) X hW hS cw_12_307 al_0 rfl rfl rfl ⟨Nat.le_of_ble_eq_true rfl, Nat.le_of_ble_eq_true rfl⟩ rfl hl.1 rfl (Nat.le_of_ble_eq_true rfl) dX12_pealOf_214) (ok_X12_stepOf i0 v9_210 x2 al_0 e63) (fun H locs hW hS => ?_)
            refine lv_goto (tgt := 221) hx hb dX12_pealOf_217 (by decide) ?_
            exact j_221 v8_210 v9_210 x64 _ _ _ hF hW hS (lv_sub hl [0, 1, 2, 3, 4] rfl)
          refine lv_iload hx hb dX12_pealOf_181 (lv_at hl 4 rfl) ?_
          refine lv_aload_n hx hb dX12_pealOf_183 rfl (lv_at hl 0 rfl) ?_
          refine r_geti X hW al_0 fl_12_167 dX12_pealOf_184 ?_
          refine lv_icmp_ge (tgt := 290) hx hb dX12_pealOf_187 (by decide) (fun c69 => ?_) (fun c69 => ?_)
          · have hF := it c69 hF
            obtain rfl := sj hF
            exact hK _ _ _ hW hS (lv_sub hl [3] rfl)
          · have hF := ie c69 hF
            refine lv_aload_n hx hb dX12_pealOf_190 rfl (lv_at hl 0 rfl) ?_
            refine lv_iload hx hb dX12_pealOf_191 (lv_at hl 4 rfl) ?_
            obtain ⟨x66, e65, hF⟩ := bn hF
            refine rc_i (Af := fun φ => [.ref (φ 12 i0), .int x37]) X hW hS ⟨Nat.zero_le _, Nat.zero_le _⟩ (rn_V (As := [.int x37]) (rest := []) X hW hS cw_12_200 al_0 rfl rfl rfl ⟨Nat.le_of_ble_eq_true rfl, Nat.le_of_ble_eq_true rfl⟩ rfl hl.1 rfl (Nat.le_of_ble_eq_true rfl) dX12_pealOf_193) (ok_X12_stateOf i0 x37 al_0 e65) (fun H locs hW hS => ?_)
            refine lv_istore (lv' := [(10, .int x66), (0, .ref (φ 12 i0)), (3, .int x2), (7, .int x34), (8, .int x36), (9, .int x37)]) hx hb dX12_pealOf_196 hl (by decide) rfl (fun ls hl => ?_)
            refine lv_iload hx hb dX12_pealOf_198 (lv_at hl 0 rfl) ?_
            refine lv_iconst (v := 2) hx hb dX12_pealOf_200 (by decide) ?_
            refine lv_icmp_eq (tgt := 210) hx hb dX12_pealOf_201 (by decide) (fun c68 => ?_) (fun c68 => ?_)
            · have hF := it c68 hF
              exact j_210 x36 x37 _ _ _ hF hW hS (lv_sub hl [1, 2, 3, 4, 5] rfl)
            · have hF := ie c68 hF
              refine lv_iload hx hb dX12_pealOf_204 (lv_at hl 0 rfl) ?_
              refine lv_iconst (v := 3) hx hb dX12_pealOf_206 (by decide) ?_
              refine lv_icmp_ne (tgt := 220) hx hb dX12_pealOf_207 (by decide) (fun c67 => ?_) (fun c67 => ?_)
              · have hF := ie c67 hF
                refine lv_iconst (v := (-1)) hx hb dX12_pealOf_220 (by decide) ?_
                exact j_221 x36 x37 (-1) _ _ _ hF hW hS (lv_sub hl [1, 2, 3, 4, 5] rfl)
              · have hF := it c67 hF
                exact j_210 x36 x37 _ _ _ hF hW hS (lv_sub hl [1, 2, 3, 4, 5] rfl)
        · intro H locs ls hW hS hl
          obtain ⟨x72, rfl⟩ : ∃ z, z = q70 := ⟨_, rfl⟩
          have hl : lv_has ls 13 [(8, .int x72)] := hl
          refine lv_iload hx hb dX12_pealOf_290 (lv_at hl 0 rfl) ?_
          obtain rfl := sj hF
          exact hfin _ _ _ _ hW hS dX12_pealOf_292
      · have hF := it c77 hF
        refine lv_iload hx hb dX12_pealOf_142 (lv_at hl 4 rfl) ?_
        refine lv_if_le (tgt := 173) hx hb dX12_pealOf_144 (by decide) (fun c76 => ?_) (fun c76 => ?_)
        · have hF := it c76 hF
          refine lv_iconst (v := 0) hx hb dX12_pealOf_173 (by decide) ?_
          obtain rfl := sj hF
          exact hfin _ _ _ _ hW hS dX12_pealOf_174
        · have hF := ie c76 hF
          refine lv_iload hx hb dX12_pealOf_147 (lv_at hl 5 rfl) ?_
          refine lv_if_ne (tgt := 173) hx hb dX12_pealOf_149 (by decide) (fun c75 => ?_) (fun c75 => ?_)
          · have hF := ie c75 hF
            refine lv_iconst (v := 0) hx hb dX12_pealOf_173 (by decide) ?_
            obtain rfl := sj hF
            exact hfin _ _ _ _ hW hS dX12_pealOf_174
          · have hF := it c75 hF
            refine lv_iload hx hb dX12_pealOf_152 (lv_at hl 0 rfl) ?_
            refine lv_if_ne (tgt := 173) hx hb dX12_pealOf_154 (by decide) (fun c74 => ?_) (fun c74 => ?_)
            · have hF := ie c74 hF
              refine lv_iconst (v := 0) hx hb dX12_pealOf_173 (by decide) ?_
              obtain rfl := sj hF
              exact hfin _ _ _ _ hW hS dX12_pealOf_174
            · have hF := it c74 hF
              refine lv_iload hx hb dX12_pealOf_157 (lv_at hl 6 rfl) ?_
              refine lv_aload_n hx hb dX12_pealOf_159 rfl (lv_at hl 1 rfl) ?_
              refine r_geti X hW al_0 fl_12_95 dX12_pealOf_160 ?_
              refine lv_iconst (v := (-1)) hx hb dX12_pealOf_163 (by decide) ?_
              refine lv_ixor hx hb dX12_pealOf_164 ?_
              refine lv_iand hx hb dX12_pealOf_165 ?_
              refine lv_if_ne (tgt := 173) hx hb dX12_pealOf_166 (by decide) (fun c73 => ?_) (fun c73 => ?_)
              · have hF := ie c73 hF
                refine lv_iconst (v := 0) hx hb dX12_pealOf_173 (by decide) ?_
                obtain rfl := sj hF
                exact hfin _ _ _ _ hW hS dX12_pealOf_174
              · have hF := it c73 hF
                refine lv_iconst (v := 1) hx hb dX12_pealOf_169 (by decide) ?_
                refine lv_goto (tgt := 174) hx hb dX12_pealOf_170 (by decide) ?_
                obtain rfl := sj hF
                exact hfin _ _ _ _ hW hS dX12_pealOf_174
    · have hF := ie c81 hF
      refine lv_iload_n hx hb dX12_pealOf_106 rfl (lv_at hl 2 rfl) ?_
      refine lv_if_ne (tgt := 115) hx hb dX12_pealOf_107 (by decide) (fun c80 => ?_) (fun c80 => ?_)
      · have hF := ie c80 hF
        refine lv_iload_n hx hb dX12_pealOf_115 rfl (lv_at hl 2 rfl) ?_
        refine lv_iconst (v := 1) hx hb dX12_pealOf_116 (by decide) ?_
        refine lv_icmp_ne (tgt := 124) hx hb dX12_pealOf_117 (by decide) (fun c79 => ?_) (fun c79 => ?_)
        · have hF := ie c79 hF
          refine lv_iload_n hx hb dX12_pealOf_124 rfl (lv_at hl 2 rfl) ?_
          refine lv_iconst (v := 2) hx hb dX12_pealOf_125 (by decide) ?_
          refine lv_icmp_ne (tgt := 134) hx hb dX12_pealOf_126 (by decide) (fun c78 => ?_) (fun c78 => ?_)
          · have hF := ie c78 hF
            refine lv_iload hx hb dX12_pealOf_134 (lv_at hl 0 rfl) ?_
            obtain rfl := sj hF
            exact hfin _ _ _ _ hW hS dX12_pealOf_136
          · have hF := it c78 hF
            refine lv_iload hx hb dX12_pealOf_129 (lv_at hl 5 rfl) ?_
            refine lv_goto (tgt := 136) hx hb dX12_pealOf_131 (by decide) ?_
            obtain rfl := sj hF
            exact hfin _ _ _ _ hW hS dX12_pealOf_136
        · have hF := it c79 hF
          refine lv_iload_n hx hb dX12_pealOf_120 rfl (lv_at hl 3 rfl) ?_
          refine lv_goto (tgt := 136) hx hb dX12_pealOf_121 (by decide) ?_
          obtain rfl := sj hF
          exact hfin _ _ _ _ hW hS dX12_pealOf_136
      · have hF := it c80 hF
        refine lv_iload hx hb dX12_pealOf_110 (lv_at hl 4 rfl) ?_
        refine lv_goto (tgt := 136) hx hb dX12_pealOf_112 (by decide) ?_
        obtain rfl := sj hF
        exact hfin _ _ _ _ hW hS dX12_pealOf_136
