def B_X12_write_67 (i0 : Nat) (a1 : Int32) (a2 : Int32) (t0_63 : Int32) (hj63 : HP) (q : Int32 × DP) : Option ((Int32 × DP) ⊕ (DP)) :=
  u2 q fun x1 d4 =>
  nm (wd hj63 d4) fun h2 =>
  (if t0_63 ≤ x1 then
  some (.inr (dp h2))
  else
  (gr h2 12 i0 2).bind fun o5 =>
  (gr h2 12 i0 0).bind fun o8 =>
  (ga h2 45 o8 4 a1).bind fun x11 =>
  (F_X12_letterOf i0 x1 a2 h2).bind fun x15 =>
  (F_X12_cut x11 x15).bind fun x17 =>
  (sa h2 47 o5 240 ((60 * a1) + x1) x17).bind fun h18 =>
  nm (x1 + 1) fun x22 =>
  some (.inl (x22, (dp h18))))
def J_X12_write_63 (i0 : Nat) (a1 : Int32) (a2 : Int32) (t0_63 : Int32) (hj63 : HP) : Option (Int32 × DP) :=
  (loopN LF (B_X12_write_67 i0 a1 a2 t0_63 hj63) (0, (dp hj63))).bind fun d28 =>
  nm (wd hj63 d28) fun h29 =>
  some (t0_63, dp h29)
def F_X12_write (i0 : Nat) (a1 : Int32) (a2 : Int32) (h : HP) : Option (Int32 × DP) :=
  (F_X12_isSheet a1).bind fun x33 =>
  (if x33 = 0 then
  some ((-2), dp h)
  else
  (F_X12_isWeek a2).bind fun x35 =>
  (if x35 = 0 then
  some ((-2), dp h)
  else
  (gr h 12 i0 0).bind fun o36 =>
  (ga h 45 o36 4 a1).bind fun x39 =>
  (if 0 ≤ x39 then
  (F_X12_reads i0 h).bind fun q47 => u2 q47 fun x48 d46 => nm (wd h d46) fun h43 =>
  (gr h43 12 i0 1).bind fun o49 =>
  (ga h43 46 o49 4 a1).bind fun x52 =>
  (if x52 ≤ (gi h43 12 i0 8) then
  (gr h43 12 i0 1).bind fun o55 =>
  (ga h43 46 o55 4 a1).bind fun x58 =>
  J_X12_write_63 i0 a1 a2 x58 h43
  else
  J_X12_write_63 i0 a1 a2 (gi h43 12 i0 8) h43)
  else
  (F_X12_met i0 1 h).bind fun q67 => u2 q67 fun x68 d66 => nm (wd h d66) fun h63 =>
  some (x68, dp h63))))
set_option maxHeartbeats 4000000 in
set_option maxRecDepth 100000 in
theorem ok_X12_write {l : Launch} {D : va_G} {cA : Nat → ClassId} {h : HP} {r : Int32} {d : DP} (i0 : Nat) (a1 : Int32) (a2 : Int32) (al_0 : i0 < gn h 12) (hF : F_X12_write i0 a1 a2 h = some (r, d)) : MI l D cA yX12_write cX12_write 5 (some .int) 4 97 (fun φ => [.ref (φ 12 i0), .int a1, .int a2]) h r (wd h d) := by
  refine mk_I (plainFor_of_name (by decide)) (fun φ => Nat.le_of_ble_eq_true rfl) ?_
  intro p e s m args below meth c ls φ A Q X hW hS hl hfin
  have hx := X.1
  have hb := X.2.1
  have hl : lv_has ls 5 [(0, .ref (φ 12 i0)), (1, .int a1), (2, .int a2)] := hl
  unfold F_X12_write at hF
  have j_63 : ∀ (t0_63 : Int32) (hj63 : HP) (H : Heap) (locs : List Loc) (ls : Array Slot), hj63.2.2 = h.2.2 → J_X12_write_63 i0 a1 a2 t0_63 hj63 = some (r, d) → HW D cA A φ hj63 H → va_S A s.heap H locs → lv_has ls 5 [(0, .ref (φ 12 i0)), (1, .int a1), (2, .int a2)] → W p l e (rmo 4 97 0 0) s m args below meth c H locs 0 0 Q (F0 m 63 ls [.int t0_63]) := by
    intro t0_63 hj63 H locs ls gj63 hF hW hS hl
    unfold J_X12_write_63 at hF
    refine lv_istore_n (lv' := [(3, .int t0_63), (0, .ref (φ 12 i0)), (1, .int a1), (2, .int a2)]) hx hb dX12_write_63 rfl hl (by decide) rfl (fun ls hl => ?_)
    refine lv_iconst (v := 0) hx hb dX12_write_64 (by decide) ?_
    refine lv_istore (lv' := [(4, .int 0), (3, .int t0_63), (0, .ref (φ 12 i0)), (1, .int a1), (2, .int a2)]) hx hb dX12_write_65 hl (by decide) rfl (fun ls hl => ?_)
    obtain ⟨q25, e26, hF⟩ := bn hF
    refine loop_w (f := B_X12_write_67 i0 a1 a2 t0_63 hj63) (Z := fun q => ∀ (H : Heap) (locs : List Loc) (ls : Array Slot), HW D cA A φ (wd hj63 q.2) H → va_S A s.heap H locs → lv_has ls 5 [(0, .ref (φ 12 i0)), (1, .int a1), (2, .int a2), (3, .int t0_63), (4, .int (q.1))] → W p l e (rmo 4 97 0 0) s m args below meth c H locs 0 0 Q (F0 m 67 ls [])) (K := fun q => ∀ (H : Heap) (locs : List Loc) (ls : Array Slot), HW D cA A φ (wd hj63 q) H → va_S A s.heap H locs → lv_has ls 5 [(3, .int t0_63)] → W p l e (rmo 4 97 0 0) s m args below meth c H locs 0 0 Q (F0 m 107 ls [])) ?_ LF _ q25 e26 ?_ _ _ _ (wdW rfl hW) hS (lv_sub hl [2, 3, 4, 1, 0] rfl)
    · intro q v hF hK H locs ls hW hS hl
      obtain ⟨x1, d4⟩ := q
      unfold B_X12_write_67 at hF
      have hF := u2d hF
      obtain ⟨h2, e27, hF⟩ := nmx hF
      have hW := nmW e27 hW
      have g3 : h2.2.2 = h.2.2 := by rw [e27]; exact gj63
      have hl : lv_has ls 5 [(0, .ref (φ 12 i0)), (1, .int a1), (2, .int a2), (3, .int t0_63), (4, .int x1)] := hl
      refine lv_iload hx hb dX12_write_67 (lv_at hl 4 rfl) ?_
      refine lv_iload_n hx hb dX12_write_69 rfl (lv_at hl 3 rfl) ?_
      refine lv_icmp_ge (tgt := 107) hx hb dX12_write_70 (by decide) (fun c24 => ?_) (fun c24 => ?_)
      · have hF := it c24 hF
        obtain rfl := sj hF
        exact hK _ _ _ (wdW (sq g3 gj63) hW) hS (lv_sub hl [3] rfl)
      · have hF := ie c24 hF
        refine lv_aload_n hx hb dX12_write_73 rfl (lv_at hl 0 rfl) ?_
        obtain ⟨o5, e6, hF⟩ := bn hF
        refine r_getr X hW (gq g3 al_0) fl_12_16 e6 dX12_write_74 (fun al7 => ?_)
        have al7 := qg g3 al7
        refine lv_bipush (v := 60) hx hb dX12_write_77 (by decide) ?_
        refine lv_iload_n hx hb dX12_write_79 rfl (lv_at hl 1 rfl) ?_
        refine lv_imul hx hb dX12_write_80 ?_
        refine lv_iload hx hb dX12_write_81 (lv_at hl 4 rfl) ?_
        refine lv_iadd hx hb dX12_write_83 ?_
        refine lv_aload_n hx hb dX12_write_84 rfl (lv_at hl 0 rfl) ?_
        obtain ⟨o8, e9, hF⟩ := bn hF
        refine r_getr X hW (gq g3 al_0) fl_12_7 e9 dX12_write_85 (fun al10 => ?_)
        have al10 := qg g3 al10
        refine lv_iload_n hx hb dX12_write_88 rfl (lv_at hl 1 rfl) ?_
        obtain ⟨x11, e12, hF⟩ := bn hF
        obtain ⟨b13, e12⟩ := ga_s e12
        refine r_iald X hW (gq g3 al10) rfl b13 dX12_write_89 ?_
        refine nmi e12 ?_
        refine lv_aload_n hx hb dX12_write_90 rfl (lv_at hl 0 rfl) ?_
        refine lv_iload hx hb dX12_write_91 (lv_at hl 4 rfl) ?_
        refine lv_iload_n hx hb dX12_write_93 rfl (lv_at hl 2 rfl) ?_
        obtain ⟨x15, e14, hF⟩ := bn hF
        refine rc_i (Af := fun φ => [.ref (φ 12 i0), .int x1, .int a2]) X hW hS ⟨Nat.zero_le _, Nat.zero_le _⟩ (rn_V (As := [.int x1, .int a2]) (rest := [.int x11, .int ((60 * a1) + x1), .ref (φ 47 o5)]) X hW hS cw_12_247 (gq g3 al_0) rfl rfl rfl ⟨Nat.le_of_ble_eq_true rfl, Nat.le_of_ble_eq_true rfl⟩ rfl hl.1 rfl (Nat.le_of_ble_eq_true rfl) dX12_write_94) (ok_X12_letterOf i0 x1 a2 (gq g3 al_0) e14) (fun H locs hW hS => ?_)
        obtain ⟨x17, e16, hF⟩ := bn hF
        refine rc_i (Af := fun φ => [.int x11, .int x15]) X hW hS ⟨Nat.zero_le _, Nat.zero_le _⟩ (rn_S (As := [.int x11, .int x15]) (rest := [.int ((60 * a1) + x1), .ref (φ 47 o5)]) X hW hS cw_12_157 ⟨Nat.le_of_ble_eq_true rfl, Nat.le_of_ble_eq_true rfl⟩ rfl hl.1 rfl (Nat.le_of_ble_eq_true rfl) dX12_write_97) (ok_X12_cut x11 x15 e16) (fun H locs hW hS => ?_)
        obtain ⟨h18, e19, hF⟩ := bn hF
        obtain ⟨b20, e19⟩ := sa_s e19
        refine r_iast X hW hS (gq g3 al7) rfl b20 dX12_write_100 (fun H locs hW hS => ?_)
        have hW := nmW e19 hW
        have g21 : h18.2.2 = h.2.2 := by rw [e19]; exact g3
        obtain ⟨x22, e23, hF⟩ := nmx hF
        refine lv_iinc (v := x22) (lv' := [(4, .int x22), (0, .ref (φ 12 i0)), (1, .int a1), (2, .int a2), (3, .int t0_63)]) hx hb dX12_write_101 hl (k := 4) rfl (by rw [e23]; rfl) (by decide) rfl (fun ls hl => ?_)
        refine lv_goto (tgt := 67) hx hb dX12_write_104 (by decide) ?_
        obtain rfl := sj hF
        exact hK _ _ _ (wdW (sq g21 gj63) hW) hS (lv_sub hl [1, 2, 3, 4, 0] rfl)
    · intro H locs ls hW hS hl
      obtain ⟨d28, rfl⟩ : ∃ z, z = q25 := ⟨_, rfl⟩
      obtain ⟨h29, e31, hF⟩ := nmx hF
      have hW := nmW e31 hW
      have g30 : h29.2.2 = h.2.2 := by rw [e31]; exact gj63
      have hl : lv_has ls 5 [(3, .int t0_63)] := hl
      refine lv_iload_n hx hb dX12_write_107 rfl (lv_at hl 0 rfl) ?_
      obtain ⟨rfl, rfl⟩ := sj2 hF
      exact hfin _ _ _ _ (wdW g30 hW) hS dX12_write_108
  refine lv_iload_n hx hb dX12_write_0 rfl (lv_at hl 1 rfl) ?_
  obtain ⟨x33, e32, hF⟩ := bn hF
  refine rc_i (Af := fun φ => [.int a1]) X hW hS ⟨Nat.zero_le _, Nat.zero_le _⟩ (rn_S (As := [.int a1]) (rest := []) X hW hS cw_12_143 ⟨Nat.le_of_ble_eq_true rfl, Nat.le_of_ble_eq_true rfl⟩ rfl hl.1 rfl (Nat.le_of_ble_eq_true rfl) dX12_write_1) (ok_X12_isSheet a1 e32) (fun H locs hW hS => ?_)
  refine lv_if_eq (tgt := 14) hx hb dX12_write_4 (by decide) (fun c71 => ?_) (fun c71 => ?_)
  · have hF := it c71 hF
    refine lv_bipush (v := (-2)) hx hb dX12_write_14 (by decide) ?_
    obtain ⟨rfl, rfl⟩ := sj2 hF
    exact hfin _ _ _ _ (wdW rfl hW) hS dX12_write_16
  · have hF := ie c71 hF
    refine lv_iload_n hx hb dX12_write_7 rfl (lv_at hl 2 rfl) ?_
    obtain ⟨x35, e34, hF⟩ := bn hF
    refine rc_i (Af := fun φ => [.int a2]) X hW hS ⟨Nat.zero_le _, Nat.zero_le _⟩ (rn_S (As := [.int a2]) (rest := []) X hW hS cw_12_244 ⟨Nat.le_of_ble_eq_true rfl, Nat.le_of_ble_eq_true rfl⟩ rfl hl.1 rfl (Nat.le_of_ble_eq_true rfl) dX12_write_8) (ok_X12_isWeek a2 e34) (fun H locs hW hS => ?_)
    refine lv_if_ne (tgt := 17) hx hb dX12_write_11 (by decide) (fun c70 => ?_) (fun c70 => ?_)
    · have hF := ie c70 hF
      refine lv_aload_n hx hb dX12_write_17 rfl (lv_at hl 0 rfl) ?_
      obtain ⟨o36, e37, hF⟩ := bn hF
      refine r_getr X hW al_0 fl_12_7 e37 dX12_write_18 (fun al38 => ?_)
      refine lv_iload_n hx hb dX12_write_21 rfl (lv_at hl 1 rfl) ?_
      obtain ⟨x39, e40, hF⟩ := bn hF
      obtain ⟨b41, e40⟩ := ga_s e40
      refine r_iald X hW al38 rfl b41 dX12_write_22 ?_
      refine nmi e40 ?_
      refine lv_if_ge (tgt := 32) hx hb dX12_write_23 (by decide) (fun c69 => ?_) (fun c69 => ?_)
      · have hF := it c69 hF
        refine lv_aload_n hx hb dX12_write_32 rfl (lv_at hl 0 rfl) ?_
        obtain ⟨q47, e42, hF⟩ := bn hF
        obtain ⟨x48, d46⟩ := q47
        have hF := u2d hF
        refine rc_i (Af := fun φ => [.ref (φ 12 i0)]) X hW hS ⟨Nat.zero_le _, Nat.zero_le _⟩ (rn_V (As := []) (rest := []) X hW hS cw_12_234 al_0 rfl rfl rfl ⟨Nat.le_of_ble_eq_true rfl, Nat.le_of_ble_eq_true rfl⟩ rfl hl.1 rfl (Nat.le_of_ble_eq_true rfl) dX12_write_33) (ok_X12_reads i0 al_0 e42) (fun H locs hW hS => ?_)
        obtain ⟨h43, e45, hF⟩ := nmx hF
        have hW := nmW e45 hW
        have g44 : h43.2.2 = h.2.2 := by rw [e45]; exact rfl
        refine lv_pop hx hb dX12_write_36 rfl ?_
        refine lv_aload_n hx hb dX12_write_37 rfl (lv_at hl 0 rfl) ?_
        refine r_geti X hW (gq g44 al_0) fl_12_167 dX12_write_38 ?_
        refine lv_aload_n hx hb dX12_write_41 rfl (lv_at hl 0 rfl) ?_
        obtain ⟨o49, e50, hF⟩ := bn hF
        refine r_getr X hW (gq g44 al_0) fl_12_13 e50 dX12_write_42 (fun al51 => ?_)
        have al51 := qg g44 al51
        refine lv_iload_n hx hb dX12_write_45 rfl (lv_at hl 1 rfl) ?_
        obtain ⟨x52, e53, hF⟩ := bn hF
        obtain ⟨b54, e53⟩ := ga_s e53
        refine r_iald X hW (gq g44 al51) rfl b54 dX12_write_46 ?_
        refine nmi e53 ?_
        refine lv_icmp_ge (tgt := 57) hx hb dX12_write_47 (by decide) (fun c61 => ?_) (fun c61 => ?_)
        · have hF := it c61 hF
          refine lv_aload_n hx hb dX12_write_57 rfl (lv_at hl 0 rfl) ?_
          obtain ⟨o55, e56, hF⟩ := bn hF
          refine r_getr X hW (gq g44 al_0) fl_12_13 e56 dX12_write_58 (fun al57 => ?_)
          have al57 := qg g44 al57
          refine lv_iload_n hx hb dX12_write_61 rfl (lv_at hl 1 rfl) ?_
          obtain ⟨x58, e59, hF⟩ := bn hF
          obtain ⟨b60, e59⟩ := ga_s e59
          refine r_iald X hW (gq g44 al57) rfl b60 dX12_write_62 ?_
          refine nmi e59 ?_
          exact j_63 x58 h43 _ _ _ g44 hF hW hS (lv_sub hl [0, 1, 2] rfl)
        · have hF := ie c61 hF
          refine lv_aload_n hx hb dX12_write_50 rfl (lv_at hl 0 rfl) ?_
          refine r_geti X hW (gq g44 al_0) fl_12_167 dX12_write_51 ?_
          refine lv_goto (tgt := 63) hx hb dX12_write_54 (by decide) ?_
          exact j_63 (gi h43 12 i0 8) h43 _ _ _ g44 hF hW hS (lv_sub hl [0, 1, 2] rfl)
      · have hF := ie c69 hF
        refine lv_aload_n hx hb dX12_write_26 rfl (lv_at hl 0 rfl) ?_
        refine lv_iconst (v := 1) hx hb dX12_write_27 (by decide) ?_
        obtain ⟨q67, e62, hF⟩ := bn hF
        obtain ⟨x68, d66⟩ := q67
        have hF := u2d hF
        refine rc_i (Af := fun φ => [.ref (φ 12 i0), .int 1]) X hW hS ⟨Nat.zero_le _, Nat.zero_le _⟩ (rn_V (As := [.int 1]) (rest := []) X hW hS cw_12_149 al_0 rfl rfl rfl ⟨Nat.le_of_ble_eq_true rfl, Nat.le_of_ble_eq_true rfl⟩ rfl hl.1 rfl (Nat.le_of_ble_eq_true rfl) dX12_write_28) (ok_X12_met i0 1 al_0 e62) (fun H locs hW hS => ?_)
        obtain ⟨h63, e65, hF⟩ := nmx hF
        have hW := nmW e65 hW
        have g64 : h63.2.2 = h.2.2 := by rw [e65]; exact rfl
        obtain ⟨rfl, rfl⟩ := sj2 hF
        exact hfin _ _ _ _ (wdW g64 hW) hS dX12_write_31
    · have hF := it c70 hF
      refine lv_bipush (v := (-2)) hx hb dX12_write_14 (by decide) ?_
      obtain ⟨rfl, rfl⟩ := sj2 hF
      exact hfin _ _ _ _ (wdW rfl hW) hS dX12_write_16
def B_X12_count_73 (i0 : Nat) (a1 : Int32) (h : HP) (q : Int32 × Int32) : Option ((Int32 × Int32) ⊕ (Int32)) :=
  u2 q fun x1 x2 =>
  (if (gi h 12 i0 8) ≤ x2 then
  some (.inr x1)
  else
  (F_X12_stateOf i0 x2 h).bind fun x4 =>
  (if x4 = a1 then
  nm ((x1 + 1)) fun x9 =>
  nm (x2 + 1) fun x11 =>
  some (.inl (x9, x11))
  else
  nm ((x1 + 0)) fun x5 =>
  nm (x2 + 1) fun x7 =>
  some (.inl (x5, x7))))
def J_X12_count_71 (i0 : Nat) (a1 : Int32) (v2_71 : Int32) (h : HP) : Option (Int32) :=
  (loopN LF (B_X12_count_73 i0 a1 h) (v2_71, 0)).bind fun x17 =>
  some x17
def F_X12_count (i0 : Nat) (a1 : Int32) (h : HP) : Option (Int32) :=
  (if a1 = 0 then
  some (gi h 12 i0 5)
  else
  (if a1 = 1 then
  some (gi h 12 i0 6)
  else
  (if a1 = 2 then
  some (gi h 12 i0 8)
  else
  (if a1 = 3 then
  J_X12_count_71 i0 a1 0 h
  else
  (if a1 = 4 then
  J_X12_count_71 i0 a1 0 h
  else
  (if a1 = 5 then
  some (gi h 12 i0 28)
  else
  (if a1 = 6 then
  some (gi h 12 i0 39)
  else
  (if a1 = 7 then
  some (gi h 12 i0 54)
  else
  (if a1 = 8 then
  some (gi h 12 i0 4)
  else
  (if a1 = 9 then
  some (gi h 12 i0 21)
  else
  some (-2)))))))))))
set_option maxHeartbeats 4000000 in
set_option maxRecDepth 100000 in
theorem ok_X12_count {l : Launch} {D : va_G} {cA : Nat → ClassId} {h : HP} {r : Int32}  (i0 : Nat) (a1 : Int32) (al_0 : i0 < gn h 12) (hF : F_X12_count i0 a1 h = some r) : MI l D cA yX12_count cX12_count 4 (some .int) 2 45 (fun φ => [.ref (φ 12 i0), .int a1]) h r h := by
  refine mk_I (plainFor_of_name (by decide)) (fun φ => Nat.le_of_ble_eq_true rfl) ?_
  intro p e s m args below meth c ls φ A Q X hW hS hl hfin
  have hx := X.1
  have hb := X.2.1
  have hl : lv_has ls 4 [(0, .ref (φ 12 i0)), (1, .int a1)] := hl
  unfold F_X12_count at hF
  have j_71 : ∀ (v2_71 : Int32) (H : Heap) (locs : List Loc) (ls : Array Slot), J_X12_count_71 i0 a1 v2_71 h = some r → HW D cA A φ h H → va_S A s.heap H locs → lv_has ls 4 [(0, .ref (φ 12 i0)), (1, .int a1), (2, .int v2_71)] → W p l e (rmo 2 45 0 0) s m args below meth c H locs 0 0 Q (F0 m 71 ls []) := by
    intro v2_71 H locs ls hF hW hS hl
    unfold J_X12_count_71 at hF
    refine lv_iconst (v := 0) hx hb dX12_count_71 (by decide) ?_
    refine lv_istore_n (lv' := [(3, .int 0), (0, .ref (φ 12 i0)), (1, .int a1), (2, .int v2_71)]) hx hb dX12_count_72 rfl hl (by decide) rfl (fun ls hl => ?_)
    obtain ⟨q15, e16, hF⟩ := bn hF
    refine loop_w (f := B_X12_count_73 i0 a1 h) (Z := fun q => ∀ (H : Heap) (locs : List Loc) (ls : Array Slot), HW D cA A φ h H → va_S A s.heap H locs → lv_has ls 4 [(0, .ref (φ 12 i0)), (1, .int a1), (2, .int (q.1)), (3, .int (q.2))] → W p l e (rmo 2 45 0 0) s m args below meth c H locs 0 0 Q (F0 m 73 ls [])) (K := fun q => ∀ (H : Heap) (locs : List Loc) (ls : Array Slot), HW D cA A φ h H → va_S A s.heap H locs → lv_has ls 4 [(2, .int q)] → W p l e (rmo 2 45 0 0) s m args below meth c H locs 0 0 Q (F0 m 104 ls [])) ?_ LF _ q15 e16 ?_ _ _ _ hW hS (lv_sub hl [1, 2, 3, 0] rfl)
    · intro q v hF hK H locs ls hW hS hl
      obtain ⟨x1, x2⟩ := q
      unfold B_X12_count_73 at hF
      have hF := u2d hF
      have hl : lv_has ls 4 [(0, .ref (φ 12 i0)), (1, .int a1), (2, .int x1), (3, .int x2)] := hl
      refine lv_iload_n hx hb dX12_count_73 rfl (lv_at hl 3 rfl) ?_
      refine lv_aload_n hx hb dX12_count_74 rfl (lv_at hl 0 rfl) ?_
      refine r_geti X hW al_0 fl_12_167 dX12_count_75 ?_
      refine lv_icmp_ge (tgt := 104) hx hb dX12_count_78 (by decide) (fun c14 => ?_) (fun c14 => ?_)
      · have hF := it c14 hF
        obtain rfl := sj hF
        exact hK _ _ _ hW hS (lv_sub hl [2] rfl)
      · have hF := ie c14 hF
        refine lv_iload_n hx hb dX12_count_81 rfl (lv_at hl 2 rfl) ?_
        refine lv_aload_n hx hb dX12_count_82 rfl (lv_at hl 0 rfl) ?_
        refine lv_iload_n hx hb dX12_count_83 rfl (lv_at hl 3 rfl) ?_
        obtain ⟨x4, e3, hF⟩ := bn hF
        refine rc_i (Af := fun φ => [.ref (φ 12 i0), .int x2]) X hW hS ⟨Nat.zero_le _, Nat.zero_le _⟩ (rn_V (As := [.int x2]) (rest := [.int x1]) X hW hS cw_12_200 al_0 rfl rfl rfl ⟨Nat.le_of_ble_eq_true rfl, Nat.le_of_ble_eq_true rfl⟩ rfl hl.1 rfl (Nat.le_of_ble_eq_true rfl) dX12_count_84) (ok_X12_stateOf i0 x2 al_0 e3) (fun H locs hW hS => ?_)
        refine lv_iload_n hx hb dX12_count_87 rfl (lv_at hl 1 rfl) ?_
        refine lv_icmp_ne (tgt := 95) hx hb dX12_count_88 (by decide) (fun c13 => ?_) (fun c13 => ?_)
        · have hF := ie c13 hF
          refine lv_iconst (v := 0) hx hb dX12_count_95 (by decide) ?_
          refine lv_iadd hx hb dX12_count_96 ?_
          obtain ⟨x5, e6, hF⟩ := nmx hF
          refine nmi e6 ?_
          refine lv_istore_n (lv' := [(2, .int x5), (0, .ref (φ 12 i0)), (1, .int a1), (3, .int x2)]) hx hb dX12_count_97 rfl hl (by decide) rfl (fun ls hl => ?_)
          obtain ⟨x7, e8, hF⟩ := nmx hF
          refine lv_iinc (v := x7) (lv' := [(3, .int x7), (2, .int x5), (0, .ref (φ 12 i0)), (1, .int a1)]) hx hb dX12_count_98 hl (k := 3) rfl (by rw [e8]; rfl) (by decide) rfl (fun ls hl => ?_)
          refine lv_goto (tgt := 73) hx hb dX12_count_101 (by decide) ?_
          obtain rfl := sj hF
          exact hK _ _ _ hW hS (lv_sub hl [2, 3, 1, 0] rfl)
        · have hF := it c13 hF
          refine lv_iconst (v := 1) hx hb dX12_count_91 (by decide) ?_
          refine lv_goto (tgt := 96) hx hb dX12_count_92 (by decide) ?_
          refine lv_iadd hx hb dX12_count_96 ?_
          obtain ⟨x9, e10, hF⟩ := nmx hF
          refine nmi e10 ?_
          refine lv_istore_n (lv' := [(2, .int x9), (0, .ref (φ 12 i0)), (1, .int a1), (3, .int x2)]) hx hb dX12_count_97 rfl hl (by decide) rfl (fun ls hl => ?_)
          obtain ⟨x11, e12, hF⟩ := nmx hF
          refine lv_iinc (v := x11) (lv' := [(3, .int x11), (2, .int x9), (0, .ref (φ 12 i0)), (1, .int a1)]) hx hb dX12_count_98 hl (k := 3) rfl (by rw [e12]; rfl) (by decide) rfl (fun ls hl => ?_)
          refine lv_goto (tgt := 73) hx hb dX12_count_101 (by decide) ?_
          obtain rfl := sj hF
          exact hK _ _ _ hW hS (lv_sub hl [2, 3, 1, 0] rfl)
    · intro H locs ls hW hS hl
      obtain ⟨x17, rfl⟩ : ∃ z, z = q15 := ⟨_, rfl⟩
      have hl : lv_has ls 4 [(2, .int x17)] := hl
      refine lv_iload_n hx hb dX12_count_104 rfl (lv_at hl 0 rfl) ?_
      obtain rfl := sj hF
      exact hfin _ _ _ _ hW hS dX12_count_105
  refine lv_iconst (v := 0) hx hb dX12_count_0 (by decide) ?_
  refine lv_istore_n (lv' := [(2, .int 0), (0, .ref (φ 12 i0)), (1, .int a1)]) hx hb dX12_count_1 rfl hl (by decide) rfl (fun ls hl => ?_)
  refine lv_iload_n hx hb dX12_count_2 rfl (lv_at hl 2 rfl) ?_
  by_cases c18 : a1 = 0
  · have hF := it c18 hF
    refine lv_tableIn (tgt := 56) hx hb dX12_count_3 (by rw [c18]; decide) (by rw [c18]; decide) (off := 53) (by rw [c18]; rfl) (by decide) ?_
    refine lv_aload_n hx hb dX12_count_56 rfl (lv_at hl 1 rfl) ?_
    refine r_geti X hW al_0 fl_12_172 dX12_count_57 ?_
    obtain rfl := sj hF
    exact hfin _ _ _ _ hW hS dX12_count_60
  have hF := ie c18 hF
  by_cases c19 : a1 = 1
  · have hF := it c19 hF
    refine lv_tableIn (tgt := 61) hx hb dX12_count_3 (by rw [c19]; decide) (by rw [c19]; decide) (off := 58) (by rw [c19]; rfl) (by decide) ?_
    refine lv_aload_n hx hb dX12_count_61 rfl (lv_at hl 1 rfl) ?_
    refine r_geti X hW al_0 fl_12_164 dX12_count_62 ?_
    obtain rfl := sj hF
    exact hfin _ _ _ _ hW hS dX12_count_65
  have hF := ie c19 hF
  by_cases c20 : a1 = 2
  · have hF := it c20 hF
    refine lv_tableIn (tgt := 66) hx hb dX12_count_3 (by rw [c20]; decide) (by rw [c20]; decide) (off := 63) (by rw [c20]; rfl) (by decide) ?_
    refine lv_aload_n hx hb dX12_count_66 rfl (lv_at hl 1 rfl) ?_
    refine r_geti X hW al_0 fl_12_167 dX12_count_67 ?_
    obtain rfl := sj hF
    exact hfin _ _ _ _ hW hS dX12_count_70
  have hF := ie c20 hF
  by_cases c21 : a1 = 3
  · have hF := it c21 hF
    refine lv_tableIn (tgt := 71) hx hb dX12_count_3 (by rw [c21]; decide) (by rw [c21]; decide) (off := 68) (by rw [c21]; rfl) (by decide) ?_
    exact j_71 0 _ _ _ hF hW hS (lv_sub hl [1, 2, 0] rfl)
  have hF := ie c21 hF
  by_cases c22 : a1 = 4
  · have hF := it c22 hF
    refine lv_tableIn (tgt := 71) hx hb dX12_count_3 (by rw [c22]; decide) (by rw [c22]; decide) (off := 68) (by rw [c22]; rfl) (by decide) ?_
    exact j_71 0 _ _ _ hF hW hS (lv_sub hl [1, 2, 0] rfl)
  have hF := ie c22 hF
  by_cases c23 : a1 = 5
  · have hF := it c23 hF
    refine lv_tableIn (tgt := 106) hx hb dX12_count_3 (by rw [c23]; decide) (by rw [c23]; decide) (off := 103) (by rw [c23]; rfl) (by decide) ?_
    refine lv_aload_n hx hb dX12_count_106 rfl (lv_at hl 1 rfl) ?_
    refine r_geti X hW al_0 fl_12_253 dX12_count_107 ?_
    obtain rfl := sj hF
    exact hfin _ _ _ _ hW hS dX12_count_110
  have hF := ie c23 hF
  by_cases c24 : a1 = 6
  · have hF := it c24 hF
    refine lv_tableIn (tgt := 111) hx hb dX12_count_3 (by rw [c24]; decide) (by rw [c24]; decide) (off := 108) (by rw [c24]; rfl) (by decide) ?_
    refine lv_aload_n hx hb dX12_count_111 rfl (lv_at hl 1 rfl) ?_
    refine r_geti X hW al_0 fl_12_313 dX12_count_112 ?_
    obtain rfl := sj hF
    exact hfin _ _ _ _ hW hS dX12_count_115
  have hF := ie c24 hF
  by_cases c25 : a1 = 7
  · have hF := it c25 hF
    refine lv_tableIn (tgt := 116) hx hb dX12_count_3 (by rw [c25]; decide) (by rw [c25]; decide) (off := 113) (by rw [c25]; rfl) (by decide) ?_
    refine lv_aload_n hx hb dX12_count_116 rfl (lv_at hl 1 rfl) ?_
    refine r_geti X hW al_0 fl_12_372 dX12_count_117 ?_
    obtain rfl := sj hF
    exact hfin _ _ _ _ hW hS dX12_count_120
  have hF := ie c25 hF
  by_cases c26 : a1 = 8
  · have hF := it c26 hF
    refine lv_tableIn (tgt := 121) hx hb dX12_count_3 (by rw [c26]; decide) (by rw [c26]; decide) (off := 118) (by rw [c26]; rfl) (by decide) ?_
    refine lv_aload_n hx hb dX12_count_121 rfl (lv_at hl 1 rfl) ?_
    refine r_geti X hW al_0 fl_12_134 dX12_count_122 ?_
    obtain rfl := sj hF
    exact hfin _ _ _ _ hW hS dX12_count_125
  have hF := ie c26 hF
  by_cases c27 : a1 = 9
  · have hF := it c27 hF
    refine lv_tableIn (tgt := 126) hx hb dX12_count_3 (by rw [c27]; decide) (by rw [c27]; decide) (off := 123) (by rw [c27]; rfl) (by decide) ?_
    refine lv_aload_n hx hb dX12_count_126 rfl (lv_at hl 1 rfl) ?_
    refine r_geti X hW al_0 fl_12_211 dX12_count_127 ?_
    obtain rfl := sj hF
    exact hfin _ _ _ _ hW hS dX12_count_130
  have hF := ie c27 hF
  refine lv_tableOut (tgt := 131) hx hb dX12_count_3 (by have n0 := lv_neT (a := 0) c18 (by decide); have n1 := lv_neT (a := 1) c19 (by decide); have n2 := lv_neT (a := 2) c20 (by decide); have n3 := lv_neT (a := 3) c21 (by decide); have n4 := lv_neT (a := 4) c22 (by decide); have n5 := lv_neT (a := 5) c23 (by decide); have n6 := lv_neT (a := 6) c24 (by decide); have n7 := lv_neT (a := 7) c25 (by decide); have n8 := lv_neT (a := 8) c26 (by decide); have n9 := lv_neT (a := 9) c27 (by decide); omega) (by decide) ?_
  refine lv_bipush (v := (-2)) hx hb dX12_count_131 (by decide) ?_
  obtain rfl := sj hF
  exact hfin _ _ _ _ hW hS dX12_count_133
def B_X12_digest_6 (i0 : Nat) (h : HP) (q : Int64 × Int32) : Option ((Int64 × Int32) ⊕ (Int64)) :=
  u2 q fun x1 x2 =>
  (if 10 ≤ x2 then
  some (.inr x1)
  else
  (if x2 = 8 then
  nm (x2 + 1) fun x9 =>
  some (.inl (x1, x9))
  else
  (F_X12_count i0 x2 h).bind fun x4 =>
  nm (((31 * x1) + (x4).toInt64)) fun x5 =>
  nm (x2 + 1) fun x7 =>
  some (.inl (x5, x7))))
def B_X12_digest_73 (i0 : Nat) (x24 : Int32) (h17 : HP) (q : Int64 × Int32) : Option ((Int64 × Int32) ⊕ (Int64)) :=
  u2 q fun x33 x34 =>
  (if 6 ≤ x34 then
  some (.inr x33)
  else
  (F_X12_pealOf i0 x24 x34 h17).bind fun x36 =>
  nm (((31 * x33) + (x36).toInt64)) fun x37 =>
  nm (x34 + 1) fun x39 =>
  some (.inl (x37, x39)))
def B_X12_digest_48 (i0 : Nat) (h17 : HP) (q : Int64 × Int32) : Option ((Int64 × Int32) ⊕ (Int64)) :=
  u2 q fun x23 x24 =>
  (if (gi h17 12 i0 6) ≤ x24 then
  some (.inr x23)
  else
  (gr h17 12 i0 7).bind fun o25 =>
  (ga h17 49 o25 8 x24).bind fun x28 =>
  nm (((31 * x23) + (x28).toInt64)) fun x31 =>
  (loopN LF (B_X12_digest_73 i0 x24 h17) (x31, 0)).bind fun x44 =>
  (F_X12_keptOf i0 x24 (gi h17 12 i0 5) h17).bind fun x46 =>
  nm (((31 * x44) + (x46).toInt64)) fun x47 =>
  nm (x24 + 1) fun x49 =>
  some (.inl (x47, x49)))
def B_X12_digest_137 (i0 : Nat) (x56 : Int32) (h17 : HP) (q : Int64 × Int32) : Option ((Int64 × Int32) ⊕ (Int64)) :=
  u2 q fun x57 x58 =>
  (if 9 ≤ x58 then
  some (.inr x57)
  else
  (F_X12_about i0 x56 x58 h17).bind fun x60 =>
  nm (((31 * x57) + (x60).toInt64)) fun x61 =>
  nm (x58 + 1) fun x63 =>
  some (.inl (x61, x63)))
def B_X12_digest_168 (i0 : Nat) (x56 : Int32) (h17 : HP) (q : Int64 × Int32) : Option ((Int64 × Int32) ⊕ (Int64)) :=
  u2 q fun x69 x70 =>
  (if 5 ≤ x70 then
  some (.inr x69)
  else
  (gr h17 12 i0 13).bind fun o71 =>
  (ga h17 54 o71 100 ((5 * x56) + x70)).bind fun x74 =>
  nm (((31 * x69) + (x74).toInt64)) fun x77 =>
  nm (x70 + 1) fun x79 =>
  some (.inl (x77, x79)))
def B_X12_digest_126 (i0 : Nat) (h17 : HP) (q : Int64 × Int32) : Option ((Int64 × Int32) ⊕ (Int64)) :=
  u2 q fun x55 x56 =>
  (if (gi h17 12 i0 8) ≤ x56 then
  some (.inr x55)
  else
  (loopN LF (B_X12_digest_137 i0 x56 h17) (x55, 0)).bind fun x68 =>
  (loopN LF (B_X12_digest_168 i0 x56 h17) (x68, 0)).bind fun x84 =>
  (F_X12_letterOf i0 x56 (gi h17 12 i0 5) h17).bind fun x86 =>
  nm (((31 * x84) + (x86).toInt64)) fun x87 =>
  nm (x56 + 1) fun x89 =>
  some (.inl (x87, x89)))
def F_X12_digest (i0 : Nat) (h : HP) : Option (Int64 × DP) :=
  (loopN LF (B_X12_digest_6 i0 h) (17, 0)).bind fun x15 =>
  (F_X12_reads i0 h).bind fun q21 => u2 q21 fun x22 d20 => nm (wd h d20) fun h17 =>
  (loopN LF (B_X12_digest_48 i0 h17) (x15, 0)).bind fun x54 =>
  (loopN LF (B_X12_digest_126 i0 h17) (x54, 0)).bind fun x94 =>
  (F_X12_reads i0 h17).bind fun q100 => u2 q100 fun x101 d99 => nm (wd h17 d99) fun h96 =>
  nm (((31 * x94) + (x101).toInt64)) fun x102 =>
  (F_X12_frees i0 h96).bind fun d108 => nm (wd h96 d108) fun h105 =>
  (F_X12_lays i0 h105).bind fun d113 => nm (wd h105 d113) fun h110 =>
  nm (((31 * x102) + ((gi h110 12 i0 35)).toInt64)) fun x114 =>
  nm (((31 * x114) + ((gi h110 12 i0 36)).toInt64)) fun x116 =>
  (F_X12_sentNow i0 0 h110).bind fun q123 => u2 q123 fun x124 d122 => nm (wd h110 d122) fun h119 =>
  some (((31 * x116) + (x124).toInt64), dp h119)
set_option maxHeartbeats 4000000 in
set_option maxRecDepth 100000 in
theorem ok_X12_digest {l : Launch} {D : va_G} {cA : Nat → ClassId} {h : HP} {r : Int64} {d : DP} (i0 : Nat) (al_0 : i0 < gn h 12) (hF : F_X12_digest i0 h = some (r, d)) : ML l D cA yX12_digest cX12_digest 5 (some .long) 5 123 (fun φ => [.ref (φ 12 i0)]) h r (wd h d) := by
  refine mk_L (plainFor_of_name (by decide)) (fun φ => Nat.le_of_ble_eq_true rfl) ?_
  intro p e s m args below meth c ls φ A Q X hW hS hl hfin
  have hx := X.1
  have hb := X.2.1
  have hl : lv_has ls 5 [(0, .ref (φ 12 i0))] := hl
  unfold F_X12_digest at hF
  refine lv_ldc2 (v := 17) hx hb X.2.2.2.1 (X.2.2.2.2.1 _ (AL_of 1538 (by decide +kernel) rfl)) dX12_digest_0 ?_
  refine lv_lstore_n (lv' := [(1, .long 17), (0, .ref (φ 12 i0))]) hx hb dX12_digest_3 rfl hl (by decide) rfl (fun ls hl => ?_)
  refine lv_iconst (v := 0) hx hb dX12_digest_4 (by decide) ?_
  refine lv_istore_n (lv' := [(3, .int 0), (1, .long 17), (0, .ref (φ 12 i0))]) hx hb dX12_digest_5 rfl hl (by decide) rfl (fun ls hl => ?_)
  obtain ⟨q13, e14, hF⟩ := bn hF
  refine loop_w (f := B_X12_digest_6 i0 h) (Z := fun q => ∀ (H : Heap) (locs : List Loc) (ls : Array Slot), HW D cA A φ h H → va_S A s.heap H locs → lv_has ls 5 [(0, .ref (φ 12 i0)), (1, .long (q.1)), (3, .int (q.2))] → W p l e (rmo 5 123 0 0) s m args below meth c H locs 0 0 Q (F0 m 6 ls [])) (K := fun q => ∀ (H : Heap) (locs : List Loc) (ls : Array Slot), HW D cA A φ h H → va_S A s.heap H locs → lv_has ls 5 [(0, .ref (φ 12 i0)), (1, .long q)] → W p l e (rmo 5 123 0 0) s m args below meth c H locs 0 0 Q (F0 m 41 ls [])) ?_ LF _ q13 e14 ?_ _ _ _ hW hS (lv_sub hl [2, 1, 0] rfl)
  · intro q v hF hK H locs ls hW hS hl
    obtain ⟨x1, x2⟩ := q
    unfold B_X12_digest_6 at hF
    have hF := u2d hF
    have hl : lv_has ls 5 [(0, .ref (φ 12 i0)), (1, .long x1), (3, .int x2)] := hl
    refine lv_iload_n hx hb dX12_digest_6 rfl (lv_at hl 2 rfl) ?_
    refine lv_bipush (v := 10) hx hb dX12_digest_7 (by decide) ?_
    refine lv_icmp_ge (tgt := 41) hx hb dX12_digest_9 (by decide) (fun c12 => ?_) (fun c12 => ?_)
    · have hF := it c12 hF
      obtain rfl := sj hF
      exact hK _ _ _ hW hS (lv_sub hl [0, 1] rfl)
    · have hF := ie c12 hF
      refine lv_iload_n hx hb dX12_digest_12 rfl (lv_at hl 2 rfl) ?_
      refine lv_bipush (v := 8) hx hb dX12_digest_13 (by decide) ?_
      refine lv_icmp_ne (tgt := 22) hx hb dX12_digest_15 (by decide) (fun c11 => ?_) (fun c11 => ?_)
      · have hF := ie c11 hF
        refine lv_ldc2 (v := 31) hx hb X.2.2.2.1 (X.2.2.2.2.1 _ (AL_of 1539 (by decide +kernel) rfl)) dX12_digest_22 ?_
        refine lv_lload_n hx hb dX12_digest_25 rfl (lv_at hl 1 rfl) ?_
        refine lv_lmul hx hb dX12_digest_26 ?_
        refine lv_aload_n hx hb dX12_digest_27 rfl (lv_at hl 0 rfl) ?_
        refine lv_iload_n hx hb dX12_digest_28 rfl (lv_at hl 2 rfl) ?_
        obtain ⟨x4, e3, hF⟩ := bn hF
        refine rc_i (Af := fun φ => [.ref (φ 12 i0), .int x2]) X hW hS ⟨Nat.zero_le _, Nat.zero_le _⟩ (rn_V (As := [.int x2]) (rest := [.long (31 * x1)]) X hW hS cw_12_385 al_0 rfl rfl rfl ⟨Nat.le_of_ble_eq_true rfl, Nat.le_of_ble_eq_true rfl⟩ rfl hl.1 rfl (Nat.le_of_ble_eq_true rfl) dX12_digest_29) (ok_X12_count i0 x2 al_0 e3) (fun H locs hW hS => ?_)
        refine lv_i2l (v := (x4).toInt64) hx hb dX12_digest_32 rfl ?_
        refine lv_ladd hx hb dX12_digest_33 ?_
        obtain ⟨x5, e6, hF⟩ := nmx hF
        refine nml e6 ?_
        refine lv_lstore_n (lv' := [(1, .long x5), (0, .ref (φ 12 i0)), (3, .int x2)]) hx hb dX12_digest_34 rfl hl (by decide) rfl (fun ls hl => ?_)
        obtain ⟨x7, e8, hF⟩ := nmx hF
        refine lv_iinc (v := x7) (lv' := [(3, .int x7), (1, .long x5), (0, .ref (φ 12 i0))]) hx hb dX12_digest_35 hl (k := 2) rfl (by rw [e8]; rfl) (by decide) rfl (fun ls hl => ?_)
        refine lv_goto (tgt := 6) hx hb dX12_digest_38 (by decide) ?_
        obtain rfl := sj hF
        exact hK _ _ _ hW hS (lv_sub hl [2, 1, 0] rfl)
      · have hF := it c11 hF
        refine lv_lload_n hx hb dX12_digest_18 rfl (lv_at hl 1 rfl) ?_
        refine lv_goto (tgt := 34) hx hb dX12_digest_19 (by decide) ?_
        refine lv_lstore_n (lv' := [(1, .long x1), (0, .ref (φ 12 i0)), (3, .int x2)]) hx hb dX12_digest_34 rfl hl (by decide) rfl (fun ls hl => ?_)
        obtain ⟨x9, e10, hF⟩ := nmx hF
        refine lv_iinc (v := x9) (lv' := [(3, .int x9), (1, .long x1), (0, .ref (φ 12 i0))]) hx hb dX12_digest_35 hl (k := 2) rfl (by rw [e10]; rfl) (by decide) rfl (fun ls hl => ?_)
        refine lv_goto (tgt := 6) hx hb dX12_digest_38 (by decide) ?_
        obtain rfl := sj hF
        exact hK _ _ _ hW hS (lv_sub hl [2, 1, 0] rfl)
  · intro H locs ls hW hS hl
    obtain ⟨x15, rfl⟩ : ∃ z, z = q13 := ⟨_, rfl⟩
    have hl : lv_has ls 5 [(0, .ref (φ 12 i0)), (1, .long x15)] := hl
    refine lv_aload_n hx hb dX12_digest_41 rfl (lv_at hl 0 rfl) ?_
    obtain ⟨q21, e16, hF⟩ := bn hF
    obtain ⟨x22, d20⟩ := q21
    have hF := u2d hF
    refine rc_i (Af := fun φ => [.ref (φ 12 i0)]) X hW hS ⟨Nat.zero_le _, Nat.zero_le _⟩ (rn_V (As := []) (rest := []) X hW hS cw_12_234 al_0 rfl rfl rfl ⟨Nat.le_of_ble_eq_true rfl, Nat.le_of_ble_eq_true rfl⟩ rfl hl.1 rfl (Nat.le_of_ble_eq_true rfl) dX12_digest_42) (ok_X12_reads i0 al_0 e16) (fun H locs hW hS => ?_)
    obtain ⟨h17, e19, hF⟩ := nmx hF
    have hW := nmW e19 hW
    have g18 : h17.2.2 = h.2.2 := by rw [e19]; exact rfl
    refine lv_pop hx hb dX12_digest_45 rfl ?_
    refine lv_iconst (v := 0) hx hb dX12_digest_46 (by decide) ?_
    refine lv_istore_n (lv' := [(3, .int 0), (0, .ref (φ 12 i0)), (1, .long x15)]) hx hb dX12_digest_47 rfl hl (by decide) rfl (fun ls hl => ?_)
    obtain ⟨q52, e53, hF⟩ := bn hF
    refine loop_w (f := B_X12_digest_48 i0 h17) (Z := fun q => ∀ (H : Heap) (locs : List Loc) (ls : Array Slot), HW D cA A φ h17 H → va_S A s.heap H locs → lv_has ls 5 [(0, .ref (φ 12 i0)), (1, .long (q.1)), (3, .int (q.2))] → W p l e (rmo 5 123 0 0) s m args below meth c H locs 0 0 Q (F0 m 48 ls [])) (K := fun q => ∀ (H : Heap) (locs : List Loc) (ls : Array Slot), HW D cA A φ h17 H → va_S A s.heap H locs → lv_has ls 5 [(0, .ref (φ 12 i0)), (1, .long q)] → W p l e (rmo 5 123 0 0) s m args below meth c H locs 0 0 Q (F0 m 124 ls [])) ?_ LF _ q52 e53 ?_ _ _ _ hW hS (lv_sub hl [1, 2, 0] rfl)
    · intro q v hF hK H locs ls hW hS hl
      obtain ⟨x23, x24⟩ := q
      unfold B_X12_digest_48 at hF
      have hF := u2d hF
      have hl : lv_has ls 5 [(0, .ref (φ 12 i0)), (1, .long x23), (3, .int x24)] := hl
      refine lv_iload_n hx hb dX12_digest_48 rfl (lv_at hl 2 rfl) ?_
      refine lv_aload_n hx hb dX12_digest_49 rfl (lv_at hl 0 rfl) ?_
      refine r_geti X hW (gq g18 al_0) fl_12_164 dX12_digest_50 ?_
      refine lv_icmp_ge (tgt := 124) hx hb dX12_digest_53 (by decide) (fun c51 => ?_) (fun c51 => ?_)
      · have hF := it c51 hF
        obtain rfl := sj hF
        exact hK _ _ _ hW hS (lv_sub hl [0, 1] rfl)
      · have hF := ie c51 hF
        refine lv_ldc2 (v := 31) hx hb X.2.2.2.1 (X.2.2.2.2.1 _ (AL_of 1539 (by decide +kernel) rfl)) dX12_digest_56 ?_
        refine lv_lload_n hx hb dX12_digest_59 rfl (lv_at hl 1 rfl) ?_
        refine lv_lmul hx hb dX12_digest_60 ?_
        refine lv_aload_n hx hb dX12_digest_61 rfl (lv_at hl 0 rfl) ?_
        obtain ⟨o25, e26, hF⟩ := bn hF
        refine r_getr X hW (gq g18 al_0) fl_12_22 e26 dX12_digest_62 (fun al27 => ?_)
        have al27 := qg g18 al27
        refine lv_iload_n hx hb dX12_digest_65 rfl (lv_at hl 2 rfl) ?_
        obtain ⟨x28, e29, hF⟩ := bn hF
        obtain ⟨b30, e29⟩ := ga_s e29
        refine r_iald X hW (gq g18 al27) rfl b30 dX12_digest_66 ?_
        refine nmi e29 ?_
        refine lv_i2l (v := (x28).toInt64) hx hb dX12_digest_67 rfl ?_
        refine lv_ladd hx hb dX12_digest_68 ?_
        obtain ⟨x31, e32, hF⟩ := nmx hF
        refine nml e32 ?_
        refine lv_lstore_n (lv' := [(1, .long x31), (0, .ref (φ 12 i0)), (3, .int x24)]) hx hb dX12_digest_69 rfl hl (by decide) rfl (fun ls hl => ?_)
        refine lv_iconst (v := 0) hx hb dX12_digest_70 (by decide) ?_
        refine lv_istore (lv' := [(4, .int 0), (1, .long x31), (0, .ref (φ 12 i0)), (3, .int x24)]) hx hb dX12_digest_71 hl (by decide) rfl (fun ls hl => ?_)
        obtain ⟨q42, e43, hF⟩ := bn hF
        refine loop_w (f := B_X12_digest_73 i0 x24 h17) (Z := fun q => ∀ (H : Heap) (locs : List Loc) (ls : Array Slot), HW D cA A φ h17 H → va_S A s.heap H locs → lv_has ls 5 [(0, .ref (φ 12 i0)), (1, .long (q.1)), (3, .int x24), (4, .int (q.2))] → W p l e (rmo 5 123 0 0) s m args below meth c H locs 0 0 Q (F0 m 73 ls [])) (K := fun q => ∀ (H : Heap) (locs : List Loc) (ls : Array Slot), HW D cA A φ h17 H → va_S A s.heap H locs → lv_has ls 5 [(0, .ref (φ 12 i0)), (1, .long q), (3, .int x24)] → W p l e (rmo 5 123 0 0) s m args below meth c H locs 0 0 Q (F0 m 101 ls [])) ?_ LF _ q42 e43 ?_ _ _ _ hW hS (lv_sub hl [2, 1, 3, 0] rfl)
        · intro q v hF hK H locs ls hW hS hl
          obtain ⟨x33, x34⟩ := q
          unfold B_X12_digest_73 at hF
          have hF := u2d hF
          have hl : lv_has ls 5 [(0, .ref (φ 12 i0)), (1, .long x33), (3, .int x24), (4, .int x34)] := hl
          refine lv_iload hx hb dX12_digest_73 (lv_at hl 3 rfl) ?_
          refine lv_bipush (v := 6) hx hb dX12_digest_75 (by decide) ?_
          refine lv_icmp_ge (tgt := 101) hx hb dX12_digest_77 (by decide) (fun c41 => ?_) (fun c41 => ?_)
          · have hF := it c41 hF
            obtain rfl := sj hF
            exact hK _ _ _ hW hS (lv_sub hl [0, 1, 2] rfl)
          · have hF := ie c41 hF
            refine lv_ldc2 (v := 31) hx hb X.2.2.2.1 (X.2.2.2.2.1 _ (AL_of 1539 (by decide +kernel) rfl)) dX12_digest_80 ?_
            refine lv_lload_n hx hb dX12_digest_83 rfl (lv_at hl 1 rfl) ?_
            refine lv_lmul hx hb dX12_digest_84 ?_
            refine lv_aload_n hx hb dX12_digest_85 rfl (lv_at hl 0 rfl) ?_
            refine lv_iload_n hx hb dX12_digest_86 rfl (lv_at hl 2 rfl) ?_
            refine lv_iload hx hb dX12_digest_87 (lv_at hl 3 rfl) ?_
            obtain ⟨x36, e35, hF⟩ := bn hF
            refine rc_i (Af := fun φ => [.ref (φ 12 i0), .int x24, .int x34]) X hW hS ⟨Nat.zero_le _, Nat.zero_le _⟩ (rn_V (As := [.int x24, .int x34]) (rest := [.long (31 * x33)]) X hW hS cw_12_310 (gq g18 al_0) rfl rfl rfl ⟨Nat.le_of_ble_eq_true rfl, Nat.le_of_ble_eq_true rfl⟩ rfl hl.1 rfl (Nat.le_of_ble_eq_true rfl) dX12_digest_89) (ok_X12_pealOf i0 x24 x34 (gq g18 al_0) e35) (fun H locs hW hS => ?_)
            refine lv_i2l (v := (x36).toInt64) hx hb dX12_digest_92 rfl ?_
            refine lv_ladd hx hb dX12_digest_93 ?_
            obtain ⟨x37, e38, hF⟩ := nmx hF
            refine nml e38 ?_
            refine lv_lstore_n (lv' := [(1, .long x37), (0, .ref (φ 12 i0)), (3, .int x24), (4, .int x34)]) hx hb dX12_digest_94 rfl hl (by decide) rfl (fun ls hl => ?_)
            obtain ⟨x39, e40, hF⟩ := nmx hF
            refine lv_iinc (v := x39) (lv' := [(4, .int x39), (1, .long x37), (0, .ref (φ 12 i0)), (3, .int x24)]) hx hb dX12_digest_95 hl (k := 3) rfl (by rw [e40]; rfl) (by decide) rfl (fun ls hl => ?_)
            refine lv_goto (tgt := 73) hx hb dX12_digest_98 (by decide) ?_
            obtain rfl := sj hF
            exact hK _ _ _ hW hS (lv_sub hl [2, 1, 3, 0] rfl)
        · intro H locs ls hW hS hl
          obtain ⟨x44, rfl⟩ : ∃ z, z = q42 := ⟨_, rfl⟩
          have hl : lv_has ls 5 [(0, .ref (φ 12 i0)), (1, .long x44), (3, .int x24)] := hl
          refine lv_ldc2 (v := 31) hx hb X.2.2.2.1 (X.2.2.2.2.1 _ (AL_of 1539 (by decide +kernel) rfl)) dX12_digest_101 ?_
          refine lv_lload_n hx hb dX12_digest_104 rfl (lv_at hl 1 rfl) ?_
          refine lv_lmul hx hb dX12_digest_105 ?_
          refine lv_aload_n hx hb dX12_digest_106 rfl (lv_at hl 0 rfl) ?_
          refine lv_iload_n hx hb dX12_digest_107 rfl (lv_at hl 2 rfl) ?_
          refine lv_aload_n hx hb dX12_digest_108 rfl (lv_at hl 0 rfl) ?_
          refine r_geti X hW (gq g18 al_0) fl_12_172 dX12_digest_109 ?_
          obtain ⟨x46, e45, hF⟩ := bn hF
          refine rc_i (Af := fun φ => [.ref (φ 12 i0), .int x24, .int (gi h17 12 i0 5)]) X hW hS ⟨Nat.zero_le _, Nat.zero_le _⟩ (rn_V (As := [.int x24, .int (gi h17 12 i0 5)]) (rest := [.long (31 * x44)]) X hW hS cw_12_250 (gq g18 al_0) rfl rfl rfl ⟨Nat.le_of_ble_eq_true rfl, Nat.le_of_ble_eq_true rfl⟩ rfl hl.1 rfl (Nat.le_of_ble_eq_true rfl) dX12_digest_112) (ok_X12_keptOf i0 x24 (gi h17 12 i0 5) (gq g18 al_0) e45) (fun H locs hW hS => ?_)
          refine lv_i2l (v := (x46).toInt64) hx hb dX12_digest_115 rfl ?_
          refine lv_ladd hx hb dX12_digest_116 ?_
          obtain ⟨x47, e48, hF⟩ := nmx hF
          refine nml e48 ?_
          refine lv_lstore_n (lv' := [(1, .long x47), (0, .ref (φ 12 i0)), (3, .int x24)]) hx hb dX12_digest_117 rfl hl (by decide) rfl (fun ls hl => ?_)
          obtain ⟨x49, e50, hF⟩ := nmx hF
          refine lv_iinc (v := x49) (lv' := [(3, .int x49), (1, .long x47), (0, .ref (φ 12 i0))]) hx hb dX12_digest_118 hl (k := 2) rfl (by rw [e50]; rfl) (by decide) rfl (fun ls hl => ?_)
          refine lv_goto (tgt := 48) hx hb dX12_digest_121 (by decide) ?_
          obtain rfl := sj hF
          exact hK _ _ _ hW hS (lv_sub hl [2, 1, 0] rfl)
    · intro H locs ls hW hS hl
      obtain ⟨x54, rfl⟩ : ∃ z, z = q52 := ⟨_, rfl⟩
      have hl : lv_has ls 5 [(0, .ref (φ 12 i0)), (1, .long x54)] := hl
      refine lv_iconst (v := 0) hx hb dX12_digest_124 (by decide) ?_
      refine lv_istore_n (lv' := [(3, .int 0), (0, .ref (φ 12 i0)), (1, .long x54)]) hx hb dX12_digest_125 rfl hl (by decide) rfl (fun ls hl => ?_)
      obtain ⟨q92, e93, hF⟩ := bn hF
      refine loop_w (f := B_X12_digest_126 i0 h17) (Z := fun q => ∀ (H : Heap) (locs : List Loc) (ls : Array Slot), HW D cA A φ h17 H → va_S A s.heap H locs → lv_has ls 5 [(0, .ref (φ 12 i0)), (1, .long (q.1)), (3, .int (q.2))] → W p l e (rmo 5 123 0 0) s m args below meth c H locs 0 0 Q (F0 m 126 ls [])) (K := fun q => ∀ (H : Heap) (locs : List Loc) (ls : Array Slot), HW D cA A φ h17 H → va_S A s.heap H locs → lv_has ls 5 [(0, .ref (φ 12 i0)), (1, .long q)] → W p l e (rmo 5 123 0 0) s m args below meth c H locs 0 0 Q (F0 m 222 ls [])) ?_ LF _ q92 e93 ?_ _ _ _ hW hS (lv_sub hl [1, 2, 0] rfl)
      · intro q v hF hK H locs ls hW hS hl
        obtain ⟨x55, x56⟩ := q
        unfold B_X12_digest_126 at hF
        have hF := u2d hF
        have hl : lv_has ls 5 [(0, .ref (φ 12 i0)), (1, .long x55), (3, .int x56)] := hl
        refine lv_iload_n hx hb dX12_digest_126 rfl (lv_at hl 2 rfl) ?_
        refine lv_aload_n hx hb dX12_digest_127 rfl (lv_at hl 0 rfl) ?_
        refine r_geti X hW (gq g18 al_0) fl_12_167 dX12_digest_128 ?_
        refine lv_icmp_ge (tgt := 222) hx hb dX12_digest_131 (by decide) (fun c91 => ?_) (fun c91 => ?_)
        · have hF := it c91 hF
          obtain rfl := sj hF
          exact hK _ _ _ hW hS (lv_sub hl [0, 1] rfl)
        · have hF := ie c91 hF
          refine lv_iconst (v := 0) hx hb dX12_digest_134 (by decide) ?_
          refine lv_istore (lv' := [(4, .int 0), (0, .ref (φ 12 i0)), (1, .long x55), (3, .int x56)]) hx hb dX12_digest_135 hl (by decide) rfl (fun ls hl => ?_)
          obtain ⟨q66, e67, hF⟩ := bn hF
          refine loop_w (f := B_X12_digest_137 i0 x56 h17) (Z := fun q => ∀ (H : Heap) (locs : List Loc) (ls : Array Slot), HW D cA A φ h17 H → va_S A s.heap H locs → lv_has ls 5 [(0, .ref (φ 12 i0)), (1, .long (q.1)), (3, .int x56), (4, .int (q.2))] → W p l e (rmo 5 123 0 0) s m args below meth c H locs 0 0 Q (F0 m 137 ls [])) (K := fun q => ∀ (H : Heap) (locs : List Loc) (ls : Array Slot), HW D cA A φ h17 H → va_S A s.heap H locs → lv_has ls 5 [(0, .ref (φ 12 i0)), (1, .long q), (3, .int x56)] → W p l e (rmo 5 123 0 0) s m args below meth c H locs 0 0 Q (F0 m 165 ls [])) ?_ LF _ q66 e67 ?_ _ _ _ hW hS (lv_sub hl [1, 2, 3, 0] rfl)
          · intro q v hF hK H locs ls hW hS hl
            obtain ⟨x57, x58⟩ := q
            unfold B_X12_digest_137 at hF
            have hF := u2d hF
            have hl : lv_has ls 5 [(0, .ref (φ 12 i0)), (1, .long x57), (3, .int x56), (4, .int x58)] := hl
            refine lv_iload hx hb dX12_digest_137 (lv_at hl 3 rfl) ?_
            refine lv_bipush (v := 9) hx hb dX12_digest_139 (by decide) ?_
            refine lv_icmp_ge (tgt := 165) hx hb dX12_digest_141 (by decide) (fun c65 => ?_) (fun c65 => ?_)
            · have hF := it c65 hF
              obtain rfl := sj hF
              exact hK _ _ _ hW hS (lv_sub hl [0, 1, 2] rfl)
            · have hF := ie c65 hF
              refine lv_ldc2 (v := 31) hx hb X.2.2.2.1 (X.2.2.2.2.1 _ (AL_of 1539 (by decide +kernel) rfl)) dX12_digest_144 ?_
              refine lv_lload_n hx hb dX12_digest_147 rfl (lv_at hl 1 rfl) ?_
              refine lv_lmul hx hb dX12_digest_148 ?_
              refine lv_aload_n hx hb dX12_digest_149 rfl (lv_at hl 0 rfl) ?_
              refine lv_iload_n hx hb dX12_digest_150 rfl (lv_at hl 2 rfl) ?_
              refine lv_iload hx hb dX12_digest_151 (lv_at hl 3 rfl) ?_
              obtain ⟨x60, e59, hF⟩ := bn hF
              refine rc_i (Af := fun φ => [.ref (φ 12 i0), .int x56, .int x58]) X hW hS ⟨Nat.zero_le _, Nat.zero_le _⟩ (rn_V (As := [.int x56, .int x58]) (rest := [.long (31 * x57)]) X hW hS cw_12_388 (gq g18 al_0) rfl rfl rfl ⟨Nat.le_of_ble_eq_true rfl, Nat.le_of_ble_eq_true rfl⟩ rfl hl.1 rfl (Nat.le_of_ble_eq_true rfl) dX12_digest_153) (ok_X12_about i0 x56 x58 (gq g18 al_0) e59) (fun H locs hW hS => ?_)
              refine lv_i2l (v := (x60).toInt64) hx hb dX12_digest_156 rfl ?_
              refine lv_ladd hx hb dX12_digest_157 ?_
              obtain ⟨x61, e62, hF⟩ := nmx hF
              refine nml e62 ?_
              refine lv_lstore_n (lv' := [(1, .long x61), (0, .ref (φ 12 i0)), (3, .int x56), (4, .int x58)]) hx hb dX12_digest_158 rfl hl (by decide) rfl (fun ls hl => ?_)
              obtain ⟨x63, e64, hF⟩ := nmx hF
              refine lv_iinc (v := x63) (lv' := [(4, .int x63), (1, .long x61), (0, .ref (φ 12 i0)), (3, .int x56)]) hx hb dX12_digest_159 hl (k := 3) rfl (by rw [e64]; rfl) (by decide) rfl (fun ls hl => ?_)
              refine lv_goto (tgt := 137) hx hb dX12_digest_162 (by decide) ?_
              obtain rfl := sj hF
              exact hK _ _ _ hW hS (lv_sub hl [2, 1, 3, 0] rfl)
          · intro H locs ls hW hS hl
            obtain ⟨x68, rfl⟩ : ∃ z, z = q66 := ⟨_, rfl⟩
            have hl : lv_has ls 5 [(0, .ref (φ 12 i0)), (1, .long x68), (3, .int x56)] := hl
            refine lv_iconst (v := 0) hx hb dX12_digest_165 (by decide) ?_
            refine lv_istore (lv' := [(4, .int 0), (0, .ref (φ 12 i0)), (1, .long x68), (3, .int x56)]) hx hb dX12_digest_166 hl (by decide) rfl (fun ls hl => ?_)
            obtain ⟨q82, e83, hF⟩ := bn hF
            refine loop_w (f := B_X12_digest_168 i0 x56 h17) (Z := fun q => ∀ (H : Heap) (locs : List Loc) (ls : Array Slot), HW D cA A φ h17 H → va_S A s.heap H locs → lv_has ls 5 [(0, .ref (φ 12 i0)), (1, .long (q.1)), (3, .int x56), (4, .int (q.2))] → W p l e (rmo 5 123 0 0) s m args below meth c H locs 0 0 Q (F0 m 168 ls [])) (K := fun q => ∀ (H : Heap) (locs : List Loc) (ls : Array Slot), HW D cA A φ h17 H → va_S A s.heap H locs → lv_has ls 5 [(0, .ref (φ 12 i0)), (1, .long q), (3, .int x56)] → W p l e (rmo 5 123 0 0) s m args below meth c H locs 0 0 Q (F0 m 199 ls [])) ?_ LF _ q82 e83 ?_ _ _ _ hW hS (lv_sub hl [1, 2, 3, 0] rfl)
            · intro q v hF hK H locs ls hW hS hl
              obtain ⟨x69, x70⟩ := q
              unfold B_X12_digest_168 at hF
              have hF := u2d hF
              have hl : lv_has ls 5 [(0, .ref (φ 12 i0)), (1, .long x69), (3, .int x56), (4, .int x70)] := hl
              refine lv_iload hx hb dX12_digest_168 (lv_at hl 3 rfl) ?_
              refine lv_iconst (v := 5) hx hb dX12_digest_170 (by decide) ?_
              refine lv_icmp_ge (tgt := 199) hx hb dX12_digest_171 (by decide) (fun c81 => ?_) (fun c81 => ?_)
              · have hF := it c81 hF
                obtain rfl := sj hF
                exact hK _ _ _ hW hS (lv_sub hl [0, 1, 2] rfl)
              · have hF := ie c81 hF
                refine lv_ldc2 (v := 31) hx hb X.2.2.2.1 (X.2.2.2.2.1 _ (AL_of 1539 (by decide +kernel) rfl)) dX12_digest_174 ?_
                refine lv_lload_n hx hb dX12_digest_177 rfl (lv_at hl 1 rfl) ?_
                refine lv_lmul hx hb dX12_digest_178 ?_
                refine lv_aload_n hx hb dX12_digest_179 rfl (lv_at hl 0 rfl) ?_
                obtain ⟨o71, e72, hF⟩ := bn hF
                refine r_getr X hW (gq g18 al_0) fl_12_37 e72 dX12_digest_180 (fun al73 => ?_)
                have al73 := qg g18 al73
                refine lv_iconst (v := 5) hx hb dX12_digest_183 (by decide) ?_
                refine lv_iload_n hx hb dX12_digest_184 rfl (lv_at hl 2 rfl) ?_
                refine lv_imul hx hb dX12_digest_185 ?_
                refine lv_iload hx hb dX12_digest_186 (lv_at hl 3 rfl) ?_
                refine lv_iadd hx hb dX12_digest_188 ?_
                obtain ⟨x74, e75, hF⟩ := bn hF
                obtain ⟨b76, e75⟩ := ga_s e75
                refine r_iald X hW (gq g18 al73) rfl b76 dX12_digest_189 ?_
                refine nmi e75 ?_
                refine lv_i2l (v := (x74).toInt64) hx hb dX12_digest_190 rfl ?_
                refine lv_ladd hx hb dX12_digest_191 ?_
                obtain ⟨x77, e78, hF⟩ := nmx hF
                refine nml e78 ?_
                refine lv_lstore_n (lv' := [(1, .long x77), (0, .ref (φ 12 i0)), (3, .int x56), (4, .int x70)]) hx hb dX12_digest_192 rfl hl (by decide) rfl (fun ls hl => ?_)
                obtain ⟨x79, e80, hF⟩ := nmx hF
                refine lv_iinc (v := x79) (lv' := [(4, .int x79), (1, .long x77), (0, .ref (φ 12 i0)), (3, .int x56)]) hx hb dX12_digest_193 hl (k := 3) rfl (by rw [e80]; rfl) (by decide) rfl (fun ls hl => ?_)
                refine lv_goto (tgt := 168) hx hb dX12_digest_196 (by decide) ?_
                obtain rfl := sj hF
                exact hK _ _ _ hW hS (lv_sub hl [2, 1, 3, 0] rfl)
            · intro H locs ls hW hS hl
              obtain ⟨x84, rfl⟩ : ∃ z, z = q82 := ⟨_, rfl⟩
              have hl : lv_has ls 5 [(0, .ref (φ 12 i0)), (1, .long x84), (3, .int x56)] := hl
              refine lv_ldc2 (v := 31) hx hb X.2.2.2.1 (X.2.2.2.2.1 _ (AL_of 1539 (by decide +kernel) rfl)) dX12_digest_199 ?_
              refine lv_lload_n hx hb dX12_digest_202 rfl (lv_at hl 1 rfl) ?_
              refine lv_lmul hx hb dX12_digest_203 ?_
              refine lv_aload_n hx hb dX12_digest_204 rfl (lv_at hl 0 rfl) ?_
              refine lv_iload_n hx hb dX12_digest_205 rfl (lv_at hl 2 rfl) ?_
              refine lv_aload_n hx hb dX12_digest_206 rfl (lv_at hl 0 rfl) ?_
              refine r_geti X hW (gq g18 al_0) fl_12_172 dX12_digest_207 ?_
              obtain ⟨x86, e85, hF⟩ := bn hF
              refine rc_i (Af := fun φ => [.ref (φ 12 i0), .int x56, .int (gi h17 12 i0 5)]) X hW hS ⟨Nat.zero_le _, Nat.zero_le _⟩ (rn_V (As := [.int x56, .int (gi h17 12 i0 5)]) (rest := [.long (31 * x84)]) X hW hS cw_12_247 (gq g18 al_0) rfl rfl rfl ⟨Nat.le_of_ble_eq_true rfl, Nat.le_of_ble_eq_true rfl⟩ rfl hl.1 rfl (Nat.le_of_ble_eq_true rfl) dX12_digest_210) (ok_X12_letterOf i0 x56 (gi h17 12 i0 5) (gq g18 al_0) e85) (fun H locs hW hS => ?_)
              refine lv_i2l (v := (x86).toInt64) hx hb dX12_digest_213 rfl ?_
              refine lv_ladd hx hb dX12_digest_214 ?_
              obtain ⟨x87, e88, hF⟩ := nmx hF
              refine nml e88 ?_
              refine lv_lstore_n (lv' := [(1, .long x87), (0, .ref (φ 12 i0)), (3, .int x56)]) hx hb dX12_digest_215 rfl hl (by decide) rfl (fun ls hl => ?_)
              obtain ⟨x89, e90, hF⟩ := nmx hF
              refine lv_iinc (v := x89) (lv' := [(3, .int x89), (1, .long x87), (0, .ref (φ 12 i0))]) hx hb dX12_digest_216 hl (k := 2) rfl (by rw [e90]; rfl) (by decide) rfl (fun ls hl => ?_)
              refine lv_goto (tgt := 126) hx hb dX12_digest_219 (by decide) ?_
              obtain rfl := sj hF
              exact hK _ _ _ hW hS (lv_sub hl [2, 1, 0] rfl)
      · intro H locs ls hW hS hl
        obtain ⟨x94, rfl⟩ : ∃ z, z = q92 := ⟨_, rfl⟩
        have hl : lv_has ls 5 [(0, .ref (φ 12 i0)), (1, .long x94)] := hl
        refine lv_ldc2 (v := 31) hx hb X.2.2.2.1 (X.2.2.2.2.1 _ (AL_of 1539 (by decide +kernel) rfl)) dX12_digest_222 ?_
        refine lv_lload_n hx hb dX12_digest_225 rfl (lv_at hl 1 rfl) ?_
        refine lv_lmul hx hb dX12_digest_226 ?_
        refine lv_aload_n hx hb dX12_digest_227 rfl (lv_at hl 0 rfl) ?_
        obtain ⟨q100, e95, hF⟩ := bn hF
        obtain ⟨x101, d99⟩ := q100
        have hF := u2d hF
        refine rc_i (Af := fun φ => [.ref (φ 12 i0)]) X hW hS ⟨Nat.zero_le _, Nat.zero_le _⟩ (rn_V (As := []) (rest := [.long (31 * x94)]) X hW hS cw_12_234 (gq g18 al_0) rfl rfl rfl ⟨Nat.le_of_ble_eq_true rfl, Nat.le_of_ble_eq_true rfl⟩ rfl hl.1 rfl (Nat.le_of_ble_eq_true rfl) dX12_digest_228) (ok_X12_reads i0 (gq g18 al_0) e95) (fun H locs hW hS => ?_)
        obtain ⟨h96, e98, hF⟩ := nmx hF
        have hW := nmW e98 hW
        have g97 : h96.2.2 = h.2.2 := by rw [e98]; exact g18
        refine lv_i2l (v := (x101).toInt64) hx hb dX12_digest_231 rfl ?_
        refine lv_ladd hx hb dX12_digest_232 ?_
        obtain ⟨x102, e103, hF⟩ := nmx hF
        refine nml e103 ?_
        refine lv_lstore_n (lv' := [(1, .long x102), (0, .ref (φ 12 i0))]) hx hb dX12_digest_233 rfl hl (by decide) rfl (fun ls hl => ?_)
        refine lv_aload_n hx hb dX12_digest_234 rfl (lv_at hl 1 rfl) ?_
        obtain ⟨d108, e104, hF⟩ := bn hF
        refine rc_v (Af := fun φ => [.ref (φ 12 i0)]) X hW hS ⟨Nat.zero_le _, Nat.zero_le _⟩ (rn_V (As := []) (rest := []) X hW hS cw_12_291 (gq g97 al_0) rfl rfl rfl ⟨Nat.le_of_ble_eq_true rfl, Nat.le_of_ble_eq_true rfl⟩ rfl hl.1 rfl (Nat.le_of_ble_eq_true rfl) dX12_digest_235) (ok_X12_frees i0 (gq g97 al_0) e104) (fun H locs hW hS => ?_)
        obtain ⟨h105, e107, hF⟩ := nmx hF
        have hW := nmW e107 hW
        have g106 : h105.2.2 = h.2.2 := by rw [e107]; exact g97
        refine lv_aload_n hx hb dX12_digest_238 rfl (lv_at hl 1 rfl) ?_
        obtain ⟨d113, e109, hF⟩ := bn hF
        refine rc_v (Af := fun φ => [.ref (φ 12 i0)]) X hW hS ⟨Nat.zero_le _, Nat.zero_le _⟩ (rn_V (As := []) (rest := []) X hW hS cw_12_294 (gq g106 al_0) rfl rfl rfl ⟨Nat.le_of_ble_eq_true rfl, Nat.le_of_ble_eq_true rfl⟩ rfl hl.1 rfl (Nat.le_of_ble_eq_true rfl) dX12_digest_239) (ok_X12_lays i0 (gq g106 al_0) e109) (fun H locs hW hS => ?_)
        obtain ⟨h110, e112, hF⟩ := nmx hF
        have hW := nmW e112 hW
        have g111 : h110.2.2 = h.2.2 := by rw [e112]; exact g106
        refine lv_ldc2 (v := 31) hx hb X.2.2.2.1 (X.2.2.2.2.1 _ (AL_of 1539 (by decide +kernel) rfl)) dX12_digest_242 ?_
        refine lv_lload_n hx hb dX12_digest_245 rfl (lv_at hl 0 rfl) ?_
        refine lv_lmul hx hb dX12_digest_246 ?_
        refine lv_aload_n hx hb dX12_digest_247 rfl (lv_at hl 1 rfl) ?_
        refine r_geti X hW (gq g111 al_0) fl_12_285 dX12_digest_248 ?_
        refine lv_i2l (v := ((gi h110 12 i0 35)).toInt64) hx hb dX12_digest_251 rfl ?_
        refine lv_ladd hx hb dX12_digest_252 ?_
        obtain ⟨x114, e115, hF⟩ := nmx hF
        refine nml e115 ?_
        refine lv_lstore_n (lv' := [(1, .long x114), (0, .ref (φ 12 i0))]) hx hb dX12_digest_253 rfl hl (by decide) rfl (fun ls hl => ?_)
        refine lv_ldc2 (v := 31) hx hb X.2.2.2.1 (X.2.2.2.2.1 _ (AL_of 1539 (by decide +kernel) rfl)) dX12_digest_254 ?_
        refine lv_lload_n hx hb dX12_digest_257 rfl (lv_at hl 0 rfl) ?_
        refine lv_lmul hx hb dX12_digest_258 ?_
        refine lv_aload_n hx hb dX12_digest_259 rfl (lv_at hl 1 rfl) ?_
        refine r_geti X hW (gq g111 al_0) fl_12_288 dX12_digest_260 ?_
        refine lv_i2l (v := ((gi h110 12 i0 36)).toInt64) hx hb dX12_digest_263 rfl ?_
        refine lv_ladd hx hb dX12_digest_264 ?_
        obtain ⟨x116, e117, hF⟩ := nmx hF
        refine nml e117 ?_
        refine lv_lstore_n (lv' := [(1, .long x116), (0, .ref (φ 12 i0))]) hx hb dX12_digest_265 rfl hl (by decide) rfl (fun ls hl => ?_)
        refine lv_ldc2 (v := 31) hx hb X.2.2.2.1 (X.2.2.2.2.1 _ (AL_of 1539 (by decide +kernel) rfl)) dX12_digest_266 ?_
        refine lv_lload_n hx hb dX12_digest_269 rfl (lv_at hl 0 rfl) ?_
        refine lv_lmul hx hb dX12_digest_270 ?_
        refine lv_aload_n hx hb dX12_digest_271 rfl (lv_at hl 1 rfl) ?_
        refine lv_iconst (v := 0) hx hb dX12_digest_272 (by decide) ?_
        obtain ⟨q123, e118, hF⟩ := bn hF
        obtain ⟨x124, d122⟩ := q123
        have hF := u2d hF
        refine rc_i (Af := fun φ => [.ref (φ 12 i0), .int 0]) X hW hS ⟨Nat.zero_le _, Nat.zero_le _⟩ (rn_V (As := [.int 0]) (rest := [.long (31 * x116)]) X hW hS cw_12_369 (gq g111 al_0) rfl rfl rfl ⟨Nat.le_of_ble_eq_true rfl, Nat.le_of_ble_eq_true rfl⟩ rfl hl.1 rfl (Nat.le_of_ble_eq_true rfl) dX12_digest_273) (ok_X12_sentNow i0 0 (gq g111 al_0) e118) (fun H locs hW hS => ?_)
        obtain ⟨h119, e121, hF⟩ := nmx hF
        have hW := nmW e121 hW
        have g120 : h119.2.2 = h.2.2 := by rw [e121]; exact g111
        refine lv_i2l (v := (x124).toInt64) hx hb dX12_digest_276 rfl ?_
        refine lv_ladd hx hb dX12_digest_277 ?_
        obtain ⟨rfl, rfl⟩ := sj2 hF
        exact hfin _ _ _ _ (wdW g120 hW) hS dX12_digest_278
