def B_X12_sentNow_4 (i0 : Nat) (a1 : Int32) (h : HP) (q : Int32 × Int32 × DP) : Option ((Int32 × Int32 × DP) ⊕ ((Int32 × DP))) :=
  u3 q fun x1 x2 d5 =>
  nm (wd h d5) fun h3 =>
  (if (gi h3 12 i0 8) ≤ x2 then
  some (.inr (x1, (dp h3)))
  else
  (if 10 ≤ x1 then
  some (.inr (x1, (dp h3)))
  else
  (F_X12_stateOf i0 x2 h3).bind fun x7 =>
  (if x7 = 3 then
  (gr h3 12 i0 53).bind fun o10 =>
  (sa h3 78 o10 10 x1 x2).bind fun h13 =>
  nm (x1 + 1) fun x17 =>
  nm (x2 + 1) fun x19 =>
  some (.inl (x17, x19, (dp h13)))
  else
  nm (x2 + 1) fun x8 =>
  some (.inl (x1, x8, (dp h3))))))
def J_X12_sentNow_94 (i0 : Nat) (a1 : Int32) (x27 : Int32) (v3_94 : Int32) (v4_94 : Int32) (h29 : HP) : Option ((Int32 × Int32) ⊕ (Int32)) :=
  (F_X12_inTime i0 v4_94 x27 h29).bind fun x34 =>
  (if x34 = 0 then
  nm (v4_94 + 1) fun x35 =>
  some (.inl (v3_94, x35))
  else
  nm (v4_94 + 1) fun x37 =>
  some (.inl (v4_94, x37)))
def B_X12_sentNow_48 (i0 : Nat) (a1 : Int32) (x27 : Int32) (h29 : HP) (q : Int32 × Int32) : Option ((Int32 × Int32) ⊕ (Int32)) :=
  u2 q fun x31 x32 =>
  (if (1 <<< (x27 &&& 31)) ≤ x32 then
  some (.inr x31)
  else
  (F_X12_ones x32).bind fun x41 =>
  (F_X12_ones x31).bind fun x43 =>
  nm ((x41 - x43)) fun x44 =>
  (if 0 < x44 then
  J_X12_sentNow_94 i0 a1 x27 x31 x32 h29
  else
  (if x44 = 0 then
  (F_X12_weightOf i0 x32 x27 h29).bind fun x49 =>
  (F_X12_weightOf i0 x31 x27 h29).bind fun x51 =>
  (if x49 ≤ x51 then
  nm (x32 + 1) fun x52 =>
  some (.inl (x31, x52))
  else
  J_X12_sentNow_94 i0 a1 x27 x31 x32 h29)
  else
  nm (x32 + 1) fun x46 =>
  some (.inl (x31, x46)))))
def B_X12_sentNow_119 (i0 : Nat) (a1 : Int32) (x27 : Int32) (x60 : Int32) (h29 : HP) (q : Int32 × Int32) : Option ((Int32 × Int32) ⊕ (Int32)) :=
  u2 q fun x61 x62 =>
  (if x27 ≤ x62 then
  some (.inr x61)
  else
  (if ((x60 >>> (x62 &&& 31)) &&& 1) = 1 then
  (gr h29 12 i0 53).bind fun o67 =>
  (ga h29 78 o67 10 x62).bind fun x70 =>
  nm ((x61 ||| (1 <<< (x70 &&& 31)))) fun x73 =>
  nm (x62 + 1) fun x75 =>
  some (.inl (x73, x75))
  else
  nm ((x61 ||| 0)) fun x63 =>
  nm (x62 + 1) fun x65 =>
  some (.inl (x63, x65))))
def F_X12_sentNow (i0 : Nat) (a1 : Int32) (h : HP) : Option (Int32 × DP) :=
  (loopN LF (B_X12_sentNow_4 i0 a1 h) (0, 0, (dp h))).bind fun q24 => u2 q24 fun x27 d28 =>
  nm (wd h d28) fun h29 =>
  (loopN LF (B_X12_sentNow_48 i0 a1 x27 h29) (0, 1)).bind fun x60 =>
  (loopN LF (B_X12_sentNow_119 i0 a1 x27 x60 h29) (0, 0)).bind fun x81 =>
  (if a1 = 0 then
  some (x81, dp h29)
  else
  (if a1 = 1 then
  (F_X12_ones x60).bind fun x85 =>
  some (x85, dp h29)
  else
  (F_X12_weightOf i0 x60 x27 h29).bind fun x83 =>
  some (x83, dp h29)))
set_option maxHeartbeats 4000000 in
set_option maxRecDepth 100000 in
theorem ok_X12_sentNow {l : Launch} {D : va_G} {cA : Nat → ClassId} {h : HP} {r : Int32} {d : DP} (i0 : Nat) (a1 : Int32) (al_0 : i0 < gn h 12) (hF : F_X12_sentNow i0 a1 h = some (r, d)) : MI l D cA yX12_sentNow cX12_sentNow 6 (some .int) 2 45 (fun φ => [.ref (φ 12 i0), .int a1]) h r (wd h d) := by
  refine mk_I (plainFor_of_name (by decide)) (fun φ => Nat.le_of_ble_eq_true rfl) ?_
  intro p e s m args below meth c ls φ A Q X hW hS hl hfin
  have hx := X.1
  have hb := X.2.1
  have hl : lv_has ls 6 [(0, .ref (φ 12 i0)), (1, .int a1)] := hl
  unfold F_X12_sentNow at hF
  refine lv_iconst (v := 0) hx hb dX12_sentNow_0 (by decide) ?_
  refine lv_istore_n (lv' := [(2, .int 0), (0, .ref (φ 12 i0)), (1, .int a1)]) hx hb dX12_sentNow_1 rfl hl (by decide) rfl (fun ls hl => ?_)
  refine lv_iconst (v := 0) hx hb dX12_sentNow_2 (by decide) ?_
  refine lv_istore_n (lv' := [(3, .int 0), (2, .int 0), (0, .ref (φ 12 i0)), (1, .int a1)]) hx hb dX12_sentNow_3 rfl hl (by decide) rfl (fun ls hl => ?_)
  obtain ⟨q24, e25, hF⟩ := bn hF
  refine loop_w (f := B_X12_sentNow_4 i0 a1 h) (Z := fun q => ∀ (H : Heap) (locs : List Loc) (ls : Array Slot), HW D cA A φ (wd h q.2.2) H → va_S A s.heap H locs → lv_has ls 6 [(0, .ref (φ 12 i0)), (1, .int a1), (2, .int (q.1)), (3, .int (q.2.1))] → W p l e (rmo 2 45 0 0) s m args below meth c H locs 0 0 Q (F0 m 4 ls [])) (K := fun q => ∀ (H : Heap) (locs : List Loc) (ls : Array Slot), HW D cA A φ (wd h q.2) H → va_S A s.heap H locs → lv_has ls 6 [(0, .ref (φ 12 i0)), (1, .int a1), (2, .int (q.1))] → W p l e (rmo 2 45 0 0) s m args below meth c H locs 0 0 Q (F0 m 43 ls [])) ?_ LF _ q24 e25 ?_ _ _ _ (wdW rfl hW) hS (lv_sub hl [2, 3, 1, 0] rfl)
  · intro q v hF hK H locs ls hW hS hl
    obtain ⟨x1, x2, d5⟩ := q
    unfold B_X12_sentNow_4 at hF
    have hF := u3d hF
    obtain ⟨h3, e26, hF⟩ := nmx hF
    have hW := nmW e26 hW
    have g4 : h3.2.2 = h.2.2 := by rw [e26]; exact rfl
    have hl : lv_has ls 6 [(0, .ref (φ 12 i0)), (1, .int a1), (2, .int x1), (3, .int x2)] := hl
    refine lv_iload_n hx hb dX12_sentNow_4 rfl (lv_at hl 3 rfl) ?_
    refine lv_aload_n hx hb dX12_sentNow_5 rfl (lv_at hl 0 rfl) ?_
    refine r_geti X hW (gq g4 al_0) fl_12_167 dX12_sentNow_6 ?_
    refine lv_icmp_ge (tgt := 43) hx hb dX12_sentNow_9 (by decide) (fun c23 => ?_) (fun c23 => ?_)
    · have hF := it c23 hF
      obtain rfl := sj hF
      exact hK _ _ _ (wdW (sq g4 rfl) hW) hS (lv_sub hl [0, 1, 2] rfl)
    · have hF := ie c23 hF
      refine lv_iload_n hx hb dX12_sentNow_12 rfl (lv_at hl 2 rfl) ?_
      refine lv_bipush (v := 10) hx hb dX12_sentNow_13 (by decide) ?_
      refine lv_icmp_ge (tgt := 43) hx hb dX12_sentNow_15 (by decide) (fun c22 => ?_) (fun c22 => ?_)
      · have hF := it c22 hF
        obtain rfl := sj hF
        exact hK _ _ _ (wdW (sq g4 rfl) hW) hS (lv_sub hl [0, 1, 2] rfl)
      · have hF := ie c22 hF
        refine lv_aload_n hx hb dX12_sentNow_18 rfl (lv_at hl 0 rfl) ?_
        refine lv_iload_n hx hb dX12_sentNow_19 rfl (lv_at hl 3 rfl) ?_
        obtain ⟨x7, e6, hF⟩ := bn hF
        refine rc_i (Af := fun φ => [.ref (φ 12 i0), .int x2]) X hW hS ⟨Nat.zero_le _, Nat.zero_le _⟩ (rn_V (As := [.int x2]) (rest := []) X hW hS cw_12_200 (gq g4 al_0) rfl rfl rfl ⟨Nat.le_of_ble_eq_true rfl, Nat.le_of_ble_eq_true rfl⟩ rfl hl.1 rfl (Nat.le_of_ble_eq_true rfl) dX12_sentNow_20) (ok_X12_stateOf i0 x2 (gq g4 al_0) e6) (fun H locs hW hS => ?_)
        refine lv_iconst (v := 3) hx hb dX12_sentNow_23 (by decide) ?_
        refine lv_icmp_ne (tgt := 37) hx hb dX12_sentNow_24 (by decide) (fun c21 => ?_) (fun c21 => ?_)
        · have hF := ie c21 hF
          obtain ⟨x8, e9, hF⟩ := nmx hF
          refine lv_iinc (v := x8) (lv' := [(3, .int x8), (0, .ref (φ 12 i0)), (1, .int a1), (2, .int x1)]) hx hb dX12_sentNow_37 hl (k := 3) rfl (by rw [e9]; rfl) (by decide) rfl (fun ls hl => ?_)
          refine lv_goto (tgt := 4) hx hb dX12_sentNow_40 (by decide) ?_
          obtain rfl := sj hF
          exact hK _ _ _ (wdW (sq g4 rfl) hW) hS (lv_sub hl [1, 2, 3, 0] rfl)
        · have hF := it c21 hF
          refine lv_aload_n hx hb dX12_sentNow_27 rfl (lv_at hl 0 rfl) ?_
          obtain ⟨o10, e11, hF⟩ := bn hF
          refine r_getr X hW (gq g4 al_0) fl_12_116 e11 dX12_sentNow_28 (fun al12 => ?_)
          have al12 := qg g4 al12
          refine lv_iload_n hx hb dX12_sentNow_31 rfl (lv_at hl 2 rfl) ?_
          refine lv_iload_n hx hb dX12_sentNow_32 rfl (lv_at hl 3 rfl) ?_
          obtain ⟨h13, e14, hF⟩ := bn hF
          obtain ⟨b15, e14⟩ := sa_s e14
          refine r_iast X hW hS (gq g4 al12) rfl b15 dX12_sentNow_33 (fun H locs hW hS => ?_)
          have hW := nmW e14 hW
          have g16 : h13.2.2 = h.2.2 := by rw [e14]; exact g4
          obtain ⟨x17, e18, hF⟩ := nmx hF
          refine lv_iinc (v := x17) (lv' := [(2, .int x17), (0, .ref (φ 12 i0)), (1, .int a1), (3, .int x2)]) hx hb dX12_sentNow_34 hl (k := 2) rfl (by rw [e18]; rfl) (by decide) rfl (fun ls hl => ?_)
          obtain ⟨x19, e20, hF⟩ := nmx hF
          refine lv_iinc (v := x19) (lv' := [(3, .int x19), (2, .int x17), (0, .ref (φ 12 i0)), (1, .int a1)]) hx hb dX12_sentNow_37 hl (k := 3) rfl (by rw [e20]; rfl) (by decide) rfl (fun ls hl => ?_)
          refine lv_goto (tgt := 4) hx hb dX12_sentNow_40 (by decide) ?_
          obtain rfl := sj hF
          exact hK _ _ _ (wdW (sq g16 rfl) hW) hS (lv_sub hl [2, 3, 1, 0] rfl)
  · intro H locs ls hW hS hl
    obtain ⟨x27, d28⟩ := q24
    have hF := u2d hF
    obtain ⟨h29, e88, hF⟩ := nmx hF
    have hW := nmW e88 hW
    have g30 : h29.2.2 = h.2.2 := by rw [e88]; exact rfl
    have hl : lv_has ls 6 [(0, .ref (φ 12 i0)), (1, .int a1), (2, .int x27)] := hl
    refine lv_iconst (v := 0) hx hb dX12_sentNow_43 (by decide) ?_
    refine lv_istore_n (lv' := [(3, .int 0), (0, .ref (φ 12 i0)), (1, .int a1), (2, .int x27)]) hx hb dX12_sentNow_44 rfl hl (by decide) rfl (fun ls hl => ?_)
    refine lv_iconst (v := 1) hx hb dX12_sentNow_45 (by decide) ?_
    refine lv_istore (lv' := [(4, .int 1), (3, .int 0), (0, .ref (φ 12 i0)), (1, .int a1), (2, .int x27)]) hx hb dX12_sentNow_46 hl (by decide) rfl (fun ls hl => ?_)
    obtain ⟨q58, e59, hF⟩ := bn hF
    refine loop_w (f := B_X12_sentNow_48 i0 a1 x27 h29) (Z := fun q => ∀ (H : Heap) (locs : List Loc) (ls : Array Slot), HW D cA A φ h29 H → va_S A s.heap H locs → lv_has ls 6 [(0, .ref (φ 12 i0)), (1, .int a1), (2, .int x27), (3, .int (q.1)), (4, .int (q.2))] → W p l e (rmo 2 45 0 0) s m args below meth c H locs 0 0 Q (F0 m 48 ls [])) (K := fun q => ∀ (H : Heap) (locs : List Loc) (ls : Array Slot), HW D cA A φ h29 H → va_S A s.heap H locs → lv_has ls 6 [(0, .ref (φ 12 i0)), (1, .int a1), (2, .int x27), (3, .int q)] → W p l e (rmo 2 45 0 0) s m args below meth c H locs 0 0 Q (F0 m 113 ls [])) ?_ LF _ q58 e59 ?_ _ _ _ hW hS (lv_sub hl [2, 3, 4, 1, 0] rfl)
    · intro q v hF hK H locs ls hW hS hl
      obtain ⟨x31, x32⟩ := q
      unfold B_X12_sentNow_48 at hF
      have hF := u2d hF
      have hl : lv_has ls 6 [(0, .ref (φ 12 i0)), (1, .int a1), (2, .int x27), (3, .int x31), (4, .int x32)] := hl
      have j_94 : ∀ (v3_94 : Int32) (v4_94 : Int32) (H : Heap) (locs : List Loc) (ls : Array Slot), J_X12_sentNow_94 i0 a1 x27 v3_94 v4_94 h29 = some v → HW D cA A φ h29 H → va_S A s.heap H locs → lv_has ls 6 [(0, .ref (φ 12 i0)), (1, .int a1), (2, .int x27), (3, .int v3_94), (4, .int v4_94)] → W p l e (rmo 2 45 0 0) s m args below meth c H locs 0 0 Q (F0 m 94 ls []) := by
        intro v3_94 v4_94 H locs ls hF hW hS hl
        unfold J_X12_sentNow_94 at hF
        refine lv_aload_n hx hb dX12_sentNow_94 rfl (lv_at hl 0 rfl) ?_
        refine lv_iload hx hb dX12_sentNow_95 (lv_at hl 4 rfl) ?_
        refine lv_iload_n hx hb dX12_sentNow_97 rfl (lv_at hl 2 rfl) ?_
        obtain ⟨x34, e33, hF⟩ := bn hF
        refine rc_i (Af := fun φ => [.ref (φ 12 i0), .int v4_94, .int x27]) X hW hS ⟨Nat.zero_le _, Nat.zero_le _⟩ (rn_V (As := [.int v4_94, .int x27]) (rest := []) X hW hS cw_12_366 (gq g30 al_0) rfl rfl rfl ⟨Nat.le_of_ble_eq_true rfl, Nat.le_of_ble_eq_true rfl⟩ rfl hl.1 rfl (Nat.le_of_ble_eq_true rfl) dX12_sentNow_98) (ok_X12_inTime i0 v4_94 x27 (gq g30 al_0) e33) (fun H locs hW hS => ?_)
        refine lv_if_eq (tgt := 107) hx hb dX12_sentNow_101 (by decide) (fun c39 => ?_) (fun c39 => ?_)
        · have hF := it c39 hF
          obtain ⟨x35, e36, hF⟩ := nmx hF
          refine lv_iinc (v := x35) (lv' := [(4, .int x35), (0, .ref (φ 12 i0)), (1, .int a1), (2, .int x27), (3, .int v3_94)]) hx hb dX12_sentNow_107 hl (k := 4) rfl (by rw [e36]; rfl) (by decide) rfl (fun ls hl => ?_)
          refine lv_goto (tgt := 48) hx hb dX12_sentNow_110 (by decide) ?_
          obtain rfl := sj hF
          exact hK _ _ _ hW hS (lv_sub hl [1, 2, 3, 4, 0] rfl)
        · have hF := ie c39 hF
          refine lv_iload hx hb dX12_sentNow_104 (lv_at hl 4 rfl) ?_
          refine lv_istore_n (lv' := [(3, .int v4_94), (0, .ref (φ 12 i0)), (1, .int a1), (2, .int x27), (4, .int v4_94)]) hx hb dX12_sentNow_106 rfl hl (by decide) rfl (fun ls hl => ?_)
          obtain ⟨x37, e38, hF⟩ := nmx hF
          refine lv_iinc (v := x37) (lv' := [(4, .int x37), (3, .int v4_94), (0, .ref (φ 12 i0)), (1, .int a1), (2, .int x27)]) hx hb dX12_sentNow_107 hl (k := 4) rfl (by rw [e38]; rfl) (by decide) rfl (fun ls hl => ?_)
          refine lv_goto (tgt := 48) hx hb dX12_sentNow_110 (by decide) ?_
          obtain rfl := sj hF
          exact hK _ _ _ hW hS (lv_sub hl [2, 3, 4, 1, 0] rfl)
      refine lv_iload hx hb dX12_sentNow_48 (lv_at hl 4 rfl) ?_
      refine lv_iconst (v := 1) hx hb dX12_sentNow_50 (by decide) ?_
      refine lv_iload_n hx hb dX12_sentNow_51 rfl (lv_at hl 2 rfl) ?_
      refine lv_ishl hx hb dX12_sentNow_52 ?_
      refine lv_icmp_ge (tgt := 113) hx hb dX12_sentNow_53 (by decide) (fun c57 => ?_) (fun c57 => ?_)
      · have hF := it c57 hF
        obtain rfl := sj hF
        exact hK _ _ _ hW hS (lv_sub hl [0, 1, 2, 3] rfl)
      · have hF := ie c57 hF
        refine lv_iload hx hb dX12_sentNow_56 (lv_at hl 4 rfl) ?_
        obtain ⟨x41, e40, hF⟩ := bn hF
        refine rc_i (Af := fun φ => [.int x32]) X hW hS ⟨Nat.zero_le _, Nat.zero_le _⟩ (rn_S (As := [.int x32]) (rest := []) X hW hS cw_12_272 ⟨Nat.le_of_ble_eq_true rfl, Nat.le_of_ble_eq_true rfl⟩ rfl hl.1 rfl (Nat.le_of_ble_eq_true rfl) dX12_sentNow_58) (ok_X12_ones x32 e40) (fun H locs hW hS => ?_)
        refine lv_iload_n hx hb dX12_sentNow_61 rfl (lv_at hl 3 rfl) ?_
        obtain ⟨x43, e42, hF⟩ := bn hF
        refine rc_i (Af := fun φ => [.int x31]) X hW hS ⟨Nat.zero_le _, Nat.zero_le _⟩ (rn_S (As := [.int x31]) (rest := [.int x41]) X hW hS cw_12_272 ⟨Nat.le_of_ble_eq_true rfl, Nat.le_of_ble_eq_true rfl⟩ rfl hl.1 rfl (Nat.le_of_ble_eq_true rfl) dX12_sentNow_62) (ok_X12_ones x31 e42) (fun H locs hW hS => ?_)
        refine lv_isub hx hb dX12_sentNow_65 ?_
        obtain ⟨x44, e45, hF⟩ := nmx hF
        refine nmi e45 ?_
        refine lv_istore (lv' := [(5, .int x44), (0, .ref (φ 12 i0)), (1, .int a1), (2, .int x27), (3, .int x31), (4, .int x32)]) hx hb dX12_sentNow_66 hl (by decide) rfl (fun ls hl => ?_)
        refine lv_iload hx hb dX12_sentNow_68 (lv_at hl 0 rfl) ?_
        refine lv_if_gt (tgt := 94) hx hb dX12_sentNow_70 (by decide) (fun c56 => ?_) (fun c56 => ?_)
        · have hF := it c56 hF
          exact j_94 x31 x32 _ _ _ hF hW hS (lv_sub hl [1, 2, 3, 4, 5] rfl)
        · have hF := ie c56 hF
          refine lv_iload hx hb dX12_sentNow_73 (lv_at hl 0 rfl) ?_
          refine lv_if_ne (tgt := 107) hx hb dX12_sentNow_75 (by decide) (fun c55 => ?_) (fun c55 => ?_)
          · have hF := ie c55 hF
            obtain ⟨x46, e47, hF⟩ := nmx hF
            refine lv_iinc (v := x46) (lv' := [(4, .int x46), (5, .int x44), (0, .ref (φ 12 i0)), (1, .int a1), (2, .int x27), (3, .int x31)]) hx hb dX12_sentNow_107 hl (k := 5) rfl (by rw [e47]; rfl) (by decide) rfl (fun ls hl => ?_)
            refine lv_goto (tgt := 48) hx hb dX12_sentNow_110 (by decide) ?_
            obtain rfl := sj hF
            exact hK _ _ _ hW hS (lv_sub hl [2, 3, 4, 5, 0] rfl)
          · have hF := it c55 hF
            refine lv_aload_n hx hb dX12_sentNow_78 rfl (lv_at hl 1 rfl) ?_
            refine lv_iload hx hb dX12_sentNow_79 (lv_at hl 5 rfl) ?_
            refine lv_iload_n hx hb dX12_sentNow_81 rfl (lv_at hl 3 rfl) ?_
            obtain ⟨x49, e48, hF⟩ := bn hF
            refine rc_i (Af := fun φ => [.ref (φ 12 i0), .int x32, .int x27]) X hW hS ⟨Nat.zero_le _, Nat.zero_le _⟩ (rn_V (As := [.int x32, .int x27]) (rest := []) X hW hS cw_12_363 (gq g30 al_0) rfl rfl rfl ⟨Nat.le_of_ble_eq_true rfl, Nat.le_of_ble_eq_true rfl⟩ rfl hl.1 rfl (Nat.le_of_ble_eq_true rfl) dX12_sentNow_82) (ok_X12_weightOf i0 x32 x27 (gq g30 al_0) e48) (fun H locs hW hS => ?_)
            refine lv_aload_n hx hb dX12_sentNow_85 rfl (lv_at hl 1 rfl) ?_
            refine lv_iload_n hx hb dX12_sentNow_86 rfl (lv_at hl 4 rfl) ?_
            refine lv_iload_n hx hb dX12_sentNow_87 rfl (lv_at hl 3 rfl) ?_
            obtain ⟨x51, e50, hF⟩ := bn hF
            refine rc_i (Af := fun φ => [.ref (φ 12 i0), .int x31, .int x27]) X hW hS ⟨Nat.zero_le _, Nat.zero_le _⟩ (rn_V (As := [.int x31, .int x27]) (rest := [.int x49]) X hW hS cw_12_363 (gq g30 al_0) rfl rfl rfl ⟨Nat.le_of_ble_eq_true rfl, Nat.le_of_ble_eq_true rfl⟩ rfl hl.1 rfl (Nat.le_of_ble_eq_true rfl) dX12_sentNow_88) (ok_X12_weightOf i0 x31 x27 (gq g30 al_0) e50) (fun H locs hW hS => ?_)
            refine lv_icmp_le (tgt := 107) hx hb dX12_sentNow_91 (by decide) (fun c54 => ?_) (fun c54 => ?_)
            · have hF := it c54 hF
              obtain ⟨x52, e53, hF⟩ := nmx hF
              refine lv_iinc (v := x52) (lv' := [(4, .int x52), (5, .int x44), (0, .ref (φ 12 i0)), (1, .int a1), (2, .int x27), (3, .int x31)]) hx hb dX12_sentNow_107 hl (k := 5) rfl (by rw [e53]; rfl) (by decide) rfl (fun ls hl => ?_)
              refine lv_goto (tgt := 48) hx hb dX12_sentNow_110 (by decide) ?_
              obtain rfl := sj hF
              exact hK _ _ _ hW hS (lv_sub hl [2, 3, 4, 5, 0] rfl)
            · have hF := ie c54 hF
              exact j_94 x31 x32 _ _ _ hF hW hS (lv_sub hl [1, 2, 3, 4, 5] rfl)
    · intro H locs ls hW hS hl
      obtain ⟨x60, rfl⟩ : ∃ z, z = q58 := ⟨_, rfl⟩
      have hl : lv_has ls 6 [(0, .ref (φ 12 i0)), (1, .int a1), (2, .int x27), (3, .int x60)] := hl
      refine lv_iconst (v := 0) hx hb dX12_sentNow_113 (by decide) ?_
      refine lv_istore (lv' := [(4, .int 0), (0, .ref (φ 12 i0)), (1, .int a1), (2, .int x27), (3, .int x60)]) hx hb dX12_sentNow_114 hl (by decide) rfl (fun ls hl => ?_)
      refine lv_iconst (v := 0) hx hb dX12_sentNow_116 (by decide) ?_
      refine lv_istore (lv' := [(5, .int 0), (4, .int 0), (0, .ref (φ 12 i0)), (1, .int a1), (2, .int x27), (3, .int x60)]) hx hb dX12_sentNow_117 hl (by decide) rfl (fun ls hl => ?_)
      obtain ⟨q79, e80, hF⟩ := bn hF
      refine loop_w (f := B_X12_sentNow_119 i0 a1 x27 x60 h29) (Z := fun q => ∀ (H : Heap) (locs : List Loc) (ls : Array Slot), HW D cA A φ h29 H → va_S A s.heap H locs → lv_has ls 6 [(0, .ref (φ 12 i0)), (1, .int a1), (2, .int x27), (3, .int x60), (4, .int (q.1)), (5, .int (q.2))] → W p l e (rmo 2 45 0 0) s m args below meth c H locs 0 0 Q (F0 m 119 ls [])) (K := fun q => ∀ (H : Heap) (locs : List Loc) (ls : Array Slot), HW D cA A φ h29 H → va_S A s.heap H locs → lv_has ls 6 [(0, .ref (φ 12 i0)), (1, .int a1), (2, .int x27), (3, .int x60), (4, .int q)] → W p l e (rmo 2 45 0 0) s m args below meth c H locs 0 0 Q (F0 m 159 ls [])) ?_ LF _ q79 e80 ?_ _ _ _ hW hS (lv_sub hl [2, 3, 4, 5, 1, 0] rfl)
      · intro q v hF hK H locs ls hW hS hl
        obtain ⟨x61, x62⟩ := q
        unfold B_X12_sentNow_119 at hF
        have hF := u2d hF
        have hl : lv_has ls 6 [(0, .ref (φ 12 i0)), (1, .int a1), (2, .int x27), (3, .int x60), (4, .int x61), (5, .int x62)] := hl
        refine lv_iload hx hb dX12_sentNow_119 (lv_at hl 5 rfl) ?_
        refine lv_iload_n hx hb dX12_sentNow_121 rfl (lv_at hl 2 rfl) ?_
        refine lv_icmp_ge (tgt := 159) hx hb dX12_sentNow_122 (by decide) (fun c78 => ?_) (fun c78 => ?_)
        · have hF := it c78 hF
          obtain rfl := sj hF
          exact hK _ _ _ hW hS (lv_sub hl [0, 1, 2, 3, 4] rfl)
        · have hF := ie c78 hF
          refine lv_iload hx hb dX12_sentNow_125 (lv_at hl 4 rfl) ?_
          refine lv_iload_n hx hb dX12_sentNow_127 rfl (lv_at hl 3 rfl) ?_
          refine lv_iload hx hb dX12_sentNow_128 (lv_at hl 5 rfl) ?_
          refine lv_ishr hx hb dX12_sentNow_130 ?_
          refine lv_iconst (v := 1) hx hb dX12_sentNow_131 (by decide) ?_
          refine lv_iand hx hb dX12_sentNow_132 ?_
          refine lv_iconst (v := 1) hx hb dX12_sentNow_133 (by decide) ?_
          refine lv_icmp_ne (tgt := 149) hx hb dX12_sentNow_134 (by decide) (fun c77 => ?_) (fun c77 => ?_)
          · have hF := ie c77 hF
            refine lv_iconst (v := 0) hx hb dX12_sentNow_149 (by decide) ?_
            refine lv_ior hx hb dX12_sentNow_150 ?_
            obtain ⟨x63, e64, hF⟩ := nmx hF
            refine nmi e64 ?_
            refine lv_istore (lv' := [(4, .int x63), (0, .ref (φ 12 i0)), (1, .int a1), (2, .int x27), (3, .int x60), (5, .int x62)]) hx hb dX12_sentNow_151 hl (by decide) rfl (fun ls hl => ?_)
            obtain ⟨x65, e66, hF⟩ := nmx hF
            refine lv_iinc (v := x65) (lv' := [(5, .int x65), (4, .int x63), (0, .ref (φ 12 i0)), (1, .int a1), (2, .int x27), (3, .int x60)]) hx hb dX12_sentNow_153 hl (k := 5) rfl (by rw [e66]; rfl) (by decide) rfl (fun ls hl => ?_)
            refine lv_goto (tgt := 119) hx hb dX12_sentNow_156 (by decide) ?_
            obtain rfl := sj hF
            exact hK _ _ _ hW hS (lv_sub hl [2, 3, 4, 5, 1, 0] rfl)
          · have hF := it c77 hF
            refine lv_iconst (v := 1) hx hb dX12_sentNow_137 (by decide) ?_
            refine lv_aload_n hx hb dX12_sentNow_138 rfl (lv_at hl 0 rfl) ?_
            obtain ⟨o67, e68, hF⟩ := bn hF
            refine r_getr X hW (gq g30 al_0) fl_12_116 e68 dX12_sentNow_139 (fun al69 => ?_)
            have al69 := qg g30 al69
            refine lv_iload hx hb dX12_sentNow_142 (lv_at hl 5 rfl) ?_
            obtain ⟨x70, e71, hF⟩ := bn hF
            obtain ⟨b72, e71⟩ := ga_s e71
            refine r_iald X hW (gq g30 al69) rfl b72 dX12_sentNow_144 ?_
            refine nmi e71 ?_
            refine lv_ishl hx hb dX12_sentNow_145 ?_
            refine lv_goto (tgt := 150) hx hb dX12_sentNow_146 (by decide) ?_
            refine lv_ior hx hb dX12_sentNow_150 ?_
            obtain ⟨x73, e74, hF⟩ := nmx hF
            refine nmi e74 ?_
            refine lv_istore (lv' := [(4, .int x73), (0, .ref (φ 12 i0)), (1, .int a1), (2, .int x27), (3, .int x60), (5, .int x62)]) hx hb dX12_sentNow_151 hl (by decide) rfl (fun ls hl => ?_)
            obtain ⟨x75, e76, hF⟩ := nmx hF
            refine lv_iinc (v := x75) (lv' := [(5, .int x75), (4, .int x73), (0, .ref (φ 12 i0)), (1, .int a1), (2, .int x27), (3, .int x60)]) hx hb dX12_sentNow_153 hl (k := 5) rfl (by rw [e76]; rfl) (by decide) rfl (fun ls hl => ?_)
            refine lv_goto (tgt := 119) hx hb dX12_sentNow_156 (by decide) ?_
            obtain rfl := sj hF
            exact hK _ _ _ hW hS (lv_sub hl [2, 3, 4, 5, 1, 0] rfl)
      · intro H locs ls hW hS hl
        obtain ⟨x81, rfl⟩ : ∃ z, z = q79 := ⟨_, rfl⟩
        have hl : lv_has ls 6 [(0, .ref (φ 12 i0)), (1, .int a1), (2, .int x27), (3, .int x60), (4, .int x81)] := hl
        refine lv_iload_n hx hb dX12_sentNow_159 rfl (lv_at hl 1 rfl) ?_
        refine lv_if_ne (tgt := 168) hx hb dX12_sentNow_160 (by decide) (fun c87 => ?_) (fun c87 => ?_)
        · have hF := ie c87 hF
          refine lv_iload_n hx hb dX12_sentNow_168 rfl (lv_at hl 1 rfl) ?_
          refine lv_iconst (v := 1) hx hb dX12_sentNow_169 (by decide) ?_
          refine lv_icmp_ne (tgt := 180) hx hb dX12_sentNow_170 (by decide) (fun c86 => ?_) (fun c86 => ?_)
          · have hF := ie c86 hF
            refine lv_aload_n hx hb dX12_sentNow_180 rfl (lv_at hl 0 rfl) ?_
            refine lv_iload_n hx hb dX12_sentNow_181 rfl (lv_at hl 3 rfl) ?_
            refine lv_iload_n hx hb dX12_sentNow_182 rfl (lv_at hl 2 rfl) ?_
            obtain ⟨x83, e82, hF⟩ := bn hF
            refine rc_i (Af := fun φ => [.ref (φ 12 i0), .int x60, .int x27]) X hW hS ⟨Nat.zero_le _, Nat.zero_le _⟩ (rn_V (As := [.int x60, .int x27]) (rest := []) X hW hS cw_12_363 (gq g30 al_0) rfl rfl rfl ⟨Nat.le_of_ble_eq_true rfl, Nat.le_of_ble_eq_true rfl⟩ rfl hl.1 rfl (Nat.le_of_ble_eq_true rfl) dX12_sentNow_183) (ok_X12_weightOf i0 x60 x27 (gq g30 al_0) e82) (fun H locs hW hS => ?_)
            obtain ⟨rfl, rfl⟩ := sj2 hF
            exact hfin _ _ _ _ (wdW g30 hW) hS dX12_sentNow_186
          · have hF := it c86 hF
            refine lv_iload_n hx hb dX12_sentNow_173 rfl (lv_at hl 3 rfl) ?_
            obtain ⟨x85, e84, hF⟩ := bn hF
            refine rc_i (Af := fun φ => [.int x60]) X hW hS ⟨Nat.zero_le _, Nat.zero_le _⟩ (rn_S (As := [.int x60]) (rest := []) X hW hS cw_12_272 ⟨Nat.le_of_ble_eq_true rfl, Nat.le_of_ble_eq_true rfl⟩ rfl hl.1 rfl (Nat.le_of_ble_eq_true rfl) dX12_sentNow_174) (ok_X12_ones x60 e84) (fun H locs hW hS => ?_)
            refine lv_goto (tgt := 186) hx hb dX12_sentNow_177 (by decide) ?_
            obtain ⟨rfl, rfl⟩ := sj2 hF
            exact hfin _ _ _ _ (wdW g30 hW) hS dX12_sentNow_186
        · have hF := it c87 hF
          refine lv_iload hx hb dX12_sentNow_163 (lv_at hl 4 rfl) ?_
          refine lv_goto (tgt := 186) hx hb dX12_sentNow_165 (by decide) ?_
          obtain ⟨rfl, rfl⟩ := sj2 hF
          exact hfin _ _ _ _ (wdW g30 hW) hS dX12_sentNow_186
def F_X12_sent (i0 : Nat) (a1 : Int32) (h : HP) : Option (Int32 × DP) :=
  (F_X12_in ((a1).toInt64) 0 2).bind fun x2 =>
  (if x2 = 0 then
  some ((-2), dp h)
  else
  (F_X12_sentNow i0 a1 h).bind fun q8 => u2 q8 fun x9 d7 => nm (wd h d7) fun h4 =>
  some (x9, dp h4))
set_option maxHeartbeats 4000000 in
set_option maxRecDepth 100000 in
theorem ok_X12_sent {l : Launch} {D : va_G} {cA : Nat → ClassId} {h : HP} {r : Int32} {d : DP} (i0 : Nat) (a1 : Int32) (al_0 : i0 < gn h 12) (hF : F_X12_sent i0 a1 h = some (r, d)) : MI l D cA yX12_sent cX12_sent 2 (some .int) 3 70 (fun φ => [.ref (φ 12 i0), .int a1]) h r (wd h d) := by
  refine mk_I (plainFor_of_name (by decide)) (fun φ => Nat.le_of_ble_eq_true rfl) ?_
  intro p e s m args below meth c ls φ A Q X hW hS hl hfin
  have hx := X.1
  have hb := X.2.1
  have hl : lv_has ls 2 [(0, .ref (φ 12 i0)), (1, .int a1)] := hl
  unfold F_X12_sent at hF
  refine lv_iload_n hx hb dX12_sent_0 rfl (lv_at hl 1 rfl) ?_
  refine lv_i2l (v := (a1).toInt64) hx hb dX12_sent_1 rfl ?_
  refine lv_lconst (v := 0) hx hb dX12_sent_2 (by decide) ?_
  refine lv_ldc2 (v := 2) hx hb X.2.2.2.1 (X.2.2.2.2.1 _ (AL_of 1179 (by decide +kernel) rfl)) dX12_sent_3 ?_
  obtain ⟨x2, e1, hF⟩ := bn hF
  refine rc_i (Af := fun φ => [.long ((a1).toInt64), .long 0, .long 2]) X hW hS ⟨Nat.zero_le _, Nat.zero_le _⟩ (rn_S (As := [.long ((a1).toInt64), .long 0, .long 2]) (rest := []) X hW hS cw_12_139 ⟨Nat.le_of_ble_eq_true rfl, Nat.le_of_ble_eq_true rfl⟩ rfl hl.1 rfl (Nat.le_of_ble_eq_true rfl) dX12_sent_6) (ok_X12_in ((a1).toInt64) 0 2 e1) (fun H locs hW hS => ?_)
  refine lv_if_eq (tgt := 20) hx hb dX12_sent_9 (by decide) (fun c10 => ?_) (fun c10 => ?_)
  · have hF := it c10 hF
    refine lv_bipush (v := (-2)) hx hb dX12_sent_20 (by decide) ?_
    obtain ⟨rfl, rfl⟩ := sj2 hF
    exact hfin _ _ _ _ (wdW rfl hW) hS dX12_sent_22
  · have hF := ie c10 hF
    refine lv_aload_n hx hb dX12_sent_12 rfl (lv_at hl 0 rfl) ?_
    refine lv_iload_n hx hb dX12_sent_13 rfl (lv_at hl 1 rfl) ?_
    obtain ⟨q8, e3, hF⟩ := bn hF
    obtain ⟨x9, d7⟩ := q8
    have hF := u2d hF
    refine rc_i (Af := fun φ => [.ref (φ 12 i0), .int a1]) X hW hS ⟨Nat.zero_le _, Nat.zero_le _⟩ (rn_V (As := [.int a1]) (rest := []) X hW hS cw_12_369 al_0 rfl rfl rfl ⟨Nat.le_of_ble_eq_true rfl, Nat.le_of_ble_eq_true rfl⟩ rfl hl.1 rfl (Nat.le_of_ble_eq_true rfl) dX12_sent_14) (ok_X12_sentNow i0 a1 al_0 e3) (fun H locs hW hS => ?_)
    obtain ⟨h4, e6, hF⟩ := nmx hF
    have hW := nmW e6 hW
    have g5 : h4.2.2 = h.2.2 := by rw [e6]; exact rfl
    refine lv_goto (tgt := 22) hx hb dX12_sent_17 (by decide) ?_
    obtain ⟨rfl, rfl⟩ := sj2 hF
    exact hfin _ _ _ _ (wdW g5 hW) hS dX12_sent_22
def F_X12_claim (i0 : Nat) (a1 : Int32) (a2 : Int32) (a3 : Int32) (a4 : Int32) (h : HP) : Option (Int32 × DP) :=
  (F_X12_isParish i0 a1 h).bind fun x2 =>
  (if x2 = 0 then
  some ((-2), dp h)
  else
  (F_X12_isBell i0 a2 h).bind fun x4 =>
  (if x4 = 0 then
  some ((-2), dp h)
  else
  (F_X12_in ((a3).toInt64) 0 4).bind fun x6 =>
  (if x6 = 0 then
  some ((-2), dp h)
  else
  (F_X12_isWeek a4).bind fun x8 =>
  (if x8 = 0 then
  some ((-2), dp h)
  else
  (if (gi h 12 i0 54) = 30 then
  some ((-4), dp h)
  else
  (gr h 12 i0 55).bind fun o9 =>
  (sa h 79 o9 30 (gi h 12 i0 54) a1).bind fun h12 =>
  (gr h12 12 i0 56).bind fun o16 =>
  (sa h12 80 o16 30 (gi h12 12 i0 54) a2).bind fun h19 =>
  (gr h19 12 i0 57).bind fun o23 =>
  (sa h19 81 o23 30 (gi h19 12 i0 54) a3).bind fun h26 =>
  (gr h26 12 i0 58).bind fun o30 =>
  (sa h26 82 o30 30 (gi h26 12 i0 54) a4).bind fun h33 =>
  nm (si h33 12 i0 54 ((gi h33 12 i0 54) + 1)) fun h37 =>
  some ((gi h37 12 i0 54), dp h37))))))
set_option maxHeartbeats 4000000 in
set_option maxRecDepth 100000 in
theorem ok_X12_claim {l : Launch} {D : va_G} {cA : Nat → ClassId} {h : HP} {r : Int32} {d : DP} (i0 : Nat) (a1 : Int32) (a2 : Int32) (a3 : Int32) (a4 : Int32) (al_0 : i0 < gn h 12) (hF : F_X12_claim i0 a1 a2 a3 a4 h = some (r, d)) : MI l D cA yX12_claim cX12_claim 5 (some .int) 2 46 (fun φ => [.ref (φ 12 i0), .int a1, .int a2, .int a3, .int a4]) h r (wd h d) := by
  refine mk_I (plainFor_of_name (by decide)) (fun φ => Nat.le_of_ble_eq_true rfl) ?_
  intro p e s m args below meth c ls φ A Q X hW hS hl hfin
  have hx := X.1
  have hb := X.2.1
  have hl : lv_has ls 5 [(0, .ref (φ 12 i0)), (1, .int a1), (2, .int a2), (3, .int a3), (4, .int a4)] := hl
  unfold F_X12_claim at hF
  refine lv_aload_n hx hb dX12_claim_0 rfl (lv_at hl 0 rfl) ?_
  refine lv_iload_n hx hb dX12_claim_1 rfl (lv_at hl 1 rfl) ?_
  obtain ⟨x2, e1, hF⟩ := bn hF
  refine rc_i (Af := fun φ => [.ref (φ 12 i0), .int a1]) X hW hS ⟨Nat.zero_le _, Nat.zero_le _⟩ (rn_V (As := [.int a1]) (rest := []) X hW hS cw_12_175 al_0 rfl rfl rfl ⟨Nat.le_of_ble_eq_true rfl, Nat.le_of_ble_eq_true rfl⟩ rfl hl.1 rfl (Nat.le_of_ble_eq_true rfl) dX12_claim_2) (ok_X12_isParish i0 a1 al_0 e1) (fun H locs hW hS => ?_)
  refine lv_if_eq (tgt := 36) hx hb dX12_claim_5 (by decide) (fun c44 => ?_) (fun c44 => ?_)
  · have hF := it c44 hF
    refine lv_bipush (v := (-2)) hx hb dX12_claim_36 (by decide) ?_
    obtain ⟨rfl, rfl⟩ := sj2 hF
    exact hfin _ _ _ _ (wdW rfl hW) hS dX12_claim_38
  · have hF := ie c44 hF
    refine lv_aload_n hx hb dX12_claim_8 rfl (lv_at hl 0 rfl) ?_
    refine lv_iload_n hx hb dX12_claim_9 rfl (lv_at hl 2 rfl) ?_
    obtain ⟨x4, e3, hF⟩ := bn hF
    refine rc_i (Af := fun φ => [.ref (φ 12 i0), .int a2]) X hW hS ⟨Nat.zero_le _, Nat.zero_le _⟩ (rn_V (As := [.int a2]) (rest := []) X hW hS cw_12_190 al_0 rfl rfl rfl ⟨Nat.le_of_ble_eq_true rfl, Nat.le_of_ble_eq_true rfl⟩ rfl hl.1 rfl (Nat.le_of_ble_eq_true rfl) dX12_claim_10) (ok_X12_isBell i0 a2 al_0 e3) (fun H locs hW hS => ?_)
    refine lv_if_eq (tgt := 36) hx hb dX12_claim_13 (by decide) (fun c43 => ?_) (fun c43 => ?_)
    · have hF := it c43 hF
      refine lv_bipush (v := (-2)) hx hb dX12_claim_36 (by decide) ?_
      obtain ⟨rfl, rfl⟩ := sj2 hF
      exact hfin _ _ _ _ (wdW rfl hW) hS dX12_claim_38
    · have hF := ie c43 hF
      refine lv_iload_n hx hb dX12_claim_16 rfl (lv_at hl 3 rfl) ?_
      refine lv_i2l (v := (a3).toInt64) hx hb dX12_claim_17 rfl ?_
      refine lv_lconst (v := 0) hx hb dX12_claim_18 (by decide) ?_
      refine lv_ldc2 (v := 4) hx hb X.2.2.2.1 (X.2.2.2.2.1 _ (AL_of 1246 (by decide +kernel) rfl)) dX12_claim_19 ?_
      obtain ⟨x6, e5, hF⟩ := bn hF
      refine rc_i (Af := fun φ => [.long ((a3).toInt64), .long 0, .long 4]) X hW hS ⟨Nat.zero_le _, Nat.zero_le _⟩ (rn_S (As := [.long ((a3).toInt64), .long 0, .long 4]) (rest := []) X hW hS cw_12_139 ⟨Nat.le_of_ble_eq_true rfl, Nat.le_of_ble_eq_true rfl⟩ rfl hl.1 rfl (Nat.le_of_ble_eq_true rfl) dX12_claim_22) (ok_X12_in ((a3).toInt64) 0 4 e5) (fun H locs hW hS => ?_)
      refine lv_if_eq (tgt := 36) hx hb dX12_claim_25 (by decide) (fun c42 => ?_) (fun c42 => ?_)
      · have hF := it c42 hF
        refine lv_bipush (v := (-2)) hx hb dX12_claim_36 (by decide) ?_
        obtain ⟨rfl, rfl⟩ := sj2 hF
        exact hfin _ _ _ _ (wdW rfl hW) hS dX12_claim_38
      · have hF := ie c42 hF
        refine lv_iload hx hb dX12_claim_28 (lv_at hl 4 rfl) ?_
        obtain ⟨x8, e7, hF⟩ := bn hF
        refine rc_i (Af := fun φ => [.int a4]) X hW hS ⟨Nat.zero_le _, Nat.zero_le _⟩ (rn_S (As := [.int a4]) (rest := []) X hW hS cw_12_244 ⟨Nat.le_of_ble_eq_true rfl, Nat.le_of_ble_eq_true rfl⟩ rfl hl.1 rfl (Nat.le_of_ble_eq_true rfl) dX12_claim_30) (ok_X12_isWeek a4 e7) (fun H locs hW hS => ?_)
        refine lv_if_ne (tgt := 39) hx hb dX12_claim_33 (by decide) (fun c41 => ?_) (fun c41 => ?_)
        · have hF := ie c41 hF
          refine lv_aload_n hx hb dX12_claim_39 rfl (lv_at hl 0 rfl) ?_
          refine r_geti X hW al_0 fl_12_372 dX12_claim_40 ?_
          refine lv_bipush (v := 30) hx hb dX12_claim_43 (by decide) ?_
          refine lv_icmp_ne (tgt := 51) hx hb dX12_claim_45 (by decide) (fun c40 => ?_) (fun c40 => ?_)
          · have hF := ie c40 hF
            refine lv_aload_n hx hb dX12_claim_51 rfl (lv_at hl 0 rfl) ?_
            obtain ⟨o9, e10, hF⟩ := bn hF
            refine r_getr X hW al_0 fl_12_119 e10 dX12_claim_52 (fun al11 => ?_)
            refine lv_aload_n hx hb dX12_claim_55 rfl (lv_at hl 0 rfl) ?_
            refine r_geti X hW al_0 fl_12_372 dX12_claim_56 ?_
            refine lv_iload_n hx hb dX12_claim_59 rfl (lv_at hl 1 rfl) ?_
            obtain ⟨h12, e13, hF⟩ := bn hF
            obtain ⟨b14, e13⟩ := sa_s e13
            refine r_iast X hW hS al11 rfl b14 dX12_claim_60 (fun H locs hW hS => ?_)
            have hW := nmW e13 hW
            have g15 : h12.2.2 = h.2.2 := by rw [e13]; exact rfl
            refine lv_aload_n hx hb dX12_claim_61 rfl (lv_at hl 0 rfl) ?_
            obtain ⟨o16, e17, hF⟩ := bn hF
            refine r_getr X hW (gq g15 al_0) fl_12_122 e17 dX12_claim_62 (fun al18 => ?_)
            have al18 := qg g15 al18
            refine lv_aload_n hx hb dX12_claim_65 rfl (lv_at hl 0 rfl) ?_
            refine r_geti X hW (gq g15 al_0) fl_12_372 dX12_claim_66 ?_
            refine lv_iload_n hx hb dX12_claim_69 rfl (lv_at hl 2 rfl) ?_
            obtain ⟨h19, e20, hF⟩ := bn hF
            obtain ⟨b21, e20⟩ := sa_s e20
            refine r_iast X hW hS (gq g15 al18) rfl b21 dX12_claim_70 (fun H locs hW hS => ?_)
            have hW := nmW e20 hW
            have g22 : h19.2.2 = h.2.2 := by rw [e20]; exact g15
            refine lv_aload_n hx hb dX12_claim_71 rfl (lv_at hl 0 rfl) ?_
            obtain ⟨o23, e24, hF⟩ := bn hF
            refine r_getr X hW (gq g22 al_0) fl_12_125 e24 dX12_claim_72 (fun al25 => ?_)
            have al25 := qg g22 al25
            refine lv_aload_n hx hb dX12_claim_75 rfl (lv_at hl 0 rfl) ?_
            refine r_geti X hW (gq g22 al_0) fl_12_372 dX12_claim_76 ?_
            refine lv_iload_n hx hb dX12_claim_79 rfl (lv_at hl 3 rfl) ?_
            obtain ⟨h26, e27, hF⟩ := bn hF
            obtain ⟨b28, e27⟩ := sa_s e27
            refine r_iast X hW hS (gq g22 al25) rfl b28 dX12_claim_80 (fun H locs hW hS => ?_)
            have hW := nmW e27 hW
            have g29 : h26.2.2 = h.2.2 := by rw [e27]; exact g22
            refine lv_aload_n hx hb dX12_claim_81 rfl (lv_at hl 0 rfl) ?_
            obtain ⟨o30, e31, hF⟩ := bn hF
            refine r_getr X hW (gq g29 al_0) fl_12_128 e31 dX12_claim_82 (fun al32 => ?_)
            have al32 := qg g29 al32
            refine lv_aload_n hx hb dX12_claim_85 rfl (lv_at hl 0 rfl) ?_
            refine r_geti X hW (gq g29 al_0) fl_12_372 dX12_claim_86 ?_
            refine lv_iload hx hb dX12_claim_89 (lv_at hl 4 rfl) ?_
            obtain ⟨h33, e34, hF⟩ := bn hF
            obtain ⟨b35, e34⟩ := sa_s e34
            refine r_iast X hW hS (gq g29 al32) rfl b35 dX12_claim_91 (fun H locs hW hS => ?_)
            have hW := nmW e34 hW
            have g36 : h33.2.2 = h.2.2 := by rw [e34]; exact g29
            refine lv_aload_n hx hb dX12_claim_92 rfl (lv_at hl 0 rfl) ?_
            refine lv_dup hx hb dX12_claim_93 rfl ?_
            refine r_geti X hW (gq g36 al_0) fl_12_372 dX12_claim_94 ?_
            refine lv_iconst (v := 1) hx hb dX12_claim_97 (by decide) ?_
            refine lv_iadd hx hb dX12_claim_98 ?_
            refine r_puti X hW hS (gq g36 al_0) fp_12_372 rfl rfl dX12_claim_99 (fun H locs hW hS => ?_)
            obtain ⟨h37, e38, hF⟩ := nmx hF
            have hW := nmW e38 hW
            have g39 : h37.2.2 = h.2.2 := by rw [e38]; exact g36
            refine lv_aload_n hx hb dX12_claim_102 rfl (lv_at hl 0 rfl) ?_
            refine r_geti X hW (gq g39 al_0) fl_12_372 dX12_claim_103 ?_
            obtain ⟨rfl, rfl⟩ := sj2 hF
            exact hfin _ _ _ _ (wdW g39 hW) hS dX12_claim_106
          · have hF := it c40 hF
            refine lv_bipush (v := (-4)) hx hb dX12_claim_48 (by decide) ?_
            obtain ⟨rfl, rfl⟩ := sj2 hF
            exact hfin _ _ _ _ (wdW rfl hW) hS dX12_claim_50
        · have hF := it c41 hF
          refine lv_bipush (v := (-2)) hx hb dX12_claim_36 (by decide) ?_
          obtain ⟨rfl, rfl⟩ := sj2 hF
          exact hfin _ _ _ _ (wdW rfl hW) hS dX12_claim_38
def F_X12_rank (i0 : Nat) (a1 : Int32) (a2 : Int32) (h : HP) : Option (Int32 × DP) :=
  (F_X12_in ((a1).toInt64) 0 4).bind fun x2 =>
  (if x2 = 0 then
  some ((-2), dp h)
  else
  (F_X12_in ((a2).toInt64) 0 9).bind fun x4 =>
  (if x4 = 0 then
  some ((-2), dp h)
  else
  (gr h 12 i0 59).bind fun o5 =>
  (ga h 83 o5 5 a1).bind fun x8 =>
  (gr h 12 i0 59).bind fun o11 =>
  (sa h 83 o11 5 a1 a2).bind fun h14 =>
  some (x8, dp h14)))
set_option maxHeartbeats 4000000 in
set_option maxRecDepth 100000 in
theorem ok_X12_rank {l : Launch} {D : va_G} {cA : Nat → ClassId} {h : HP} {r : Int32} {d : DP} (i0 : Nat) (a1 : Int32) (a2 : Int32) (al_0 : i0 < gn h 12) (hF : F_X12_rank i0 a1 a2 h = some (r, d)) : MI l D cA yX12_rank cX12_rank 4 (some .int) 1 25 (fun φ => [.ref (φ 12 i0), .int a1, .int a2]) h r (wd h d) := by
  refine mk_I (plainFor_of_name (by decide)) (fun φ => Nat.le_of_ble_eq_true rfl) ?_
  intro p e s m args below meth c ls φ A Q X hW hS hl hfin
  have hx := X.1
  have hb := X.2.1
  have hl : lv_has ls 4 [(0, .ref (φ 12 i0)), (1, .int a1), (2, .int a2)] := hl
  unfold F_X12_rank at hF
  refine lv_iload_n hx hb dX12_rank_0 rfl (lv_at hl 1 rfl) ?_
  refine lv_i2l (v := (a1).toInt64) hx hb dX12_rank_1 rfl ?_
  refine lv_lconst (v := 0) hx hb dX12_rank_2 (by decide) ?_
  refine lv_ldc2 (v := 4) hx hb X.2.2.2.1 (X.2.2.2.2.1 _ (AL_of 1246 (by decide +kernel) rfl)) dX12_rank_3 ?_
  obtain ⟨x2, e1, hF⟩ := bn hF
  refine rc_i (Af := fun φ => [.long ((a1).toInt64), .long 0, .long 4]) X hW hS ⟨Nat.zero_le _, Nat.zero_le _⟩ (rn_S (As := [.long ((a1).toInt64), .long 0, .long 4]) (rest := []) X hW hS cw_12_139 ⟨Nat.le_of_ble_eq_true rfl, Nat.le_of_ble_eq_true rfl⟩ rfl hl.1 rfl (Nat.le_of_ble_eq_true rfl) dX12_rank_6) (ok_X12_in ((a1).toInt64) 0 4 e1) (fun H locs hW hS => ?_)
  refine lv_if_eq (tgt := 24) hx hb dX12_rank_9 (by decide) (fun c19 => ?_) (fun c19 => ?_)
  · have hF := it c19 hF
    refine lv_bipush (v := (-2)) hx hb dX12_rank_24 (by decide) ?_
    obtain ⟨rfl, rfl⟩ := sj2 hF
    exact hfin _ _ _ _ (wdW rfl hW) hS dX12_rank_26
  · have hF := ie c19 hF
    refine lv_iload_n hx hb dX12_rank_12 rfl (lv_at hl 2 rfl) ?_
    refine lv_i2l (v := (a2).toInt64) hx hb dX12_rank_13 rfl ?_
    refine lv_lconst (v := 0) hx hb dX12_rank_14 (by decide) ?_
    refine lv_ldc2 (v := 9) hx hb X.2.2.2.1 (X.2.2.2.2.1 _ (AL_of 1513 (by decide +kernel) rfl)) dX12_rank_15 ?_
    obtain ⟨x4, e3, hF⟩ := bn hF
    refine rc_i (Af := fun φ => [.long ((a2).toInt64), .long 0, .long 9]) X hW hS ⟨Nat.zero_le _, Nat.zero_le _⟩ (rn_S (As := [.long ((a2).toInt64), .long 0, .long 9]) (rest := []) X hW hS cw_12_139 ⟨Nat.le_of_ble_eq_true rfl, Nat.le_of_ble_eq_true rfl⟩ rfl hl.1 rfl (Nat.le_of_ble_eq_true rfl) dX12_rank_18) (ok_X12_in ((a2).toInt64) 0 9 e3) (fun H locs hW hS => ?_)
    refine lv_if_ne (tgt := 27) hx hb dX12_rank_21 (by decide) (fun c18 => ?_) (fun c18 => ?_)
    · have hF := ie c18 hF
      refine lv_aload_n hx hb dX12_rank_27 rfl (lv_at hl 0 rfl) ?_
      obtain ⟨o5, e6, hF⟩ := bn hF
      refine r_getr X hW al_0 fl_12_131 e6 dX12_rank_28 (fun al7 => ?_)
      refine lv_iload_n hx hb dX12_rank_31 rfl (lv_at hl 1 rfl) ?_
      obtain ⟨x8, e9, hF⟩ := bn hF
      obtain ⟨b10, e9⟩ := ga_s e9
      refine r_iald X hW al7 rfl b10 dX12_rank_32 ?_
      refine nmi e9 ?_
      refine lv_istore_n (lv' := [(3, .int x8), (0, .ref (φ 12 i0)), (1, .int a1), (2, .int a2)]) hx hb dX12_rank_33 rfl hl (by decide) rfl (fun ls hl => ?_)
      refine lv_aload_n hx hb dX12_rank_34 rfl (lv_at hl 1 rfl) ?_
      obtain ⟨o11, e12, hF⟩ := bn hF
      refine r_getr X hW al_0 fl_12_131 e12 dX12_rank_35 (fun al13 => ?_)
      refine lv_iload_n hx hb dX12_rank_38 rfl (lv_at hl 2 rfl) ?_
      refine lv_iload_n hx hb dX12_rank_39 rfl (lv_at hl 3 rfl) ?_
      obtain ⟨h14, e15, hF⟩ := bn hF
      obtain ⟨b16, e15⟩ := sa_s e15
      refine r_iast X hW hS al13 rfl b16 dX12_rank_40 (fun H locs hW hS => ?_)
      have hW := nmW e15 hW
      have g17 : h14.2.2 = h.2.2 := by rw [e15]; exact rfl
      refine lv_iload_n hx hb dX12_rank_41 rfl (lv_at hl 0 rfl) ?_
      obtain ⟨rfl, rfl⟩ := sj2 hF
      exact hfin _ _ _ _ (wdW g17 hW) hS dX12_rank_42
    · have hF := it c18 hF
      refine lv_bipush (v := (-2)) hx hb dX12_rank_24 (by decide) ?_
      obtain ⟨rfl, rfl⟩ := sj2 hF
      exact hfin _ _ _ _ (wdW rfl hW) hS dX12_rank_26
def F_X12_isTold (i0 : Nat) (a1 : Int32) (a2 : Int32) (a3 : Int32) (h : HP) : Option (Int32) :=
  (gr h 12 i0 56).bind fun o1 =>
  (ga h 80 o1 30 a1).bind fun x4 =>
  (if x4 = a2 then
  (gr h 12 i0 58).bind fun o7 =>
  (ga h 82 o7 30 a1).bind fun x10 =>
  (if a3 < x10 then
  some 0
  else
  some 1)
  else
  some 0)
set_option maxHeartbeats 4000000 in
set_option maxRecDepth 100000 in
theorem ok_X12_isTold {l : Launch} {D : va_G} {cA : Nat → ClassId} {h : HP} {r : Int32}  (i0 : Nat) (a1 : Int32) (a2 : Int32) (a3 : Int32) (al_0 : i0 < gn h 12) (hF : F_X12_isTold i0 a1 a2 a3 h = some r) : MI l D cA yX12_isTold cX12_isTold 4 (some .boolean) 0 0 (fun φ => [.ref (φ 12 i0), .int a1, .int a2, .int a3]) h r h := by
  refine mk_Z (plainFor_of_name (by decide)) (fun φ => Nat.le_of_ble_eq_true rfl) ?_
  intro p e s m args below meth c ls φ A Q X hW hS hl hfin
  have hx := X.1
  have hb := X.2.1
  have hl : lv_has ls 4 [(0, .ref (φ 12 i0)), (1, .int a1), (2, .int a2), (3, .int a3)] := hl
  unfold F_X12_isTold at hF
  refine lv_aload_n hx hb dX12_isTold_0 rfl (lv_at hl 0 rfl) ?_
  obtain ⟨o1, e2, hF⟩ := bn hF
  refine r_getr X hW al_0 fl_12_122 e2 dX12_isTold_1 (fun al3 => ?_)
  refine lv_iload_n hx hb dX12_isTold_4 rfl (lv_at hl 1 rfl) ?_
  obtain ⟨x4, e5, hF⟩ := bn hF
  obtain ⟨b6, e5⟩ := ga_s e5
  refine r_iald X hW al3 rfl b6 dX12_isTold_5 ?_
  refine nmi e5 ?_
  refine lv_iload_n hx hb dX12_isTold_6 rfl (lv_at hl 2 rfl) ?_
  refine lv_icmp_ne (tgt := 24) hx hb dX12_isTold_7 (by decide) (fun c14 => ?_) (fun c14 => ?_)
  · have hF := ie c14 hF
    refine lv_iconst (v := 0) hx hb dX12_isTold_24 (by decide) ?_
    obtain rfl := sj hF
    exact hfin _ _ _ _ hW hS (Or.inl rfl) dX12_isTold_25
  · have hF := it c14 hF
    refine lv_aload_n hx hb dX12_isTold_10 rfl (lv_at hl 0 rfl) ?_
    obtain ⟨o7, e8, hF⟩ := bn hF
    refine r_getr X hW al_0 fl_12_128 e8 dX12_isTold_11 (fun al9 => ?_)
    refine lv_iload_n hx hb dX12_isTold_14 rfl (lv_at hl 1 rfl) ?_
    obtain ⟨x10, e11, hF⟩ := bn hF
    obtain ⟨b12, e11⟩ := ga_s e11
    refine r_iald X hW al9 rfl b12 dX12_isTold_15 ?_
    refine nmi e11 ?_
    refine lv_iload_n hx hb dX12_isTold_16 rfl (lv_at hl 3 rfl) ?_
    refine lv_icmp_gt (tgt := 24) hx hb dX12_isTold_17 (by decide) (fun c13 => ?_) (fun c13 => ?_)
    · have hF := it c13 hF
      refine lv_iconst (v := 0) hx hb dX12_isTold_24 (by decide) ?_
      obtain rfl := sj hF
      exact hfin _ _ _ _ hW hS (Or.inl rfl) dX12_isTold_25
    · have hF := ie c13 hF
      refine lv_iconst (v := 1) hx hb dX12_isTold_20 (by decide) ?_
      refine lv_goto (tgt := 25) hx hb dX12_isTold_21 (by decide) ?_
      obtain rfl := sj hF
      exact hfin _ _ _ _ hW hS (Or.inr rfl) dX12_isTold_25
def J_X12_whose_87 (i0 : Nat) (a1 : Int32) (a2 : Int32) (v4_87 : Int32) (v5_87 : Int32) (v6_87 : Int32) (t0_87 : Int32) (h : HP) : Option ((Int32 × Int32 × Int32) ⊕ (Int32)) :=
  (if v6_87 = t0_87 then
  (gr h 12 i0 55).bind fun o12 =>
  (ga h 79 o12 30 v5_87).bind fun x15 =>
  nm ((v4_87 ||| (1 <<< (x15 &&& 31)))) fun x18 =>
  nm (v5_87 + 1) fun x20 =>
  some (.inl (t0_87, x18, x20))
  else
  nm ((v4_87 ||| 0)) fun x8 =>
  nm (v5_87 + 1) fun x10 =>
  some (.inl (t0_87, x8, x10)))
def J_X12_whose_73 (i0 : Nat) (a1 : Int32) (a2 : Int32) (v3_73 : Int32) (v5_73 : Int32) (v6_73 : Int32) (t0_73 : Int32) (h : HP) : Option ((Int32 × Int32 × Int32) ⊕ (Int32)) :=
  (if v3_73 ≤ v6_73 then
  J_X12_whose_87 i0 a1 a2 t0_73 v5_73 v6_73 v3_73 h
  else
  J_X12_whose_87 i0 a1 a2 t0_73 v5_73 v6_73 v6_73 h)
def B_X12_whose_27 (i0 : Nat) (a1 : Int32) (a2 : Int32) (h : HP) (q : Int32 × Int32 × Int32) : Option ((Int32 × Int32 × Int32) ⊕ (Int32)) :=
  u3 q fun x5 x6 x7 =>
  (if (gi h 12 i0 54) ≤ x7 then
  some (.inr x6)
  else
  (F_X12_isTold i0 x7 a1 a2 h).bind fun x25 =>
  (if x25 = 0 then
  nm (x7 + 1) fun x26 =>
  some (.inl (x5, x6, x26))
  else
  (gr h 12 i0 59).bind fun o28 =>
  (gr h 12 i0 57).bind fun o31 =>
  (ga h 81 o31 30 x7).bind fun x34 =>
  (ga h 83 o28 5 x34).bind fun x37 =>
  (if x5 ≤ x37 then
  J_X12_whose_73 i0 a1 a2 x5 x7 x37 x6 h
  else
  J_X12_whose_73 i0 a1 a2 x5 x7 x37 0 h)))
def B_X12_whose_129 (x45 : Int32) (h : HP) (x46 : Int32) : Option ((Int32) ⊕ (Int32)) :=
  (if ((x45 >>> (x46 &&& 31)) &&& 1) = 0 then
  nm (x46 + 1) fun x47 =>
  some (.inl x47)
  else
  some (.inr x46))
def F_X12_whose (i0 : Nat) (a1 : Int32) (a2 : Int32) (h : HP) : Option (Int32) :=
  (F_X12_isBell i0 a1 h).bind fun x2 =>
  (if x2 = 0 then
  some (-2)
  else
  (F_X12_isWeek a2).bind fun x4 =>
  (if x4 = 0 then
  some (-2)
  else
  (loopN LF (B_X12_whose_27 i0 a1 a2 h) (10, 0, 0)).bind fun x45 =>
  (if x45 = 0 then
  some (-3)
  else
  (loopN LF (B_X12_whose_129 x45 h) 0).bind fun x52 =>
  (F_X12_ones x45).bind fun x54 =>
  (if x54 ≤ 1 then
  some x52
  else
  some (-1)))))
set_option maxHeartbeats 4000000 in
set_option maxRecDepth 100000 in
theorem ok_X12_whose {l : Launch} {D : va_G} {cA : Nat → ClassId} {h : HP} {r : Int32}  (i0 : Nat) (a1 : Int32) (a2 : Int32) (al_0 : i0 < gn h 12) (hF : F_X12_whose i0 a1 a2 h = some r) : MI l D cA yX12_whose cX12_whose 7 (some .int) 2 46 (fun φ => [.ref (φ 12 i0), .int a1, .int a2]) h r h := by
  refine mk_I (plainFor_of_name (by decide)) (fun φ => Nat.le_of_ble_eq_true rfl) ?_
  intro p e s m args below meth c ls φ A Q X hW hS hl hfin
  have hx := X.1
  have hb := X.2.1
  have hl : lv_has ls 7 [(0, .ref (φ 12 i0)), (1, .int a1), (2, .int a2)] := hl
  unfold F_X12_whose at hF
  refine lv_aload_n hx hb dX12_whose_0 rfl (lv_at hl 0 rfl) ?_
  refine lv_iload_n hx hb dX12_whose_1 rfl (lv_at hl 1 rfl) ?_
  obtain ⟨x2, e1, hF⟩ := bn hF
  refine rc_i (Af := fun φ => [.ref (φ 12 i0), .int a1]) X hW hS ⟨Nat.zero_le _, Nat.zero_le _⟩ (rn_V (As := [.int a1]) (rest := []) X hW hS cw_12_190 al_0 rfl rfl rfl ⟨Nat.le_of_ble_eq_true rfl, Nat.le_of_ble_eq_true rfl⟩ rfl hl.1 rfl (Nat.le_of_ble_eq_true rfl) dX12_whose_2) (ok_X12_isBell i0 a1 al_0 e1) (fun H locs hW hS => ?_)
  refine lv_if_eq (tgt := 15) hx hb dX12_whose_5 (by decide) (fun c58 => ?_) (fun c58 => ?_)
  · have hF := it c58 hF
    refine lv_bipush (v := (-2)) hx hb dX12_whose_15 (by decide) ?_
    obtain rfl := sj hF
    exact hfin _ _ _ _ hW hS dX12_whose_17
  · have hF := ie c58 hF
    refine lv_iload_n hx hb dX12_whose_8 rfl (lv_at hl 2 rfl) ?_
    obtain ⟨x4, e3, hF⟩ := bn hF
    refine rc_i (Af := fun φ => [.int a2]) X hW hS ⟨Nat.zero_le _, Nat.zero_le _⟩ (rn_S (As := [.int a2]) (rest := []) X hW hS cw_12_244 ⟨Nat.le_of_ble_eq_true rfl, Nat.le_of_ble_eq_true rfl⟩ rfl hl.1 rfl (Nat.le_of_ble_eq_true rfl) dX12_whose_9) (ok_X12_isWeek a2 e3) (fun H locs hW hS => ?_)
    refine lv_if_ne (tgt := 18) hx hb dX12_whose_12 (by decide) (fun c57 => ?_) (fun c57 => ?_)
    · have hF := ie c57 hF
      refine lv_bipush (v := 10) hx hb dX12_whose_18 (by decide) ?_
      refine lv_istore_n (lv' := [(3, .int 10), (0, .ref (φ 12 i0)), (1, .int a1), (2, .int a2)]) hx hb dX12_whose_20 rfl hl (by decide) rfl (fun ls hl => ?_)
      refine lv_iconst (v := 0) hx hb dX12_whose_21 (by decide) ?_
      refine lv_istore (lv' := [(4, .int 0), (3, .int 10), (0, .ref (φ 12 i0)), (1, .int a1), (2, .int a2)]) hx hb dX12_whose_22 hl (by decide) rfl (fun ls hl => ?_)
      refine lv_iconst (v := 0) hx hb dX12_whose_24 (by decide) ?_
      refine lv_istore (lv' := [(5, .int 0), (4, .int 0), (3, .int 10), (0, .ref (φ 12 i0)), (1, .int a1), (2, .int a2)]) hx hb dX12_whose_25 hl (by decide) rfl (fun ls hl => ?_)
      obtain ⟨q43, e44, hF⟩ := bn hF
      refine loop_w (f := B_X12_whose_27 i0 a1 a2 h) (Z := fun q => ∀ (H : Heap) (locs : List Loc) (ls : Array Slot), HW D cA A φ h H → va_S A s.heap H locs → lv_has ls 7 [(0, .ref (φ 12 i0)), (1, .int a1), (2, .int a2), (3, .int (q.1)), (4, .int (q.2.1)), (5, .int (q.2.2))] → W p l e (rmo 2 46 0 0) s m args below meth c H locs 0 0 Q (F0 m 27 ls [])) (K := fun q => ∀ (H : Heap) (locs : List Loc) (ls : Array Slot), HW D cA A φ h H → va_S A s.heap H locs → lv_has ls 7 [(4, .int q)] → W p l e (rmo 2 46 0 0) s m args below meth c H locs 0 0 Q (F0 m 118 ls [])) ?_ LF _ q43 e44 ?_ _ _ _ hW hS (lv_sub hl [3, 4, 5, 2, 1, 0] rfl)
      · intro q v hF hK H locs ls hW hS hl
        obtain ⟨x5, x6, x7⟩ := q
        unfold B_X12_whose_27 at hF
        have hF := u3d hF
        have hl : lv_has ls 7 [(0, .ref (φ 12 i0)), (1, .int a1), (2, .int a2), (3, .int x5), (4, .int x6), (5, .int x7)] := hl
        have j_87 : ∀ (v4_87 : Int32) (v5_87 : Int32) (v6_87 : Int32) (t0_87 : Int32) (H : Heap) (locs : List Loc) (ls : Array Slot), J_X12_whose_87 i0 a1 a2 v4_87 v5_87 v6_87 t0_87 h = some v → HW D cA A φ h H → va_S A s.heap H locs → lv_has ls 7 [(0, .ref (φ 12 i0)), (1, .int a1), (2, .int a2), (4, .int v4_87), (5, .int v5_87), (6, .int v6_87)] → W p l e (rmo 2 46 0 0) s m args below meth c H locs 0 0 Q (F0 m 87 ls [.int t0_87]) := by
          intro v4_87 v5_87 v6_87 t0_87 H locs ls hF hW hS hl
          unfold J_X12_whose_87 at hF
          refine lv_istore_n (lv' := [(3, .int t0_87), (0, .ref (φ 12 i0)), (1, .int a1), (2, .int a2), (4, .int v4_87), (5, .int v5_87), (6, .int v6_87)]) hx hb dX12_whose_87 rfl hl (by decide) rfl (fun ls hl => ?_)
          refine lv_iload hx hb dX12_whose_88 (lv_at hl 4 rfl) ?_
          refine lv_iload hx hb dX12_whose_90 (lv_at hl 6 rfl) ?_
          refine lv_iload_n hx hb dX12_whose_92 rfl (lv_at hl 0 rfl) ?_
          refine lv_icmp_ne (tgt := 108) hx hb dX12_whose_93 (by decide) (fun c22 => ?_) (fun c22 => ?_)
          · have hF := ie c22 hF
            refine lv_iconst (v := 0) hx hb dX12_whose_108 (by decide) ?_
            refine lv_ior hx hb dX12_whose_109 ?_
            obtain ⟨x8, e9, hF⟩ := nmx hF
            refine nmi e9 ?_
            refine lv_istore (lv' := [(4, .int x8), (3, .int t0_87), (0, .ref (φ 12 i0)), (1, .int a1), (2, .int a2), (5, .int v5_87), (6, .int v6_87)]) hx hb dX12_whose_110 hl (by decide) rfl (fun ls hl => ?_)
            obtain ⟨x10, e11, hF⟩ := nmx hF
            refine lv_iinc (v := x10) (lv' := [(5, .int x10), (4, .int x8), (3, .int t0_87), (0, .ref (φ 12 i0)), (1, .int a1), (2, .int a2), (6, .int v6_87)]) hx hb dX12_whose_112 hl (k := 5) rfl (by rw [e11]; rfl) (by decide) rfl (fun ls hl => ?_)
            refine lv_goto (tgt := 27) hx hb dX12_whose_115 (by decide) ?_
            obtain rfl := sj hF
            exact hK _ _ _ hW hS (lv_sub hl [3, 4, 5, 2, 1, 0] rfl)
          · have hF := it c22 hF
            refine lv_iconst (v := 1) hx hb dX12_whose_96 (by decide) ?_
            refine lv_aload_n hx hb dX12_whose_97 rfl (lv_at hl 1 rfl) ?_
            obtain ⟨o12, e13, hF⟩ := bn hF
            refine r_getr X hW al_0 fl_12_119 e13 dX12_whose_98 (fun al14 => ?_)
            refine lv_iload hx hb dX12_whose_101 (lv_at hl 5 rfl) ?_
            obtain ⟨x15, e16, hF⟩ := bn hF
            obtain ⟨b17, e16⟩ := ga_s e16
            refine r_iald X hW al14 rfl b17 dX12_whose_103 ?_
            refine nmi e16 ?_
            refine lv_ishl hx hb dX12_whose_104 ?_
            refine lv_goto (tgt := 109) hx hb dX12_whose_105 (by decide) ?_
            refine lv_ior hx hb dX12_whose_109 ?_
            obtain ⟨x18, e19, hF⟩ := nmx hF
            refine nmi e19 ?_
            refine lv_istore (lv' := [(4, .int x18), (3, .int t0_87), (0, .ref (φ 12 i0)), (1, .int a1), (2, .int a2), (5, .int v5_87), (6, .int v6_87)]) hx hb dX12_whose_110 hl (by decide) rfl (fun ls hl => ?_)
            obtain ⟨x20, e21, hF⟩ := nmx hF
            refine lv_iinc (v := x20) (lv' := [(5, .int x20), (4, .int x18), (3, .int t0_87), (0, .ref (φ 12 i0)), (1, .int a1), (2, .int a2), (6, .int v6_87)]) hx hb dX12_whose_112 hl (k := 5) rfl (by rw [e21]; rfl) (by decide) rfl (fun ls hl => ?_)
            refine lv_goto (tgt := 27) hx hb dX12_whose_115 (by decide) ?_
            obtain rfl := sj hF
            exact hK _ _ _ hW hS (lv_sub hl [3, 4, 5, 2, 1, 0] rfl)
        have j_73 : ∀ (v3_73 : Int32) (v5_73 : Int32) (v6_73 : Int32) (t0_73 : Int32) (H : Heap) (locs : List Loc) (ls : Array Slot), J_X12_whose_73 i0 a1 a2 v3_73 v5_73 v6_73 t0_73 h = some v → HW D cA A φ h H → va_S A s.heap H locs → lv_has ls 7 [(0, .ref (φ 12 i0)), (1, .int a1), (2, .int a2), (3, .int v3_73), (5, .int v5_73), (6, .int v6_73)] → W p l e (rmo 2 46 0 0) s m args below meth c H locs 0 0 Q (F0 m 73 ls [.int t0_73]) := by
          intro v3_73 v5_73 v6_73 t0_73 H locs ls hF hW hS hl
          unfold J_X12_whose_73 at hF
          refine lv_istore (lv' := [(4, .int t0_73), (0, .ref (φ 12 i0)), (1, .int a1), (2, .int a2), (3, .int v3_73), (5, .int v5_73), (6, .int v6_73)]) hx hb dX12_whose_73 hl (by decide) rfl (fun ls hl => ?_)
          refine lv_iload hx hb dX12_whose_75 (lv_at hl 6 rfl) ?_
          refine lv_iload_n hx hb dX12_whose_77 rfl (lv_at hl 4 rfl) ?_
          refine lv_icmp_ge (tgt := 86) hx hb dX12_whose_78 (by decide) (fun c23 => ?_) (fun c23 => ?_)
          · have hF := it c23 hF
            refine lv_iload_n hx hb dX12_whose_86 rfl (lv_at hl 4 rfl) ?_
            exact j_87 t0_73 v5_73 v6_73 v3_73 _ _ _ hF hW hS (lv_sub hl [1, 2, 3, 0, 5, 6] rfl)
          · have hF := ie c23 hF
            refine lv_iload hx hb dX12_whose_81 (lv_at hl 6 rfl) ?_
            refine lv_goto (tgt := 87) hx hb dX12_whose_83 (by decide) ?_
            exact j_87 t0_73 v5_73 v6_73 v6_73 _ _ _ hF hW hS (lv_sub hl [1, 2, 3, 0, 5, 6] rfl)
        refine lv_iload hx hb dX12_whose_27 (lv_at hl 5 rfl) ?_
        refine lv_aload_n hx hb dX12_whose_29 rfl (lv_at hl 0 rfl) ?_
        refine r_geti X hW al_0 fl_12_372 dX12_whose_30 ?_
        refine lv_icmp_ge (tgt := 118) hx hb dX12_whose_33 (by decide) (fun c42 => ?_) (fun c42 => ?_)
        · have hF := it c42 hF
          obtain rfl := sj hF
          exact hK _ _ _ hW hS (lv_sub hl [4] rfl)
        · have hF := ie c42 hF
          refine lv_aload_n hx hb dX12_whose_36 rfl (lv_at hl 0 rfl) ?_
          refine lv_iload hx hb dX12_whose_37 (lv_at hl 5 rfl) ?_
          refine lv_iload_n hx hb dX12_whose_39 rfl (lv_at hl 1 rfl) ?_
          refine lv_iload_n hx hb dX12_whose_40 rfl (lv_at hl 2 rfl) ?_
          obtain ⟨x25, e24, hF⟩ := bn hF
          refine rc_i (Af := fun φ => [.ref (φ 12 i0), .int x7, .int a1, .int a2]) X hW hS ⟨Nat.zero_le _, Nat.zero_le _⟩ (rn_V (As := [.int x7, .int a1, .int a2]) (rest := []) X hW hS cw_12_377 al_0 rfl rfl rfl ⟨Nat.le_of_ble_eq_true rfl, Nat.le_of_ble_eq_true rfl⟩ rfl hl.1 rfl (Nat.le_of_ble_eq_true rfl) dX12_whose_41) (ok_X12_isTold i0 x7 a1 a2 al_0 e24) (fun H locs hW hS => ?_)
          refine lv_if_eq (tgt := 112) hx hb dX12_whose_44 (by decide) (fun c41 => ?_) (fun c41 => ?_)
          · have hF := it c41 hF
            obtain ⟨x26, e27, hF⟩ := nmx hF
            refine lv_iinc (v := x26) (lv' := [(5, .int x26), (0, .ref (φ 12 i0)), (1, .int a1), (2, .int a2), (3, .int x5), (4, .int x6)]) hx hb dX12_whose_112 hl (k := 5) rfl (by rw [e27]; rfl) (by decide) rfl (fun ls hl => ?_)
            refine lv_goto (tgt := 27) hx hb dX12_whose_115 (by decide) ?_
            obtain rfl := sj hF
            exact hK _ _ _ hW hS (lv_sub hl [1, 2, 3, 4, 5, 0] rfl)
          · have hF := ie c41 hF
            refine lv_aload_n hx hb dX12_whose_47 rfl (lv_at hl 0 rfl) ?_
            obtain ⟨o28, e29, hF⟩ := bn hF
            refine r_getr X hW al_0 fl_12_131 e29 dX12_whose_48 (fun al30 => ?_)
            refine lv_aload_n hx hb dX12_whose_51 rfl (lv_at hl 0 rfl) ?_
            obtain ⟨o31, e32, hF⟩ := bn hF
            refine r_getr X hW al_0 fl_12_125 e32 dX12_whose_52 (fun al33 => ?_)
            refine lv_iload hx hb dX12_whose_55 (lv_at hl 5 rfl) ?_
            obtain ⟨x34, e35, hF⟩ := bn hF
            obtain ⟨b36, e35⟩ := ga_s e35
            refine r_iald X hW al33 rfl b36 dX12_whose_57 ?_
            refine nmi e35 ?_
            obtain ⟨x37, e38, hF⟩ := bn hF
            obtain ⟨b39, e38⟩ := ga_s e38
            refine r_iald X hW al30 rfl b39 dX12_whose_58 ?_
            refine nmi e38 ?_
            refine lv_istore (lv' := [(6, .int x37), (0, .ref (φ 12 i0)), (1, .int a1), (2, .int a2), (3, .int x5), (4, .int x6), (5, .int x7)]) hx hb dX12_whose_59 hl (by decide) rfl (fun ls hl => ?_)
            refine lv_iload hx hb dX12_whose_61 (lv_at hl 0 rfl) ?_
            refine lv_iload_n hx hb dX12_whose_63 rfl (lv_at hl 4 rfl) ?_
            refine lv_icmp_ge (tgt := 71) hx hb dX12_whose_64 (by decide) (fun c40 => ?_) (fun c40 => ?_)
            · have hF := it c40 hF
              refine lv_iload hx hb dX12_whose_71 (lv_at hl 5 rfl) ?_
              exact j_73 x5 x7 x37 x6 _ _ _ hF hW hS (lv_sub hl [1, 2, 3, 4, 6, 0] rfl)
            · have hF := ie c40 hF
              refine lv_iconst (v := 0) hx hb dX12_whose_67 (by decide) ?_
              refine lv_goto (tgt := 73) hx hb dX12_whose_68 (by decide) ?_
              exact j_73 x5 x7 x37 0 _ _ _ hF hW hS (lv_sub hl [1, 2, 3, 4, 6, 0] rfl)
      · intro H locs ls hW hS hl
        obtain ⟨x45, rfl⟩ : ∃ z, z = q43 := ⟨_, rfl⟩
        have hl : lv_has ls 7 [(4, .int x45)] := hl
        refine lv_iload hx hb dX12_whose_118 (lv_at hl 0 rfl) ?_
        refine lv_if_ne (tgt := 126) hx hb dX12_whose_120 (by decide) (fun c56 => ?_) (fun c56 => ?_)
        · have hF := ie c56 hF
          refine lv_iconst (v := 0) hx hb dX12_whose_126 (by decide) ?_
          refine lv_istore (lv' := [(5, .int 0), (4, .int x45)]) hx hb dX12_whose_127 hl (by decide) rfl (fun ls hl => ?_)
          obtain ⟨q50, e51, hF⟩ := bn hF
          refine loop_w (f := B_X12_whose_129 x45 h) (Z := fun q => ∀ (H : Heap) (locs : List Loc) (ls : Array Slot), HW D cA A φ h H → va_S A s.heap H locs → lv_has ls 7 [(4, .int x45), (5, .int q)] → W p l e (rmo 2 46 0 0) s m args below meth c H locs 0 0 Q (F0 m 129 ls [])) (K := fun q => ∀ (H : Heap) (locs : List Loc) (ls : Array Slot), HW D cA A φ h H → va_S A s.heap H locs → lv_has ls 7 [(4, .int x45), (5, .int q)] → W p l e (rmo 2 46 0 0) s m args below meth c H locs 0 0 Q (F0 m 145 ls [])) ?_ LF _ q50 e51 ?_ _ _ _ hW hS (lv_sub hl [1, 0] rfl)
          · intro x46 v hF hK H locs ls hW hS hl
            unfold B_X12_whose_129 at hF
            have hl : lv_has ls 7 [(4, .int x45), (5, .int x46)] := hl
            refine lv_iload hx hb dX12_whose_129 (lv_at hl 0 rfl) ?_
            refine lv_iload hx hb dX12_whose_131 (lv_at hl 1 rfl) ?_
            refine lv_ishr hx hb dX12_whose_133 ?_
            refine lv_iconst (v := 1) hx hb dX12_whose_134 (by decide) ?_
            refine lv_iand hx hb dX12_whose_135 ?_
            refine lv_if_ne (tgt := 145) hx hb dX12_whose_136 (by decide) (fun c49 => ?_) (fun c49 => ?_)
            · have hF := ie c49 hF
              obtain rfl := sj hF
              exact hK _ _ _ hW hS (lv_sub hl [0, 1] rfl)
            · have hF := it c49 hF
              obtain ⟨x47, e48, hF⟩ := nmx hF
              refine lv_iinc (v := x47) (lv' := [(5, .int x47), (4, .int x45)]) hx hb dX12_whose_139 hl (k := 1) rfl (by rw [e48]; rfl) (by decide) rfl (fun ls hl => ?_)
              refine lv_goto (tgt := 129) hx hb dX12_whose_142 (by decide) ?_
              obtain rfl := sj hF
              exact hK _ _ _ hW hS (lv_sub hl [1, 0] rfl)
          · intro H locs ls hW hS hl
            obtain ⟨x52, rfl⟩ : ∃ z, z = q50 := ⟨_, rfl⟩
            have hl : lv_has ls 7 [(4, .int x45), (5, .int x52)] := hl
            refine lv_iload hx hb dX12_whose_145 (lv_at hl 0 rfl) ?_
            obtain ⟨x54, e53, hF⟩ := bn hF
            refine rc_i (Af := fun φ => [.int x45]) X hW hS ⟨Nat.zero_le _, Nat.zero_le _⟩ (rn_S (As := [.int x45]) (rest := []) X hW hS cw_12_272 ⟨Nat.le_of_ble_eq_true rfl, Nat.le_of_ble_eq_true rfl⟩ rfl hl.1 rfl (Nat.le_of_ble_eq_true rfl) dX12_whose_147) (ok_X12_ones x45 e53) (fun H locs hW hS => ?_)
            refine lv_iconst (v := 1) hx hb dX12_whose_150 (by decide) ?_
            refine lv_icmp_le (tgt := 158) hx hb dX12_whose_151 (by decide) (fun c55 => ?_) (fun c55 => ?_)
            · have hF := it c55 hF
              refine lv_iload hx hb dX12_whose_158 (lv_at hl 1 rfl) ?_
              obtain rfl := sj hF
              exact hfin _ _ _ _ hW hS dX12_whose_160
            · have hF := ie c55 hF
              refine lv_iconst (v := (-1)) hx hb dX12_whose_154 (by decide) ?_
              refine lv_goto (tgt := 160) hx hb dX12_whose_155 (by decide) ?_
              obtain rfl := sj hF
              exact hfin _ _ _ _ hW hS dX12_whose_160
        · have hF := it c56 hF
          refine lv_bipush (v := (-3)) hx hb dX12_whose_123 (by decide) ?_
          obtain rfl := sj hF
          exact hfin _ _ _ _ hW hS dX12_whose_125
    · have hF := it c57 hF
      refine lv_bipush (v := (-2)) hx hb dX12_whose_15 (by decide) ?_
      obtain rfl := sj hF
      exact hfin _ _ _ _ hW hS dX12_whose_17
def B_X12_lands_23 (i0 : Nat) (a1 : Int32) (a2 : Int32) (h : HP) (q : Int32 × Int32) : Option ((Int32 × Int32) ⊕ (Int32)) :=
  u2 q fun x5 x6 =>
  (if (gi h 12 i0 54) ≤ x6 then
  some (.inr x5)
  else
  (F_X12_isTold i0 x6 a1 a2 h).bind fun x8 =>
  (if x8 = 0 then
  nm ((x5 ||| 0)) fun x9 =>
  nm (x6 + 1) fun x11 =>
  some (.inl (x9, x11))
  else
  (gr h 12 i0 7).bind fun o13 =>
  (gr h 12 i0 55).bind fun o16 =>
  (ga h 79 o16 30 x6).bind fun x19 =>
  (ga h 49 o13 8 x19).bind fun x22 =>
  nm ((x5 ||| (1 <<< (x22 &&& 31)))) fun x25 =>
  nm (x6 + 1) fun x27 =>
  some (.inl (x25, x27))))
def F_X12_lands (i0 : Nat) (a1 : Int32) (a2 : Int32) (h : HP) : Option (Int32) :=
  (F_X12_isBell i0 a1 h).bind fun x2 =>
  (if x2 = 0 then
  some (-2)
  else
  (F_X12_isWeek a2).bind fun x4 =>
  (if x4 = 0 then
  some (-2)
  else
  (loopN LF (B_X12_lands_23 i0 a1 a2 h) (0, 0)).bind fun x33 =>
  (F_X12_ones x33).bind fun x35 =>
  some x35))
set_option maxHeartbeats 4000000 in
set_option maxRecDepth 100000 in
theorem ok_X12_lands {l : Launch} {D : va_G} {cA : Nat → ClassId} {h : HP} {r : Int32}  (i0 : Nat) (a1 : Int32) (a2 : Int32) (al_0 : i0 < gn h 12) (hF : F_X12_lands i0 a1 a2 h = some r) : MI l D cA yX12_lands cX12_lands 5 (some .int) 2 46 (fun φ => [.ref (φ 12 i0), .int a1, .int a2]) h r h := by
  refine mk_I (plainFor_of_name (by decide)) (fun φ => Nat.le_of_ble_eq_true rfl) ?_
  intro p e s m args below meth c ls φ A Q X hW hS hl hfin
  have hx := X.1
  have hb := X.2.1
  have hl : lv_has ls 5 [(0, .ref (φ 12 i0)), (1, .int a1), (2, .int a2)] := hl
  unfold F_X12_lands at hF
  refine lv_aload_n hx hb dX12_lands_0 rfl (lv_at hl 0 rfl) ?_
  refine lv_iload_n hx hb dX12_lands_1 rfl (lv_at hl 1 rfl) ?_
  obtain ⟨x2, e1, hF⟩ := bn hF
  refine rc_i (Af := fun φ => [.ref (φ 12 i0), .int a1]) X hW hS ⟨Nat.zero_le _, Nat.zero_le _⟩ (rn_V (As := [.int a1]) (rest := []) X hW hS cw_12_190 al_0 rfl rfl rfl ⟨Nat.le_of_ble_eq_true rfl, Nat.le_of_ble_eq_true rfl⟩ rfl hl.1 rfl (Nat.le_of_ble_eq_true rfl) dX12_lands_2) (ok_X12_isBell i0 a1 al_0 e1) (fun H locs hW hS => ?_)
  refine lv_if_eq (tgt := 15) hx hb dX12_lands_5 (by decide) (fun c37 => ?_) (fun c37 => ?_)
  · have hF := it c37 hF
    refine lv_bipush (v := (-2)) hx hb dX12_lands_15 (by decide) ?_
    obtain rfl := sj hF
    exact hfin _ _ _ _ hW hS dX12_lands_17
  · have hF := ie c37 hF
    refine lv_iload_n hx hb dX12_lands_8 rfl (lv_at hl 2 rfl) ?_
    obtain ⟨x4, e3, hF⟩ := bn hF
    refine rc_i (Af := fun φ => [.int a2]) X hW hS ⟨Nat.zero_le _, Nat.zero_le _⟩ (rn_S (As := [.int a2]) (rest := []) X hW hS cw_12_244 ⟨Nat.le_of_ble_eq_true rfl, Nat.le_of_ble_eq_true rfl⟩ rfl hl.1 rfl (Nat.le_of_ble_eq_true rfl) dX12_lands_9) (ok_X12_isWeek a2 e3) (fun H locs hW hS => ?_)
    refine lv_if_ne (tgt := 18) hx hb dX12_lands_12 (by decide) (fun c36 => ?_) (fun c36 => ?_)
    · have hF := ie c36 hF
      refine lv_iconst (v := 0) hx hb dX12_lands_18 (by decide) ?_
      refine lv_istore_n (lv' := [(3, .int 0), (0, .ref (φ 12 i0)), (1, .int a1), (2, .int a2)]) hx hb dX12_lands_19 rfl hl (by decide) rfl (fun ls hl => ?_)
      refine lv_iconst (v := 0) hx hb dX12_lands_20 (by decide) ?_
      refine lv_istore (lv' := [(4, .int 0), (3, .int 0), (0, .ref (φ 12 i0)), (1, .int a1), (2, .int a2)]) hx hb dX12_lands_21 hl (by decide) rfl (fun ls hl => ?_)
      obtain ⟨q31, e32, hF⟩ := bn hF
      refine loop_w (f := B_X12_lands_23 i0 a1 a2 h) (Z := fun q => ∀ (H : Heap) (locs : List Loc) (ls : Array Slot), HW D cA A φ h H → va_S A s.heap H locs → lv_has ls 5 [(0, .ref (φ 12 i0)), (1, .int a1), (2, .int a2), (3, .int (q.1)), (4, .int (q.2))] → W p l e (rmo 2 46 0 0) s m args below meth c H locs 0 0 Q (F0 m 23 ls [])) (K := fun q => ∀ (H : Heap) (locs : List Loc) (ls : Array Slot), HW D cA A φ h H → va_S A s.heap H locs → lv_has ls 5 [(3, .int q)] → W p l e (rmo 2 46 0 0) s m args below meth c H locs 0 0 Q (F0 m 70 ls [])) ?_ LF _ q31 e32 ?_ _ _ _ hW hS (lv_sub hl [2, 3, 4, 1, 0] rfl)
      · intro q v hF hK H locs ls hW hS hl
        obtain ⟨x5, x6⟩ := q
        unfold B_X12_lands_23 at hF
        have hF := u2d hF
        have hl : lv_has ls 5 [(0, .ref (φ 12 i0)), (1, .int a1), (2, .int a2), (3, .int x5), (4, .int x6)] := hl
        refine lv_iload hx hb dX12_lands_23 (lv_at hl 4 rfl) ?_
        refine lv_aload_n hx hb dX12_lands_25 rfl (lv_at hl 0 rfl) ?_
        refine r_geti X hW al_0 fl_12_372 dX12_lands_26 ?_
        refine lv_icmp_ge (tgt := 70) hx hb dX12_lands_29 (by decide) (fun c30 => ?_) (fun c30 => ?_)
        · have hF := it c30 hF
          obtain rfl := sj hF
          exact hK _ _ _ hW hS (lv_sub hl [3] rfl)
        · have hF := ie c30 hF
          refine lv_iload_n hx hb dX12_lands_32 rfl (lv_at hl 3 rfl) ?_
          refine lv_aload_n hx hb dX12_lands_33 rfl (lv_at hl 0 rfl) ?_
          refine lv_iload hx hb dX12_lands_34 (lv_at hl 4 rfl) ?_
          refine lv_iload_n hx hb dX12_lands_36 rfl (lv_at hl 1 rfl) ?_
          refine lv_iload_n hx hb dX12_lands_37 rfl (lv_at hl 2 rfl) ?_
          obtain ⟨x8, e7, hF⟩ := bn hF
          refine rc_i (Af := fun φ => [.ref (φ 12 i0), .int x6, .int a1, .int a2]) X hW hS ⟨Nat.zero_le _, Nat.zero_le _⟩ (rn_V (As := [.int x6, .int a1, .int a2]) (rest := [.int x5]) X hW hS cw_12_377 al_0 rfl rfl rfl ⟨Nat.le_of_ble_eq_true rfl, Nat.le_of_ble_eq_true rfl⟩ rfl hl.1 rfl (Nat.le_of_ble_eq_true rfl) dX12_lands_38) (ok_X12_isTold i0 x6 a1 a2 al_0 e7) (fun H locs hW hS => ?_)
          refine lv_if_eq (tgt := 61) hx hb dX12_lands_41 (by decide) (fun c29 => ?_) (fun c29 => ?_)
          · have hF := it c29 hF
            refine lv_iconst (v := 0) hx hb dX12_lands_61 (by decide) ?_
            refine lv_ior hx hb dX12_lands_62 ?_
            obtain ⟨x9, e10, hF⟩ := nmx hF
            refine nmi e10 ?_
            refine lv_istore_n (lv' := [(3, .int x9), (0, .ref (φ 12 i0)), (1, .int a1), (2, .int a2), (4, .int x6)]) hx hb dX12_lands_63 rfl hl (by decide) rfl (fun ls hl => ?_)
            obtain ⟨x11, e12, hF⟩ := nmx hF
            refine lv_iinc (v := x11) (lv' := [(4, .int x11), (3, .int x9), (0, .ref (φ 12 i0)), (1, .int a1), (2, .int a2)]) hx hb dX12_lands_64 hl (k := 4) rfl (by rw [e12]; rfl) (by decide) rfl (fun ls hl => ?_)
            refine lv_goto (tgt := 23) hx hb dX12_lands_67 (by decide) ?_
            obtain rfl := sj hF
            exact hK _ _ _ hW hS (lv_sub hl [2, 3, 4, 1, 0] rfl)
          · have hF := ie c29 hF
            refine lv_iconst (v := 1) hx hb dX12_lands_44 (by decide) ?_
            refine lv_aload_n hx hb dX12_lands_45 rfl (lv_at hl 0 rfl) ?_
            obtain ⟨o13, e14, hF⟩ := bn hF
            refine r_getr X hW al_0 fl_12_22 e14 dX12_lands_46 (fun al15 => ?_)
            refine lv_aload_n hx hb dX12_lands_49 rfl (lv_at hl 0 rfl) ?_
            obtain ⟨o16, e17, hF⟩ := bn hF
            refine r_getr X hW al_0 fl_12_119 e17 dX12_lands_50 (fun al18 => ?_)
            refine lv_iload hx hb dX12_lands_53 (lv_at hl 4 rfl) ?_
            obtain ⟨x19, e20, hF⟩ := bn hF
            obtain ⟨b21, e20⟩ := ga_s e20
            refine r_iald X hW al18 rfl b21 dX12_lands_55 ?_
            refine nmi e20 ?_
            obtain ⟨x22, e23, hF⟩ := bn hF
            obtain ⟨b24, e23⟩ := ga_s e23
            refine r_iald X hW al15 rfl b24 dX12_lands_56 ?_
            refine nmi e23 ?_
            refine lv_ishl hx hb dX12_lands_57 ?_
            refine lv_goto (tgt := 62) hx hb dX12_lands_58 (by decide) ?_
            refine lv_ior hx hb dX12_lands_62 ?_
            obtain ⟨x25, e26, hF⟩ := nmx hF
            refine nmi e26 ?_
            refine lv_istore_n (lv' := [(3, .int x25), (0, .ref (φ 12 i0)), (1, .int a1), (2, .int a2), (4, .int x6)]) hx hb dX12_lands_63 rfl hl (by decide) rfl (fun ls hl => ?_)
            obtain ⟨x27, e28, hF⟩ := nmx hF
            refine lv_iinc (v := x27) (lv' := [(4, .int x27), (3, .int x25), (0, .ref (φ 12 i0)), (1, .int a1), (2, .int a2)]) hx hb dX12_lands_64 hl (k := 4) rfl (by rw [e28]; rfl) (by decide) rfl (fun ls hl => ?_)
            refine lv_goto (tgt := 23) hx hb dX12_lands_67 (by decide) ?_
            obtain rfl := sj hF
            exact hK _ _ _ hW hS (lv_sub hl [2, 3, 4, 1, 0] rfl)
      · intro H locs ls hW hS hl
        obtain ⟨x33, rfl⟩ : ∃ z, z = q31 := ⟨_, rfl⟩
        have hl : lv_has ls 5 [(3, .int x33)] := hl
        refine lv_iload_n hx hb dX12_lands_70 rfl (lv_at hl 0 rfl) ?_
        obtain ⟨x35, e34, hF⟩ := bn hF
        refine rc_i (Af := fun φ => [.int x33]) X hW hS ⟨Nat.zero_le _, Nat.zero_le _⟩ (rn_S (As := [.int x33]) (rest := []) X hW hS cw_12_272 ⟨Nat.le_of_ble_eq_true rfl, Nat.le_of_ble_eq_true rfl⟩ rfl hl.1 rfl (Nat.le_of_ble_eq_true rfl) dX12_lands_71) (ok_X12_ones x33 e34) (fun H locs hW hS => ?_)
        obtain rfl := sj hF
        exact hfin _ _ _ _ hW hS dX12_lands_74
    · have hF := it c36 hF
      refine lv_bipush (v := (-2)) hx hb dX12_lands_15 (by decide) ?_
      obtain rfl := sj hF
      exact hfin _ _ _ _ hW hS dX12_lands_17
