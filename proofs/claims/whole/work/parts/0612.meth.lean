def J_X12_readsPart_200 (i0 : Nat) (v2_200 : Int32) (v3_200 : Int32) (v4_200 : Int32) (v5_200 : Int32) (hj200 : HP) : Option (Int32 × DP) :=
  (gr hj200 12 i0 24).bind fun o1 =>
  (sa hj200 62 o1 40 (gi hj200 12 i0 23) v2_200).bind fun h4 =>
  (gr h4 12 i0 25).bind fun o8 =>
  (sa h4 63 o8 40 (gi h4 12 i0 23) v3_200).bind fun h11 =>
  (gr h11 12 i0 26).bind fun o15 =>
  (sa h11 64 o15 40 (gi h11 12 i0 23) v4_200).bind fun h18 =>
  (gr h18 12 i0 27).bind fun o22 =>
  (sa h18 65 o22 40 (gi h18 12 i0 23) v5_200).bind fun h25 =>
  nm (si h25 12 i0 23 ((gi h25 12 i0 23) + 1)) fun h29 =>
  some (1, dp h29)
def J_X12_readsPart_169 (i0 : Nat) (v2_169 : Int32) (v3_169 : Int32) (v4_169 : Int32) (hj169 : HP) : Option (Int32 × DP) :=
  (F_X12_must i0 64 hj169).bind fun q37 => u2 q37 fun x38 d36 => nm (wd hj169 d36) fun h33 =>
  (if x38 = 0 then
  J_X12_readsPart_200 i0 v2_169 v3_169 v4_169 0 h33
  else
  (F_X12_number i0 1 3 0 199 h33).bind fun q44 => u2 q44 fun x45 d43 => nm (wd h33 d43) fun h40 =>
  (if 0 ≤ x45 then
  J_X12_readsPart_200 i0 v2_169 v3_169 v4_169 x45 h40
  else
  some (0, dp h40)))
def J_X12_readsPart_124 (i0 : Nat) (v2_124 : Int32) (t0_124 : Int32) (hj124 : HP) : Option (Int32 × DP) :=
  (if 0 ≤ t0_124 then
  (if 3 ≤ v2_124 then
  J_X12_readsPart_169 i0 v2_124 t0_124 0 hj124
  else
  (F_X12_must i0 44 hj124).bind fun q53 => u2 q53 fun x54 d52 => nm (wd hj124 d52) fun h49 =>
  (if x54 = 0 then
  some (0, dp h49)
  else
  (F_X12_number i0 1 4 1 9999 h49).bind fun q60 => u2 q60 fun x61 d59 => nm (wd h49 d59) fun h56 =>
  (if 0 ≤ x61 then
  J_X12_readsPart_169 i0 v2_124 t0_124 x61 h56
  else
  some (0, dp h56))))
  else
  some (0, dp hj124))
def J_X12_readsPart_66 (i0 : Nat) (t0_66 : Int32) (hj66 : HP) : Option (Int32 × DP) :=
  (if t0_66 = (-1) then
  some (0, dp hj66)
  else
  nm (si hj66 12 i0 22 ((gi hj66 12 i0 22) + 1)) fun h66 =>
  (F_X12_must i0 61 h66).bind fun q74 => u2 q74 fun x75 d73 => nm (wd h66 d73) fun h70 =>
  (if x75 = 0 then
  some (0, dp h70)
  else
  (if t0_66 = 3 then
  (F_X12_number i0 1 1 0 9 h70).bind fun q88 => u2 q88 fun x89 d87 => nm (wd h70 d87) fun h84 =>
  J_X12_readsPart_124 i0 t0_66 x89 h84
  else
  (F_X12_number i0 4 4 1000 1939 h70).bind fun q81 => u2 q81 fun x82 d80 => nm (wd h70 d80) fun h77 =>
  J_X12_readsPart_124 i0 t0_66 x82 h77)))
def J_X12_readsPart_24 (i0 : Nat) (t0_24 : Int32) (hj24 : HP) : Option (Int32 × DP) :=
  (if t0_24 = 97 then
  J_X12_readsPart_66 i0 0 hj24
  else
  (if t0_24 = 98 then
  J_X12_readsPart_66 i0 1 hj24
  else
  (if t0_24 = 99 then
  J_X12_readsPart_66 i0 2 hj24
  else
  (if t0_24 = 107 then
  J_X12_readsPart_66 i0 3 hj24
  else
  J_X12_readsPart_66 i0 (-1) hj24))))
def F_X12_readsPart (i0 : Nat) (h : HP) : Option (Int32 × DP) :=
  (if (gi h 12 i0 21) ≤ (gi h 12 i0 22) then
  J_X12_readsPart_24 i0 (-1) h
  else
  (gr h 12 i0 20).bind fun o97 =>
  (ga h 61 o97 100 (gi h 12 i0 22)).bind fun x100 =>
  J_X12_readsPart_24 i0 x100 h)
set_option maxHeartbeats 4000000 in
set_option maxRecDepth 100000 in
theorem ok_X12_readsPart {l : Launch} {D : va_G} {cA : Nat → ClassId} {h : HP} {r : Int32} {d : DP} (i0 : Nat) (al_0 : i0 < gn h 12) (hF : F_X12_readsPart i0 h = some (r, d)) : MI l D cA yX12_readsPart cX12_readsPart 6 (some .boolean) 2 51 (fun φ => [.ref (φ 12 i0)]) h r (wd h d) := by
  refine mk_Z (plainFor_of_name (by decide)) (fun φ => Nat.le_of_ble_eq_true rfl) ?_
  intro p e s m args below meth c ls φ A Q X hW hS hl hfin
  have hx := X.1
  have hb := X.2.1
  have hl : lv_has ls 6 [(0, .ref (φ 12 i0))] := hl
  unfold F_X12_readsPart at hF
  have j_200 : ∀ (v2_200 : Int32) (v3_200 : Int32) (v4_200 : Int32) (v5_200 : Int32) (hj200 : HP) (H : Heap) (locs : List Loc) (ls : Array Slot), hj200.2.2 = h.2.2 → J_X12_readsPart_200 i0 v2_200 v3_200 v4_200 v5_200 hj200 = some (r, d) → HW D cA A φ hj200 H → va_S A s.heap H locs → lv_has ls 6 [(0, .ref (φ 12 i0)), (2, .int v2_200), (3, .int v3_200), (4, .int v4_200), (5, .int v5_200)] → W p l e (rmo 2 51 0 0) s m args below meth c H locs 0 0 Q (F0 m 200 ls []) := by
    intro v2_200 v3_200 v4_200 v5_200 hj200 H locs ls gj200 hF hW hS hl
    unfold J_X12_readsPart_200 at hF
    refine lv_aload_n hx hb dX12_readsPart_200 rfl (lv_at hl 0 rfl) ?_
    obtain ⟨o1, e2, hF⟩ := bn hF
    refine r_getr X hW (gq gj200 al_0) fl_12_61 e2 dX12_readsPart_201 (fun al3 => ?_)
    have al3 := qg gj200 al3
    refine lv_aload_n hx hb dX12_readsPart_204 rfl (lv_at hl 0 rfl) ?_
    refine r_geti X hW (gq gj200 al_0) fl_12_227 dX12_readsPart_205 ?_
    refine lv_iload_n hx hb dX12_readsPart_208 rfl (lv_at hl 1 rfl) ?_
    obtain ⟨h4, e5, hF⟩ := bn hF
    obtain ⟨b6, e5⟩ := sa_s e5
    refine r_iast X hW hS (gq gj200 al3) rfl b6 dX12_readsPart_209 (fun H locs hW hS => ?_)
    have hW := nmW e5 hW
    have g7 : h4.2.2 = h.2.2 := by rw [e5]; exact gj200
    refine lv_aload_n hx hb dX12_readsPart_210 rfl (lv_at hl 0 rfl) ?_
    obtain ⟨o8, e9, hF⟩ := bn hF
    refine r_getr X hW (gq g7 al_0) fl_12_64 e9 dX12_readsPart_211 (fun al10 => ?_)
    have al10 := qg g7 al10
    refine lv_aload_n hx hb dX12_readsPart_214 rfl (lv_at hl 0 rfl) ?_
    refine r_geti X hW (gq g7 al_0) fl_12_227 dX12_readsPart_215 ?_
    refine lv_iload_n hx hb dX12_readsPart_218 rfl (lv_at hl 2 rfl) ?_
    obtain ⟨h11, e12, hF⟩ := bn hF
    obtain ⟨b13, e12⟩ := sa_s e12
    refine r_iast X hW hS (gq g7 al10) rfl b13 dX12_readsPart_219 (fun H locs hW hS => ?_)
    have hW := nmW e12 hW
    have g14 : h11.2.2 = h.2.2 := by rw [e12]; exact g7
    refine lv_aload_n hx hb dX12_readsPart_220 rfl (lv_at hl 0 rfl) ?_
    obtain ⟨o15, e16, hF⟩ := bn hF
    refine r_getr X hW (gq g14 al_0) fl_12_67 e16 dX12_readsPart_221 (fun al17 => ?_)
    have al17 := qg g14 al17
    refine lv_aload_n hx hb dX12_readsPart_224 rfl (lv_at hl 0 rfl) ?_
    refine r_geti X hW (gq g14 al_0) fl_12_227 dX12_readsPart_225 ?_
    refine lv_iload hx hb dX12_readsPart_228 (lv_at hl 3 rfl) ?_
    obtain ⟨h18, e19, hF⟩ := bn hF
    obtain ⟨b20, e19⟩ := sa_s e19
    refine r_iast X hW hS (gq g14 al17) rfl b20 dX12_readsPart_230 (fun H locs hW hS => ?_)
    have hW := nmW e19 hW
    have g21 : h18.2.2 = h.2.2 := by rw [e19]; exact g14
    refine lv_aload_n hx hb dX12_readsPart_231 rfl (lv_at hl 0 rfl) ?_
    obtain ⟨o22, e23, hF⟩ := bn hF
    refine r_getr X hW (gq g21 al_0) fl_12_70 e23 dX12_readsPart_232 (fun al24 => ?_)
    have al24 := qg g21 al24
    refine lv_aload_n hx hb dX12_readsPart_235 rfl (lv_at hl 0 rfl) ?_
    refine r_geti X hW (gq g21 al_0) fl_12_227 dX12_readsPart_236 ?_
    refine lv_iload hx hb dX12_readsPart_239 (lv_at hl 4 rfl) ?_
    obtain ⟨h25, e26, hF⟩ := bn hF
    obtain ⟨b27, e26⟩ := sa_s e26
    refine r_iast X hW hS (gq g21 al24) rfl b27 dX12_readsPart_241 (fun H locs hW hS => ?_)
    have hW := nmW e26 hW
    have g28 : h25.2.2 = h.2.2 := by rw [e26]; exact g21
    refine lv_aload_n hx hb dX12_readsPart_242 rfl (lv_at hl 0 rfl) ?_
    refine lv_dup hx hb dX12_readsPart_243 rfl ?_
    refine r_geti X hW (gq g28 al_0) fl_12_227 dX12_readsPart_244 ?_
    refine lv_iconst (v := 1) hx hb dX12_readsPart_247 (by decide) ?_
    refine lv_iadd hx hb dX12_readsPart_248 ?_
    refine r_puti X hW hS (gq g28 al_0) fp_12_227 rfl rfl dX12_readsPart_249 (fun H locs hW hS => ?_)
    obtain ⟨h29, e30, hF⟩ := nmx hF
    have hW := nmW e30 hW
    have g31 : h29.2.2 = h.2.2 := by rw [e30]; exact g28
    refine lv_iconst (v := 1) hx hb dX12_readsPart_252 (by decide) ?_
    obtain ⟨rfl, rfl⟩ := sj2 hF
    exact hfin _ _ _ _ (wdW g31 hW) hS (Or.inr rfl) dX12_readsPart_253
  have j_169 : ∀ (v2_169 : Int32) (v3_169 : Int32) (v4_169 : Int32) (hj169 : HP) (H : Heap) (locs : List Loc) (ls : Array Slot), hj169.2.2 = h.2.2 → J_X12_readsPart_169 i0 v2_169 v3_169 v4_169 hj169 = some (r, d) → HW D cA A φ hj169 H → va_S A s.heap H locs → lv_has ls 6 [(0, .ref (φ 12 i0)), (2, .int v2_169), (3, .int v3_169), (4, .int v4_169)] → W p l e (rmo 2 51 0 0) s m args below meth c H locs 0 0 Q (F0 m 169 ls []) := by
    intro v2_169 v3_169 v4_169 hj169 H locs ls gj169 hF hW hS hl
    unfold J_X12_readsPart_169 at hF
    refine lv_iconst (v := 0) hx hb dX12_readsPart_169 (by decide) ?_
    refine lv_istore (lv' := [(5, .int 0), (0, .ref (φ 12 i0)), (2, .int v2_169), (3, .int v3_169), (4, .int v4_169)]) hx hb dX12_readsPart_170 hl (by decide) rfl (fun ls hl => ?_)
    refine lv_aload_n hx hb dX12_readsPart_172 rfl (lv_at hl 1 rfl) ?_
    refine lv_bipush (v := 64) hx hb dX12_readsPart_173 (by decide) ?_
    obtain ⟨q37, e32, hF⟩ := bn hF
    obtain ⟨x38, d36⟩ := q37
    have hF := u2d hF
    refine rc_i (Af := fun φ => [.ref (φ 12 i0), .int 64]) X hW hS ⟨Nat.zero_le _, Nat.zero_le _⟩ (rn_V (As := [.int 64]) (rest := []) X hW hS cw_12_221 (gq gj169 al_0) rfl rfl rfl ⟨Nat.le_of_ble_eq_true rfl, Nat.le_of_ble_eq_true rfl⟩ rfl hl.1 rfl (Nat.le_of_ble_eq_true rfl) dX12_readsPart_175) (ok_X12_must i0 64 (gq gj169 al_0) e32) (fun H locs hW hS => ?_)
    obtain ⟨h33, e35, hF⟩ := nmx hF
    have hW := nmW e35 hW
    have g34 : h33.2.2 = h.2.2 := by rw [e35]; exact gj169
    refine lv_if_eq (tgt := 200) hx hb dX12_readsPart_178 (by decide) (fun c47 => ?_) (fun c47 => ?_)
    · have hF := it c47 hF
      exact j_200 v2_169 v3_169 v4_169 0 h33 _ _ _ g34 hF hW hS (lv_sub hl [1, 2, 3, 4, 0] rfl)
    · have hF := ie c47 hF
      refine lv_aload_n hx hb dX12_readsPart_181 rfl (lv_at hl 1 rfl) ?_
      refine lv_iconst (v := 1) hx hb dX12_readsPart_182 (by decide) ?_
      refine lv_iconst (v := 3) hx hb dX12_readsPart_183 (by decide) ?_
      refine lv_iconst (v := 0) hx hb dX12_readsPart_184 (by decide) ?_
      refine lv_sipush (v := 199) hx hb dX12_readsPart_185 (by decide) ?_
      obtain ⟨q44, e39, hF⟩ := bn hF
      obtain ⟨x45, d43⟩ := q44
      have hF := u2d hF
      refine rc_i (Af := fun φ => [.ref (φ 12 i0), .int 1, .int 3, .int 0, .int 199]) X hW hS ⟨Nat.zero_le _, Nat.zero_le _⟩ (rn_V (As := [.int 1, .int 3, .int 0, .int 199]) (rest := []) X hW hS cw_12_224 (gq g34 al_0) rfl rfl rfl ⟨Nat.le_of_ble_eq_true rfl, Nat.le_of_ble_eq_true rfl⟩ rfl hl.1 rfl (Nat.le_of_ble_eq_true rfl) dX12_readsPart_188) (ok_X12_number i0 1 3 0 199 (gq g34 al_0) e39) (fun H locs hW hS => ?_)
      obtain ⟨h40, e42, hF⟩ := nmx hF
      have hW := nmW e42 hW
      have g41 : h40.2.2 = h.2.2 := by rw [e42]; exact g34
      refine lv_istore (lv' := [(5, .int x45), (0, .ref (φ 12 i0)), (2, .int v2_169), (3, .int v3_169), (4, .int v4_169)]) hx hb dX12_readsPart_191 hl (by decide) rfl (fun ls hl => ?_)
      refine lv_iload hx hb dX12_readsPart_193 (lv_at hl 0 rfl) ?_
      refine lv_if_ge (tgt := 200) hx hb dX12_readsPart_195 (by decide) (fun c46 => ?_) (fun c46 => ?_)
      · have hF := it c46 hF
        exact j_200 v2_169 v3_169 v4_169 x45 h40 _ _ _ g41 hF hW hS (lv_sub hl [1, 2, 3, 4, 0] rfl)
      · have hF := ie c46 hF
        refine lv_iconst (v := 0) hx hb dX12_readsPart_198 (by decide) ?_
        obtain ⟨rfl, rfl⟩ := sj2 hF
        exact hfin _ _ _ _ (wdW g41 hW) hS (Or.inl rfl) dX12_readsPart_199
  have j_124 : ∀ (v2_124 : Int32) (t0_124 : Int32) (hj124 : HP) (H : Heap) (locs : List Loc) (ls : Array Slot), hj124.2.2 = h.2.2 → J_X12_readsPart_124 i0 v2_124 t0_124 hj124 = some (r, d) → HW D cA A φ hj124 H → va_S A s.heap H locs → lv_has ls 6 [(0, .ref (φ 12 i0)), (2, .int v2_124)] → W p l e (rmo 2 51 0 0) s m args below meth c H locs 0 0 Q (F0 m 124 ls [.int t0_124]) := by
    intro v2_124 t0_124 hj124 H locs ls gj124 hF hW hS hl
    unfold J_X12_readsPart_124 at hF
    refine lv_istore_n (lv' := [(3, .int t0_124), (0, .ref (φ 12 i0)), (2, .int v2_124)]) hx hb dX12_readsPart_124 rfl hl (by decide) rfl (fun ls hl => ?_)
    refine lv_iload_n hx hb dX12_readsPart_125 rfl (lv_at hl 0 rfl) ?_
    refine lv_if_ge (tgt := 131) hx hb dX12_readsPart_126 (by decide) (fun c65 => ?_) (fun c65 => ?_)
    · have hF := it c65 hF
      refine lv_iconst (v := 0) hx hb dX12_readsPart_131 (by decide) ?_
      refine lv_istore (lv' := [(4, .int 0), (3, .int t0_124), (0, .ref (φ 12 i0)), (2, .int v2_124)]) hx hb dX12_readsPart_132 hl (by decide) rfl (fun ls hl => ?_)
      refine lv_iload_n hx hb dX12_readsPart_134 rfl (lv_at hl 3 rfl) ?_
      refine lv_iconst (v := 3) hx hb dX12_readsPart_135 (by decide) ?_
      refine lv_icmp_ge (tgt := 169) hx hb dX12_readsPart_136 (by decide) (fun c64 => ?_) (fun c64 => ?_)
      · have hF := it c64 hF
        exact j_169 v2_124 t0_124 0 hj124 _ _ _ gj124 hF hW hS (lv_sub hl [2, 3, 1, 0] rfl)
      · have hF := ie c64 hF
        refine lv_aload_n hx hb dX12_readsPart_139 rfl (lv_at hl 2 rfl) ?_
        refine lv_bipush (v := 44) hx hb dX12_readsPart_140 (by decide) ?_
        obtain ⟨q53, e48, hF⟩ := bn hF
        obtain ⟨x54, d52⟩ := q53
        have hF := u2d hF
        refine rc_i (Af := fun φ => [.ref (φ 12 i0), .int 44]) X hW hS ⟨Nat.zero_le _, Nat.zero_le _⟩ (rn_V (As := [.int 44]) (rest := []) X hW hS cw_12_221 (gq gj124 al_0) rfl rfl rfl ⟨Nat.le_of_ble_eq_true rfl, Nat.le_of_ble_eq_true rfl⟩ rfl hl.1 rfl (Nat.le_of_ble_eq_true rfl) dX12_readsPart_142) (ok_X12_must i0 44 (gq gj124 al_0) e48) (fun H locs hW hS => ?_)
        obtain ⟨h49, e51, hF⟩ := nmx hF
        have hW := nmW e51 hW
        have g50 : h49.2.2 = h.2.2 := by rw [e51]; exact gj124
        refine lv_if_ne (tgt := 150) hx hb dX12_readsPart_145 (by decide) (fun c63 => ?_) (fun c63 => ?_)
        · have hF := ie c63 hF
          refine lv_aload_n hx hb dX12_readsPart_150 rfl (lv_at hl 2 rfl) ?_
          refine lv_iconst (v := 1) hx hb dX12_readsPart_151 (by decide) ?_
          refine lv_iconst (v := 4) hx hb dX12_readsPart_152 (by decide) ?_
          refine lv_iconst (v := 1) hx hb dX12_readsPart_153 (by decide) ?_
          refine lv_sipush (v := 9999) hx hb dX12_readsPart_154 (by decide) ?_
          obtain ⟨q60, e55, hF⟩ := bn hF
          obtain ⟨x61, d59⟩ := q60
          have hF := u2d hF
          refine rc_i (Af := fun φ => [.ref (φ 12 i0), .int 1, .int 4, .int 1, .int 9999]) X hW hS ⟨Nat.zero_le _, Nat.zero_le _⟩ (rn_V (As := [.int 1, .int 4, .int 1, .int 9999]) (rest := []) X hW hS cw_12_224 (gq g50 al_0) rfl rfl rfl ⟨Nat.le_of_ble_eq_true rfl, Nat.le_of_ble_eq_true rfl⟩ rfl hl.1 rfl (Nat.le_of_ble_eq_true rfl) dX12_readsPart_157) (ok_X12_number i0 1 4 1 9999 (gq g50 al_0) e55) (fun H locs hW hS => ?_)
          obtain ⟨h56, e58, hF⟩ := nmx hF
          have hW := nmW e58 hW
          have g57 : h56.2.2 = h.2.2 := by rw [e58]; exact g50
          refine lv_istore (lv' := [(4, .int x61), (3, .int t0_124), (0, .ref (φ 12 i0)), (2, .int v2_124)]) hx hb dX12_readsPart_160 hl (by decide) rfl (fun ls hl => ?_)
          refine lv_iload hx hb dX12_readsPart_162 (lv_at hl 0 rfl) ?_
          refine lv_if_ge (tgt := 169) hx hb dX12_readsPart_164 (by decide) (fun c62 => ?_) (fun c62 => ?_)
          · have hF := it c62 hF
            exact j_169 v2_124 t0_124 x61 h56 _ _ _ g57 hF hW hS (lv_sub hl [2, 3, 1, 0] rfl)
          · have hF := ie c62 hF
            refine lv_iconst (v := 0) hx hb dX12_readsPart_167 (by decide) ?_
            obtain ⟨rfl, rfl⟩ := sj2 hF
            exact hfin _ _ _ _ (wdW g57 hW) hS (Or.inl rfl) dX12_readsPart_168
        · have hF := it c63 hF
          refine lv_iconst (v := 0) hx hb dX12_readsPart_148 (by decide) ?_
          obtain ⟨rfl, rfl⟩ := sj2 hF
          exact hfin _ _ _ _ (wdW g50 hW) hS (Or.inl rfl) dX12_readsPart_149
    · have hF := ie c65 hF
      refine lv_iconst (v := 0) hx hb dX12_readsPart_129 (by decide) ?_
      obtain ⟨rfl, rfl⟩ := sj2 hF
      exact hfin _ _ _ _ (wdW gj124 hW) hS (Or.inl rfl) dX12_readsPart_130
  have j_66 : ∀ (t0_66 : Int32) (hj66 : HP) (H : Heap) (locs : List Loc) (ls : Array Slot), hj66.2.2 = h.2.2 → J_X12_readsPart_66 i0 t0_66 hj66 = some (r, d) → HW D cA A φ hj66 H → va_S A s.heap H locs → lv_has ls 6 [(0, .ref (φ 12 i0))] → W p l e (rmo 2 51 0 0) s m args below meth c H locs 0 0 Q (F0 m 66 ls [.int t0_66]) := by
    intro t0_66 hj66 H locs ls gj66 hF hW hS hl
    unfold J_X12_readsPart_66 at hF
    refine lv_istore_n (lv' := [(2, .int t0_66), (0, .ref (φ 12 i0))]) hx hb dX12_readsPart_66 rfl hl (by decide) rfl (fun ls hl => ?_)
    refine lv_iload_n hx hb dX12_readsPart_67 rfl (lv_at hl 0 rfl) ?_
    refine lv_iconst (v := (-1)) hx hb dX12_readsPart_68 (by decide) ?_
    refine lv_icmp_ne (tgt := 74) hx hb dX12_readsPart_69 (by decide) (fun c92 => ?_) (fun c92 => ?_)
    · have hF := ie c92 hF
      refine lv_aload_n hx hb dX12_readsPart_74 rfl (lv_at hl 1 rfl) ?_
      refine lv_dup hx hb dX12_readsPart_75 rfl ?_
      refine r_geti X hW (gq gj66 al_0) fl_12_214 dX12_readsPart_76 ?_
      refine lv_iconst (v := 1) hx hb dX12_readsPart_79 (by decide) ?_
      refine lv_iadd hx hb dX12_readsPart_80 ?_
      refine r_puti X hW hS (gq gj66 al_0) fp_12_214 rfl rfl dX12_readsPart_81 (fun H locs hW hS => ?_)
      obtain ⟨h66, e67, hF⟩ := nmx hF
      have hW := nmW e67 hW
      have g68 : h66.2.2 = h.2.2 := by rw [e67]; exact gj66
      refine lv_aload_n hx hb dX12_readsPart_84 rfl (lv_at hl 1 rfl) ?_
      refine lv_bipush (v := 61) hx hb dX12_readsPart_85 (by decide) ?_
      obtain ⟨q74, e69, hF⟩ := bn hF
      obtain ⟨x75, d73⟩ := q74
      have hF := u2d hF
      refine rc_i (Af := fun φ => [.ref (φ 12 i0), .int 61]) X hW hS ⟨Nat.zero_le _, Nat.zero_le _⟩ (rn_V (As := [.int 61]) (rest := []) X hW hS cw_12_221 (gq g68 al_0) rfl rfl rfl ⟨Nat.le_of_ble_eq_true rfl, Nat.le_of_ble_eq_true rfl⟩ rfl hl.1 rfl (Nat.le_of_ble_eq_true rfl) dX12_readsPart_87) (ok_X12_must i0 61 (gq g68 al_0) e69) (fun H locs hW hS => ?_)
      obtain ⟨h70, e72, hF⟩ := nmx hF
      have hW := nmW e72 hW
      have g71 : h70.2.2 = h.2.2 := by rw [e72]; exact g68
      refine lv_if_ne (tgt := 95) hx hb dX12_readsPart_90 (by decide) (fun c91 => ?_) (fun c91 => ?_)
      · have hF := ie c91 hF
        refine lv_iload_n hx hb dX12_readsPart_95 rfl (lv_at hl 0 rfl) ?_
        refine lv_iconst (v := 3) hx hb dX12_readsPart_96 (by decide) ?_
        refine lv_icmp_ne (tgt := 112) hx hb dX12_readsPart_97 (by decide) (fun c90 => ?_) (fun c90 => ?_)
        · have hF := ie c90 hF
          refine lv_aload_n hx hb dX12_readsPart_112 rfl (lv_at hl 1 rfl) ?_
          refine lv_iconst (v := 4) hx hb dX12_readsPart_113 (by decide) ?_
          refine lv_iconst (v := 4) hx hb dX12_readsPart_114 (by decide) ?_
          refine lv_sipush (v := 1000) hx hb dX12_readsPart_115 (by decide) ?_
          refine lv_sipush (v := 1939) hx hb dX12_readsPart_118 (by decide) ?_
          obtain ⟨q81, e76, hF⟩ := bn hF
          obtain ⟨x82, d80⟩ := q81
          have hF := u2d hF
          refine rc_i (Af := fun φ => [.ref (φ 12 i0), .int 4, .int 4, .int 1000, .int 1939]) X hW hS ⟨Nat.zero_le _, Nat.zero_le _⟩ (rn_V (As := [.int 4, .int 4, .int 1000, .int 1939]) (rest := []) X hW hS cw_12_224 (gq g71 al_0) rfl rfl rfl ⟨Nat.le_of_ble_eq_true rfl, Nat.le_of_ble_eq_true rfl⟩ rfl hl.1 rfl (Nat.le_of_ble_eq_true rfl) dX12_readsPart_121) (ok_X12_number i0 4 4 1000 1939 (gq g71 al_0) e76) (fun H locs hW hS => ?_)
          obtain ⟨h77, e79, hF⟩ := nmx hF
          have hW := nmW e79 hW
          have g78 : h77.2.2 = h.2.2 := by rw [e79]; exact g71
          exact j_124 t0_66 x82 h77 _ _ _ g78 hF hW hS (lv_sub hl [1, 0] rfl)
        · have hF := it c90 hF
          refine lv_aload_n hx hb dX12_readsPart_100 rfl (lv_at hl 1 rfl) ?_
          refine lv_iconst (v := 1) hx hb dX12_readsPart_101 (by decide) ?_
          refine lv_iconst (v := 1) hx hb dX12_readsPart_102 (by decide) ?_
          refine lv_iconst (v := 0) hx hb dX12_readsPart_103 (by decide) ?_
          refine lv_bipush (v := 9) hx hb dX12_readsPart_104 (by decide) ?_
          obtain ⟨q88, e83, hF⟩ := bn hF
          obtain ⟨x89, d87⟩ := q88
          have hF := u2d hF
          refine rc_i (Af := fun φ => [.ref (φ 12 i0), .int 1, .int 1, .int 0, .int 9]) X hW hS ⟨Nat.zero_le _, Nat.zero_le _⟩ (rn_V (As := [.int 1, .int 1, .int 0, .int 9]) (rest := []) X hW hS cw_12_224 (gq g71 al_0) rfl rfl rfl ⟨Nat.le_of_ble_eq_true rfl, Nat.le_of_ble_eq_true rfl⟩ rfl hl.1 rfl (Nat.le_of_ble_eq_true rfl) dX12_readsPart_106) (ok_X12_number i0 1 1 0 9 (gq g71 al_0) e83) (fun H locs hW hS => ?_)
          obtain ⟨h84, e86, hF⟩ := nmx hF
          have hW := nmW e86 hW
          have g85 : h84.2.2 = h.2.2 := by rw [e86]; exact g71
          refine lv_goto (tgt := 124) hx hb dX12_readsPart_109 (by decide) ?_
          exact j_124 t0_66 x89 h84 _ _ _ g85 hF hW hS (lv_sub hl [1, 0] rfl)
      · have hF := it c91 hF
        refine lv_iconst (v := 0) hx hb dX12_readsPart_93 (by decide) ?_
        obtain ⟨rfl, rfl⟩ := sj2 hF
        exact hfin _ _ _ _ (wdW g71 hW) hS (Or.inl rfl) dX12_readsPart_94
    · have hF := it c92 hF
      refine lv_iconst (v := 0) hx hb dX12_readsPart_72 (by decide) ?_
      obtain ⟨rfl, rfl⟩ := sj2 hF
      exact hfin _ _ _ _ (wdW gj66 hW) hS (Or.inl rfl) dX12_readsPart_73
  have j_24 : ∀ (t0_24 : Int32) (hj24 : HP) (H : Heap) (locs : List Loc) (ls : Array Slot), hj24.2.2 = h.2.2 → J_X12_readsPart_24 i0 t0_24 hj24 = some (r, d) → HW D cA A φ hj24 H → va_S A s.heap H locs → lv_has ls 6 [(0, .ref (φ 12 i0))] → W p l e (rmo 2 51 0 0) s m args below meth c H locs 0 0 Q (F0 m 24 ls [.int t0_24]) := by
    intro t0_24 hj24 H locs ls gj24 hF hW hS hl
    unfold J_X12_readsPart_24 at hF
    refine lv_istore_n (lv' := [(1, .int t0_24), (0, .ref (φ 12 i0))]) hx hb dX12_readsPart_24 rfl hl (by decide) rfl (fun ls hl => ?_)
    refine lv_iload_n hx hb dX12_readsPart_25 rfl (lv_at hl 0 rfl) ?_
    refine lv_bipush (v := 97) hx hb dX12_readsPart_26 (by decide) ?_
    refine lv_icmp_ne (tgt := 35) hx hb dX12_readsPart_28 (by decide) (fun c96 => ?_) (fun c96 => ?_)
    · have hF := ie c96 hF
      refine lv_iload_n hx hb dX12_readsPart_35 rfl (lv_at hl 0 rfl) ?_
      refine lv_bipush (v := 98) hx hb dX12_readsPart_36 (by decide) ?_
      refine lv_icmp_ne (tgt := 45) hx hb dX12_readsPart_38 (by decide) (fun c95 => ?_) (fun c95 => ?_)
      · have hF := ie c95 hF
        refine lv_iload_n hx hb dX12_readsPart_45 rfl (lv_at hl 0 rfl) ?_
        refine lv_bipush (v := 99) hx hb dX12_readsPart_46 (by decide) ?_
        refine lv_icmp_ne (tgt := 55) hx hb dX12_readsPart_48 (by decide) (fun c94 => ?_) (fun c94 => ?_)
        · have hF := ie c94 hF
          refine lv_iload_n hx hb dX12_readsPart_55 rfl (lv_at hl 0 rfl) ?_
          refine lv_bipush (v := 107) hx hb dX12_readsPart_56 (by decide) ?_
          refine lv_icmp_ne (tgt := 65) hx hb dX12_readsPart_58 (by decide) (fun c93 => ?_) (fun c93 => ?_)
          · have hF := ie c93 hF
            refine lv_iconst (v := (-1)) hx hb dX12_readsPart_65 (by decide) ?_
            exact j_66 (-1) hj24 _ _ _ gj24 hF hW hS (lv_sub hl [1] rfl)
          · have hF := it c93 hF
            refine lv_iconst (v := 3) hx hb dX12_readsPart_61 (by decide) ?_
            refine lv_goto (tgt := 66) hx hb dX12_readsPart_62 (by decide) ?_
            exact j_66 3 hj24 _ _ _ gj24 hF hW hS (lv_sub hl [1] rfl)
        · have hF := it c94 hF
          refine lv_iconst (v := 2) hx hb dX12_readsPart_51 (by decide) ?_
          refine lv_goto (tgt := 66) hx hb dX12_readsPart_52 (by decide) ?_
          exact j_66 2 hj24 _ _ _ gj24 hF hW hS (lv_sub hl [1] rfl)
      · have hF := it c95 hF
        refine lv_iconst (v := 1) hx hb dX12_readsPart_41 (by decide) ?_
        refine lv_goto (tgt := 66) hx hb dX12_readsPart_42 (by decide) ?_
        exact j_66 1 hj24 _ _ _ gj24 hF hW hS (lv_sub hl [1] rfl)
    · have hF := it c96 hF
      refine lv_iconst (v := 0) hx hb dX12_readsPart_31 (by decide) ?_
      refine lv_goto (tgt := 66) hx hb dX12_readsPart_32 (by decide) ?_
      exact j_66 0 hj24 _ _ _ gj24 hF hW hS (lv_sub hl [1] rfl)
  refine lv_aload_n hx hb dX12_readsPart_0 rfl (lv_at hl 0 rfl) ?_
  refine r_geti X hW al_0 fl_12_214 dX12_readsPart_1 ?_
  refine lv_aload_n hx hb dX12_readsPart_4 rfl (lv_at hl 0 rfl) ?_
  refine r_geti X hW al_0 fl_12_211 dX12_readsPart_5 ?_
  refine lv_icmp_ge (tgt := 23) hx hb dX12_readsPart_8 (by decide) (fun c103 => ?_) (fun c103 => ?_)
  · have hF := it c103 hF
    refine lv_iconst (v := (-1)) hx hb dX12_readsPart_23 (by decide) ?_
    exact j_24 (-1) h _ _ _ rfl hF hW hS (lv_sub hl [0] rfl)
  · have hF := ie c103 hF
    refine lv_aload_n hx hb dX12_readsPart_11 rfl (lv_at hl 0 rfl) ?_
    obtain ⟨o97, e98, hF⟩ := bn hF
    refine r_getr X hW al_0 fl_12_58 e98 dX12_readsPart_12 (fun al99 => ?_)
    refine lv_aload_n hx hb dX12_readsPart_15 rfl (lv_at hl 0 rfl) ?_
    refine r_geti X hW al_0 fl_12_214 dX12_readsPart_16 ?_
    obtain ⟨x100, e101, hF⟩ := bn hF
    obtain ⟨b102, e101⟩ := ga_s e101
    refine r_iald X hW al99 rfl b102 dX12_readsPart_19 ?_
    refine nmi e101 ?_
    refine lv_goto (tgt := 24) hx hb dX12_readsPart_20 (by decide) ?_
    exact j_24 x100 h _ _ _ rfl hF hW hS (lv_sub hl [0] rfl)
def J_X12_reads_60 (i0 : Nat) (t0_60 : Int32) (hj60 : HP) : Option ((Int32 × DP) ⊕ (DP ⊕ DP ⊕ DP)) :=
  (if t0_60 = 0 then
  some (.inl (t0_60, (dp hj60)))
  else
  (F_X12_must i0 59 hj60).bind fun q10 => u2 q10 fun x11 d9 => nm (wd hj60 d9) fun h6 =>
  (if x11 = 0 then
  some (.inr (.inr (.inl (dp h6))))
  else
  some (.inl (t0_60, (dp h6)))))
def B_X12_reads_23 (i0 : Nat) (hj22 : HP) (q : Int32 × DP) : Option ((Int32 × DP) ⊕ (DP ⊕ DP ⊕ DP)) :=
  u2 q fun x1 d4 =>
  nm (wd hj22 d4) fun h2 =>
  (if x1 = 0 then
  some (.inr (.inr (.inr (dp h2))))
  else
  (F_X12_readsPart i0 h2).bind fun q19 => u2 q19 fun x20 d18 => nm (wd h2 d18) fun h15 =>
  (if x20 = 0 then
  some (.inr (.inl (dp h15)))
  else
  (if (gi h15 12 i0 21) ≤ (gi h15 12 i0 22) then
  J_X12_reads_60 i0 0 h15
  else
  J_X12_reads_60 i0 1 h15)))
def J_X12_reads_22 (i0 : Nat) (t0_22 : Int32) (hj22 : HP) : Option (Int32 × DP) :=
  (loopN LF (B_X12_reads_23 i0 hj22) (t0_22, (dp hj22))).bind (fun q24 => match q24 with
  | .inl q24 => (fun d27 =>
  nm (wd hj22 d27) fun h28 =>
  nm (si h28 12 i0 23 0) fun h30 =>
  some ((gi h30 12 i0 22), dp h30)) q24
  | .inr q24 => (fun q24 => match q24 with
  | .inl q24 => (fun d34 =>
  nm (wd hj22 d34) fun h35 =>
  nm (si h35 12 i0 23 0) fun h37 =>
  some ((gi h37 12 i0 22), dp h37)) q24
  | .inr q24 => (fun d41 =>
  nm (wd hj22 d41) fun h42 =>
  some ((-1), dp h42)) q24) q24)
def F_X12_reads (i0 : Nat) (h : HP) : Option (Int32 × DP) :=
  nm (si h 12 i0 22 0) fun h45 =>
  nm (si h45 12 i0 23 0) fun h48 =>
  (if (gi h48 12 i0 21) ≤ 0 then
  J_X12_reads_22 i0 0 h48
  else
  J_X12_reads_22 i0 1 h48)
set_option maxHeartbeats 4000000 in
set_option maxRecDepth 100000 in
theorem ok_X12_reads {l : Launch} {D : va_G} {cA : Nat → ClassId} {h : HP} {r : Int32} {d : DP} (i0 : Nat) (al_0 : i0 < gn h 12) (hF : F_X12_reads i0 h = some (r, d)) : MI l D cA yX12_reads cX12_reads 2 (some .int) 3 76 (fun φ => [.ref (φ 12 i0)]) h r (wd h d) := by
  refine mk_I (plainFor_of_name (by decide)) (fun φ => Nat.le_of_ble_eq_true rfl) ?_
  intro p e s m args below meth c ls φ A Q X hW hS hl hfin
  have hx := X.1
  have hb := X.2.1
  have hl : lv_has ls 2 [(0, .ref (φ 12 i0))] := hl
  unfold F_X12_reads at hF
  have j_22 : ∀ (t0_22 : Int32) (hj22 : HP) (H : Heap) (locs : List Loc) (ls : Array Slot), hj22.2.2 = h.2.2 → J_X12_reads_22 i0 t0_22 hj22 = some (r, d) → HW D cA A φ hj22 H → va_S A s.heap H locs → lv_has ls 2 [(0, .ref (φ 12 i0))] → W p l e (rmo 3 76 0 0) s m args below meth c H locs 0 0 Q (F0 m 22 ls [.int t0_22]) := by
    intro t0_22 hj22 H locs ls gj22 hF hW hS hl
    unfold J_X12_reads_22 at hF
    refine lv_istore_n (lv' := [(1, .int t0_22), (0, .ref (φ 12 i0))]) hx hb dX12_reads_22 rfl hl (by decide) rfl (fun ls hl => ?_)
    obtain ⟨q24, e25, hF⟩ := bn hF
    refine loop_w (f := B_X12_reads_23 i0 hj22) (Z := fun q => ∀ (H : Heap) (locs : List Loc) (ls : Array Slot), HW D cA A φ (wd hj22 q.2) H → va_S A s.heap H locs → lv_has ls 2 [(0, .ref (φ 12 i0)), (1, .int (q.1))] → W p l e (rmo 3 76 0 0) s m args below meth c H locs 0 0 Q (F0 m 23 ls [])) (K := fun q => match q with | .inl q => (∀ (H : Heap) (locs : List Loc) (ls : Array Slot), HW D cA A φ (wd hj22 q) H → va_S A s.heap H locs → lv_has ls 2 [(0, .ref (φ 12 i0))] → W p l e (rmo 3 76 0 0) s m args below meth c H locs 0 0 Q (F0 m 34 ls [])) | .inr q => (match q with | .inl q => (∀ (H : Heap) (locs : List Loc) (ls : Array Slot), HW D cA A φ (wd hj22 q) H → va_S A s.heap H locs → lv_has ls 2 [(0, .ref (φ 12 i0))] → W p l e (rmo 3 76 0 0) s m args below meth c H locs 0 0 Q (F0 m 74 ls [])) | .inr q => (∀ (H : Heap) (locs : List Loc) (ls : Array Slot), HW D cA A φ (wd hj22 q) H → va_S A s.heap H locs → lv_has ls 2 [] → W p l e (rmo 3 76 0 0) s m args below meth c H locs 0 0 Q (F0 m 84 ls [])))) ?_ LF _ q24 e25 ?_ _ _ _ (wdW rfl hW) hS (lv_sub hl [1, 0] rfl)
    · intro q v hF hK H locs ls hW hS hl
      obtain ⟨x1, d4⟩ := q
      unfold B_X12_reads_23 at hF
      have hF := u2d hF
      obtain ⟨h2, e26, hF⟩ := nmx hF
      have hW := nmW e26 hW
      have g3 : h2.2.2 = h.2.2 := by rw [e26]; exact gj22
      have hl : lv_has ls 2 [(0, .ref (φ 12 i0)), (1, .int x1)] := hl
      have j_60 : ∀ (t0_60 : Int32) (hj60 : HP) (H : Heap) (locs : List Loc) (ls : Array Slot), hj60.2.2 = h.2.2 → J_X12_reads_60 i0 t0_60 hj60 = some v → HW D cA A φ hj60 H → va_S A s.heap H locs → lv_has ls 2 [(0, .ref (φ 12 i0))] → W p l e (rmo 3 76 0 0) s m args below meth c H locs 0 0 Q (F0 m 60 ls [.int t0_60]) := by
        intro t0_60 hj60 H locs ls gj60 hF hW hS hl
        unfold J_X12_reads_60 at hF
        refine lv_istore_n (lv' := [(1, .int t0_60), (0, .ref (φ 12 i0))]) hx hb dX12_reads_60 rfl hl (by decide) rfl (fun ls hl => ?_)
        refine lv_iload_n hx hb dX12_reads_61 rfl (lv_at hl 0 rfl) ?_
        refine lv_if_eq (tgt := 23) hx hb dX12_reads_62 (by decide) (fun c13 => ?_) (fun c13 => ?_)
        · have hF := it c13 hF
          obtain rfl := sj hF
          exact hK _ _ _ (wdW (sq gj60 gj22) hW) hS (lv_sub hl [1, 0] rfl)
        · have hF := ie c13 hF
          refine lv_aload_n hx hb dX12_reads_65 rfl (lv_at hl 1 rfl) ?_
          refine lv_bipush (v := 59) hx hb dX12_reads_66 (by decide) ?_
          obtain ⟨q10, e5, hF⟩ := bn hF
          obtain ⟨x11, d9⟩ := q10
          have hF := u2d hF
          refine rc_i (Af := fun φ => [.ref (φ 12 i0), .int 59]) X hW hS ⟨Nat.zero_le _, Nat.zero_le _⟩ (rn_V (As := [.int 59]) (rest := []) X hW hS cw_12_221 (gq gj60 al_0) rfl rfl rfl ⟨Nat.le_of_ble_eq_true rfl, Nat.le_of_ble_eq_true rfl⟩ rfl hl.1 rfl (Nat.le_of_ble_eq_true rfl) dX12_reads_68) (ok_X12_must i0 59 (gq gj60 al_0) e5) (fun H locs hW hS => ?_)
          obtain ⟨h6, e8, hF⟩ := nmx hF
          have hW := nmW e8 hW
          have g7 : h6.2.2 = h.2.2 := by rw [e8]; exact gj60
          refine lv_if_ne (tgt := 23) hx hb dX12_reads_71 (by decide) (fun c12 => ?_) (fun c12 => ?_)
          · have hF := ie c12 hF
            obtain rfl := sj hF
            exact hK _ _ _ (wdW (sq g7 gj22) hW) hS (lv_sub hl [1, 0] rfl)
          · have hF := it c12 hF
            obtain rfl := sj hF
            exact hK _ _ _ (wdW (sq g7 gj22) hW) hS (lv_sub hl [1] rfl)
      refine lv_iload_n hx hb dX12_reads_23 rfl (lv_at hl 1 rfl) ?_
      refine lv_if_eq (tgt := 84) hx hb dX12_reads_24 (by decide) (fun c23 => ?_) (fun c23 => ?_)
      · have hF := it c23 hF
        obtain rfl := sj hF
        exact hK _ _ _ (wdW (sq g3 gj22) hW) hS (lv_sub hl [] rfl)
      · have hF := ie c23 hF
        refine lv_aload_n hx hb dX12_reads_27 rfl (lv_at hl 0 rfl) ?_
        obtain ⟨q19, e14, hF⟩ := bn hF
        obtain ⟨x20, d18⟩ := q19
        have hF := u2d hF
        refine rc_i (Af := fun φ => [.ref (φ 12 i0)]) X hW hS ⟨Nat.zero_le _, Nat.zero_le _⟩ (rn_V (As := []) (rest := []) X hW hS cw_12_230 (gq g3 al_0) rfl rfl rfl ⟨Nat.le_of_ble_eq_true rfl, Nat.le_of_ble_eq_true rfl⟩ rfl hl.1 rfl (Nat.le_of_ble_eq_true rfl) dX12_reads_28) (ok_X12_readsPart i0 (gq g3 al_0) e14) (fun H locs hW hS => ?_)
        obtain ⟨h15, e17, hF⟩ := nmx hF
        have hW := nmW e17 hW
        have g16 : h15.2.2 = h.2.2 := by rw [e17]; exact g3
        refine lv_if_ne (tgt := 44) hx hb dX12_reads_31 (by decide) (fun c22 => ?_) (fun c22 => ?_)
        · have hF := ie c22 hF
          refine lv_aload_n hx hb dX12_reads_44 rfl (lv_at hl 0 rfl) ?_
          refine r_geti X hW (gq g16 al_0) fl_12_214 dX12_reads_45 ?_
          refine lv_aload_n hx hb dX12_reads_48 rfl (lv_at hl 0 rfl) ?_
          refine r_geti X hW (gq g16 al_0) fl_12_211 dX12_reads_49 ?_
          refine lv_icmp_ge (tgt := 59) hx hb dX12_reads_52 (by decide) (fun c21 => ?_) (fun c21 => ?_)
          · have hF := it c21 hF
            refine lv_iconst (v := 0) hx hb dX12_reads_59 (by decide) ?_
            exact j_60 0 h15 _ _ _ g16 hF hW hS (lv_sub hl [0] rfl)
          · have hF := ie c21 hF
            refine lv_iconst (v := 1) hx hb dX12_reads_55 (by decide) ?_
            refine lv_goto (tgt := 60) hx hb dX12_reads_56 (by decide) ?_
            exact j_60 1 h15 _ _ _ g16 hF hW hS (lv_sub hl [0] rfl)
        · have hF := it c22 hF
          obtain rfl := sj hF
          exact hK _ _ _ (wdW (sq g16 gj22) hW) hS (lv_sub hl [0] rfl)
    · cases q24 with
      | inl q24 =>
        intro H locs ls hW hS hl
        obtain ⟨d27, rfl⟩ : ∃ z, z = q24 := ⟨_, rfl⟩
        obtain ⟨h28, e33, hF⟩ := nmx hF
        have hW := nmW e33 hW
        have g29 : h28.2.2 = h.2.2 := by rw [e33]; exact gj22
        have hl : lv_has ls 2 [(0, .ref (φ 12 i0))] := hl
        refine lv_aload_n hx hb dX12_reads_34 rfl (lv_at hl 0 rfl) ?_
        refine lv_iconst (v := 0) hx hb dX12_reads_35 (by decide) ?_
        refine r_puti X hW hS (gq g29 al_0) fp_12_227 rfl rfl dX12_reads_36 (fun H locs hW hS => ?_)
        obtain ⟨h30, e31, hF⟩ := nmx hF
        have hW := nmW e31 hW
        have g32 : h30.2.2 = h.2.2 := by rw [e31]; exact g29
        refine lv_aload_n hx hb dX12_reads_39 rfl (lv_at hl 0 rfl) ?_
        refine r_geti X hW (gq g32 al_0) fl_12_214 dX12_reads_40 ?_
        obtain ⟨rfl, rfl⟩ := sj2 hF
        exact hfin _ _ _ _ (wdW g32 hW) hS dX12_reads_43
      | inr q24 =>
        cases q24 with
        | inl q24 =>
          intro H locs ls hW hS hl
          obtain ⟨d34, rfl⟩ : ∃ z, z = q24 := ⟨_, rfl⟩
          obtain ⟨h35, e40, hF⟩ := nmx hF
          have hW := nmW e40 hW
          have g36 : h35.2.2 = h.2.2 := by rw [e40]; exact gj22
          have hl : lv_has ls 2 [(0, .ref (φ 12 i0))] := hl
          refine lv_aload_n hx hb dX12_reads_74 rfl (lv_at hl 0 rfl) ?_
          refine lv_iconst (v := 0) hx hb dX12_reads_75 (by decide) ?_
          refine r_puti X hW hS (gq g36 al_0) fp_12_227 rfl rfl dX12_reads_76 (fun H locs hW hS => ?_)
          obtain ⟨h37, e38, hF⟩ := nmx hF
          have hW := nmW e38 hW
          have g39 : h37.2.2 = h.2.2 := by rw [e38]; exact g36
          refine lv_aload_n hx hb dX12_reads_79 rfl (lv_at hl 0 rfl) ?_
          refine r_geti X hW (gq g39 al_0) fl_12_214 dX12_reads_80 ?_
          obtain ⟨rfl, rfl⟩ := sj2 hF
          exact hfin _ _ _ _ (wdW g39 hW) hS dX12_reads_83
        | inr q24 =>
          intro H locs ls hW hS hl
          obtain ⟨d41, rfl⟩ : ∃ z, z = q24 := ⟨_, rfl⟩
          obtain ⟨h42, e44, hF⟩ := nmx hF
          have hW := nmW e44 hW
          have g43 : h42.2.2 = h.2.2 := by rw [e44]; exact gj22
          have hl : lv_has ls 2 [] := hl
          refine lv_iconst (v := (-1)) hx hb dX12_reads_84 (by decide) ?_
          obtain ⟨rfl, rfl⟩ := sj2 hF
          exact hfin _ _ _ _ (wdW g43 hW) hS dX12_reads_85
  refine lv_aload_n hx hb dX12_reads_0 rfl (lv_at hl 0 rfl) ?_
  refine lv_iconst (v := 0) hx hb dX12_reads_1 (by decide) ?_
  refine r_puti X hW hS al_0 fp_12_214 rfl rfl dX12_reads_2 (fun H locs hW hS => ?_)
  obtain ⟨h45, e46, hF⟩ := nmx hF
  have hW := nmW e46 hW
  have g47 : h45.2.2 = h.2.2 := by rw [e46]; exact rfl
  refine lv_aload_n hx hb dX12_reads_5 rfl (lv_at hl 0 rfl) ?_
  refine lv_iconst (v := 0) hx hb dX12_reads_6 (by decide) ?_
  refine r_puti X hW hS (gq g47 al_0) fp_12_227 rfl rfl dX12_reads_7 (fun H locs hW hS => ?_)
  obtain ⟨h48, e49, hF⟩ := nmx hF
  have hW := nmW e49 hW
  have g50 : h48.2.2 = h.2.2 := by rw [e49]; exact g47
  refine lv_aload_n hx hb dX12_reads_10 rfl (lv_at hl 0 rfl) ?_
  refine r_geti X hW (gq g50 al_0) fl_12_211 dX12_reads_11 ?_
  refine lv_if_le (tgt := 21) hx hb dX12_reads_14 (by decide) (fun c51 => ?_) (fun c51 => ?_)
  · have hF := it c51 hF
    refine lv_iconst (v := 0) hx hb dX12_reads_21 (by decide) ?_
    exact j_22 0 h48 _ _ _ g50 hF hW hS (lv_sub hl [0] rfl)
  · have hF := ie c51 hF
    refine lv_iconst (v := 1) hx hb dX12_reads_17 (by decide) ?_
    refine lv_goto (tgt := 22) hx hb dX12_reads_18 (by decide) ?_
    exact j_22 1 h48 _ _ _ g50 hF hW hS (lv_sub hl [0] rfl)
def F_X12_fault (i0 : Nat) (h : HP) : Option (Int32 × DP) :=
  (F_X12_reads i0 h).bind fun q6 => u2 q6 fun x7 d5 => nm (wd h d5) fun h2 =>
  some (x7, dp h2)
set_option maxHeartbeats 4000000 in
set_option maxRecDepth 100000 in
theorem ok_X12_fault {l : Launch} {D : va_G} {cA : Nat → ClassId} {h : HP} {r : Int32} {d : DP} (i0 : Nat) (al_0 : i0 < gn h 12) (hF : F_X12_fault i0 h = some (r, d)) : MI l D cA yX12_fault cX12_fault 1 (some .int) 4 97 (fun φ => [.ref (φ 12 i0)]) h r (wd h d) := by
  refine mk_I (plainFor_of_name (by decide)) (fun φ => Nat.le_of_ble_eq_true rfl) ?_
  intro p e s m args below meth c ls φ A Q X hW hS hl hfin
  have hx := X.1
  have hb := X.2.1
  have hl : lv_has ls 1 [(0, .ref (φ 12 i0))] := hl
  unfold F_X12_fault at hF
  refine lv_aload_n hx hb dX12_fault_0 rfl (lv_at hl 0 rfl) ?_
  obtain ⟨q6, e1, hF⟩ := bn hF
  obtain ⟨x7, d5⟩ := q6
  have hF := u2d hF
  refine rc_i (Af := fun φ => [.ref (φ 12 i0)]) X hW hS ⟨Nat.zero_le _, Nat.zero_le _⟩ (rn_V (As := []) (rest := []) X hW hS cw_12_234 al_0 rfl rfl rfl ⟨Nat.le_of_ble_eq_true rfl, Nat.le_of_ble_eq_true rfl⟩ rfl hl.1 rfl (Nat.le_of_ble_eq_true rfl) dX12_fault_1) (ok_X12_reads i0 al_0 e1) (fun H locs hW hS => ?_)
  obtain ⟨h2, e4, hF⟩ := nmx hF
  have hW := nmW e4 hW
  have g3 : h2.2.2 = h.2.2 := by rw [e4]; exact rfl
  obtain ⟨rfl, rfl⟩ := sj2 hF
  exact hfin _ _ _ _ (wdW g3 hW) hS dX12_fault_4
def B_X12_partIn_5 (i0 : Nat) (a1 : Int32) (a2 : Int32) (h : HP) (q : Int32 × Int32) : Option ((Int32 × Int32) ⊕ (Int32)) :=
  u2 q fun x1 x2 =>
  (if (gi h 12 i0 23) ≤ x2 then
  some (.inr x1)
  else
  (gr h 12 i0 24).bind fun o3 =>
  (ga h 62 o3 40 x2).bind fun x6 =>
  (if x6 = a1 then
  (gr h 12 i0 27).bind fun o11 =>
  (ga h 65 o11 40 x2).bind fun x14 =>
  (if a2 < x14 then
  nm (x2 + 1) fun x17 =>
  some (.inl (x1, x17))
  else
  nm (x2 + 1) fun x19 =>
  some (.inl (x2, x19)))
  else
  nm (x2 + 1) fun x9 =>
  some (.inl (x1, x9))))
def F_X12_partIn (i0 : Nat) (a1 : Int32) (a2 : Int32) (h : HP) : Option (Int32) :=
  (loopN LF (B_X12_partIn_5 i0 a1 a2 h) ((-1), 0)).bind fun x26 =>
  some x26
set_option maxHeartbeats 4000000 in
set_option maxRecDepth 100000 in
theorem ok_X12_partIn {l : Launch} {D : va_G} {cA : Nat → ClassId} {h : HP} {r : Int32}  (i0 : Nat) (a1 : Int32) (a2 : Int32) (al_0 : i0 < gn h 12) (hF : F_X12_partIn i0 a1 a2 h = some r) : MI l D cA yX12_partIn cX12_partIn 5 (some .int) 0 0 (fun φ => [.ref (φ 12 i0), .int a1, .int a2]) h r h := by
  refine mk_I (plainFor_of_name (by decide)) (fun φ => Nat.le_of_ble_eq_true rfl) ?_
  intro p e s m args below meth c ls φ A Q X hW hS hl hfin
  have hx := X.1
  have hb := X.2.1
  have hl : lv_has ls 5 [(0, .ref (φ 12 i0)), (1, .int a1), (2, .int a2)] := hl
  unfold F_X12_partIn at hF
  refine lv_iconst (v := (-1)) hx hb dX12_partIn_0 (by decide) ?_
  refine lv_istore_n (lv' := [(3, .int (-1)), (0, .ref (φ 12 i0)), (1, .int a1), (2, .int a2)]) hx hb dX12_partIn_1 rfl hl (by decide) rfl (fun ls hl => ?_)
  refine lv_iconst (v := 0) hx hb dX12_partIn_2 (by decide) ?_
  refine lv_istore (lv' := [(4, .int 0), (3, .int (-1)), (0, .ref (φ 12 i0)), (1, .int a1), (2, .int a2)]) hx hb dX12_partIn_3 hl (by decide) rfl (fun ls hl => ?_)
  obtain ⟨q24, e25, hF⟩ := bn hF
  refine loop_w (f := B_X12_partIn_5 i0 a1 a2 h) (Z := fun q => ∀ (H : Heap) (locs : List Loc) (ls : Array Slot), HW D cA A φ h H → va_S A s.heap H locs → lv_has ls 5 [(0, .ref (φ 12 i0)), (1, .int a1), (2, .int a2), (3, .int (q.1)), (4, .int (q.2))] → W p l e (rmo 0 0 0 0) s m args below meth c H locs 0 0 Q (F0 m 5 ls [])) (K := fun q => ∀ (H : Heap) (locs : List Loc) (ls : Array Slot), HW D cA A φ h H → va_S A s.heap H locs → lv_has ls 5 [(3, .int q)] → W p l e (rmo 0 0 0 0) s m args below meth c H locs 0 0 Q (F0 m 49 ls [])) ?_ LF _ q24 e25 ?_ _ _ _ hW hS (lv_sub hl [2, 3, 4, 1, 0] rfl)
  · intro q v hF hK H locs ls hW hS hl
    obtain ⟨x1, x2⟩ := q
    unfold B_X12_partIn_5 at hF
    have hF := u2d hF
    have hl : lv_has ls 5 [(0, .ref (φ 12 i0)), (1, .int a1), (2, .int a2), (3, .int x1), (4, .int x2)] := hl
    refine lv_iload hx hb dX12_partIn_5 (lv_at hl 4 rfl) ?_
    refine lv_aload_n hx hb dX12_partIn_7 rfl (lv_at hl 0 rfl) ?_
    refine r_geti X hW al_0 fl_12_227 dX12_partIn_8 ?_
    refine lv_icmp_ge (tgt := 49) hx hb dX12_partIn_11 (by decide) (fun c23 => ?_) (fun c23 => ?_)
    · have hF := it c23 hF
      obtain rfl := sj hF
      exact hK _ _ _ hW hS (lv_sub hl [3] rfl)
    · have hF := ie c23 hF
      refine lv_aload_n hx hb dX12_partIn_14 rfl (lv_at hl 0 rfl) ?_
      obtain ⟨o3, e4, hF⟩ := bn hF
      refine r_getr X hW al_0 fl_12_61 e4 dX12_partIn_15 (fun al5 => ?_)
      refine lv_iload hx hb dX12_partIn_18 (lv_at hl 4 rfl) ?_
      obtain ⟨x6, e7, hF⟩ := bn hF
      obtain ⟨b8, e7⟩ := ga_s e7
      refine r_iald X hW al5 rfl b8 dX12_partIn_20 ?_
      refine nmi e7 ?_
      refine lv_iload_n hx hb dX12_partIn_21 rfl (lv_at hl 1 rfl) ?_
      refine lv_icmp_ne (tgt := 41) hx hb dX12_partIn_22 (by decide) (fun c22 => ?_) (fun c22 => ?_)
      · have hF := ie c22 hF
        refine lv_iload_n hx hb dX12_partIn_41 rfl (lv_at hl 3 rfl) ?_
        refine lv_istore_n (lv' := [(3, .int x1), (0, .ref (φ 12 i0)), (1, .int a1), (2, .int a2), (4, .int x2)]) hx hb dX12_partIn_42 rfl hl (by decide) rfl (fun ls hl => ?_)
        obtain ⟨x9, e10, hF⟩ := nmx hF
        refine lv_iinc (v := x9) (lv' := [(4, .int x9), (3, .int x1), (0, .ref (φ 12 i0)), (1, .int a1), (2, .int a2)]) hx hb dX12_partIn_43 hl (k := 4) rfl (by rw [e10]; rfl) (by decide) rfl (fun ls hl => ?_)
        refine lv_goto (tgt := 5) hx hb dX12_partIn_46 (by decide) ?_
        obtain rfl := sj hF
        exact hK _ _ _ hW hS (lv_sub hl [2, 3, 4, 1, 0] rfl)
      · have hF := it c22 hF
        refine lv_aload_n hx hb dX12_partIn_25 rfl (lv_at hl 0 rfl) ?_
        obtain ⟨o11, e12, hF⟩ := bn hF
        refine r_getr X hW al_0 fl_12_70 e12 dX12_partIn_26 (fun al13 => ?_)
        refine lv_iload hx hb dX12_partIn_29 (lv_at hl 4 rfl) ?_
        obtain ⟨x14, e15, hF⟩ := bn hF
        obtain ⟨b16, e15⟩ := ga_s e15
        refine r_iald X hW al13 rfl b16 dX12_partIn_31 ?_
        refine nmi e15 ?_
        refine lv_iload_n hx hb dX12_partIn_32 rfl (lv_at hl 2 rfl) ?_
        refine lv_icmp_gt (tgt := 41) hx hb dX12_partIn_33 (by decide) (fun c21 => ?_) (fun c21 => ?_)
        · have hF := it c21 hF
          refine lv_iload_n hx hb dX12_partIn_41 rfl (lv_at hl 3 rfl) ?_
          refine lv_istore_n (lv' := [(3, .int x1), (0, .ref (φ 12 i0)), (1, .int a1), (2, .int a2), (4, .int x2)]) hx hb dX12_partIn_42 rfl hl (by decide) rfl (fun ls hl => ?_)
          obtain ⟨x17, e18, hF⟩ := nmx hF
          refine lv_iinc (v := x17) (lv' := [(4, .int x17), (3, .int x1), (0, .ref (φ 12 i0)), (1, .int a1), (2, .int a2)]) hx hb dX12_partIn_43 hl (k := 4) rfl (by rw [e18]; rfl) (by decide) rfl (fun ls hl => ?_)
          refine lv_goto (tgt := 5) hx hb dX12_partIn_46 (by decide) ?_
          obtain rfl := sj hF
          exact hK _ _ _ hW hS (lv_sub hl [2, 3, 4, 1, 0] rfl)
        · have hF := ie c21 hF
          refine lv_iload hx hb dX12_partIn_36 (lv_at hl 4 rfl) ?_
          refine lv_goto (tgt := 42) hx hb dX12_partIn_38 (by decide) ?_
          refine lv_istore_n (lv' := [(3, .int x2), (0, .ref (φ 12 i0)), (1, .int a1), (2, .int a2), (4, .int x2)]) hx hb dX12_partIn_42 rfl hl (by decide) rfl (fun ls hl => ?_)
          obtain ⟨x19, e20, hF⟩ := nmx hF
          refine lv_iinc (v := x19) (lv' := [(4, .int x19), (3, .int x2), (0, .ref (φ 12 i0)), (1, .int a1), (2, .int a2)]) hx hb dX12_partIn_43 hl (k := 4) rfl (by rw [e20]; rfl) (by decide) rfl (fun ls hl => ?_)
          refine lv_goto (tgt := 5) hx hb dX12_partIn_46 (by decide) ?_
          obtain rfl := sj hF
          exact hK _ _ _ hW hS (lv_sub hl [2, 3, 4, 1, 0] rfl)
  · intro H locs ls hW hS hl
    obtain ⟨x26, rfl⟩ : ∃ z, z = q24 := ⟨_, rfl⟩
    have hl : lv_has ls 5 [(3, .int x26)] := hl
    refine lv_iload_n hx hb dX12_partIn_49 rfl (lv_at hl 0 rfl) ?_
    obtain rfl := sj hF
    exact hfin _ _ _ _ hW hS dX12_partIn_50
def B_X12_whyOf_2 (i0 : Nat) (a1 : Int32) (a2 : Int32) (h : HP) (x1 : Int32) : Option ((Int32) ⊕ (Int32 ⊕ Unit)) :=
  (if 3 ≤ x1 then
  some (.inr (.inr ()))
  else
  (F_X12_partIn i0 x1 a2 h).bind fun x3 =>
  (if x3 = (-1) then
  nm (x1 + 1) fun x4 =>
  some (.inl x4)
  else
  (gr h 12 i0 11).bind fun o6 =>
  (ga h 52 o6 20 a1).bind fun x9 =>
  (gr h 12 i0 25).bind fun o12 =>
  (ga h 63 o12 40 x3).bind fun x15 =>
  (if x9 < x15 then
  nm (x1 + 1) fun x18 =>
  some (.inl x18)
  else
  (gr h 12 i0 10).bind fun o20 =>
  (ga h 51 o20 20 a1).bind fun x23 =>
  (gr h 12 i0 26).bind fun o26 =>
  (ga h 64 o26 40 x3).bind fun x29 =>
  (if x23 < x29 then
  nm (x1 + 1) fun x32 =>
  some (.inl x32)
  else
  some (.inr (.inl x3))))))
def F_X12_whyOf (i0 : Nat) (a1 : Int32) (a2 : Int32) (h : HP) : Option (Int32) :=
  (loopN LF (B_X12_whyOf_2 i0 a1 a2 h) 0).bind (fun q38 => match q38 with
  | .inl q38 => (fun x40 =>
  some x40) q38
  | .inr q38 => (fun _ =>
  some (-1)) q38)
set_option maxHeartbeats 4000000 in
set_option maxRecDepth 100000 in
theorem ok_X12_whyOf {l : Launch} {D : va_G} {cA : Nat → ClassId} {h : HP} {r : Int32}  (i0 : Nat) (a1 : Int32) (a2 : Int32) (al_0 : i0 < gn h 12) (hF : F_X12_whyOf i0 a1 a2 h = some r) : MI l D cA yX12_whyOf cX12_whyOf 5 (some .int) 1 24 (fun φ => [.ref (φ 12 i0), .int a1, .int a2]) h r h := by
  refine mk_I (plainFor_of_name (by decide)) (fun φ => Nat.le_of_ble_eq_true rfl) ?_
  intro p e s m args below meth c ls φ A Q X hW hS hl hfin
  have hx := X.1
  have hb := X.2.1
  have hl : lv_has ls 5 [(0, .ref (φ 12 i0)), (1, .int a1), (2, .int a2)] := hl
  unfold F_X12_whyOf at hF
  refine lv_iconst (v := 0) hx hb dX12_whyOf_0 (by decide) ?_
  refine lv_istore_n (lv' := [(3, .int 0), (0, .ref (φ 12 i0)), (1, .int a1), (2, .int a2)]) hx hb dX12_whyOf_1 rfl hl (by decide) rfl (fun ls hl => ?_)
  obtain ⟨q38, e39, hF⟩ := bn hF
  refine loop_w (f := B_X12_whyOf_2 i0 a1 a2 h) (Z := fun q => ∀ (H : Heap) (locs : List Loc) (ls : Array Slot), HW D cA A φ h H → va_S A s.heap H locs → lv_has ls 5 [(0, .ref (φ 12 i0)), (1, .int a1), (2, .int a2), (3, .int q)] → W p l e (rmo 1 24 0 0) s m args below meth c H locs 0 0 Q (F0 m 2 ls [])) (K := fun q => match q with | .inl q => (∀ (H : Heap) (locs : List Loc) (ls : Array Slot), HW D cA A φ h H → va_S A s.heap H locs → lv_has ls 5 [(4, .int q)] → W p l e (rmo 1 24 0 0) s m args below meth c H locs 0 0 Q (F0 m 53 ls [])) | .inr q => (∀ (H : Heap) (locs : List Loc) (ls : Array Slot), HW D cA A φ h H → va_S A s.heap H locs → lv_has ls 5 [] → W p l e (rmo 1 24 0 0) s m args below meth c H locs 0 0 Q (F0 m 62 ls []))) ?_ LF _ q38 e39 ?_ _ _ _ hW hS (lv_sub hl [1, 2, 3, 0] rfl)
  · intro x1 v hF hK H locs ls hW hS hl
    unfold B_X12_whyOf_2 at hF
    have hl : lv_has ls 5 [(0, .ref (φ 12 i0)), (1, .int a1), (2, .int a2), (3, .int x1)] := hl
    refine lv_iload_n hx hb dX12_whyOf_2 rfl (lv_at hl 3 rfl) ?_
    refine lv_iconst (v := 3) hx hb dX12_whyOf_3 (by decide) ?_
    refine lv_icmp_ge (tgt := 62) hx hb dX12_whyOf_4 (by decide) (fun c37 => ?_) (fun c37 => ?_)
    · have hF := it c37 hF
      obtain rfl := sj hF
      exact hK _ _ _ hW hS (lv_sub hl [] rfl)
    · have hF := ie c37 hF
      refine lv_aload_n hx hb dX12_whyOf_7 rfl (lv_at hl 0 rfl) ?_
      refine lv_iload_n hx hb dX12_whyOf_8 rfl (lv_at hl 3 rfl) ?_
      refine lv_iload_n hx hb dX12_whyOf_9 rfl (lv_at hl 2 rfl) ?_
      obtain ⟨x3, e2, hF⟩ := bn hF
      refine rc_i (Af := fun φ => [.ref (φ 12 i0), .int x1, .int a2]) X hW hS ⟨Nat.zero_le _, Nat.zero_le _⟩ (rn_V (As := [.int x1, .int a2]) (rest := []) X hW hS cw_12_238 al_0 rfl rfl rfl ⟨Nat.le_of_ble_eq_true rfl, Nat.le_of_ble_eq_true rfl⟩ rfl hl.1 rfl (Nat.le_of_ble_eq_true rfl) dX12_whyOf_10) (ok_X12_partIn i0 x1 a2 al_0 e2) (fun H locs hW hS => ?_)
      refine lv_istore (lv' := [(4, .int x3), (0, .ref (φ 12 i0)), (1, .int a1), (2, .int a2), (3, .int x1)]) hx hb dX12_whyOf_13 hl (by decide) rfl (fun ls hl => ?_)
      refine lv_iload hx hb dX12_whyOf_15 (lv_at hl 0 rfl) ?_
      refine lv_iconst (v := (-1)) hx hb dX12_whyOf_17 (by decide) ?_
      refine lv_icmp_eq (tgt := 56) hx hb dX12_whyOf_18 (by decide) (fun c36 => ?_) (fun c36 => ?_)
      · have hF := it c36 hF
        obtain ⟨x4, e5, hF⟩ := nmx hF
        refine lv_iinc (v := x4) (lv' := [(3, .int x4), (4, .int x3), (0, .ref (φ 12 i0)), (1, .int a1), (2, .int a2)]) hx hb dX12_whyOf_56 hl (k := 4) rfl (by rw [e5]; rfl) (by decide) rfl (fun ls hl => ?_)
        refine lv_goto (tgt := 2) hx hb dX12_whyOf_59 (by decide) ?_
        obtain rfl := sj hF
        exact hK _ _ _ hW hS (lv_sub hl [2, 3, 4, 0] rfl)
      · have hF := ie c36 hF
        refine lv_aload_n hx hb dX12_whyOf_21 rfl (lv_at hl 1 rfl) ?_
        obtain ⟨o6, e7, hF⟩ := bn hF
        refine r_getr X hW al_0 fl_12_31 e7 dX12_whyOf_22 (fun al8 => ?_)
        refine lv_iload_n hx hb dX12_whyOf_25 rfl (lv_at hl 2 rfl) ?_
        obtain ⟨x9, e10, hF⟩ := bn hF
        obtain ⟨b11, e10⟩ := ga_s e10
        refine r_iald X hW al8 rfl b11 dX12_whyOf_26 ?_
        refine nmi e10 ?_
        refine lv_aload_n hx hb dX12_whyOf_27 rfl (lv_at hl 1 rfl) ?_
        obtain ⟨o12, e13, hF⟩ := bn hF
        refine r_getr X hW al_0 fl_12_64 e13 dX12_whyOf_28 (fun al14 => ?_)
        refine lv_iload hx hb dX12_whyOf_31 (lv_at hl 0 rfl) ?_
        obtain ⟨x15, e16, hF⟩ := bn hF
        obtain ⟨b17, e16⟩ := ga_s e16
        refine r_iald X hW al14 rfl b17 dX12_whyOf_33 ?_
        refine nmi e16 ?_
        refine lv_icmp_lt (tgt := 56) hx hb dX12_whyOf_34 (by decide) (fun c35 => ?_) (fun c35 => ?_)
        · have hF := it c35 hF
          obtain ⟨x18, e19, hF⟩ := nmx hF
          refine lv_iinc (v := x18) (lv' := [(3, .int x18), (4, .int x3), (0, .ref (φ 12 i0)), (1, .int a1), (2, .int a2)]) hx hb dX12_whyOf_56 hl (k := 4) rfl (by rw [e19]; rfl) (by decide) rfl (fun ls hl => ?_)
          refine lv_goto (tgt := 2) hx hb dX12_whyOf_59 (by decide) ?_
          obtain rfl := sj hF
          exact hK _ _ _ hW hS (lv_sub hl [2, 3, 4, 0] rfl)
        · have hF := ie c35 hF
          refine lv_aload_n hx hb dX12_whyOf_37 rfl (lv_at hl 1 rfl) ?_
          obtain ⟨o20, e21, hF⟩ := bn hF
          refine r_getr X hW al_0 fl_12_28 e21 dX12_whyOf_38 (fun al22 => ?_)
          refine lv_iload_n hx hb dX12_whyOf_41 rfl (lv_at hl 2 rfl) ?_
          obtain ⟨x23, e24, hF⟩ := bn hF
          obtain ⟨b25, e24⟩ := ga_s e24
          refine r_iald X hW al22 rfl b25 dX12_whyOf_42 ?_
          refine nmi e24 ?_
          refine lv_aload_n hx hb dX12_whyOf_43 rfl (lv_at hl 1 rfl) ?_
          obtain ⟨o26, e27, hF⟩ := bn hF
          refine r_getr X hW al_0 fl_12_67 e27 dX12_whyOf_44 (fun al28 => ?_)
          refine lv_iload hx hb dX12_whyOf_47 (lv_at hl 0 rfl) ?_
          obtain ⟨x29, e30, hF⟩ := bn hF
          obtain ⟨b31, e30⟩ := ga_s e30
          refine r_iald X hW al28 rfl b31 dX12_whyOf_49 ?_
          refine nmi e30 ?_
          refine lv_icmp_lt (tgt := 56) hx hb dX12_whyOf_50 (by decide) (fun c34 => ?_) (fun c34 => ?_)
          · have hF := it c34 hF
            obtain ⟨x32, e33, hF⟩ := nmx hF
            refine lv_iinc (v := x32) (lv' := [(3, .int x32), (4, .int x3), (0, .ref (φ 12 i0)), (1, .int a1), (2, .int a2)]) hx hb dX12_whyOf_56 hl (k := 4) rfl (by rw [e33]; rfl) (by decide) rfl (fun ls hl => ?_)
            refine lv_goto (tgt := 2) hx hb dX12_whyOf_59 (by decide) ?_
            obtain rfl := sj hF
            exact hK _ _ _ hW hS (lv_sub hl [2, 3, 4, 0] rfl)
          · have hF := ie c34 hF
            obtain rfl := sj hF
            exact hK _ _ _ hW hS (lv_sub hl [0] rfl)
  · cases q38 with
    | inl q38 =>
      intro H locs ls hW hS hl
      obtain ⟨x40, rfl⟩ : ∃ z, z = q38 := ⟨_, rfl⟩
      have hl : lv_has ls 5 [(4, .int x40)] := hl
      refine lv_iload hx hb dX12_whyOf_53 (lv_at hl 0 rfl) ?_
      obtain rfl := sj hF
      exact hfin _ _ _ _ hW hS dX12_whyOf_55
    | inr q38 =>
      intro H locs ls hW hS hl
      have hl : lv_has ls 5 [] := hl
      refine lv_iconst (v := (-1)) hx hb dX12_whyOf_62 (by decide) ?_
      obtain rfl := sj hF
      exact hfin _ _ _ _ hW hS dX12_whyOf_63
def F_X12_letterOf (i0 : Nat) (a1 : Int32) (a2 : Int32) (h : HP) : Option (Int32) :=
  (F_X12_whyOf i0 a1 a2 h).bind fun x2 =>
  (if x2 = (-1) then
  some 3
  else
  (gr h 12 i0 24).bind fun o3 =>
  (ga h 62 o3 40 x2).bind fun x6 =>
  some x6)
set_option maxHeartbeats 4000000 in
set_option maxRecDepth 100000 in
theorem ok_X12_letterOf {l : Launch} {D : va_G} {cA : Nat → ClassId} {h : HP} {r : Int32}  (i0 : Nat) (a1 : Int32) (a2 : Int32) (al_0 : i0 < gn h 12) (hF : F_X12_letterOf i0 a1 a2 h = some r) : MI l D cA yX12_letterOf cX12_letterOf 4 (some .int) 2 48 (fun φ => [.ref (φ 12 i0), .int a1, .int a2]) h r h := by
  refine mk_I (plainFor_of_name (by decide)) (fun φ => Nat.le_of_ble_eq_true rfl) ?_
  intro p e s m args below meth c ls φ A Q X hW hS hl hfin
  have hx := X.1
  have hb := X.2.1
  have hl : lv_has ls 4 [(0, .ref (φ 12 i0)), (1, .int a1), (2, .int a2)] := hl
  unfold F_X12_letterOf at hF
  refine lv_aload_n hx hb dX12_letterOf_0 rfl (lv_at hl 0 rfl) ?_
  refine lv_iload_n hx hb dX12_letterOf_1 rfl (lv_at hl 1 rfl) ?_
  refine lv_iload_n hx hb dX12_letterOf_2 rfl (lv_at hl 2 rfl) ?_
  obtain ⟨x2, e1, hF⟩ := bn hF
  refine rc_i (Af := fun φ => [.ref (φ 12 i0), .int a1, .int a2]) X hW hS ⟨Nat.zero_le _, Nat.zero_le _⟩ (rn_V (As := [.int a1, .int a2]) (rest := []) X hW hS cw_12_241 al_0 rfl rfl rfl ⟨Nat.le_of_ble_eq_true rfl, Nat.le_of_ble_eq_true rfl⟩ rfl hl.1 rfl (Nat.le_of_ble_eq_true rfl) dX12_letterOf_3) (ok_X12_whyOf i0 a1 a2 al_0 e1) (fun H locs hW hS => ?_)
  refine lv_istore_n (lv' := [(3, .int x2), (0, .ref (φ 12 i0)), (1, .int a1), (2, .int a2)]) hx hb dX12_letterOf_6 rfl hl (by decide) rfl (fun ls hl => ?_)
  refine lv_iload_n hx hb dX12_letterOf_7 rfl (lv_at hl 0 rfl) ?_
  refine lv_iconst (v := (-1)) hx hb dX12_letterOf_8 (by decide) ?_
  refine lv_icmp_ne (tgt := 16) hx hb dX12_letterOf_9 (by decide) (fun c9 => ?_) (fun c9 => ?_)
  · have hF := ie c9 hF
    refine lv_aload_n hx hb dX12_letterOf_16 rfl (lv_at hl 1 rfl) ?_
    obtain ⟨o3, e4, hF⟩ := bn hF
    refine r_getr X hW al_0 fl_12_61 e4 dX12_letterOf_17 (fun al5 => ?_)
    refine lv_iload_n hx hb dX12_letterOf_20 rfl (lv_at hl 0 rfl) ?_
    obtain ⟨x6, e7, hF⟩ := bn hF
    obtain ⟨b8, e7⟩ := ga_s e7
    refine r_iald X hW al5 rfl b8 dX12_letterOf_21 ?_
    refine nmi e7 ?_
    obtain rfl := sj hF
    exact hfin _ _ _ _ hW hS dX12_letterOf_22
  · have hF := it c9 hF
    refine lv_iconst (v := 3) hx hb dX12_letterOf_12 (by decide) ?_
    refine lv_goto (tgt := 22) hx hb dX12_letterOf_13 (by decide) ?_
    obtain rfl := sj hF
    exact hfin _ _ _ _ hW hS dX12_letterOf_22
def F_X12_letter (i0 : Nat) (a1 : Int32) (a2 : Int32) (h : HP) : Option (Int32 × DP) :=
  (F_X12_isBell i0 a1 h).bind fun x2 =>
  (if x2 = 0 then
  some ((-2), dp h)
  else
  (F_X12_isWeek a2).bind fun x4 =>
  (if x4 = 0 then
  some ((-2), dp h)
  else
  (F_X12_reads i0 h).bind fun q10 => u2 q10 fun x11 d9 => nm (wd h d9) fun h6 =>
  (F_X12_letterOf i0 a1 a2 h6).bind fun x13 =>
  some (x13, dp h6)))
set_option maxHeartbeats 4000000 in
set_option maxRecDepth 100000 in
theorem ok_X12_letter {l : Launch} {D : va_G} {cA : Nat → ClassId} {h : HP} {r : Int32} {d : DP} (i0 : Nat) (a1 : Int32) (a2 : Int32) (al_0 : i0 < gn h 12) (hF : F_X12_letter i0 a1 a2 h = some (r, d)) : MI l D cA yX12_letter cX12_letter 3 (some .int) 4 97 (fun φ => [.ref (φ 12 i0), .int a1, .int a2]) h r (wd h d) := by
  refine mk_I (plainFor_of_name (by decide)) (fun φ => Nat.le_of_ble_eq_true rfl) ?_
  intro p e s m args below meth c ls φ A Q X hW hS hl hfin
  have hx := X.1
  have hb := X.2.1
  have hl : lv_has ls 3 [(0, .ref (φ 12 i0)), (1, .int a1), (2, .int a2)] := hl
  unfold F_X12_letter at hF
  refine lv_aload_n hx hb dX12_letter_0 rfl (lv_at hl 0 rfl) ?_
  refine lv_iload_n hx hb dX12_letter_1 rfl (lv_at hl 1 rfl) ?_
  obtain ⟨x2, e1, hF⟩ := bn hF
  refine rc_i (Af := fun φ => [.ref (φ 12 i0), .int a1]) X hW hS ⟨Nat.zero_le _, Nat.zero_le _⟩ (rn_V (As := [.int a1]) (rest := []) X hW hS cw_12_190 al_0 rfl rfl rfl ⟨Nat.le_of_ble_eq_true rfl, Nat.le_of_ble_eq_true rfl⟩ rfl hl.1 rfl (Nat.le_of_ble_eq_true rfl) dX12_letter_2) (ok_X12_isBell i0 a1 al_0 e1) (fun H locs hW hS => ?_)
  refine lv_if_eq (tgt := 15) hx hb dX12_letter_5 (by decide) (fun c15 => ?_) (fun c15 => ?_)
  · have hF := it c15 hF
    refine lv_bipush (v := (-2)) hx hb dX12_letter_15 (by decide) ?_
    obtain ⟨rfl, rfl⟩ := sj2 hF
    exact hfin _ _ _ _ (wdW rfl hW) hS dX12_letter_17
  · have hF := ie c15 hF
    refine lv_iload_n hx hb dX12_letter_8 rfl (lv_at hl 2 rfl) ?_
    obtain ⟨x4, e3, hF⟩ := bn hF
    refine rc_i (Af := fun φ => [.int a2]) X hW hS ⟨Nat.zero_le _, Nat.zero_le _⟩ (rn_S (As := [.int a2]) (rest := []) X hW hS cw_12_244 ⟨Nat.le_of_ble_eq_true rfl, Nat.le_of_ble_eq_true rfl⟩ rfl hl.1 rfl (Nat.le_of_ble_eq_true rfl) dX12_letter_9) (ok_X12_isWeek a2 e3) (fun H locs hW hS => ?_)
    refine lv_if_ne (tgt := 18) hx hb dX12_letter_12 (by decide) (fun c14 => ?_) (fun c14 => ?_)
    · have hF := ie c14 hF
      refine lv_aload_n hx hb dX12_letter_18 rfl (lv_at hl 0 rfl) ?_
      obtain ⟨q10, e5, hF⟩ := bn hF
      obtain ⟨x11, d9⟩ := q10
      have hF := u2d hF
      refine rc_i (Af := fun φ => [.ref (φ 12 i0)]) X hW hS ⟨Nat.zero_le _, Nat.zero_le _⟩ (rn_V (As := []) (rest := []) X hW hS cw_12_234 al_0 rfl rfl rfl ⟨Nat.le_of_ble_eq_true rfl, Nat.le_of_ble_eq_true rfl⟩ rfl hl.1 rfl (Nat.le_of_ble_eq_true rfl) dX12_letter_19) (ok_X12_reads i0 al_0 e5) (fun H locs hW hS => ?_)
      obtain ⟨h6, e8, hF⟩ := nmx hF
      have hW := nmW e8 hW
      have g7 : h6.2.2 = h.2.2 := by rw [e8]; exact rfl
      refine lv_pop hx hb dX12_letter_22 rfl ?_
      refine lv_aload_n hx hb dX12_letter_23 rfl (lv_at hl 0 rfl) ?_
      refine lv_iload_n hx hb dX12_letter_24 rfl (lv_at hl 1 rfl) ?_
      refine lv_iload_n hx hb dX12_letter_25 rfl (lv_at hl 2 rfl) ?_
      obtain ⟨x13, e12, hF⟩ := bn hF
      refine rc_i (Af := fun φ => [.ref (φ 12 i0), .int a1, .int a2]) X hW hS ⟨Nat.zero_le _, Nat.zero_le _⟩ (rn_V (As := [.int a1, .int a2]) (rest := []) X hW hS cw_12_247 (gq g7 al_0) rfl rfl rfl ⟨Nat.le_of_ble_eq_true rfl, Nat.le_of_ble_eq_true rfl⟩ rfl hl.1 rfl (Nat.le_of_ble_eq_true rfl) dX12_letter_26) (ok_X12_letterOf i0 a1 a2 (gq g7 al_0) e12) (fun H locs hW hS => ?_)
      obtain ⟨rfl, rfl⟩ := sj2 hF
      exact hfin _ _ _ _ (wdW g7 hW) hS dX12_letter_29
    · have hF := it c14 hF
      refine lv_bipush (v := (-2)) hx hb dX12_letter_15 (by decide) ?_
      obtain ⟨rfl, rfl⟩ := sj2 hF
      exact hfin _ _ _ _ (wdW rfl hW) hS dX12_letter_17
def F_X12_why (i0 : Nat) (a1 : Int32) (a2 : Int32) (h : HP) : Option (Int32 × DP) :=
  (F_X12_isBell i0 a1 h).bind fun x2 =>
  (if x2 = 0 then
  some ((-2), dp h)
  else
  (F_X12_isWeek a2).bind fun x4 =>
  (if x4 = 0 then
  some ((-2), dp h)
  else
  (F_X12_reads i0 h).bind fun q10 => u2 q10 fun x11 d9 => nm (wd h d9) fun h6 =>
  (F_X12_whyOf i0 a1 a2 h6).bind fun x13 =>
  some (x13, dp h6)))
set_option maxHeartbeats 4000000 in
set_option maxRecDepth 100000 in
theorem ok_X12_why {l : Launch} {D : va_G} {cA : Nat → ClassId} {h : HP} {r : Int32} {d : DP} (i0 : Nat) (a1 : Int32) (a2 : Int32) (al_0 : i0 < gn h 12) (hF : F_X12_why i0 a1 a2 h = some (r, d)) : MI l D cA yX12_why cX12_why 3 (some .int) 4 97 (fun φ => [.ref (φ 12 i0), .int a1, .int a2]) h r (wd h d) := by
  refine mk_I (plainFor_of_name (by decide)) (fun φ => Nat.le_of_ble_eq_true rfl) ?_
  intro p e s m args below meth c ls φ A Q X hW hS hl hfin
  have hx := X.1
  have hb := X.2.1
  have hl : lv_has ls 3 [(0, .ref (φ 12 i0)), (1, .int a1), (2, .int a2)] := hl
  unfold F_X12_why at hF
  refine lv_aload_n hx hb dX12_why_0 rfl (lv_at hl 0 rfl) ?_
  refine lv_iload_n hx hb dX12_why_1 rfl (lv_at hl 1 rfl) ?_
  obtain ⟨x2, e1, hF⟩ := bn hF
  refine rc_i (Af := fun φ => [.ref (φ 12 i0), .int a1]) X hW hS ⟨Nat.zero_le _, Nat.zero_le _⟩ (rn_V (As := [.int a1]) (rest := []) X hW hS cw_12_190 al_0 rfl rfl rfl ⟨Nat.le_of_ble_eq_true rfl, Nat.le_of_ble_eq_true rfl⟩ rfl hl.1 rfl (Nat.le_of_ble_eq_true rfl) dX12_why_2) (ok_X12_isBell i0 a1 al_0 e1) (fun H locs hW hS => ?_)
  refine lv_if_eq (tgt := 15) hx hb dX12_why_5 (by decide) (fun c15 => ?_) (fun c15 => ?_)
  · have hF := it c15 hF
    refine lv_bipush (v := (-2)) hx hb dX12_why_15 (by decide) ?_
    obtain ⟨rfl, rfl⟩ := sj2 hF
    exact hfin _ _ _ _ (wdW rfl hW) hS dX12_why_17
  · have hF := ie c15 hF
    refine lv_iload_n hx hb dX12_why_8 rfl (lv_at hl 2 rfl) ?_
    obtain ⟨x4, e3, hF⟩ := bn hF
    refine rc_i (Af := fun φ => [.int a2]) X hW hS ⟨Nat.zero_le _, Nat.zero_le _⟩ (rn_S (As := [.int a2]) (rest := []) X hW hS cw_12_244 ⟨Nat.le_of_ble_eq_true rfl, Nat.le_of_ble_eq_true rfl⟩ rfl hl.1 rfl (Nat.le_of_ble_eq_true rfl) dX12_why_9) (ok_X12_isWeek a2 e3) (fun H locs hW hS => ?_)
    refine lv_if_ne (tgt := 18) hx hb dX12_why_12 (by decide) (fun c14 => ?_) (fun c14 => ?_)
    · have hF := ie c14 hF
      refine lv_aload_n hx hb dX12_why_18 rfl (lv_at hl 0 rfl) ?_
      obtain ⟨q10, e5, hF⟩ := bn hF
      obtain ⟨x11, d9⟩ := q10
      have hF := u2d hF
      refine rc_i (Af := fun φ => [.ref (φ 12 i0)]) X hW hS ⟨Nat.zero_le _, Nat.zero_le _⟩ (rn_V (As := []) (rest := []) X hW hS cw_12_234 al_0 rfl rfl rfl ⟨Nat.le_of_ble_eq_true rfl, Nat.le_of_ble_eq_true rfl⟩ rfl hl.1 rfl (Nat.le_of_ble_eq_true rfl) dX12_why_19) (ok_X12_reads i0 al_0 e5) (fun H locs hW hS => ?_)
      obtain ⟨h6, e8, hF⟩ := nmx hF
      have hW := nmW e8 hW
      have g7 : h6.2.2 = h.2.2 := by rw [e8]; exact rfl
      refine lv_pop hx hb dX12_why_22 rfl ?_
      refine lv_aload_n hx hb dX12_why_23 rfl (lv_at hl 0 rfl) ?_
      refine lv_iload_n hx hb dX12_why_24 rfl (lv_at hl 1 rfl) ?_
      refine lv_iload_n hx hb dX12_why_25 rfl (lv_at hl 2 rfl) ?_
      obtain ⟨x13, e12, hF⟩ := bn hF
      refine rc_i (Af := fun φ => [.ref (φ 12 i0), .int a1, .int a2]) X hW hS ⟨Nat.zero_le _, Nat.zero_le _⟩ (rn_V (As := [.int a1, .int a2]) (rest := []) X hW hS cw_12_241 (gq g7 al_0) rfl rfl rfl ⟨Nat.le_of_ble_eq_true rfl, Nat.le_of_ble_eq_true rfl⟩ rfl hl.1 rfl (Nat.le_of_ble_eq_true rfl) dX12_why_26) (ok_X12_whyOf i0 a1 a2 (gq g7 al_0) e12) (fun H locs hW hS => ?_)
      obtain ⟨rfl, rfl⟩ := sj2 hF
      exact hfin _ _ _ _ (wdW g7 hW) hS dX12_why_29
    · have hF := it c14 hF
      refine lv_bipush (v := (-2)) hx hb dX12_why_15 (by decide) ?_
      obtain ⟨rfl, rfl⟩ := sj2 hF
      exact hfin _ _ _ _ (wdW rfl hW) hS dX12_why_17
def J_X12_keptOf_89 (i0 : Nat) (a1 : Int32) (a2 : Int32) (t0_22 : Int32) (x1 : Int32) (x2 : Int32) (v7_89 : Int32) (v8_89 : Int32) (t0_89 : Int32) (h : HP) : Option ((Int32 × Int32) ⊕ (Int32)) :=
  (if t0_89 = 0 then
  nm (v8_89 + 1) fun x5 =>
  some (.inl (v7_89, x5))
  else
  (if v7_89 = (-1) then
  nm (v8_89 + 1) fun x7 =>
  some (.inl (v8_89, x7))
  else
  (gr h 12 i0 10).bind fun o9 =>
  (ga h 51 o9 20 v8_89).bind fun x12 =>
  (gr h 12 i0 10).bind fun o15 =>
  (ga h 51 o15 20 v7_89).bind fun x18 =>
  (if x18 ≤ x12 then
  nm (v8_89 + 1) fun x21 =>
  some (.inl (v7_89, x21))
  else
  nm (v8_89 + 1) fun x23 =>
  some (.inl (v8_89, x23)))))
def B_X12_keptOf_43 (i0 : Nat) (a1 : Int32) (a2 : Int32) (t0_22 : Int32) (x1 : Int32) (x2 : Int32) (h : HP) (q : Int32 × Int32) : Option ((Int32 × Int32) ⊕ (Int32)) :=
  u2 q fun x3 x4 =>
  (if (gi h 12 i0 8) ≤ x4 then
  some (.inr x3)
  else
  (gr h 12 i0 9).bind fun o28 =>
  (ga h 50 o28 20 x4).bind fun x31 =>
  (if x31 = a1 then
  (if ((x1 >>> (x4 &&& 31)) &&& 1) = 0 then
  (F_X12_wasIn i0 x4 a2 h).bind fun x35 =>
  (if x35 = 4 then
  J_X12_keptOf_89 i0 a1 a2 t0_22 x1 x2 x3 x4 0 h
  else
  J_X12_keptOf_89 i0 a1 a2 t0_22 x1 x2 x3 x4 1 h)
  else
  J_X12_keptOf_89 i0 a1 a2 t0_22 x1 x2 x3 x4 0 h)
  else
  J_X12_keptOf_89 i0 a1 a2 t0_22 x1 x2 x3 x4 0 h))
def B_X12_keptOf_30 (i0 : Nat) (a1 : Int32) (a2 : Int32) (t0_22 : Int32) (h : HP) (q : Int32 × Int32) : Option ((Int32 × Int32) ⊕ (Int32)) :=
  u2 q fun x1 x2 =>
  (if t0_22 ≤ x2 then
  some (.inr x1)
  else
  (loopN LF (B_X12_keptOf_43 i0 a1 a2 t0_22 x1 x2 h) ((-1), 0)).bind fun x42 =>
  (if x42 = (-1) then
  nm ((x1 ||| 0)) fun x47 =>
  nm (x2 + 1) fun x49 =>
  some (.inl (x47, x49))
  else
  nm ((x1 ||| (1 <<< (x42 &&& 31)))) fun x43 =>
  nm (x2 + 1) fun x45 =>
  some (.inl (x43, x45))))
def J_X12_keptOf_22 (i0 : Nat) (a1 : Int32) (a2 : Int32) (t0_22 : Int32) (h : HP) : Option (Int32) :=
  (loopN LF (B_X12_keptOf_30 i0 a1 a2 t0_22 h) (0, 0)).bind fun x55 =>
  some x55
def F_X12_keptOf (i0 : Nat) (a1 : Int32) (a2 : Int32) (h : HP) : Option (Int32) :=
  (F_X12_partIn i0 3 a2 h).bind fun x57 =>
  (if x57 = (-1) then
  J_X12_keptOf_22 i0 a1 a2 1 h
  else
  (gr h 12 i0 25).bind fun o58 =>
  (ga h 63 o58 40 x57).bind fun x61 =>
  J_X12_keptOf_22 i0 a1 a2 x61 h)
set_option maxHeartbeats 4000000 in
set_option maxRecDepth 100000 in
theorem ok_X12_keptOf {l : Launch} {D : va_G} {cA : Nat → ClassId} {h : HP} {r : Int32}  (i0 : Nat) (a1 : Int32) (a2 : Int32) (al_0 : i0 < gn h 12) (hF : F_X12_keptOf i0 a1 a2 h = some r) : MI l D cA yX12_keptOf cX12_keptOf 10 (some .int) 1 24 (fun φ => [.ref (φ 12 i0), .int a1, .int a2]) h r h := by
  refine mk_I (plainFor_of_name (by decide)) (fun φ => Nat.le_of_ble_eq_true rfl) ?_
  intro p e s m args below meth c ls φ A Q X hW hS hl hfin
  have hx := X.1
  have hb := X.2.1
  have hl : lv_has ls 10 [(0, .ref (φ 12 i0)), (1, .int a1), (2, .int a2)] := hl
  unfold F_X12_keptOf at hF
  have j_22 : ∀ (t0_22 : Int32) (H : Heap) (locs : List Loc) (ls : Array Slot), J_X12_keptOf_22 i0 a1 a2 t0_22 h = some r → HW D cA A φ h H → va_S A s.heap H locs → lv_has ls 10 [(0, .ref (φ 12 i0)), (1, .int a1), (2, .int a2)] → W p l e (rmo 1 24 0 0) s m args below meth c H locs 0 0 Q (F0 m 22 ls [.int t0_22]) := by
    intro t0_22 H locs ls hF hW hS hl
    unfold J_X12_keptOf_22 at hF
    refine lv_istore (lv' := [(4, .int t0_22), (0, .ref (φ 12 i0)), (1, .int a1), (2, .int a2)]) hx hb dX12_keptOf_22 hl (by decide) rfl (fun ls hl => ?_)
    refine lv_iconst (v := 0) hx hb dX12_keptOf_24 (by decide) ?_
    refine lv_istore (lv' := [(5, .int 0), (4, .int t0_22), (0, .ref (φ 12 i0)), (1, .int a1), (2, .int a2)]) hx hb dX12_keptOf_25 hl (by decide) rfl (fun ls hl => ?_)
    refine lv_iconst (v := 0) hx hb dX12_keptOf_27 (by decide) ?_
    refine lv_istore (lv' := [(6, .int 0), (5, .int 0), (4, .int t0_22), (0, .ref (φ 12 i0)), (1, .int a1), (2, .int a2)]) hx hb dX12_keptOf_28 hl (by decide) rfl (fun ls hl => ?_)
    obtain ⟨q53, e54, hF⟩ := bn hF
    refine loop_w (f := B_X12_keptOf_30 i0 a1 a2 t0_22 h) (Z := fun q => ∀ (H : Heap) (locs : List Loc) (ls : Array Slot), HW D cA A φ h H → va_S A s.heap H locs → lv_has ls 10 [(0, .ref (φ 12 i0)), (1, .int a1), (2, .int a2), (4, .int t0_22), (5, .int (q.1)), (6, .int (q.2))] → W p l e (rmo 1 24 0 0) s m args below meth c H locs 0 0 Q (F0 m 30 ls [])) (K := fun q => ∀ (H : Heap) (locs : List Loc) (ls : Array Slot), HW D cA A φ h H → va_S A s.heap H locs → lv_has ls 10 [(5, .int q)] → W p l e (rmo 1 24 0 0) s m args below meth c H locs 0 0 Q (F0 m 159 ls [])) ?_ LF _ q53 e54 ?_ _ _ _ hW hS (lv_sub hl [3, 4, 5, 2, 1, 0] rfl)
    · intro q v hF hK H locs ls hW hS hl
      obtain ⟨x1, x2⟩ := q
      unfold B_X12_keptOf_30 at hF
      have hF := u2d hF
      have hl : lv_has ls 10 [(0, .ref (φ 12 i0)), (1, .int a1), (2, .int a2), (4, .int t0_22), (5, .int x1), (6, .int x2)] := hl
      refine lv_iload hx hb dX12_keptOf_30 (lv_at hl 5 rfl) ?_
      refine lv_iload hx hb dX12_keptOf_32 (lv_at hl 3 rfl) ?_
      refine lv_icmp_ge (tgt := 159) hx hb dX12_keptOf_34 (by decide) (fun c52 => ?_) (fun c52 => ?_)
      · have hF := it c52 hF
        obtain rfl := sj hF
        exact hK _ _ _ hW hS (lv_sub hl [4] rfl)
      · have hF := ie c52 hF
        refine lv_iconst (v := (-1)) hx hb dX12_keptOf_37 (by decide) ?_
        refine lv_istore (lv' := [(7, .int (-1)), (0, .ref (φ 12 i0)), (1, .int a1), (2, .int a2), (4, .int t0_22), (5, .int x1), (6, .int x2)]) hx hb dX12_keptOf_38 hl (by decide) rfl (fun ls hl => ?_)
        refine lv_iconst (v := 0) hx hb dX12_keptOf_40 (by decide) ?_
        refine lv_istore (lv' := [(8, .int 0), (7, .int (-1)), (0, .ref (φ 12 i0)), (1, .int a1), (2, .int a2), (4, .int t0_22), (5, .int x1), (6, .int x2)]) hx hb dX12_keptOf_41 hl (by decide) rfl (fun ls hl => ?_)
        obtain ⟨q40, e41, hF⟩ := bn hF
        refine loop_w (f := B_X12_keptOf_43 i0 a1 a2 t0_22 x1 x2 h) (Z := fun q => ∀ (H : Heap) (locs : List Loc) (ls : Array Slot), HW D cA A φ h H → va_S A s.heap H locs → lv_has ls 10 [(0, .ref (φ 12 i0)), (1, .int a1), (2, .int a2), (4, .int t0_22), (5, .int x1), (6, .int x2), (7, .int (q.1)), (8, .int (q.2))] → W p l e (rmo 1 24 0 0) s m args below meth c H locs 0 0 Q (F0 m 43 ls [])) (K := fun q => ∀ (H : Heap) (locs : List Loc) (ls : Array Slot), HW D cA A φ h H → va_S A s.heap H locs → lv_has ls 10 [(0, .ref (φ 12 i0)), (1, .int a1), (2, .int a2), (4, .int t0_22), (5, .int x1), (6, .int x2), (7, .int q)] → W p l e (rmo 1 24 0 0) s m args below meth c H locs 0 0 Q (F0 m 134 ls [])) ?_ LF _ q40 e41 ?_ _ _ _ hW hS (lv_sub hl [2, 3, 4, 5, 6, 7, 1, 0] rfl)
        · intro q v hF hK H locs ls hW hS hl
          obtain ⟨x3, x4⟩ := q
          unfold B_X12_keptOf_43 at hF
          have hF := u2d hF
          have hl : lv_has ls 10 [(0, .ref (φ 12 i0)), (1, .int a1), (2, .int a2), (4, .int t0_22), (5, .int x1), (6, .int x2), (7, .int x3), (8, .int x4)] := hl
          have j_89 : ∀ (v7_89 : Int32) (v8_89 : Int32) (t0_89 : Int32) (H : Heap) (locs : List Loc) (ls : Array Slot), J_X12_keptOf_89 i0 a1 a2 t0_22 x1 x2 v7_89 v8_89 t0_89 h = some v → HW D cA A φ h H → va_S A s.heap H locs → lv_has ls 10 [(0, .ref (φ 12 i0)), (1, .int a1), (2, .int a2), (4, .int t0_22), (5, .int x1), (6, .int x2), (7, .int v7_89), (8, .int v8_89)] → W p l e (rmo 1 24 0 0) s m args below meth c H locs 0 0 Q (F0 m 89 ls [.int t0_89]) := by
            intro v7_89 v8_89 t0_89 H locs ls hF hW hS hl
            unfold J_X12_keptOf_89 at hF
            refine lv_istore (lv' := [(9, .int t0_89), (0, .ref (φ 12 i0)), (1, .int a1), (2, .int a2), (4, .int t0_22), (5, .int x1), (6, .int x2), (7, .int v7_89), (8, .int v8_89)]) hx hb dX12_keptOf_89 hl (by decide) rfl (fun ls hl => ?_)
            refine lv_iload hx hb dX12_keptOf_91 (lv_at hl 0 rfl) ?_
            refine lv_if_eq (tgt := 124) hx hb dX12_keptOf_93 (by decide) (fun c27 => ?_) (fun c27 => ?_)
            · have hF := it c27 hF
              refine lv_iload hx hb dX12_keptOf_124 (lv_at hl 7 rfl) ?_
              refine lv_istore (lv' := [(7, .int v7_89), (9, .int t0_89), (0, .ref (φ 12 i0)), (1, .int a1), (2, .int a2), (4, .int t0_22), (5, .int x1), (6, .int x2), (8, .int v8_89)]) hx hb dX12_keptOf_126 hl (by decide) rfl (fun ls hl => ?_)
              obtain ⟨x5, e6, hF⟩ := nmx hF
              refine lv_iinc (v := x5) (lv' := [(8, .int x5), (7, .int v7_89), (9, .int t0_89), (0, .ref (φ 12 i0)), (1, .int a1), (2, .int a2), (4, .int t0_22), (5, .int x1), (6, .int x2)]) hx hb dX12_keptOf_128 hl (k := 8) rfl (by rw [e6]; rfl) (by decide) rfl (fun ls hl => ?_)
              refine lv_goto (tgt := 43) hx hb dX12_keptOf_131 (by decide) ?_
              obtain rfl := sj hF
              exact hK _ _ _ hW hS (lv_sub hl [3, 4, 5, 6, 7, 8, 1, 0] rfl)
            · have hF := ie c27 hF
              refine lv_iload hx hb dX12_keptOf_96 (lv_at hl 7 rfl) ?_
              refine lv_iconst (v := (-1)) hx hb dX12_keptOf_98 (by decide) ?_
              refine lv_icmp_eq (tgt := 119) hx hb dX12_keptOf_99 (by decide) (fun c26 => ?_) (fun c26 => ?_)
              · have hF := it c26 hF
                refine lv_iload hx hb dX12_keptOf_119 (lv_at hl 8 rfl) ?_
                refine lv_goto (tgt := 126) hx hb dX12_keptOf_121 (by decide) ?_
                refine lv_istore (lv' := [(7, .int v8_89), (9, .int t0_89), (0, .ref (φ 12 i0)), (1, .int a1), (2, .int a2), (4, .int t0_22), (5, .int x1), (6, .int x2), (8, .int v8_89)]) hx hb dX12_keptOf_126 hl (by decide) rfl (fun ls hl => ?_)
                obtain ⟨x7, e8, hF⟩ := nmx hF
                refine lv_iinc (v := x7) (lv' := [(8, .int x7), (7, .int v8_89), (9, .int t0_89), (0, .ref (φ 12 i0)), (1, .int a1), (2, .int a2), (4, .int t0_22), (5, .int x1), (6, .int x2)]) hx hb dX12_keptOf_128 hl (k := 8) rfl (by rw [e8]; rfl) (by decide) rfl (fun ls hl => ?_)
                refine lv_goto (tgt := 43) hx hb dX12_keptOf_131 (by decide) ?_
                obtain rfl := sj hF
                exact hK _ _ _ hW hS (lv_sub hl [3, 4, 5, 6, 7, 8, 1, 0] rfl)
              · have hF := ie c26 hF
                refine lv_aload_n hx hb dX12_keptOf_102 rfl (lv_at hl 1 rfl) ?_
                obtain ⟨o9, e10, hF⟩ := bn hF
                refine r_getr X hW al_0 fl_12_28 e10 dX12_keptOf_103 (fun al11 => ?_)
                refine lv_iload hx hb dX12_keptOf_106 (lv_at hl 8 rfl) ?_
                obtain ⟨x12, e13, hF⟩ := bn hF
                obtain ⟨b14, e13⟩ := ga_s e13
                refine r_iald X hW al11 rfl b14 dX12_keptOf_108 ?_
                refine nmi e13 ?_
                refine lv_aload_n hx hb dX12_keptOf_109 rfl (lv_at hl 1 rfl) ?_
                obtain ⟨o15, e16, hF⟩ := bn hF
                refine r_getr X hW al_0 fl_12_28 e16 dX12_keptOf_110 (fun al17 => ?_)
                refine lv_iload hx hb dX12_keptOf_113 (lv_at hl 7 rfl) ?_
                obtain ⟨x18, e19, hF⟩ := bn hF
                obtain ⟨b20, e19⟩ := ga_s e19
                refine r_iald X hW al17 rfl b20 dX12_keptOf_115 ?_
                refine nmi e19 ?_
                refine lv_icmp_ge (tgt := 124) hx hb dX12_keptOf_116 (by decide) (fun c25 => ?_) (fun c25 => ?_)
                · have hF := it c25 hF
                  refine lv_iload hx hb dX12_keptOf_124 (lv_at hl 7 rfl) ?_
                  refine lv_istore (lv' := [(7, .int v7_89), (9, .int t0_89), (0, .ref (φ 12 i0)), (1, .int a1), (2, .int a2), (4, .int t0_22), (5, .int x1), (6, .int x2), (8, .int v8_89)]) hx hb dX12_keptOf_126 hl (by decide) rfl (fun ls hl => ?_)
                  obtain ⟨x21, e22, hF⟩ := nmx hF
                  refine lv_iinc (v := x21) (lv' := [(8, .int x21), (7, .int v7_89), (9, .int t0_89), (0, .ref (φ 12 i0)), (1, .int a1), (2, .int a2), (4, .int t0_22), (5, .int x1), (6, .int x2)]) hx hb dX12_keptOf_128 hl (k := 8) rfl (by rw [e22]; rfl) (by decide) rfl (fun ls hl => ?_)
                  refine lv_goto (tgt := 43) hx hb dX12_keptOf_131 (by decide) ?_
                  obtain rfl := sj hF
                  exact hK _ _ _ hW hS (lv_sub hl [3, 4, 5, 6, 7, 8, 1, 0] rfl)
                · have hF := ie c25 hF
                  refine lv_iload hx hb dX12_keptOf_119 (lv_at hl 8 rfl) ?_
                  refine lv_goto (tgt := 126) hx hb dX12_keptOf_121 (by decide) ?_
                  refine lv_istore (lv' := [(7, .int v8_89), (9, .int t0_89), (0, .ref (φ 12 i0)), (1, .int a1), (2, .int a2), (4, .int t0_22), (5, .int x1), (6, .int x2), (8, .int v8_89)]) hx hb dX12_keptOf_126 hl (by decide) rfl (fun ls hl => ?_)
                  obtain ⟨x23, e24, hF⟩ := nmx hF
                  refine lv_iinc (v := x23) (lv' := [(8, .int x23), (7, .int v8_89), (9, .int t0_89), (0, .ref (φ 12 i0)), (1, .int a1), (2, .int a2), (4, .int t0_22), (5, .int x1), (6, .int x2)]) hx hb dX12_keptOf_128 hl (k := 8) rfl (by rw [e24]; rfl) (by decide) rfl (fun ls hl => ?_)
                  refine lv_goto (tgt := 43) hx hb dX12_keptOf_131 (by decide) ?_
                  obtain rfl := sj hF
                  exact hK _ _ _ hW hS (lv_sub hl [3, 4, 5, 6, 7, 8, 1, 0] rfl)
          refine lv_iload hx hb dX12_keptOf_43 (lv_at hl 7 rfl) ?_
          refine lv_aload_n hx hb dX12_keptOf_45 rfl (lv_at hl 0 rfl) ?_
          refine r_geti X hW al_0 fl_12_167 dX12_keptOf_46 ?_
          refine lv_icmp_ge (tgt := 134) hx hb dX12_keptOf_49 (by decide) (fun c39 => ?_) (fun c39 => ?_)
          · have hF := it c39 hF
            obtain rfl := sj hF
            exact hK _ _ _ hW hS (lv_sub hl [0, 1, 2, 3, 4, 5, 6] rfl)
          · have hF := ie c39 hF
            refine lv_aload_n hx hb dX12_keptOf_52 rfl (lv_at hl 0 rfl) ?_
            obtain ⟨o28, e29, hF⟩ := bn hF
            refine r_getr X hW al_0 fl_12_25 e29 dX12_keptOf_53 (fun al30 => ?_)
            refine lv_iload hx hb dX12_keptOf_56 (lv_at hl 7 rfl) ?_
            obtain ⟨x31, e32, hF⟩ := bn hF
            obtain ⟨b33, e32⟩ := ga_s e32
            refine r_iald X hW al30 rfl b33 dX12_keptOf_58 ?_
            refine nmi e32 ?_
            refine lv_iload_n hx hb dX12_keptOf_59 rfl (lv_at hl 1 rfl) ?_
            refine lv_icmp_ne (tgt := 88) hx hb dX12_keptOf_60 (by decide) (fun c38 => ?_) (fun c38 => ?_)
            · have hF := ie c38 hF
              refine lv_iconst (v := 0) hx hb dX12_keptOf_88 (by decide) ?_
              exact j_89 x3 x4 0 _ _ _ hF hW hS (lv_sub hl [0, 1, 2, 3, 4, 5, 6, 7] rfl)
            · have hF := it c38 hF
              refine lv_iload hx hb dX12_keptOf_63 (lv_at hl 4 rfl) ?_
              refine lv_iload hx hb dX12_keptOf_65 (lv_at hl 7 rfl) ?_
              refine lv_ishr hx hb dX12_keptOf_67 ?_
              refine lv_iconst (v := 1) hx hb dX12_keptOf_68 (by decide) ?_
              refine lv_iand hx hb dX12_keptOf_69 ?_
              refine lv_if_ne (tgt := 88) hx hb dX12_keptOf_70 (by decide) (fun c37 => ?_) (fun c37 => ?_)
              · have hF := ie c37 hF
                refine lv_iconst (v := 0) hx hb dX12_keptOf_88 (by decide) ?_
                exact j_89 x3 x4 0 _ _ _ hF hW hS (lv_sub hl [0, 1, 2, 3, 4, 5, 6, 7] rfl)
              · have hF := it c37 hF
                refine lv_aload_n hx hb dX12_keptOf_73 rfl (lv_at hl 0 rfl) ?_
                refine lv_iload hx hb dX12_keptOf_74 (lv_at hl 7 rfl) ?_
                refine lv_iload_n hx hb dX12_keptOf_76 rfl (lv_at hl 2 rfl) ?_
                obtain ⟨x35, e34, hF⟩ := bn hF
                refine rc_i (Af := fun φ => [.ref (φ 12 i0), .int x4, .int a2]) X hW hS ⟨Nat.zero_le _, Nat.zero_le _⟩ (rn_V (As := [.int x4, .int a2]) (rest := []) X hW hS cw_12_197 al_0 rfl rfl rfl ⟨Nat.le_of_ble_eq_true rfl, Nat.le_of_ble_eq_true rfl⟩ rfl hl.1 rfl (Nat.le_of_ble_eq_true rfl) dX12_keptOf_77) (ok_X12_wasIn i0 x4 a2 al_0 e34) (fun H locs hW hS => ?_)
                refine lv_iconst (v := 4) hx hb dX12_keptOf_80 (by decide) ?_
                refine lv_icmp_eq (tgt := 88) hx hb dX12_keptOf_81 (by decide) (fun c36 => ?_) (fun c36 => ?_)
                · have hF := it c36 hF
                  refine lv_iconst (v := 0) hx hb dX12_keptOf_88 (by decide) ?_
                  exact j_89 x3 x4 0 _ _ _ hF hW hS (lv_sub hl [0, 1, 2, 3, 4, 5, 6, 7] rfl)
                · have hF := ie c36 hF
                  refine lv_iconst (v := 1) hx hb dX12_keptOf_84 (by decide) ?_
                  refine lv_goto (tgt := 89) hx hb dX12_keptOf_85 (by decide) ?_
                  exact j_89 x3 x4 1 _ _ _ hF hW hS (lv_sub hl [0, 1, 2, 3, 4, 5, 6, 7] rfl)
        · intro H locs ls hW hS hl
          obtain ⟨x42, rfl⟩ : ∃ z, z = q40 := ⟨_, rfl⟩
          have hl : lv_has ls 10 [(0, .ref (φ 12 i0)), (1, .int a1), (2, .int a2), (4, .int t0_22), (5, .int x1), (6, .int x2), (7, .int x42)] := hl
          refine lv_iload hx hb dX12_keptOf_134 (lv_at hl 4 rfl) ?_
          refine lv_iload hx hb dX12_keptOf_136 (lv_at hl 6 rfl) ?_
          refine lv_iconst (v := (-1)) hx hb dX12_keptOf_138 (by decide) ?_
          refine lv_icmp_ne (tgt := 146) hx hb dX12_keptOf_139 (by decide) (fun c51 => ?_) (fun c51 => ?_)
          · have hF := ie c51 hF
            refine lv_iconst (v := 1) hx hb dX12_keptOf_146 (by decide) ?_
            refine lv_iload hx hb dX12_keptOf_147 (lv_at hl 6 rfl) ?_
            refine lv_ishl hx hb dX12_keptOf_149 ?_
            refine lv_ior hx hb dX12_keptOf_150 ?_
            obtain ⟨x43, e44, hF⟩ := nmx hF
            refine nmi e44 ?_
            refine lv_istore (lv' := [(5, .int x43), (0, .ref (φ 12 i0)), (1, .int a1), (2, .int a2), (4, .int t0_22), (6, .int x2), (7, .int x42)]) hx hb dX12_keptOf_151 hl (by decide) rfl (fun ls hl => ?_)
            obtain ⟨x45, e46, hF⟩ := nmx hF
            refine lv_iinc (v := x45) (lv' := [(6, .int x45), (5, .int x43), (0, .ref (φ 12 i0)), (1, .int a1), (2, .int a2), (4, .int t0_22), (7, .int x42)]) hx hb dX12_keptOf_153 hl (k := 5) rfl (by rw [e46]; rfl) (by decide) rfl (fun ls hl => ?_)
            refine lv_goto (tgt := 30) hx hb dX12_keptOf_156 (by decide) ?_
            obtain rfl := sj hF
            exact hK _ _ _ hW hS (lv_sub hl [2, 3, 4, 5, 1, 0] rfl)
          · have hF := it c51 hF
            refine lv_iconst (v := 0) hx hb dX12_keptOf_142 (by decide) ?_
            refine lv_goto (tgt := 150) hx hb dX12_keptOf_143 (by decide) ?_
            refine lv_ior hx hb dX12_keptOf_150 ?_
            obtain ⟨x47, e48, hF⟩ := nmx hF
            refine nmi e48 ?_
            refine lv_istore (lv' := [(5, .int x47), (0, .ref (φ 12 i0)), (1, .int a1), (2, .int a2), (4, .int t0_22), (6, .int x2), (7, .int x42)]) hx hb dX12_keptOf_151 hl (by decide) rfl (fun ls hl => ?_)
            obtain ⟨x49, e50, hF⟩ := nmx hF
            refine lv_iinc (v := x49) (lv' := [(6, .int x49), (5, .int x47), (0, .ref (φ 12 i0)), (1, .int a1), (2, .int a2), (4, .int t0_22), (7, .int x42)]) hx hb dX12_keptOf_153 hl (k := 5) rfl (by rw [e50]; rfl) (by decide) rfl (fun ls hl => ?_)
            refine lv_goto (tgt := 30) hx hb dX12_keptOf_156 (by decide) ?_
            obtain rfl := sj hF
            exact hK _ _ _ hW hS (lv_sub hl [2, 3, 4, 5, 1, 0] rfl)
    · intro H locs ls hW hS hl
      obtain ⟨x55, rfl⟩ : ∃ z, z = q53 := ⟨_, rfl⟩
      have hl : lv_has ls 10 [(5, .int x55)] := hl
      refine lv_iload hx hb dX12_keptOf_159 (lv_at hl 0 rfl) ?_
      obtain rfl := sj hF
      exact hfin _ _ _ _ hW hS dX12_keptOf_161
  refine lv_aload_n hx hb dX12_keptOf_0 rfl (lv_at hl 0 rfl) ?_
  refine lv_iconst (v := 3) hx hb dX12_keptOf_1 (by decide) ?_
  refine lv_iload_n hx hb dX12_keptOf_2 rfl (lv_at hl 2 rfl) ?_
  obtain ⟨x57, e56, hF⟩ := bn hF
  refine rc_i (Af := fun φ => [.ref (φ 12 i0), .int 3, .int a2]) X hW hS ⟨Nat.zero_le _, Nat.zero_le _⟩ (rn_V (As := [.int 3, .int a2]) (rest := []) X hW hS cw_12_238 al_0 rfl rfl rfl ⟨Nat.le_of_ble_eq_true rfl, Nat.le_of_ble_eq_true rfl⟩ rfl hl.1 rfl (Nat.le_of_ble_eq_true rfl) dX12_keptOf_3) (ok_X12_partIn i0 3 a2 al_0 e56) (fun H locs hW hS => ?_)
  refine lv_istore_n (lv' := [(3, .int x57), (0, .ref (φ 12 i0)), (1, .int a1), (2, .int a2)]) hx hb dX12_keptOf_6 rfl hl (by decide) rfl (fun ls hl => ?_)
  refine lv_iload_n hx hb dX12_keptOf_7 rfl (lv_at hl 0 rfl) ?_
  refine lv_iconst (v := (-1)) hx hb dX12_keptOf_8 (by decide) ?_
  refine lv_icmp_ne (tgt := 16) hx hb dX12_keptOf_9 (by decide) (fun c64 => ?_) (fun c64 => ?_)
  · have hF := ie c64 hF
    refine lv_aload_n hx hb dX12_keptOf_16 rfl (lv_at hl 1 rfl) ?_
    obtain ⟨o58, e59, hF⟩ := bn hF
    refine r_getr X hW al_0 fl_12_64 e59 dX12_keptOf_17 (fun al60 => ?_)
    refine lv_iload_n hx hb dX12_keptOf_20 rfl (lv_at hl 0 rfl) ?_
    obtain ⟨x61, e62, hF⟩ := bn hF
    obtain ⟨b63, e62⟩ := ga_s e62
    refine r_iald X hW al60 rfl b63 dX12_keptOf_21 ?_
    refine nmi e62 ?_
    exact j_22 x61 _ _ _ hF hW hS (lv_sub hl [1, 2, 3] rfl)
  · have hF := it c64 hF
    refine lv_iconst (v := 1) hx hb dX12_keptOf_12 (by decide) ?_
    refine lv_goto (tgt := 22) hx hb dX12_keptOf_13 (by decide) ?_
    exact j_22 1 _ _ _ hF hW hS (lv_sub hl [1, 2, 3] rfl)
