/-! stage III: the laying, the class, all -/
def dfI (m : Nat → Nat → Int32) : Nat → Nat → Int := fun u b => (dfN m u b : Int)
theorem dfI_cb {m : Nat → Nat → Int32} (W : MW m) {B : Nat} (_hB : B ≤ 20) : ∀ u b, u < NU m → b < B → cbV m u b = true → 0 ≤ dfI m u b ∧ dfI m u b ≤ 495 := by
  intro u b hu _ h
  have := dfN_cb W hu h
  unfold dfI
  omega
theorem cC_b {m : Nat → Nat → Int32} (W : MW m) {u b : Nat} (hu : u < NU m) (hb : b < NB m) : -200000000000000 ≤ cC (dfI m) u b ∧ cC (dfI m) u b ≤ 2100000000000000 := by
  have h1 := dfN_le W hu hb
  have h2 := b_nu W
  have h3 := b_nb W
  have h4 := fig_b u (by omega)
  unfold cC dfI
  generalize 21 ^ (7 - u) = p at h4 ⊢
  have q1 : (b : Int) * (p : Int) ≤ 20 * (p : Int) := Int.mul_le_mul_of_nonneg_right (by omega) (by omega)
  have q0 : 0 ≤ (b : Int) * (p : Int) := Int.mul_nonneg (by omega) (by omega)
  generalize (b : Int) * (p : Int) = Q at q0 q1 ⊢
  omega
theorem e_takers {X : HP} (R : RQ X) {b : Nat} (hb : b < NB (ms X)) (n2 : gi X 5 0 2 = nI (NU (ms X))) : F_X5_takersOf 0 0 b X = some (nI (mskB (fun u => cbV (ms X) u b) (NU (ms X)))) := by
  have hU := b_nu R.m
  have key : loopN LF (B_X5_takersOf_5 0 0 b X) (0, 0) = some (nI (mskB (fun u => cbV (ms X) u b) (NU (ms X)))) := by
    refine loopS (fun u => (nI (mskB (fun u => cbV (ms X) u b) u), nI u)) (NU (ms X)) (by omega) ?_ ?_
    · intro u hu
      obtain ⟨o, U⟩ := un_o R hu
      unfold B_X5_takersOf_5
      simp only [nm, u2]
      rw [n2, if_neg (nI_ge hu (by omega)), gar_v (show u < 8 by omega) (by omega), U.1, Option.bind_some, e_couldBe R hu U hb, Option.bind_some, ite_b, bt_or (show u < 31 by omega), nI_1]
      simp only [mskB]
      split <;> rfl
    · unfold B_X5_takersOf_5
      simp only [u2]
      rw [n2, if_pos (nI_le (Nat.le_refl _) (by omega))]
  unfold F_X5_takersOf
  rw [key]
  rfl
theorem e_notLaid {u : Nat} (hu : u < 8) (h : HP) : F_X5_notLaid (nI u) h = some (154922431942656 + 20 * FIG u) := by
  unfold F_X5_notLaid
  rw [fg_v hu, Option.bind_some]
theorem e_layBell {X : HP} (R : RQ X) {b : Nat} (hb : b < NB (ms X)) (n2 : gi X 5 0 2 = nI (NU (ms X))) {F : Nat → Option Int} (d : DPI (NU (ms X)) (cbV (ms X)) (cC (dfI (ms X))) (vC (NU (ms X))) b F) (tb : TB5 (NU (ms X)) F X) :
    ∃ Y G, F_X5_layBell 0 0 b (nI b) (nI (mskB (fun u => cbV (ms X) u b) (NU (ms X)))) X = some (dp Y) ∧ EX S5 X Y ∧ gi Y 5 0 2 = gi X 5 0 2 ∧ DPI (NU (ms X)) (cbV (ms X)) (cC (dfI (ms X))) (vC (NU (ms X))) (b + 1) G ∧ TB5 (NU (ms X)) G Y := by
  have hU := b_nu R.m
  have hB := b_nb R.m
  have l1 : ∃ r : DP, loopN LF (B_X5_layBell_3 0 0 b (nI b) (nI (mskB (fun u => cbV (ms X) u b) (NU (ms X)))) X) (0, dp X) = some r ∧ ∃ Y, r = dp Y ∧ EX S36 X Y ∧ ∀ u, u < NU (ms X) → (gl Y 36 0 u).toInt = cC (dfI (ms X)) u b := by
    refine loopI (fun j q => ∃ Y, q = (nI j, dp Y) ∧ j ≤ NU (ms X) ∧ EX S36 X Y ∧ ∀ u, u < j → (gl Y 36 0 u).toInt = cC (dfI (ms X)) u b) _ (NU (ms X)) (by omega) ⟨X, rfl, Nat.zero_le _, EX.rfl' X, fun u hu => absurd hu (Nat.not_lt_zero u)⟩ ?_
    rintro j q hj ⟨Y, rfl, -, xY, y1⟩
    have hwd : wd X (dp Y) = Y := wd_dp xY.1
    have x5 : EX S5 X Y := xY.mono S36_5
    have RY : RQ Y := (x5.sq S5_la).rl R
    have eY : ms Y = ms X := (x5.sq S5_la).mq
    have n2' : gi Y 5 0 2 = nI (NU (ms X)) := by rw [xY.2.1 5 0 2 rfl]; exact n2
    by_cases c : j < NU (ms X)
    · left
      obtain ⟨o, U⟩ := un_o RY (u := j) (by rw [eY]; exact c)
      have ed := e_difference RY (u := j) (by rw [eY]; exact c) U (b := b) (by rw [eY]; exact hb)
      rw [eY] at ed
      refine ⟨(nI (j + 1), dp (sL Y 36 0 j ((nI (dfN (ms X) j b)).toInt64 * 37822859361 + (nI b).toInt64 * FIG j - (154922431942656 + 20 * FIG j)))), c, ?_, _, rfl, by omega, xY.sL 0 _ rfl, fun u hu => ?_⟩
      · unfold B_X5_layBell_3
        simp only [nm, u2, hwd]
        rw [n2', if_neg (nI_ge c (by omega)), rf_5_1 RY.1, Option.bind_some, gar_v (show j < 8 by omega) (by omega), U.1, Option.bind_some, ed, Option.bind_some, fg_v (show j < 8 by omega), Option.bind_some, e_notLaid (show j < 8 by omega), Option.bind_some, sal_v (show j < 8 by omega) (by omega), Option.bind_some, nI_1]
      · rw [gl_sl]
        by_cases q : u = j
        · subst q
          rw [if_pos ⟨rfl, rfl, rfl⟩, chg_v (by omega) (by omega) (dfN_le R.m c hb)]
          rfl
        · rw [if_neg (fun z => q z.2.2)]
          exact y1 u (by omega)
    · right
      have : j = NU (ms X) := by omega
      subst this
      refine ⟨dp Y, ?_, Y, rfl, xY, y1⟩
      unfold B_X5_layBell_3
      simp only [nm, u2, hwd]
      rw [n2', if_pos (nI_le (Nat.le_refl _) (by omega))]
  obtain ⟨r, l1, Y, rfl, xY, y1⟩ := l1
  have hwd : wd X (dp Y) = Y := wd_dp xY.1
  have x5 : EX S5 X Y := xY.mono S36_5
  have RY : RQ Y := (x5.sq S5_la).rl R
  have n2' : gi Y 5 0 2 = nI (NU (ms X)) := by rw [xY.2.1 5 0 2 rfl]; exact n2
  have tbY : TB5 (NU (ms X)) F Y := ⟨fun S hS e => by rw [xY.2.2 35 0 S rfl]; exact tb.1 S hS e, fun S v hS e => by rw [xY.2.2 35 0 S rfl]; exact tb.2 S v hS e⟩
  obtain ⟨r, l2, Z, G, rfl, xZ, dZ, tZ⟩ := e_layset (X := Y) (df := dfI (ms X)) hU (by omega) d (dfI_cb R.m (B := 20) (by omega)) (rf_5_0 RY.1) (rf_5_1 RY.1) n2' y1 (fun u hu => cC_b R.m hu hb) tbY
  refine ⟨Z, G, ?_, x5.trans (xZ.mono S35_5), ?_, dZ, tZ⟩
  · unfold F_X5_layBell
    rw [l1, Option.bind_some]
    simp only [nm, hwd]
    rw [n2', bt_shl1 (by omega), l2, Option.bind_some, wd_dp xZ.1]
  · rw [xZ.2.1 5 0 2 rfl, xY.2.1 5 0 2 rfl]
theorem e_filll (h : HP) (v : Int64) : ∃ Y, F_J_filll_35 0 v h = some (dp Y) ∧ EX S35 h Y ∧ ∀ s, s < 256 → gl Y 35 0 s = v := by
  have l1 : ∃ r : DP, loopN LF (B_J_filll_35_6 0 v h) (0, dp h) = some r ∧ ∃ Y, r = dp Y ∧ EX S35 h Y ∧ ∀ s, s < 256 → gl Y 35 0 s = v := by
    refine loopI (fun j q => ∃ Y, q = (nI j, dp Y) ∧ EX S35 h Y ∧ ∀ s, s < j → gl Y 35 0 s = v) _ 256 (by omega) ⟨h, rfl, EX.rfl' h, fun s hs => absurd hs (Nat.not_lt_zero s)⟩ ?_
    rintro j q hj ⟨Y, rfl, xY, y1⟩
    have hwd : wd h (dp Y) = Y := wd_dp xY.1
    by_cases c : j < 256
    · left
      refine ⟨(nI (j + 1), dp (sL Y 35 0 j v)), c, ?_, _, rfl, xY.sL 0 _ rfl, fun s hs => ?_⟩
      · unfold B_J_filll_35_6
        simp only [nm, u2, hwd]
        rw [if_neg (show ¬ (256 : Int32) ≤ nI j from nI_ge (b := 256) c (by omega)), sal_v (show j < 256 by omega) (by omega), Option.bind_some, nI_1]
      · rw [gl_sl]
        by_cases q : s = j
        · rw [if_pos ⟨rfl, rfl, q⟩]
        · rw [if_neg (fun z => q z.2.2)]; exact y1 s (by omega)
    · right
      refine ⟨dp Y, ?_, Y, rfl, xY, fun s hs => y1 s (by omega)⟩
      unfold B_J_filll_35_6
      simp only [nm, u2, hwd]
      rw [if_pos (show (256 : Int32) ≤ nI j from nI_le (a := 256) (by omega) (by omega))]
  obtain ⟨r, l1, Y, rfl, xY, y1⟩ := l1
  refine ⟨Y, ?_, xY, y1⟩
  unfold F_J_filll_35
  rw [l1, Option.bind_some]
  simp only [nm]
  rw [wd_dp xY.1]
theorem vC_b : ∀ j, j ≤ 8 → 0 ≤ vC j ∧ vC j ≤ j * 200000000000000 := by
  intro j
  induction j with
  | zero => intro _; exact ⟨Int.le_refl _, Int.le_refl _⟩
  | succ j ih =>
    intro h
    have h1 := ih (by omega)
    have h2 := fig_b j (by omega)
    show 0 ≤ vC j + (154922431942656 + 20 * ((21 ^ (7 - j) : Nat) : Int)) ∧ vC j + (154922431942656 + 20 * ((21 ^ (7 - j) : Nat) : Int)) ≤ _
    generalize 21 ^ (7 - j) = p at h2 ⊢
    generalize vC j = w at h1 ⊢
    omega
/-- nobody is laid: the worth of that -/
theorem e_lay43 {X : HP} {U : Nat} (hU : U ≤ 8) (G : gR X.2.2) (n2 : gi X 5 0 2 = nI U) (z : (gl X 35 0 0).toInt = 0) (x8 : Int32) :
    ∃ r : DP, loopN LF (B_X5_layAll_43 0 0 0 x8 X) (0, dp X) = some r ∧ ∃ Y, r = dp Y ∧ EX S35 X Y ∧ (gl Y 35 0 0).toInt = vC U ∧ ∀ s, s ≠ 0 → gl Y 35 0 s = gl X 35 0 s := by
  refine loopI (fun j q => ∃ Y, q = (nI j, dp Y) ∧ j ≤ U ∧ EX S35 X Y ∧ (gl Y 35 0 0).toInt = vC j ∧ ∀ s, s ≠ 0 → gl Y 35 0 s = gl X 35 0 s) _ U (by omega) ⟨X, rfl, Nat.zero_le _, EX.rfl' X, z, fun _ _ => rfl⟩ ?_
  rintro j q hj ⟨Y, rfl, -, xY, y1, y2⟩
  have hwd : wd X (dp Y) = Y := wd_dp xY.1
  have GY : gR Y.2.2 := by rw [xY.1]; exact G
  have n2' : gi Y 5 0 2 = nI U := by rw [xY.2.1 5 0 2 rfl]; exact n2
  by_cases c : j < U
  · left
    have b1 := vC_b j (by omega)
    have b2 := fig_b j (by omega)
    have e2 := nl_v (fig_v j (by omega)) b2
    have es : (gl Y 35 0 0 + (154922431942656 + 20 * FIG j)).toInt = vC (j + 1) := by
      show _ = vC j + (154922431942656 + 20 * ((21 ^ (7 - j) : Nat) : Int))
      generalize 21 ^ (7 - j) = p at b2 e2 ⊢
      generalize vC j = w at b1 y1 ⊢
      generalize 154922431942656 + 20 * FIG j = C at e2 ⊢
      have k1 : -9223372036854775808 ≤ w + (154922431942656 + 20 * (p : Int)) := by omega
      have k2 : w + (154922431942656 + 20 * (p : Int)) < 9223372036854775808 := by omega
      have := fb_addL (x := gl Y 35 0 0) (y := C) (by rw [y1, e2]; exact k1) (by rw [y1, e2]; exact k2)
      rw [this, y1, e2]
    refine ⟨(nI (j + 1), dp (sL Y 35 0 0 (gl Y 35 0 0 + (154922431942656 + 20 * FIG j)))), c, ?_, _, rfl, by omega, xY.sL 0 _ rfl, ?_, fun s hs => ?_⟩
    · have g0 : gal Y 35 0 256 0 = some (gl Y 35 0 0) := gal_v (m := 0) (by omega) (by omega)
      have s0 : ∀ v, sal Y 35 0 256 0 v = some (sL Y 35 0 0 v) := fun v => sal_v (m := 0) (by omega) (by omega)
      unfold B_X5_layAll_43
      simp only [nm, u2, hwd]
      rw [n2', if_neg (nI_ge c (by omega)), rf_5_0 GY, Option.bind_some, g0, Option.bind_some, e_notLaid (show j < 8 by omega), Option.bind_some, s0, Option.bind_some, nI_1]
    · rw [gl_sl, if_pos ⟨rfl, rfl, rfl⟩]; exact es
    · rw [gl_sl, if_neg (fun q => hs q.2.2)]; exact y2 s hs
  · right
    have : j = U := by omega
    subst this
    refine ⟨dp Y, ?_, Y, rfl, xY, y1, y2⟩
    unfold B_X5_layAll_43
    simp only [nm, u2, hwd]
    rw [n2', if_pos (nI_le (Nat.le_refl _) (by omega))]
def S53 (k s : Nat) : Bool := Nat.beq k 5
theorem S53_5 : ∀ k s, S5 k s = false → S53 k s = false := by
  intro k s e
  unfold S5 at e
  simp only [Bool.or_eq_false_iff] at e
  exact e.1
theorem dm_none (U : Nat) : dm U (fun _ => 20) = 0 := by
  apply Nat.eq_of_testBit_eq
  intro i
  rw [dm_bit, Nat.zero_testBit, decide_eq_false (show ¬ ((20 : Nat) ≠ 20) by omega), Bool.and_false]
/-- the least worth of all sets -/
theorem e_lay138 {X : HP} {U B : Nat} {ok : Nat → Nat → Bool} {df : Nat → Nat → Int} {G : Nat → Option Int} (hU : U ≤ 8) (hB : B ≤ 20) (r0 : gr X 5 0 0 = some 0) (d : DPI U ok (cC df) (vC U) B G) (tb : TB5 U G X)
    (hd : ∀ u b, u < U → b < B → ok u b = true → 0 ≤ df u b ∧ df u b ≤ 495) (e3 : gl X 5 0 3 = gl X 35 0 0) :
    ∃ r : DP, loopN LF (B_X5_layAll_138 0 (nI (2 ^ U)) X) (1, dp X) = some r ∧ ∃ Y g, r = dp Y ∧ EX S53 X Y ∧ (∀ s, gi Y 5 0 s = gi X 5 0 s) ∧ OPT U ok df B g ∧ (gl Y 5 0 3).toInt = vC U + VS U (cC df) g := by
  have p8 := pow8 hU
  have pU : 0 < 2 ^ U := Nat.pow_pos (by omega)
  have n0 : AS U ok B (fun _ => 20) := ⟨fun u _ => Or.inl rfl, fun _ _ _ _ _ => Or.inl rfl⟩
  obtain ⟨v0, z1, -⟩ := d.2 _ n0
  rw [dm_none] at z1
  obtain ⟨g0, ag0, -, vg0⟩ := d.1 0 v0 pU z1
  refine loopI (fun j q => ∃ Y, q = (nI (1 + j), dp Y) ∧ 1 + j ≤ 2 ^ U ∧ EX S53 X Y ∧ (∀ s, gi Y 5 0 s = gi X 5 0 s) ∧ ∃ g, AS U ok B g ∧ (gl Y 5 0 3).toInt = vC U + VS U (cC df) g ∧ ∀ S v, S < 1 + j → G S = some v → (gl Y 5 0 3).toInt ≤ v) _ (2 ^ U - 1) (by omega) ⟨X, rfl, by omega, EX.rfl' X, fun _ => rfl, g0, ag0, by rw [e3, tb.2 0 v0 pU z1]; exact vg0, fun S v hS e => by
    have : S = 0 := by omega
    subst this
    rw [e3, tb.2 0 v pU e]
    exact Int.le_refl _⟩ ?_
  rintro j q hj ⟨Y, rfl, hj2, xY, y0, g, ag, yg, yl⟩
  have hwd : wd X (dp Y) = Y := wd_dp xY.1
  have r0' : gr Y 5 0 0 = some 0 := by rw [gr_22 xY.1]; exact r0
  have bw := worth_b hU hB hd ag
  by_cases c : 1 + j < 2 ^ U
  · left
    have e35 : gl Y 35 0 (1 + j) = gl X 35 0 (1 + j) := xY.2.2 35 0 _ rfl
    refine ⟨(nI (1 + (j + 1)), dp (sL Y 5 0 3 (if (gl X 35 0 (1 + j)).toInt < (gl Y 5 0 3).toInt then gl X 35 0 (1 + j) else gl Y 5 0 3))), by omega, ?_, _, rfl, by omega, xY.sL 0 _ rfl, fun s => by rw [xi_sl]; exact y0 s, ?_⟩
    · unfold B_X5_layAll_138
      simp only [nm, u2, hwd]
      rw [if_neg (nI_ge c (by omega)), r0', Option.bind_some, gal_v (show 1 + j < 256 by omega) (by omega), Option.bind_some, e35, minl_t, Option.bind_some, nI_1]
      rfl
    · rw [gl_sl, if_pos ⟨rfl, rfl, rfl⟩]
      cases hg : G (1 + j) with
      | none =>
        rw [tb.1 _ c hg, nev_v, if_neg (by omega)]
        refine ⟨g, ag, yg, fun S v hS e => ?_⟩
        by_cases q : S = 1 + j
        · subst q; rw [hg] at e; cases e
        · exact yl S v (by omega) e
      | some w =>
        have ew := tb.2 _ w c hg
        rw [ew]
        by_cases q : w < (gl Y 5 0 3).toInt
        · rw [if_pos q, ew]
          obtain ⟨g2, ag2, -, vg2⟩ := d.1 _ w c hg
          refine ⟨g2, ag2, vg2, fun S v hS e => ?_⟩
          by_cases q2 : S = 1 + j
          · subst q2; rw [hg] at e; injection e with e; omega
          · have := yl S v (by omega) e; omega
        · rw [if_neg q]
          refine ⟨g, ag, yg, fun S v hS e => ?_⟩
          by_cases q2 : S = 1 + j
          · subst q2; rw [hg] at e; injection e with e; omega
          · exact yl S v (by omega) e
  · right
    refine ⟨dp Y, ?_, Y, g, rfl, xY, y0, ⟨ag, fun g' a' => ?_⟩, yg⟩
    · unfold B_X5_layAll_138
      simp only [nm, u2, hwd]
      rw [if_pos (nI_le (by omega) (by omega))]
    · obtain ⟨v, e1, e2⟩ := d.2 g' a'
      have := yl _ v (by have := dm_lt U g'; omega) e1
      rw [← yg]
      omega
theorem tb_zero {U : Nat} {X : HP} {w : Int} (h0 : (gl X 35 0 0).toInt = w) (h1 : ∀ s, s < 2 ^ U → s ≠ 0 → gl X 35 0 s = 4611686018427387904) : TB5 U (fun S => if S = 0 then some w else none) X := by
  refine ⟨fun S hS e => ?_, fun S v hS e => ?_⟩
  · have e' : (if S = 0 then some w else none) = none := e
    by_cases q : S = 0
    · rw [if_pos q] at e'; cases e'
    · exact h1 S hS q
  · have e' : (if S = 0 then some w else none) = some v := e
    by_cases q : S = 0
    · rw [if_pos q] at e'
      cases e'
      rw [q, h0]
    · rw [if_neg q] at e'; cases e'
theorem dpi_zero {U : Nat} {ok : Nat → Nat → Bool} {c : Nat → Nat → Int} {w : Int} : DPI U ok c w 0 (fun S => if S = 0 then some w else none) := DPI.zero (if_pos rfl) (fun S _ q => if_neg q)
theorem e_layAll {h : HP} (R : RQ h) : ∃ Y g, F_X5_layAll 0 0 (gi h 11 0 6) 0 h = some (dp Y) ∧ EX S5 h Y ∧ gi Y 5 0 2 = nI (NU (ms h)) ∧ OPT (NU (ms h)) (cbV (ms h)) (dfI (ms h)) (NB (ms h)) g ∧ (gl Y 5 0 3).toInt = vC (NU (ms h)) + VS (NU (ms h)) (cC (dfI (ms h))) g := by
  have hU := b_nu R.m
  have hB := b_nb R.m
  have p8 := pow8 hU
  have pU : 0 < 2 ^ NU (ms h) := Nat.pow_pos (by omega)
  have e6 : gi h 11 0 6 = nI (NU (ms h)) := (cw_nu R).trans (v_nu R.m)
  have m1 : F_J_min 8 8 = some 8 := by unfold F_J_min; rw [if_neg (by decide)]
  have m2 : F_J_min (nI (NU (ms h))) 8 = some (nI (NU (ms h))) := by
    unfold F_J_min
    rw [if_neg (show ¬ (8 : Int32) < nI (NU (ms h)) from nlt_not (a := 8) hU (by omega))]
  have x1 : EX S5 h (si h 5 0 2 (nI (NU (ms h)))) := (EX.rfl' h).si 0 _ rfl
  have n1 : gi (si h 5 0 2 (nI (NU (ms h)))) 5 0 2 = nI (NU (ms h)) := by rw [gi_si, if_pos ⟨rfl, rfl, rfl⟩]
  obtain ⟨X2, fl, x2, v2⟩ := e_filll (si h 5 0 2 (nI (NU (ms h)))) 4611686018427387904
  have G2 : gR X2.2.2 := by rw [x2.1]; exact R.1
  have s0 : sal X2 35 0 256 0 0 = some (sL X2 35 0 0 0) := sal_v (m := 0) (by omega) (by omega)
  have n2 : gi (sL X2 35 0 0 0) 5 0 2 = nI (NU (ms h)) := by rw [xi_sl, x2.2.1 5 0 2 rfl]; exact n1
  obtain ⟨r, l43, X3, rfl, x3, v3, w3⟩ := e_lay43 (X := sL X2 35 0 0 0) hU G2 n2 (by rw [gl_sl, if_pos ⟨rfl, rfl, rfl⟩]; decide +kernel) (nI (2 ^ NU (ms h)))
  have x3' : EX S5 h X3 := (x1.trans (x2.mono S35_5)).trans (((EX.rfl' X2).sL (S := S5) (k := 35) (s := 0) 0 0 rfl).trans (x3.mono S35_5))
  have n3 : gi X3 5 0 2 = nI (NU (ms h)) := by rw [x3.2.1 5 0 2 rfl]; exact n2
  have tb3 : TB5 (NU (ms h)) (fun S => if S = 0 then some (vC (NU (ms h))) else none) X3 := tb_zero v3 (fun S hS q => by
    rw [w3 S q, gl_sl, if_neg (fun z => q z.2.2)]
    exact v2 S (by omega))
  have l75 : ∃ r : DP, loopN LF (B_X5_layAll_75 0 0 0 (nI (2 ^ NU (ms h))) X3) (0, dp X3) = some r ∧ ∃ Y G, r = dp Y ∧ EX S5 h Y ∧ gi Y 5 0 2 = nI (NU (ms h)) ∧ DPI (NU (ms h)) (cbV (ms h)) (cC (dfI (ms h))) (vC (NU (ms h))) (NB (ms h)) G ∧ TB5 (NU (ms h)) G Y := by
    refine loopI (fun j q => ∃ Y G, q = (nI j, dp Y) ∧ j ≤ NB (ms h) ∧ EX S5 h Y ∧ gi Y 5 0 2 = nI (NU (ms h)) ∧ DPI (NU (ms h)) (cbV (ms h)) (cC (dfI (ms h))) (vC (NU (ms h))) j G ∧ TB5 (NU (ms h)) G Y) _ (NB (ms h)) (by omega) ⟨X3, _, rfl, Nat.zero_le _, x3', n3, dpi_zero, tb3⟩ ?_
    rintro j q hj ⟨Y, G, rfl, -, xY, nY, dY, tY⟩
    have hwd : wd X3 (dp Y) = Y := wd_dp (xY.1.trans x3'.1.symm)
    have RY : RQ Y := (xY.sq S5_la).rl R
    have eY : ms Y = ms h := (xY.sq S5_la).mq
    have e21 : gi Y 2 0 1 = nI (NB (ms h)) := by rw [cw_nb RY, eY]; exact v_nb R.m
    by_cases c : j < NB (ms h)
    · left
      have tk := e_takers RY (b := j) (by rw [eY]; exact c) (by rw [eY]; exact nY)
      rw [eY] at tk
      have lm := mskB_lt (fun u => cbV (ms h) u j) (NU (ms h))
      by_cases c2 : mskB (fun u => cbV (ms h) u j) (NU (ms h)) = 0
      · refine ⟨(nI (j + 1), dp Y), c, ?_, Y, G, rfl, by omega, xY, nY, dY.skip (by omega) (fun u hu => ?_), tY⟩
        · unfold B_X5_layAll_75
          simp only [nm, u2, hwd]
          rw [e21, if_neg (nI_ge c (by omega)), rf_2_0 RY.1, Option.bind_some, gar_v (show j < 20 by omega) (by omega), rb_23 RY (by rw [eY]; exact c), Option.bind_some, tk, Option.bind_some, c2, if_pos (show nI 0 = 0 from rfl), nI_1]
        · have := mskB_bit (fun u => cbV (ms h) u j) (NU (ms h)) u
          rw [c2, Nat.zero_testBit, decide_eq_true hu, Bool.true_and] at this
          exact this.symm
      · obtain ⟨Z, G', lb, xZ, nZ, dZ, tZ⟩ := e_layBell RY (b := j) (by rw [eY]; exact c) (by rw [eY]; exact nY) (F := G) (by rw [eY]; exact dY) (by rw [eY]; exact tY)
        rw [eY] at lb dZ tZ
        refine ⟨(nI (j + 1), dp Z), c, ?_, Z, G', rfl, by omega, xY.trans xZ, by rw [nZ]; exact nY, dZ, tZ⟩
        unfold B_X5_layAll_75
        simp only [nm, u2, hwd]
        rw [e21, if_neg (nI_ge c (by omega)), rf_2_0 RY.1, Option.bind_some, gar_v (show j < 20 by omega) (by omega), rb_23 RY (by rw [eY]; exact c), Option.bind_some, tk, Option.bind_some, if_neg (nI_ne0 (show 0 < mskB (fun u => cbV (ms h) u j) (NU (ms h)) by omega) (by omega)), Option.bind_some, gar_v (show j < 20 by omega) (by omega), rb_23 RY (by rw [eY]; exact c), Option.bind_some, lb, Option.bind_some, wd_dp xZ.1, nI_1]
    · right
      have : j = NB (ms h) := by omega
      subst this
      refine ⟨dp Y, ?_, Y, G, rfl, xY, nY, dY, tY⟩
      unfold B_X5_layAll_75
      simp only [nm, u2, hwd]
      rw [e21, if_pos (nI_le (Nat.le_refl _) (by omega))]
  obtain ⟨r, l75, X4, G, rfl, x4, n4, d4, t4⟩ := l75
  have G4 : gR X4.2.2 := by rw [x4.1]; exact R.1
  have g0 : gal X4 35 0 256 0 = some (gl X4 35 0 0) := gal_v (m := 0) (by omega) (by omega)
  have t5 : TB5 (NU (ms h)) G (sL X4 5 0 3 (gl X4 35 0 0)) := ⟨fun S hS e => by rw [gl_sl, if_neg (by omega)]; exact t4.1 S hS e, fun S v hS e => by rw [gl_sl, if_neg (by omega)]; exact t4.2 S v hS e⟩
  obtain ⟨r, l138, Y, g, rfl, xY, y0, op, yw⟩ := e_lay138 (X := sL X4 5 0 3 (gl X4 35 0 0)) (df := dfI (ms h)) hU hB (rf_5_0 G4) d4 t5 (dfI_cb R.m hB) (by rw [gl_sl, if_pos ⟨rfl, rfl, rfl⟩, gl_sl, if_neg (by omega)])
  refine ⟨Y, g, ?_, x4.trans (((EX.rfl' X4).sL (S := S5) (k := 5) (s := 3) 0 (gl X4 35 0 0) rfl).trans (xY.mono S53_5)), ?_, op, yw⟩
  · have w2 : wd (si h 5 0 2 (nI (NU (ms h)))) (dp X2) = X2 := wd_dp x2.1
    have w3' : wd (sL X2 35 0 0 0) (dp X3) = X3 := wd_dp x3.1
    have w4 : wd X3 (dp X4) = X4 := wd_dp (x4.1.trans x3'.1.symm)
    have w5 : wd (sL X4 5 0 3 (gl X4 35 0 0)) (dp Y) = Y := wd_dp xY.1
    have r5 : gr (si h 5 0 2 (nI (NU (ms h)))) 5 0 0 = some 0 := rf_5_0 R.1
    unfold F_X5_layAll
    rw [m1, Option.bind_some, e6, m2, Option.bind_some]
    simp only [nm]
    rw [n1, bt_shl1 (show NU (ms h) < 31 by omega), r5, Option.bind_some, fl, Option.bind_some, w2, rf_5_0 G2, Option.bind_some, s0, Option.bind_some, l43, Option.bind_some, w3', l75, Option.bind_some, w4, rf_5_0 G4, Option.bind_some, g0, Option.bind_some, l138, Option.bind_some, w5]
  · rw [y0, xi_sl]; exact n4
