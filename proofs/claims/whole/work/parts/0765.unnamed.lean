/-! stage III: unnamed ones: could, next -/
/-- the class's cell of an unnamed one -/
def UO (h : HP) (u o : Nat) : Prop := gr h 42 0 u = some o ∧ gr h 10 o 0 = some o ∧ (gi h 10 o 1 = ms h 67 u ∧ gi h 10 o 2 = ms h 68 u ∧ gi h 10 o 3 = ms h 69 u) ∧ ∀ t, t < 5 → gi h 40 o t = ms h 66 (5 * u + t)
theorem un_o {h : HP} (R : RQ h) {u : Nat} (hu : u < NU (ms h)) : ∃ o, UO h u o := by
  obtain ⟨o, ⟨a1, a2, a3⟩, b, c, d⟩ := R.u.2.2.2 u hu
  exact ⟨o, a1, a3, b, fun t ht => (c t ht).1⟩
theorem n_67 {m : Nat → Nat → Int32} (W : MW m) {u : Nat} (hu : u < NU m) : cn (m 67 u) 99 := by
  obtain ⟨h, R, rfl⟩ := W
  obtain ⟨o, -, -, -, d⟩ := R.u.2.2.2 u hu
  exact d.1
theorem n_68 {m : Nat → Nat → Int32} (W : MW m) {u : Nat} (hu : u < NU m) : tn (m 68 u) := by
  obtain ⟨h, R, rfl⟩ := W
  obtain ⟨o, -, -, -, d⟩ := R.u.2.2.2 u hu
  exact d.2.1
theorem n_69 {m : Nat → Nat → Int32} (W : MW m) {u : Nat} (hu : u < NU m) : cn (m 69 u) 999 := by
  obtain ⟨h, R, rfl⟩ := W
  obtain ⟨o, -, -, -, d⟩ := R.u.2.2.2 u hu
  exact d.2.2
theorem n_66 {m : Nat → Nat → Int32} (W : MW m) {u t : Nat} (hu : u < NU m) (ht : t < 5) : tn (m 66 (5 * u + t)) := by
  obtain ⟨h, R, rfl⟩ := W
  obtain ⟨o, -, -, c, -⟩ := R.u.2.2.2 u hu
  exact (c t ht).2
/-- how far a tone is apart -/
def apV (m : Nat → Nat → Int32) (u b t : Nat) : Nat := if m 66 (5 * u + t) = -1 then 0 else if m 54 (5 * b + t) = -1 then 0 else apN (m 66 (5 * u + t)).toNatClampNeg (m 54 (5 * b + t)).toNatClampNeg
theorem tn_v {x : Int32} (h : tn x) (h2 : ¬ x = -1) : ∃ n, n ≤ 9999 ∧ x = nI n := by
  rcases h with q | q
  · exact absurd q h2
  · exact cn_ex q
theorem apV_le {m : Nat → Nat → Int32} (W : MW m) {u b t : Nat} (hu : u < NU m) (hb : b < NB m) (ht : t < 5) : apV m u b t ≤ 9999 := by
  unfold apV
  split
  · omega
  · rename_i c1
    split
    · omega
    · rename_i c2
      obtain ⟨x, hx, ex⟩ := tn_v (n_66 W hu ht) c1
      obtain ⟨y, hy, ey⟩ := tn_v (tb_54 W hb ht) c2
      rw [ex, ey, nI_clamp (by omega), nI_clamp (by omega)]
      unfold apN
      split <;> omega
theorem e_apart {h : HP} (R : RQ h) {u o b t : Nat} (hu : u < NU (ms h)) (U : UO h u o) (hb : b < NB (ms h)) (ht : t < 5) : F_X10_apart o b (nI t) h = some (nI (apV (ms h) u b t)) := by
  obtain ⟨u1, u2, u3, u4⟩ := U
  unfold F_X10_apart apV
  rw [u2, Option.bind_some, ga_v ht (by omega), Option.bind_some, u4 t ht]
  by_cases c1 : ms h 66 (5 * u + t) = -1
  · rw [if_pos c1, if_pos c1]
    rfl
  · rw [if_neg c1, if_neg c1]
    rw [rb_4 R hb, Option.bind_some, ga_v ht (by omega), Option.bind_some, cb_20 R hb ht]
    by_cases c2 : ms h 54 (5 * b + t) = -1
    · rw [if_pos c2, if_pos c2]
      rfl
    · rw [if_neg c2, if_neg c2]
      obtain ⟨x, hx, ex⟩ := tn_v (n_66 R.m hu ht) c1
      obtain ⟨y, hy, ey⟩ := tn_v (tb_54 R.m hb ht) c2
      rw [Option.bind_some, ga_v ht (by omega), Option.bind_some, u4 t ht, Option.bind_some, ga_v ht (by omega), Option.bind_some, cb_20 R hb ht, ex, ey, e_abs_sub (by omega) (by omega), Option.bind_some, nI_clamp (by omega), nI_clamp (by omega)]
def tcN (m : Nat → Nat → Int32) (u b : Nat) : Nat → Bool
  | 0 => true
  | t + 1 => tcN m u b t && decide (apV m u b t ≤ (m 67 u).toNatClampNeg)
theorem tcN_f {m : Nat → Nat → Int32} {u b t : Nat} (h : tcN m u b t = false) : ∀ k, tcN m u b (t + k) = false := by
  intro k
  induction k with
  | zero => exact h
  | succ k ih =>
    show (tcN m u b (t + k) && _) = false
    rw [ih]
    rfl
/-- COULD BE -/
def cbV (m : Nat → Nat → Int32) (u b : Nat) : Bool := decide (stV m b = 3) && (decide (m 68 u = -1 ∨ apN (m 68 u).toNatClampNeg (m 51 b).toNatClampNeg ≤ (m 69 u).toNatClampNeg) && tcN m u b 5)
theorem e_couldBe {h : HP} (R : RQ h) {u o b : Nat} (hu : u < NU (ms h)) (U : UO h u o) (hb : b < NB (ms h)) : F_X10_couldBe o b h = some (if cbV (ms h) u b = true then 1 else 0) := by
  obtain ⟨e, he, ee⟩ := cn_ex (n_67 R.m hu)
  have hJ : J_X10_couldBe_39 o b h = some (if tcN (ms h) u b 5 = true then 1 else 0) := by
    have hl : ∃ r, loopN LF (B_X10_couldBe_41 o b h) 0 = some r ∧ ((r = .inl () ∧ tcN (ms h) u b 5 = false) ∨ (r = .inr () ∧ tcN (ms h) u b 5 = true)) := by
      refine loopI (fun t s => s = nI t ∧ tcN (ms h) u b t = true) _ 5 (by omega) ⟨rfl, rfl⟩ ?_
      intro t s ht ⟨hs, htc⟩
      subst hs
      unfold B_X10_couldBe_41
      simp only [nm]
      by_cases c : t < 5
      · rw [if_neg (show ¬ 5 ≤ nI t from nI_ge (b := 5) c (by omega)), e_apart R hu U hb c, Option.bind_some, U.2.2.1.1, ee, nI_1]
        have ha := apV_le R.m hu hb c
        have st : tcN (ms h) u b (t + 1) = decide (apV (ms h) u b t ≤ e) := by
          show (tcN (ms h) u b t && decide (apV (ms h) u b t ≤ (ms h 67 u).toNatClampNeg)) = _
          rw [htc, ee, nI_clamp (by omega), Bool.true_and]
        by_cases d : apV (ms h) u b t ≤ e
        · left
          rw [if_pos (nI_le d (by omega))]
          exact ⟨_, c, rfl, rfl, by rw [st]; exact decide_eq_true d⟩
        · right
          rw [if_neg (nI_ge (by omega) (by omega))]
          refine ⟨_, rfl, Or.inl ⟨rfl, ?_⟩⟩
          have f0 : tcN (ms h) u b (t + 1) = false := by rw [st]; exact decide_eq_false d
          have := tcN_f f0 (4 - t)
          rw [show t + 1 + (4 - t) = 5 by omega] at this
          exact this
      · right
        have e5 : t = 5 := by omega
        subst e5
        rw [if_pos (show (5 : Int32) ≤ nI 5 by decide)]
        exact ⟨_, rfl, Or.inr ⟨rfl, htc⟩⟩
    obtain ⟨r, h1, h2⟩ := hl
    unfold J_X10_couldBe_39
    rw [h1, Option.bind_some]
    rcases h2 with ⟨rfl, q⟩ | ⟨rfl, q⟩
    · rw [q]; rfl
    · rw [q]; rfl
  unfold F_X10_couldBe cbV
  rw [e_stateNow R hb, Option.bind_some, U.2.2.1.2.1, hJ]
  by_cases c1 : stV (ms h) b = 3
  · rw [if_pos c1, decide_eq_true c1, Bool.true_and]
    by_cases c2 : ms h 68 u = -1
    · rw [if_pos c2, decide_eq_true (Or.inl c2), Bool.true_and]
    · rw [if_neg c2]
      obtain ⟨x, hx, ex⟩ := tn_v (n_68 R.m hu) c2
      obtain ⟨y, hy, ey⟩ := cn_ex (n_51 R.m hb)
      obtain ⟨w, hw, ew⟩ := cn_ex (n_69 R.m hu)
      have ha : apN x y ≤ 9999 := by unfold apN; split <;> omega
      rw [cb_1 R hb, ex, ey, e_abs_sub (by omega) (by omega), Option.bind_some, U.2.2.1.2.2, ew, nI_clamp (by omega), nI_clamp (by omega), nI_clamp (by omega)]
      by_cases c3 : apN x y ≤ w
      · rw [if_pos (nI_le c3 (by omega)), decide_eq_true (Or.inr c3), Bool.true_and]
      · rw [if_neg (nI_ge (by omega) (by omega)), decide_eq_false (fun q => q.elim (nI_m1 (by omega)) c3), Bool.false_and, if_neg (by decide)]
  · rw [if_neg c1, decide_eq_false c1, Bool.false_and, if_neg (by decide)]
theorem f_couldBe {h : HP} (G : gR h.2.2) (W : MW (ms h)) {u b : Nat} (hu : u < NU (ms h)) (hb : b < NB (ms h)) : F_X12_couldBe 0 (nI u) (nI b) h = some (if cbV (ms h) u b = true then 1 else 0) := by
  have h3 := b_nb W
  have h4 := b_nu W
  obtain ⟨e, he, ee⟩ := cn_ex (n_67 W hu)
  have hJ : ∀ c : Bool, J_X12_couldBe_48 0 (nI u) (nI b) (if c = true then 1 else 0) h = some (if (c && tcN (ms h) u b 5) = true then 1 else 0) := by
    intro c
    have hl : loopN LF (B_X12_couldBe_52 0 (nI u) (nI b) h) ((if c = true then 1 else 0), 0) = some (if (c && tcN (ms h) u b 5) = true then 1 else 0) := by
      have := loopS (B := B_X12_couldBe_52 0 (nI u) (nI b) h) (fun t => ((if (c && tcN (ms h) u b t) = true then (1 : Int32) else 0), nI t)) (r := if (c && tcN (ms h) u b 5) = true then 1 else 0) 5 (by omega) (fun t ht => by
        have st : ∀ d : Bool, tcN (ms h) u b t = d → tcN (ms h) u b (t + 1) = (d && decide (apV (ms h) u b t ≤ e)) := by
          intro d hd
          show (tcN (ms h) u b t && decide (apV (ms h) u b t ≤ (ms h 67 u).toNatClampNeg)) = _
          rw [hd, ee, nI_clamp (by omega)]
        unfold B_X12_couldBe_52
        simp only [nm, u2]
        rw [if_neg (show ¬ 5 ≤ nI t from nI_ge (b := 5) ht (by omega)), rf_12_29 G, Option.bind_some, ix5, ga_v (by omega) (by omega), Option.bind_some, m_66, rf_12_13 G, Option.bind_some, ix5, ga_v (by omega) (by omega), Option.bind_some, m_54, nI_1, ite_b]
        by_cases z : (c && tcN (ms h) u b t) = true
        · rw [if_pos z]
          obtain ⟨z1, z2⟩ := (Bool.and_eq_true ..).mp z
          rw [st true z2, z1]
          by_cases c1 : ms h 66 (5 * u + t) = -1
          · have : apV (ms h) u b t = 0 := if_pos c1
            rw [if_pos c1, this, decide_eq_true (Nat.zero_le e)]
            rfl
          · rw [if_neg c1]
            by_cases c2 : ms h 54 (5 * b + t) = -1
            · have : apV (ms h) u b t = 0 := by unfold apV; rw [if_neg c1, if_pos c2]
              rw [if_pos c2, this, decide_eq_true (Nat.zero_le e)]
              rfl
            · rw [if_neg c2]
              obtain ⟨x, hx, ex⟩ := tn_v (n_66 W hu ht) c1
              obtain ⟨y, hy, ey⟩ := tn_v (tb_54 W hb ht) c2
              have ap : apV (ms h) u b t = apN x y := by unfold apV; rw [if_neg c1, if_neg c2, ex, ey, nI_clamp (by omega), nI_clamp (by omega)]
              have ha : apN x y ≤ 9999 := by unfold apN; split <;> omega
              rw [ex, ey, f_apart (by omega) (by omega), Option.bind_some, rf_12_30 G, Option.bind_some, ga_v (by omega) (by omega), Option.bind_some, m_67, ee, ap]
              by_cases d : apN x y ≤ e
              · rw [if_neg (nI_nlt d (by omega)), decide_eq_true d]
                rfl
              · rw [if_pos (nI_lt (by omega) (by omega)), decide_eq_false d]
                rfl
        · rw [if_neg z]
          have z' : (c && tcN (ms h) u b t) = false := by simpa using z
          have : (c && tcN (ms h) u b (t + 1)) = false := by
            rw [st _ rfl, ← Bool.and_assoc, z', Bool.false_and]
          rw [this]
          rfl) (by
        unfold B_X12_couldBe_52
        simp only [u2]
        rw [if_pos (show (5 : Int32) ≤ nI 5 by decide)])
      have e0 : (if (c && tcN (ms h) u b 0) = true then (1 : Int32) else 0) = (if c = true then 1 else 0) := by
        show (if (c && true) = true then (1 : Int32) else 0) = _
        rw [Bool.and_true]
      simp only [e0] at this
      exact this
    unfold J_X12_couldBe_48
    rw [hl, Option.bind_some, e_bz]
    rfl
  have hJ0 : J_X12_couldBe_48 0 (nI u) (nI b) 0 h = some 0 := hJ false
  have hJ1 : J_X12_couldBe_48 0 (nI u) (nI b) 1 h = some (if tcN (ms h) u b 5 = true then 1 else 0) := by
    have := hJ true
    rw [Bool.true_and] at this
    exact this
  unfold F_X12_couldBe cbV
  rw [f_stateOf G W hb, Option.bind_some, hJ0, hJ1]
  by_cases c1 : stV (ms h) b = 3
  · rw [if_pos c1, decide_eq_true c1, Bool.true_and]
    rw [rf_12_31 G, Option.bind_some, ga_v (by omega) (by omega), Option.bind_some, m_68]
    by_cases c2 : ms h 68 u = -1
    · rw [if_pos c2, decide_eq_true (Or.inl c2), Bool.true_and]
    · rw [if_neg c2]
      obtain ⟨x, hx, ex⟩ := tn_v (n_68 W hu) c2
      obtain ⟨y, hy, ey⟩ := cn_ex (n_51 W hb)
      obtain ⟨w, hw, ew⟩ := cn_ex (n_69 W hu)
      have ha : apN x y ≤ 9999 := by unfold apN; split <;> omega
      rw [Option.bind_some, ga_v (by omega) (by omega), Option.bind_some, m_68, rf_12_10 G, Option.bind_some, ga_v (by omega) (by omega), Option.bind_some, m_51, ex, ey, f_apart (by omega) (by omega), Option.bind_some, rf_12_32 G, Option.bind_some, ga_v (by omega) (by omega), Option.bind_some, m_69, ew, nI_clamp (by omega), nI_clamp (by omega), nI_clamp (by omega)]
      by_cases c3 : apN x y ≤ w
      · rw [if_neg (nI_nlt c3 (by omega)), decide_eq_true (Or.inr c3), Bool.true_and]
      · rw [if_pos (nI_lt (by omega) (by omega)), decide_eq_false (fun q => q.elim (nI_m1 (by omega)) c3), Bool.false_and, if_neg (by decide)]
  · rw [if_neg c1, decide_eq_false c1, Bool.false_and, if_neg (by decide)]
/-! masks -/
theorem or_bit (n j i : Nat) : (n ||| 2 ^ j).testBit i = (n.testBit i || decide (i = j)) := by
  rw [Nat.testBit_or, Nat.testBit_two_pow]
  congr 1
  exact decide_eq_decide.mpr ⟨fun q => q.symm, fun q => q.symm⟩
def mskB (p : Nat → Bool) : Nat → Nat
  | 0 => 0
  | b + 1 => if p b = true then mskB p b ||| 2 ^ b else mskB p b
theorem mskB_lt (p : Nat → Bool) : ∀ n, mskB p n < 2 ^ n := by
  intro n
  induction n with
  | zero => show (0 : Nat) < 2 ^ 0; decide
  | succ n ih =>
    have h1 : 2 ^ n < 2 ^ (n + 1) := Nat.pow_lt_pow_right (by omega) (by omega)
    unfold mskB
    split
    · exact Nat.or_lt_two_pow (by omega) h1
    · omega
theorem mskB_bit (p : Nat → Bool) : ∀ n i, (mskB p n).testBit i = (decide (i < n) && p i) := by
  intro n
  induction n with
  | zero => intro i; show Nat.testBit 0 i = _; simp
  | succ n ih =>
    intro i
    have e : (if p n = true then mskB p n ||| 2 ^ n else mskB p n).testBit i = ((mskB p n).testBit i || (decide (i = n) && p n)) := by
      split
      · rename_i q
        rw [or_bit, q, Bool.and_true]
      · rename_i q
        have : p n = false := by simpa using q
        rw [this, Bool.and_false, Bool.or_false]
    show (if p n = true then mskB p n ||| 2 ^ n else mskB p n).testBit i = _
    rw [e, ih i]
    rcases Nat.lt_trichotomy i n with q | q | q
    · rw [decide_eq_true q, decide_eq_false (show ¬ i = n by omega), decide_eq_true (show i < n + 1 by omega)]
      simp
    · subst q
      rw [decide_eq_false (show ¬ i < i by omega), decide_eq_true (show i = i from rfl), decide_eq_true (show i < i + 1 by omega)]
      simp
    · rw [decide_eq_false (show ¬ i < n by omega), decide_eq_false (show ¬ i = n by omega), decide_eq_false (show ¬ i < n + 1 by omega)]
      simp
theorem mskB_20 (p : Nat → Bool) {n : Nat} (hn : n ≤ 20) : mskB p n < 1048576 := by
  have h1 := mskB_lt p n
  have h2 : 2 ^ n ≤ 2 ^ 20 := Nat.pow_le_pow_right (by omega) hn
  omega
theorem e_couldBits {h : HP} (R : RQ h) {u o : Nat} (hu : u < NU (ms h)) (U : UO h u o) : F_X10_couldBeBits o 0 h = some (nI (mskB (cbV (ms h) u) (NB (ms h)))) := by
  have h3 := b_nb R.m
  have key : loopN LF (B_X10_couldBeBits_4 o 0 h) (0, 0) = some (nI (mskB (cbV (ms h) u) (NB (ms h)))) := by
    refine loopS (fun b => (nI (mskB (cbV (ms h) u) b), nI b)) (NB (ms h)) (by omega) ?_ ?_
    · intro b hb
      unfold B_X10_couldBeBits_4
      simp only [nm, u2]
      rw [cw_nb R, v_nb R.m, if_neg (nI_ge hb (by omega)), rf_2_0 R.1, Option.bind_some, gar_v (by omega) (by omega), rb_23 R hb, Option.bind_some, e_couldBe R hu U hb, Option.bind_some, ite_b, bt_or (by omega), nI_1]
      simp only [mskB]
      split <;> rfl
    · unfold B_X10_couldBeBits_4
      simp only [u2]
      rw [cw_nb R, v_nb R.m, if_pos (nI_le (Nat.le_refl _) (by omega))]
  unfold F_X10_couldBeBits
  rw [key]
  rfl
theorem f_couldOf {h : HP} (G : gR h.2.2) (W : MW (ms h)) {u : Nat} (hu : u < NU (ms h)) : F_X12_couldOf 0 (nI u) h = some (nI (mskB (cbV (ms h) u) (NB (ms h)))) := by
  have h3 := b_nb W
  have key : loopN LF (B_X12_couldOf_4 0 (nI u) h) (0, 0) = some (nI (mskB (cbV (ms h) u) (NB (ms h)))) := by
    refine loopS (fun b => (nI (mskB (cbV (ms h) u) b), nI b)) (NB (ms h)) (by omega) ?_ ?_
    · intro b hb
      unfold B_X12_couldOf_4
      simp only [nm, u2]
      rw [m_12_8, v_nb W, if_neg (nI_ge hb (by omega)), f_couldBe G W hu hb, Option.bind_some, ite_b, bt_or (by omega), bt_or0, nI_1]
      simp only [mskB]
      split <;> rfl
    · unfold B_X12_couldOf_4
      simp only [u2]
      rw [m_12_8, v_nb W, if_pos (nI_le (Nat.le_refl _) (by omega))]
  unfold F_X12_couldOf
  rw [key]
  rfl
theorem p_could : CP_could RQ := by
  intro h R a
  have h4 := b_nu R.m
  by_cases c1 : 0 ≤ a ∧ a ≤ ms h 12 28 - 1
  · obtain ⟨u, hu, rfl⟩ := in_cnt (v_nu R.m) (by omega) c1
    obtain ⟨o, U⟩ := un_o R hu
    refine ⟨nI (mskB (cbV (ms h) u) (NB (ms h))), ?_, ?_, R⟩
    · unfold F_X11_could
      rw [e_isUnnamed R, Option.bind_some, ite_b, if_pos c1, rf_11_5 R.1, Option.bind_some, gar_v (by omega) (by omega), U.1, Option.bind_some, rf_11_3 R.1, Option.bind_some, e_couldBits R hu U, Option.bind_some]
    · unfold F_X12_could
      rw [f_isUnnamed, Option.bind_some, ite_b, if_pos c1, f_couldOf R.1 R.m hu, Option.bind_some]
  · refine ⟨-2, ?_, ?_, R⟩
    · unfold F_X11_could
      rw [e_isUnnamed R, Option.bind_some, ite_b, if_neg c1]
    · unfold F_X12_could
      rw [f_isUnnamed, Option.bind_some, ite_b, if_neg c1]
/-! MEASURE NEXT -/
def prV (m : Nat → Nat → Int32) (u b k : Nat) : Int32 := if m 54 (5 * b + k) = -1 then -1 else m 54 (5 * b + k) / (2 * m 67 u + 1)
def mxN (f : Nat → Nat) (p : Nat → Bool) : Nat → Nat
  | 0 => 0
  | i + 1 => if p i = true then (if mxN f p i < f i then f i else mxN f p i) else mxN f p i
theorem mxN_ge (f : Nat → Nat) (p : Nat → Bool) : ∀ n i, i < n → p i = true → f i ≤ mxN f p n := by
  intro n
  induction n with
  | zero => intro i h; omega
  | succ n ih =>
    intro i hi hp
    unfold mxN
    by_cases e : i = n
    · subst e
      rw [if_pos hp]
      split <;> omega
    · have := ih i (by omega) hp
      split
      · split <;> omega
      · exact this
theorem mxN_le (f : Nat → Nat) (p : Nat → Bool) (X : Nat) : ∀ n, (∀ i, i < n → p i = true → f i ≤ X) → mxN f p n ≤ X := by
  intro n
  induction n with
  | zero => intro _; exact Nat.zero_le _
  | succ n ih =>
    intro h
    have h1 := ih (fun i hi hp => h i (by omega) hp)
    unfold mxN
    split
    · rename_i q
      have := h n (by omega) q
      split <;> omega
    · exact h1
/-- of all bells that are like the bell a -/
def lkN (m : Nat → Nat → Int32) (u k : Nat) (bits : Nat) (a : Nat) : Nat := fb_ct (fun b => bits.testBit b && decide (prV m u a k = prV m u b k)) (NB m)
/-- of those from a on -/
def ckN (m : Nat → Nat → Int32) (u k : Nat) (bits : Nat) (a : Nat) : Nat := fb_ct (fun j => bits.testBit (a + j) && decide (prV m u (a + j) k = prV m u a k)) (NB m - a)
theorem great_same (m : Nat → Nat → Int32) (u k : Nat) (bits : Nat) : mxN (ckN m u k bits) (fun i => bits.testBit i) (NB m) = mxN (lkN m u k bits) (fun i => bits.testBit i) (NB m) := by
  have eqs : ∀ a, a < NB m → lkN m u k bits a = fb_ct (fun b => bits.testBit b && decide (prV m u a k = prV m u b k)) a + ckN m u k bits a := by
    intro a ha
    unfold lkN ckN
    have := fb_ct_split (fun b => bits.testBit b && decide (prV m u a k = prV m u b k)) a (NB m - a)
    rw [show a + (NB m - a) = NB m by omega] at this
    rw [this]
    congr 1
    apply fb_ct_cong
    intro j _
    congr 1
    exact decide_eq_decide.mpr ⟨fun q => q.symm, fun q => q.symm⟩
  apply Nat.le_antisymm
  · apply mxN_le
    intro i hi hp
    have h1 := mxN_ge (lkN m u k bits) (fun i => bits.testBit i) (NB m) i hi hp
    have h2 := eqs i hi
    omega
  · apply mxN_le
    intro a ha hp
    obtain ⟨i, hi, q1, q2⟩ := fb_first (p := fun b => (bits.testBit b && decide (prV m u a k = prV m u b k)) = true) (n := NB m) ⟨a, ha, by simp only [Bool.and_eq_true, decide_eq_true_eq]; exact ⟨hp, trivial⟩⟩
    have q3 : bits.testBit i = true ∧ prV m u a k = prV m u i k := by simpa [Bool.and_eq_true] using q1
    have same : lkN m u k bits a = lkN m u k bits i := by
      unfold lkN
      apply fb_ct_cong
      intro b _
      rw [q3.2]
    have z : fb_ct (fun b => bits.testBit b && decide (prV m u i k = prV m u b k)) i = 0 := by
      rw [fb_ct_zero]
      intro j hj
      have := q2 j hj
      rw [← q3.2]
      simpa using this
    have h1 := eqs i hi
    have h2 := mxN_ge (ckN m u k bits) (fun i => bits.testBit i) (NB m) i hi q3.1
    omega
theorem wid {e : Nat} (he : e ≤ 99) : (2 : Int32) * nI e + 1 = nI (2 * e + 1) := by rw [L2, pk_mul, nI_1]
theorem e_partOf {h : HP} (R : RQ h) {u o b k : Nat} (hu : u < NU (ms h)) (U : UO h u o) (hb : b < NB (ms h)) (hk : k < 5) : F_X10_partOf o (ms h 54 (5 * b + k)) h = some (prV (ms h) u b k) := by
  obtain ⟨e, he, ee⟩ := cn_ex (n_67 R.m hu)
  unfold F_X10_partOf prV dz
  simp only [nm]
  rw [U.2.2.1.1, ee, wid he]
  by_cases c1 : ms h 54 (5 * b + k) = -1
  · rw [if_pos c1, if_pos c1]
  · rw [if_neg c1, if_neg c1, if_pos (show (0 : Int32) < nI (2 * e + 1) from nI_lt (a := 0) (by omega) (by omega)), if_neg (nI_ne0 (by omega) (by omega))]
    rfl
theorem f_partOf {h : HP} (G : gR h.2.2) (W : MW (ms h)) {u b k : Nat} (hu : u < NU (ms h)) (hb : b < NB (ms h)) (hk : k < 5) : F_X12_partOfTone 0 (nI u) (nI b) (nI k) h = some (prV (ms h) u b k) := by
  have h3 := b_nb W
  have h4 := b_nu W
  obtain ⟨e, he, ee⟩ := cn_ex (n_67 W hu)
  unfold F_X12_partOfTone prV dz
  rw [rf_12_13 G, Option.bind_some, ix5, ga_v (by omega) (by omega), Option.bind_some, m_54]
  by_cases c1 : ms h 54 (5 * b + k) = -1
  · rw [if_pos c1, if_pos c1]
  · rw [if_neg c1, if_neg c1]
    rw [rf_12_30 G, Option.bind_some, ga_v (by omega) (by omega), Option.bind_some, m_67, ee, wid he, if_neg (nI_ne0 (by omega) (by omega)), Option.bind_some]
theorem e_greatest {h : HP} (R : RQ h) {u o k : Nat} (hu : u < NU (ms h)) (U : UO h u o) (hk : k < 5) {bits : Nat} (hbits : bits < 1048576) : F_X10_greatestPart o 0 (nI bits) (nI k) h = some (nI (mxN (ckN (ms h) u k bits) (fun i => bits.testBit i) (NB (ms h)))) := by
  have h3 := b_nb R.m
  have ck : ∀ a, ckN (ms h) u k bits a ≤ 20 := fun a => Nat.le_trans (fb_ct_le _ _) (by omega)
  have mk : ∀ n, mxN (ckN (ms h) u k bits) (fun i => bits.testBit i) n ≤ 20 := fun n => mxN_le _ _ 20 n (fun i _ _ => ck i)
  have inner : ∀ a x1, a < NB (ms h) → loopN LF (B_X10_greatestPart_50 o 0 (nI bits) (nI k) x1 (nI a) (prV (ms h) u a k) h) (0, nI a) = some (nI (ckN (ms h) u k bits a)) := by
    intro a x1 ha
    have := loopS (B := B_X10_greatestPart_50 o 0 (nI bits) (nI k) x1 (nI a) (prV (ms h) u a k) h) (fun j => (nI (fb_ct (fun j => bits.testBit (a + j) && decide (prV (ms h) u (a + j) k = prV (ms h) u a k)) j), nI (a + j))) (r := nI (ckN (ms h) u k bits a)) (NB (ms h) - a) (by omega) (fun j hj => by
      have hb : a + j < NB (ms h) := by omega
      have st := fb_ct_succ (fun j => bits.testBit (a + j) && decide (prV (ms h) u (a + j) k = prV (ms h) u a k)) j
      have d2e := bt_t1 (n := bits) (i := a + j) (by omega) (by omega)
      unfold B_X10_greatestPart_50
      simp only [nm, u2]
      rw [cw_nb R, v_nb R.m, if_neg (nI_ge hb (by omega)), rf_2_0 R.1, Option.bind_some, gar_v (by omega) (by omega), rb_23 R hb, Option.bind_some, rb_4 R hb, Option.bind_some, ga_v hk (by omega), Option.bind_some, cb_20 R hb hk, e_partOf R hu U hb hk, Option.bind_some, nI_1, nI_1, st, show a + (j + 1) = a + j + 1 from rfl]
      by_cases c1 : bits.testBit (a + j) = true
      · rw [if_pos (d2e.mpr c1), c1, Bool.true_and]
        by_cases c2 : prV (ms h) u (a + j) k = prV (ms h) u a k
        · rw [if_pos c2, decide_eq_true c2, if_pos rfl]
        · rw [if_neg c2, decide_eq_false c2, if_neg (by decide)]
          rfl
      · have c1' : bits.testBit (a + j) = false := by simpa using c1
        rw [if_neg (fun q => c1 (d2e.mp q)), c1', Bool.false_and, if_neg (by decide)]
        rfl) (by
      unfold B_X10_greatestPart_50
      simp only [u2]
      rw [cw_nb R, v_nb R.m, if_pos (nI_le (by omega) (by omega))]
      rfl)
    exact this
  have key : loopN LF (B_X10_greatestPart_6 o 0 (nI bits) (nI k) h) (0, 0) = some (nI (mxN (ckN (ms h) u k bits) (fun i => bits.testBit i) (NB (ms h)))) := by
    refine loopS (fun a => (nI (mxN (ckN (ms h) u k bits) (fun i => bits.testBit i) a), nI a)) (NB (ms h)) (by omega) ?_ ?_
    · intro a ha
      have d2e := bt_t1 (n := bits) (i := a) (by omega) (by omega)
      have m1 := mk a
      have m2 := ck a
      unfold B_X10_greatestPart_6
      simp only [nm, u2]
      rw [cw_nb R, v_nb R.m, if_neg (nI_ge ha (by omega)), rf_2_0 R.1, Option.bind_some, gar_v (by omega) (by omega), rb_23 R ha, Option.bind_some, rb_4 R ha, Option.bind_some, ga_v hk (by omega), Option.bind_some, cb_20 R ha hk, e_partOf R hu U ha hk, Option.bind_some, inner _ _ ha, Option.bind_some, nI_1]
      simp only [mxN]
      unfold F_J_max
      by_cases c1 : bits.testBit a = true
      · rw [if_pos (d2e.mpr c1), if_pos c1]
        by_cases c2 : mxN (ckN (ms h) u k bits) (fun i => bits.testBit i) a < ckN (ms h) u k bits a
        · rw [if_pos (nI_lt c2 (by omega)), if_pos c2]
          rfl
        · rw [if_neg (nI_nlt (by omega) (by omega)), if_neg c2]
          rfl
      · rw [if_neg (fun q => c1 (d2e.mp q)), if_neg c1]
    · unfold B_X10_greatestPart_6
      simp only [u2]
      rw [cw_nb R, v_nb R.m, if_pos (nI_le (Nat.le_refl _) (by omega))]
  unfold F_X10_greatestPart
  rw [key]
  rfl
/-- the best tone among those below k, and how great its greatest part is -/
def nxN (m : Nat → Nat → Int32) (u bits : Nat) : Nat → Int32 × Nat
  | 0 => (-1, 0)
  | k + 1 => if m 66 (5 * u + k) = -1 then (if (nxN m u bits k).1 = -1 ∨ mxN (lkN m u k bits) (fun i => bits.testBit i) (NB m) < (nxN m u bits k).2 then (nI k, mxN (lkN m u k bits) (fun i => bits.testBit i) (NB m)) else nxN m u bits k) else nxN m u bits k
theorem nxN_r {m : Nat → Nat → Int32} (W : MW m) (u bits : Nat) : ∀ k, k ≤ 5 → ((nxN m u bits k).1 = -1 ∧ (nxN m u bits k).2 = 0) ∨ (∃ j, j < 5 ∧ (nxN m u bits k).1 = nI j ∧ (nxN m u bits k).2 ≤ 20) := by
  have h3 := b_nb W
  intro k
  induction k with
  | zero => intro _; exact Or.inl ⟨rfl, rfl⟩
  | succ k ih =>
    intro hk
    unfold nxN
    split
    · split
      · exact Or.inr ⟨k, by omega, rfl, mxN_le _ _ 20 _ (fun i _ _ => Nat.le_trans (fb_ct_le _ _) (by omega))⟩
      · exact ih (by omega)
    · exact ih (by omega)
theorem p_next : CP_next RQ := by
  intro h R a
  have h3 := b_nb R.m
  have h4 := b_nu R.m
  by_cases c1 : 0 ≤ a ∧ a ≤ ms h 12 28 - 1
  · obtain ⟨u, hu, rfl⟩ := in_cnt (v_nu R.m) (by omega) c1
    obtain ⟨o, U⟩ := un_o R hu
    obtain ⟨bits, hbe⟩ : ∃ bits, bits = mskB (cbV (ms h) u) (NB (ms h)) := ⟨_, rfl⟩
    have hbits : bits < 1048576 := by rw [hbe]; exact mskB_20 _ h3
    have hpop : pop bits ≤ 32 := fb_ct_le _ 32
    refine ⟨if 2 ≤ pop bits then (nxN (ms h) u bits 5).1 else -1, ?_, ?_, R⟩
    · have key : loopN LF (B_X10_toneToMeasure_25 o 0 (nI bits) h) (-1, 21, 0) = some (nxN (ms h) u bits 5).1 := by
        refine loopS (fun k => ((nxN (ms h) u bits k).1, (if (nxN (ms h) u bits k).1 = -1 then nI 21 else nI (nxN (ms h) u bits k).2), nI k)) 5 (by omega) ?_ ?_
        · intro k hk
          have gr20 : mxN (lkN (ms h) u k bits) (fun i => bits.testBit i) (NB (ms h)) ≤ 20 := mxN_le _ _ 20 _ (fun i _ _ => Nat.le_trans (fb_ct_le _ _) (by omega))
          unfold B_X10_toneToMeasure_25
          simp only [nm, u3]
          rw [if_neg (show ¬ 5 ≤ nI k from nI_ge (b := 5) hk (by omega)), U.2.1, Option.bind_some, ga_v hk (by omega), Option.bind_some, U.2.2.2 k hk, e_greatest R hu U hk hbits, Option.bind_some, great_same, nI_1]
          have stp : nxN (ms h) u bits (k + 1) = if ms h 66 (5 * u + k) = -1 then (if (nxN (ms h) u bits k).1 = -1 ∨ mxN (lkN (ms h) u k bits) (fun i => bits.testBit i) (NB (ms h)) < (nxN (ms h) u bits k).2 then (nI k, mxN (lkN (ms h) u k bits) (fun i => bits.testBit i) (NB (ms h))) else nxN (ms h) u bits k) else nxN (ms h) u bits k := rfl
          by_cases d1 : ms h 66 (5 * u + k) = -1
          · rw [if_pos d1] at stp
            rw [if_pos d1]
            rcases nxN_r R.m u bits k (by omega) with ⟨q1, q2⟩ | ⟨j, q0, q1, q2⟩
            · rw [if_pos (Or.inl q1)] at stp
              rw [stp, if_pos q1, if_neg (nI_ge (by omega) (by omega))]
              simp only [nI_m1 (show k < 2147483648 by omega), if_false]
            · have qn : ¬ (nxN (ms h) u bits k).1 = -1 := by rw [q1]; exact nI_m1 (by omega)
              rw [if_neg qn]
              by_cases d2 : mxN (lkN (ms h) u k bits) (fun i => bits.testBit i) (NB (ms h)) < (nxN (ms h) u bits k).2
              · rw [if_pos (Or.inr d2)] at stp
                rw [stp, if_neg (nI_ge d2 (by omega))]
                simp only [nI_m1 (show k < 2147483648 by omega), if_false]
              · rw [if_neg (fun w => w.elim qn d2)] at stp
                rw [stp, if_pos (nI_le (by omega) (by omega)), if_neg qn]
          · rw [if_neg d1] at stp
            rw [stp, if_neg d1]
        · unfold B_X10_toneToMeasure_25
          simp only [u3]
          rw [if_pos (show (5 : Int32) ≤ nI 5 by decide)]
      unfold F_X11_next F_X10_toneToMeasure
      rw [e_isUnnamed R, Option.bind_some, ite_b, if_pos c1, rf_11_5 R.1, Option.bind_some, gar_v (by omega) (by omega), U.1, Option.bind_some, rf_11_3 R.1, Option.bind_some, e_couldBits R hu U, Option.bind_some, ← hbe, e_bitCount (by omega), Option.bind_some, key, Option.bind_some]
      by_cases d : 2 ≤ pop bits
      · rw [if_pos (show (2 : Int32) ≤ nI (pop bits) from nI_le (a := 2) d (by omega)), if_pos d]
        rfl
      · rw [if_neg (show ¬ (2 : Int32) ≤ nI (pop bits) from nI_ge (b := 2) (by omega) (by omega)), if_neg d]
        rfl
    · have inner : ∀ k a x7 x8 x18, k < 5 → a < NB (ms h) → loopN LF (B_X12_next_77 0 (nI u) (nI bits) x7 x8 (nI k) x18 (nI a) h) (0, 0) = some (nI (lkN (ms h) u k bits a)) := by
        intro k a x7 x8 x18 hk ha
        refine loopS (fun b => (nI (fb_ct (fun b => bits.testBit b && decide (prV (ms h) u a k = prV (ms h) u b k)) b), nI b)) (NB (ms h)) (by omega) ?_ ?_
        · intro b hb
          have st := fb_ct_succ (fun b => bits.testBit b && decide (prV (ms h) u a k = prV (ms h) u b k)) b
          have d2e := bt_t1 (n := bits) (i := b) (by omega) (by omega)
          unfold B_X12_next_77
          simp only [nm, u2]
          rw [m_12_8, v_nb R.m, if_neg (nI_ge hb (by omega)), f_partOf R.1 R.m hu ha hk, Option.bind_some, f_partOf R.1 R.m hu hb hk, Option.bind_some, nI_1, nI_1, st, Int32.add_zero]
          by_cases c1 : bits.testBit b = true
          · rw [if_pos (d2e.mpr c1), c1, Bool.true_and]
            by_cases c2 : prV (ms h) u a k = prV (ms h) u b k
            · rw [if_pos c2, decide_eq_true c2, if_pos rfl]
            · rw [if_neg c2, decide_eq_false c2, if_neg (by decide)]
              rfl
          · have c1' : bits.testBit b = false := by simpa using c1
            rw [if_neg (fun q => c1 (d2e.mp q)), c1', Bool.false_and, if_neg (by decide)]
            rfl
        · unfold B_X12_next_77
          simp only [u2]
          rw [m_12_8, v_nb R.m, if_pos (nI_le (Nat.le_refl _) (by omega))]
          rfl
      have mid : ∀ k x7 x8, k < 5 → loopN LF (B_X12_next_62 0 (nI u) (nI bits) x7 x8 (nI k) h) (0, 0) = some (nI (mxN (lkN (ms h) u k bits) (fun i => bits.testBit i) (NB (ms h)))) := by
        intro k x7 x8 hk
        have lk : ∀ a, lkN (ms h) u k bits a ≤ 20 := fun a => Nat.le_trans (fb_ct_le _ _) (by omega)
        refine loopS (fun a => (nI (mxN (lkN (ms h) u k bits) (fun i => bits.testBit i) a), nI a)) (NB (ms h)) (by omega) ?_ ?_
        · intro a ha
          have d2e := bt_t1 (n := bits) (i := a) (by omega) (by omega)
          have m1 : mxN (lkN (ms h) u k bits) (fun i => bits.testBit i) a ≤ 20 := mxN_le _ _ 20 _ (fun i _ _ => lk i)
          have m2 := lk a
          unfold B_X12_next_62
          simp only [nm, u2]
          rw [m_12_8, v_nb R.m, if_neg (nI_ge ha (by omega)), inner k a _ _ _ hk ha, Option.bind_some, nI_1]
          simp only [mxN]
          by_cases c1 : bits.testBit a = true
          · rw [if_pos (d2e.mpr c1), if_pos c1]
            by_cases c2 : mxN (lkN (ms h) u k bits) (fun i => bits.testBit i) a < lkN (ms h) u k bits a
            · rw [if_neg (nI_ge c2 (by omega)), if_pos c2]
            · rw [if_pos (nI_le (by omega) (by omega)), if_neg c2]
          · rw [if_neg (fun q => c1 (d2e.mp q)), if_neg c1]
        · unfold B_X12_next_62
          simp only [u2]
          rw [m_12_8, v_nb R.m, if_pos (nI_le (Nat.le_refl _) (by omega))]
      have key : loopN LF (B_X12_next_35 0 (nI u) (nI bits) h) (-1, 0, 0) = some (nxN (ms h) u bits 5).1 := by
        refine loopS (fun k => ((nxN (ms h) u bits k).1, nI (nxN (ms h) u bits k).2, nI k)) 5 (by omega) ?_ ?_
        · intro k hk
          have gr20 : mxN (lkN (ms h) u k bits) (fun i => bits.testBit i) (NB (ms h)) ≤ 20 := mxN_le _ _ 20 _ (fun i _ _ => Nat.le_trans (fb_ct_le _ _) (by omega))
          unfold B_X12_next_35
          simp only [nm, u3]
          rw [if_neg (show ¬ 5 ≤ nI k from nI_ge (b := 5) hk (by omega)), rf_12_29 R.1, Option.bind_some, ix5, ga_v (by omega) (by omega), Option.bind_some, m_66, mid k _ _ hk, Option.bind_some, nI_1]
          have stp : nxN (ms h) u bits (k + 1) = if ms h 66 (5 * u + k) = -1 then (if (nxN (ms h) u bits k).1 = -1 ∨ mxN (lkN (ms h) u k bits) (fun i => bits.testBit i) (NB (ms h)) < (nxN (ms h) u bits k).2 then (nI k, mxN (lkN (ms h) u k bits) (fun i => bits.testBit i) (NB (ms h))) else nxN (ms h) u bits k) else nxN (ms h) u bits k := rfl
          by_cases d1 : ms h 66 (5 * u + k) = -1
          · rw [if_pos d1] at stp
            rw [if_pos d1]
            rcases nxN_r R.m u bits k (by omega) with ⟨q1, q2⟩ | ⟨j, q0, q1, q2⟩
            · rw [if_pos (Or.inl q1)] at stp
              rw [stp, if_pos q1]
            · have qn : ¬ (nxN (ms h) u bits k).1 = -1 := by rw [q1]; exact nI_m1 (by omega)
              rw [if_neg qn]
              by_cases d2 : mxN (lkN (ms h) u k bits) (fun i => bits.testBit i) (NB (ms h)) < (nxN (ms h) u bits k).2
              · rw [if_pos (Or.inr d2)] at stp
                rw [stp, if_neg (nI_ge d2 (by omega))]
              · rw [if_neg (fun w => w.elim qn d2)] at stp
                rw [stp, if_pos (nI_le (by omega) (by omega))]
          · rw [if_neg d1] at stp
            rw [stp, if_neg d1]
        · unfold B_X12_next_35
          simp only [u3]
          rw [if_pos (show (5 : Int32) ≤ nI 5 by decide)]
      unfold F_X12_next
      rw [f_isUnnamed, Option.bind_some, ite_b, if_pos c1, f_couldOf R.1 R.m hu, Option.bind_some, ← hbe, f_ones (by omega), Option.bind_some, key, Option.bind_some]
      by_cases d : 2 ≤ pop bits
      · rw [if_pos (show (2 : Int32) ≤ nI (pop bits) from nI_le (a := 2) d (by omega)), if_pos d]
      · rw [if_neg (show ¬ (2 : Int32) ≤ nI (pop bits) from nI_ge (b := 2) (by omega) (by omega)), if_neg d]
  · refine ⟨-2, ?_, ?_, R⟩
    · unfold F_X11_next
      rw [e_isUnnamed R, Option.bind_some, ite_b, if_neg c1]
    · unfold F_X12_next
      rw [f_isUnnamed, Option.bind_some, ite_b, if_neg c1]
