/-! stage III: bells: states, tone, about, become, was, list, send, count -/
def wasN (m : Nat → Nat → Int32) (b : Nat) (w : Int32) : Nat → Int32
  | 0 => 0
  | k + 1 => if m 60 (16 * b + k) ≤ w then m 59 (16 * b + k) else wasN m b w k
def wasV (m : Nat → Nat → Int32) (b : Nat) (w : Int32) : Int32 := wasN m b w (chN m b)
def stV (m : Nat → Nat → Int32) (b : Nat) : Int32 := wasV m b (m 12 5)
theorem ix16 (b k : Nat) : 16 * nI b + nI k = nI (16 * b + k) := by rw [L16, pk_mul, nI_add]
theorem ix5 (b k : Nat) : 5 * nI b + nI k = nI (5 * b + k) := by rw [L5, pk_mul, nI_add]
theorem ix54 (b : Nat) : 5 * nI b + 4 = nI (5 * b + 4) := by rw [L5, L4, pk_mul, nI_add]
theorem ix60 (b k : Nat) : 60 * nI b + nI k = nI (60 * b + k) := by rw [L60, pk_mul, nI_add]
theorem e_stateNow {h : HP} (R : RQ h) {b : Nat} (hb : b < NB (ms h)) : F_X1_stateNow b h = some (stV (ms h) b) := by
  have h1 := v_ch R.m hb
  have h2 := b_ch R.m hb
  unfold F_X1_stateNow stV wasV
  rw [cb_7 R hb, h1, rb_6 R hb]
  cases hn : chN (ms h) b with
  | zero => rfl
  | succ k =>
    rw [if_neg (nI_ne0 (by omega) (by omega)), nI_pred, Option.bind_some, ga_v (by omega) (by omega), cb_22 R hb (by omega), Option.bind_some]
    unfold wasN
    rw [if_pos (b_60 R.m hb (by omega))]
theorem e_stateIn {h : HP} (R : RQ h) {b : Nat} (hb : b < NB (ms h)) (w : Int32) : F_X1_stateIn b w h = some (wasV (ms h) b w) := by
  have h1 := v_ch R.m hb
  have h2 := b_ch R.m hb
  unfold F_X1_stateIn wasV
  rw [cb_7 R hb, h1]
  have key : ∀ n, n ≤ chN (ms h) b → ∃ q, loopN LF (B_X1_stateIn_7 b w h) (nI n - 1) = some q ∧ (match q with | .inl x => (gr h 1 b 6).bind fun o17 => (ga h 22 o17 16 x).bind fun x20 => some x20 | .inr _ => some 0) = some (wasN (ms h) b w n) := by
    intro n hn
    refine ⟨_, loopD (fun k => nI k - 1) (fun k => Nat.rec (motive := fun _ => Int32 ⊕ Unit) (.inr ()) (fun k r => if ms h 60 (16 * b + k) ≤ w then .inl (nI k) else r) k) n (by omega) ?_ ?_, ?_⟩
    · intro k hk
      unfold B_X1_stateIn_7
      rw [nI_pred, if_neg (nI_pos (by omega)), rb_5 R hb, Option.bind_some, ga_v (by omega) (by omega), cb_21 R hb (by omega), Option.bind_some]
      by_cases c : ms h 60 (16 * b + k) ≤ w
      · right
        rw [if_neg (fun q => (fa_of_lt q).2.1 c)]
        simp only [c, if_true]
      · left
        rw [if_pos (fa_of_nle c)]
        simp only [c, if_false, nm, add_m1, and_self]
    · rfl
    · induction n with
      | zero => rfl
      | succ k ih =>
        simp only []
        unfold wasN
        by_cases c : ms h 60 (16 * b + k) ≤ w
        · rw [if_pos c, if_pos c]
          simp only []
          rw [rb_6 R hb, Option.bind_some, ga_v (by omega) (by omega), cb_22 R hb (by omega), Option.bind_some]
        · rw [if_neg c, if_neg c]
          exact ih (by omega)
  obtain ⟨q, h3, h4⟩ := key _ (Nat.le_refl _)
  show (loopN LF (B_X1_stateIn_7 b w h) (nI (chN (ms h) b) - 1)).bind _ = _
  rw [h3, Option.bind_some]
  cases q <;> exact h4
theorem f_wasIn {h : HP} (G : gR h.2.2) (W : MW (ms h)) {b : Nat} (hb : b < NB (ms h)) (w : Int32) : F_X12_wasIn 0 (nI b) w h = some (wasV (ms h) b w) := by
  have h1 := v_ch W hb
  have h2 := b_ch W hb
  have h3 := b_nb W
  unfold F_X12_wasIn
  have key : loopN LF (B_X12_wasIn_5 0 (nI b) w h) (0, 0) = some (wasV (ms h) b w) := by
    refine loopS (fun k => (wasN (ms h) b w k, nI k)) (chN (ms h) b) (by omega) ?_ ?_
    · intro k hk
      simp (disch := first | assumption | decide | omega) only [B_X12_wasIn_5, nm, u2, u3, u4, u5, u6, Option.bind_some, xr_si, xr_sl, xr_srow, wd_si, wd_sl, wd_srow, wd_self, wd_osi, wd_osl, wd_osr, if_true, if_false, and_self, and_true, true_and, false_and, and_false, ite_b, ite_b1, T10, eq_self, gi_si, xl_si, xi_sl, gl_sl, Nat.reduceEqDiff, not_true_eq_false, not_false_eq_true, rf_12_17 G, rf_12_18 G, rf_12_19 G, ga_v, m_58, m_59, m_60, h1, nI_leI, ix16, nI_1, show ¬ chN (ms h) b ≤ k from by omega]
      by_cases c : ms h 60 (16 * b + k) ≤ w
      · rw [if_neg (fun q => (fa_of_lt q).2.1 c)]
        simp only [wasN, c, if_true]
      · rw [if_pos (fa_of_nle c)]
        simp only [wasN, c, if_false]
    · simp (disch := first | assumption | decide | omega) only [B_X12_wasIn_5, nm, u2, u3, u4, u5, u6, Option.bind_some, xr_si, xr_sl, xr_srow, wd_si, wd_sl, wd_srow, wd_self, wd_osi, wd_osl, wd_osr, if_true, if_false, and_self, and_true, true_and, false_and, and_false, ite_b, ite_b1, T10, eq_self, gi_si, xl_si, xi_sl, gl_sl, Nat.reduceEqDiff, not_true_eq_false, not_false_eq_true, rf_12_17 G, ga_v, m_58, h1, nI_leI, Nat.le_refl]
      rfl
  rw [key]
  rfl
theorem f_stateOf {h : HP} (G : gR h.2.2) (W : MW (ms h)) {b : Nat} (hb : b < NB (ms h)) : F_X12_stateOf 0 (nI b) h = some (stV (ms h) b) := by
  unfold F_X12_stateOf
  rw [m_12_5, f_wasIn G W hb]
  rfl
theorem p_was : CP_was RQ := by
  intro h R a w
  by_cases c1 : 0 ≤ a ∧ a ≤ ms h 12 8 - 1
  · by_cases c2 : 0 ≤ w ∧ w ≤ ms h 12 5
    · obtain ⟨b, hb, rfl⟩ := in_cnt (v_nb R.m) (by have := b_nb R.m; omega) c1
      have h3 := b_nb R.m
      refine ⟨wasV (ms h) b w, ?_, ?_, R⟩
      · simp (disch := first | assumption | decide | omega) only [F_X11_was, e_has R, e_from, cw_wk R, nm, u2, u3, u4, u5, u6, Option.bind_some, xr_si, xr_sl, xr_srow, wd_si, wd_sl, wd_srow, wd_self, wd_osi, wd_osl, wd_osr, if_true, if_false, and_self, and_true, true_and, false_and, and_false, ite_b, ite_b1, T10, eq_self, gi_si, xl_si, xi_sl, gl_sl, Nat.reduceEqDiff, not_true_eq_false, not_false_eq_true, c1, c2, rf_11_3 R.1, rf_2_0 R.1, gar_v, rb_23 R hb, e_stateIn R hb]
      · simp (disch := first | assumption | decide | omega) only [F_X12_was, f_isBell, m_12_5, e_in_0_x, nm, u2, u3, u4, u5, u6, Option.bind_some, xr_si, xr_sl, xr_srow, wd_si, wd_sl, wd_srow, wd_self, wd_osi, wd_osl, wd_osr, if_true, if_false, and_self, and_true, true_and, false_and, and_false, ite_b, ite_b1, T10, eq_self, gi_si, xl_si, xi_sl, gl_sl, Nat.reduceEqDiff, not_true_eq_false, not_false_eq_true, c1, c2, f_wasIn R.1 R.m hb]
    · refine ⟨-2, ?_, ?_, R⟩
      · simp (disch := first | assumption | decide | omega) only [F_X11_was, e_has R, e_from, cw_wk R, nm, u2, u3, u4, u5, u6, Option.bind_some, xr_si, xr_sl, xr_srow, wd_si, wd_sl, wd_srow, wd_self, wd_osi, wd_osl, wd_osr, if_true, if_false, and_self, and_true, true_and, false_and, and_false, ite_b, ite_b1, T10, eq_self, gi_si, xl_si, xi_sl, gl_sl, Nat.reduceEqDiff, not_true_eq_false, not_false_eq_true, c1, c2, rf_11_3 R.1]
      · simp (disch := first | assumption | decide | omega) only [F_X12_was, f_isBell, m_12_5, e_in_0_x, nm, u2, u3, u4, u5, u6, Option.bind_some, xr_si, xr_sl, xr_srow, wd_si, wd_sl, wd_srow, wd_self, wd_osi, wd_osl, wd_osr, if_true, if_false, and_self, and_true, true_and, false_and, and_false, ite_b, ite_b1, T10, eq_self, gi_si, xl_si, xi_sl, gl_sl, Nat.reduceEqDiff, not_true_eq_false, not_false_eq_true, c1, c2]
  · refine ⟨-2, ?_, ?_, R⟩
    · simp (disch := first | assumption | decide | omega) only [F_X11_was, e_has R, e_from, cw_wk R, nm, u2, u3, u4, u5, u6, Option.bind_some, xr_si, xr_sl, xr_srow, wd_si, wd_sl, wd_srow, wd_self, wd_osi, wd_osl, wd_osr, if_true, if_false, and_self, and_true, true_and, false_and, and_false, ite_b, ite_b1, T10, eq_self, gi_si, xl_si, xi_sl, gl_sl, Nat.reduceEqDiff, not_true_eq_false, not_false_eq_true, c1, rf_11_3 R.1]
    · simp (disch := first | assumption | decide | omega) only [F_X12_was, f_isBell, m_12_5, e_in_0_x, nm, u2, u3, u4, u5, u6, Option.bind_some, xr_si, xr_sl, xr_srow, wd_si, wd_sl, wd_srow, wd_self, wd_osi, wd_osl, wd_osr, if_true, if_false, and_self, and_true, true_and, false_and, and_false, ite_b, ite_b1, T10, eq_self, gi_si, xl_si, xi_sl, gl_sl, Nat.reduceEqDiff, not_true_eq_false, not_false_eq_true, c1]
/-- what about() answers of a bell -/
def abV (m : Nat → Nat → Int32) (b : Nat) (x : Int32) : Int32 :=
  if x = 0 then m 50 b else if x = 1 then m 51 b else if x = 2 then m 52 b else if x = 3 then m 53 b else if x = 4 then stV m b else if x = 5 then m 55 b else if x = 6 then m 58 b else if x = 7 then m 56 b else if x = 8 then m 57 b else -1000
theorem e_about {h : HP} (R : RQ h) {b : Nat} (hb : b < NB (ms h)) (x : Int32) : F_X11_about 0 (nI b) x h = some (abV (ms h) b x) := by
  have h3 := b_nb R.m
  have c1 : 0 ≤ nI b ∧ nI b ≤ ms h 12 8 - 1 := ⟨nI_pos' (by omega), by rw [v_nb R.m, L1, pk_sub (by omega)]; exact nI_le (by omega) (by omega)⟩
  unfold F_X11_about
  rw [rf_11_3 R.1, Option.bind_some, e_has R, Option.bind_some, ite_b, if_pos c1, Option.bind_some, rf_2_0 R.1, Option.bind_some, gar_v (by omega) (by omega), rb_23 R hb, Option.bind_some, cb_0 R hb, cb_1 R hb, cb_2 R hb, cb_3 R hb, cb_7 R hb, cb_8 R hb, cb_9 R hb, cb_10 R hb, e_stateNow R hb, Option.bind_some]
  unfold abV
  repeat' split
  all_goals rfl
theorem f_about {h : HP} (G : gR h.2.2) (W : MW (ms h)) {b : Nat} (hb : b < NB (ms h)) (x : Int32) : F_X12_about 0 (nI b) x h = some (abV (ms h) b x) := by
  have h3 := b_nb W
  have c1 : 0 ≤ nI b ∧ nI b ≤ ms h 12 8 - 1 := ⟨nI_pos' (by omega), by rw [v_nb W, L1, pk_sub (by omega)]; exact nI_le (by omega) (by omega)⟩
  unfold F_X12_about
  rw [f_isBell, Option.bind_some, ite_b, if_pos c1, rf_12_9 G, Option.bind_some, rf_12_10 G, Option.bind_some, rf_12_11 G, Option.bind_some, rf_12_12 G, Option.bind_some, rf_12_14 G, Option.bind_some, rf_12_17 G, Option.bind_some, rf_12_15 G, Option.bind_some, rf_12_16 G, Option.bind_some, f_stateOf G W hb, Option.bind_some]
  simp (disch := first | assumption | decide | omega) only [ga_v, Option.bind_some, m_50, m_51, m_52, m_53, m_55, m_56, m_57, m_58]
  unfold abV
  repeat' split
  all_goals rfl
theorem p_about : CP_about RQ := by
  intro h R a x
  by_cases c1 : 0 ≤ a ∧ a ≤ ms h 12 8 - 1
  · obtain ⟨b, hb, rfl⟩ := in_cnt (v_nb R.m) (by have := b_nb R.m; omega) c1
    exact ⟨_, e_about R hb x, f_about R.1 R.m hb x, R⟩
  · refine ⟨-1000, ?_, ?_, R⟩
    · unfold F_X11_about
      rw [rf_11_3 R.1, Option.bind_some, e_has R, Option.bind_some, ite_b, if_neg c1]
    · unfold F_X12_about
      rw [f_isBell, Option.bind_some, ite_b, if_neg c1]
