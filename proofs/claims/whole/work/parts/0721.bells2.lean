/-! stage III: tone, list, send, become, count -/
theorem m1_cases {v u : Int32} (h0 : 0 ≤ u) : (-1 ≤ v ∧ v ≤ u) ↔ (v = -1 ∨ (0 ≤ v ∧ v ≤ u)) := by
  have e3 : (-1 : Int32).toInt = -1 := by decide
  have e4 : (0 : Int32).toInt = 0 := by decide
  rw [fa_le] at h0
  constructor
  · rintro ⟨q1, q2⟩
    by_cases e : v = -1
    · exact Or.inl e
    · right
      refine ⟨?_, q2⟩
      have e2 : v.toInt ≠ (-1 : Int32).toInt := fun w => e (Int32.toInt_inj.mp w)
      rw [fa_le] at *
      omega
  · rintro (rfl | ⟨q1, q2⟩)
    · refine ⟨by decide, ?_⟩
      rw [fa_le]
      omega
    · refine ⟨?_, q2⟩
      rw [fa_le] at *
      omega
theorem p_tone : CP_tone RQ := by
  intro h R a t v
  have h3 := b_nb R.m
  by_cases c1 : 0 ≤ a ∧ a ≤ ms h 12 8 - 1
  · obtain ⟨b, hb, rfl⟩ := in_cnt (v_nb R.m) (by omega) c1
    by_cases c2 : 0 ≤ t ∧ t ≤ 4
    · obtain ⟨u, hu, rfl⟩ := in_lit (n := 4) (by omega) c2
      by_cases c3 : (-1) ≤ v ∧ v ≤ 9999
      · have hv : tn v := ((m1_cases (by decide)).mp c3).imp id (fun q => cn_in 9999 q.1 q.2)
        have hJ : J_X11_tone_40 0 (nI b) (nI u) v h = some (ms h 54 (5 * b + u), dp (si h 20 b u v)) := by
          unfold J_X11_tone_40
          rw [rf_11_3 R.1, Option.bind_some, rf_2_0 R.1, Option.bind_some, gar_v (by omega) (by omega), rb_23 R hb, Option.bind_some, rb_4 R hb, Option.bind_some, ga_v (by omega) (by omega), Option.bind_some, sa_v (by omega) (by omega), Option.bind_some, cb_20 R hb (by omega)]
        refine ⟨ms h 54 (5 * b + u), dp (si h 20 b u v), dp (si (si h 20 b u v) 54 0 (5 * b + u) v), ?_, ?_, ?_⟩
        · unfold F_X11_tone
          rw [rf_11_3 R.1, Option.bind_some, e_has R, Option.bind_some, ite_b, if_pos c1, e_from, Option.bind_some, ite_b, if_pos c2, e_from, Option.bind_some, ite_b]
          by_cases e : v = -1
          · rw [hJ, if_pos e, ite_self]
          · rw [if_pos, hJ]
            exact ((m1_cases (by decide)).mp c3).resolve_left e
        · unfold F_X12_tone
          simp only [wd_si, wd_self]
          rw [f_isBell, Option.bind_some, ite_b, ms_sik _ _ (by decide), if_pos c1, e_in_0_4, Option.bind_some, ite_b, if_pos c2, e_in_m1_9999, Option.bind_some, ite_b, if_pos c3, xr_si, rf_12_13 R.1, Option.bind_some, ix5, ga_v (by omega) (by omega), Option.bind_some, Option.bind_some, sa_v (by omega) (by omega), Option.bind_some, m_54, ms_sik _ _ (by decide)]
        · simp only [wd_si, wd_osi, wd_self]
          refine RQ.mk R R.1 (by simp (disch := decide) only [gW_si, gW_sik]; exact R.w) (by simp (disch := decide) only [gP_si, gP_sik]; exact R.p) ⟨R.b.1, R.b.2.1, R.b.2.2.1, fun c hc => ⟨(R.b.2.2.2.1 c hc).1, ?_⟩, R.b.2.2.2.2⟩ (by simp (disch := decide) only [gL_si, gL_sik]; exact R.l) (by simp (disch := decide) only [gU_si, gU_sik]; exact R.u) (by simp (disch := decide) only [gT_si, gT_sik]; exact R.t) (by simp (disch := decide) only [gK_si, gK_sik]; exact R.k) (by simp (disch := decide) only [gC_si, gC_sik]; exact R.c) (by simp (disch := decide) only [gS_si, gS_sik]; exact R.s) (by simp (disch := decide) only [gF_si, gF_sik]; exact R.f)
          obtain ⟨q1, q2, q3, q4⟩ := (R.b.2.2.2.1 c hc).2
          refine ⟨q1, fun t' ht' => ?_, q3, q4⟩
          show gi (si (si h 20 b u v) 54 0 (5 * b + u) v) 20 c t' = gi (si (si h 20 b u v) 54 0 (5 * b + u) v) 54 0 (5 * c + t') ∧ tn (gi (si (si h 20 b u v) 54 0 (5 * b + u) v) 54 0 (5 * c + t'))
          by_cases e : c = b ∧ t' = u
          · simp (disch := first | assumption | decide | omega) only [nm, u2, u3, u4, u5, u6, Option.bind_some, xr_si, xr_sl, xr_srow, wd_si, wd_sl, wd_srow, wd_self, wd_osi, wd_osl, wd_osr, if_true, if_false, and_self, and_true, true_and, false_and, and_false, ite_b, ite_b1, T10, eq_self, gi_si, xl_si, xi_sl, gl_sl, Nat.reduceEqDiff, not_true_eq_false, not_false_eq_true, e.1, e.2]
            exact hv
          · simp (disch := first | assumption | decide | omega) only [nm, u2, u3, u4, u5, u6, Option.bind_some, xr_si, xr_sl, xr_srow, wd_si, wd_sl, wd_srow, wd_self, wd_osi, wd_osl, wd_osr, if_true, if_false, and_self, and_true, true_and, false_and, and_false, ite_b, ite_b1, T10, eq_self, gi_si, xl_si, xi_sl, gl_sl, Nat.reduceEqDiff, not_true_eq_false, not_false_eq_true, e, show ¬ 5 * c + t' = 5 * b + u from by omega]
            exact q2 t' ht'
      · refine ⟨-1000, dp h, dp h, ?_, ?_, R⟩
        · unfold F_X11_tone
          rw [rf_11_3 R.1, Option.bind_some, e_has R, Option.bind_some, ite_b, if_pos c1, e_from, Option.bind_some, ite_b, if_pos c2, e_from, Option.bind_some, ite_b, if_neg (fun q => c3 ((m1_cases (by decide)).mpr (Or.inr q))), if_neg (fun q => c3 ((m1_cases (by decide)).mpr (Or.inl q)))]
        · unfold F_X12_tone
          rw [wd_self, f_isBell, Option.bind_some, ite_b, if_pos c1, e_in_0_4, Option.bind_some, ite_b, if_pos c2, e_in_m1_9999, Option.bind_some, ite_b, if_neg c3]
    · refine ⟨-1000, dp h, dp h, ?_, ?_, R⟩
      · unfold F_X11_tone
        rw [rf_11_3 R.1, Option.bind_some, e_has R, Option.bind_some, ite_b, if_pos c1, e_from, Option.bind_some, ite_b, if_neg c2]
      · unfold F_X12_tone
        rw [wd_self, f_isBell, Option.bind_some, ite_b, if_pos c1, e_in_0_4, Option.bind_some, ite_b, if_neg c2]
  · refine ⟨-1000, dp h, dp h, ?_, ?_, R⟩
    · unfold F_X11_tone
      rw [rf_11_3 R.1, Option.bind_some, e_has R, Option.bind_some, ite_b, if_neg c1]
    · unfold F_X12_tone
      rw [wd_self, f_isBell, Option.bind_some, ite_b, if_neg c1]
theorem p_list : CP_list RQ := by
  intro h R a v
  have h3 := b_nb R.m
  by_cases c1 : 0 ≤ a ∧ a ≤ ms h 12 8 - 1
  · obtain ⟨b, hb, rfl⟩ := in_cnt (v_nb R.m) (by omega) c1
    by_cases c3 : (-1) ≤ v ∧ v ≤ 3
    · have hJ : J_X11_list_29 0 (nI b) v h = some (ms h 55 b, dp (si h 1 b 8 v)) := by
        unfold J_X11_list_29 nm
        rw [rf_11_3 R.1, Option.bind_some, rf_2_0 R.1, Option.bind_some, gar_v (by omega) (by omega), rb_23 R hb, Option.bind_some, cb_8 R hb]
      refine ⟨ms h 55 b, dp (si h 1 b 8 v), dp (si (si h 1 b 8 v) 55 0 b v), ?_, ?_, ?_⟩
      · unfold F_X11_list
        rw [rf_11_3 R.1, Option.bind_some, e_has R, Option.bind_some, ite_b, if_pos c1, e_from, Option.bind_some, ite_b]
        by_cases e : v = -1
        · rw [hJ, if_pos e, ite_self]
        · rw [if_pos, hJ]
          exact ((m1_cases (by decide)).mp c3).resolve_left e
      · unfold F_X12_list
        simp only [wd_si, wd_self]
        rw [f_isBell, Option.bind_some, ite_b, ms_si _ _ (by decide), if_pos c1, e_in_m1_3, Option.bind_some, ite_b, if_pos c3, xr_si, rf_12_14 R.1, Option.bind_some, ga_v (by omega) (by omega), Option.bind_some, Option.bind_some, sa_v (by omega) (by omega), Option.bind_some, m_55, ms_si _ _ (by decide)]
      · simp only [wd_si, wd_osi, wd_self]
        refine RQ.mk R R.1 (by simp (disch := decide) only [gW_si, gW_sik]; exact R.w) (by simp (disch := decide) only [gP_si, gP_sik]; exact R.p) ⟨R.b.1, R.b.2.1, R.b.2.2.1, fun c hc => ⟨(R.b.2.2.2.1 c hc).1, ?_⟩, R.b.2.2.2.2⟩ (by simp (disch := decide) only [gL_si, gL_sik]; exact R.l) (by simp (disch := decide) only [gU_si, gU_sik]; exact R.u) (by simp (disch := decide) only [gT_si, gT_sik]; exact R.t) (by simp (disch := decide) only [gK_si, gK_sik]; exact R.k) (by simp (disch := decide) only [gC_si, gC_sik]; exact R.c) (by simp (disch := decide) only [gS_si, gS_sik]; exact R.s) (by simp (disch := decide) only [gF_si, gF_sik]; exact R.f)
        obtain ⟨⟨w0, w1, w2, w3, w7, w8, w9, w10⟩, q2, q3, q4⟩ := (R.b.2.2.2.1 c hc).2
        have ew : ∀ s', s' ≠ 8 → gi (si (si h 1 b 8 v) 55 0 b v) 1 c s' = gi h 1 c s' := fun s' e => by rw [gi_si, if_neg (fun q => by omega), gi_si, if_neg (fun q => e q.2.2)]
        refine ⟨⟨(ew 0 (by decide)).trans w0, (ew 1 (by decide)).trans w1, (ew 2 (by decide)).trans w2, (ew 3 (by decide)).trans w3, (ew 7 (by decide)).trans w7, ?_, (ew 9 (by decide)).trans w9, (ew 10 (by decide)).trans w10⟩, q2, q3, q4⟩
        show gi (si (si h 1 b 8 v) 55 0 b v) 1 c 8 = gi (si (si h 1 b 8 v) 55 0 b v) 55 0 c
        by_cases e : c = b
        · simp (disch := first | assumption | decide | omega) only [nm, u2, u3, u4, u5, u6, Option.bind_some, xr_si, xr_sl, xr_srow, wd_si, wd_sl, wd_srow, wd_self, wd_osi, wd_osl, wd_osr, if_true, if_false, and_self, and_true, true_and, false_and, and_false, ite_b, ite_b1, T10, eq_self, gi_si, xl_si, xi_sl, gl_sl, Nat.reduceEqDiff, not_true_eq_false, not_false_eq_true, e]
        · simp (disch := first | assumption | decide | omega) only [nm, u2, u3, u4, u5, u6, Option.bind_some, xr_si, xr_sl, xr_srow, wd_si, wd_sl, wd_srow, wd_self, wd_osi, wd_osl, wd_osr, if_true, if_false, and_self, and_true, true_and, false_and, and_false, ite_b, ite_b1, T10, eq_self, gi_si, xl_si, xi_sl, gl_sl, Nat.reduceEqDiff, not_true_eq_false, not_false_eq_true, e]
          exact w8
    · refine ⟨-1000, dp h, dp h, ?_, ?_, R⟩
      · unfold F_X11_list
        rw [rf_11_3 R.1, Option.bind_some, e_has R, Option.bind_some, ite_b, if_pos c1, e_from, Option.bind_some, ite_b, if_neg (fun q => c3 ((m1_cases (by decide)).mpr (Or.inr q))), if_neg (fun q => c3 ((m1_cases (by decide)).mpr (Or.inl q)))]
      · unfold F_X12_list
        rw [wd_self, f_isBell, Option.bind_some, ite_b, if_pos c1, e_in_m1_3, Option.bind_some, ite_b, if_neg c3]
  · refine ⟨-1000, dp h, dp h, ?_, ?_, R⟩
    · unfold F_X11_list
      rw [rf_11_3 R.1, Option.bind_some, e_has R, Option.bind_some, ite_b, if_neg c1]
    · unfold F_X12_list
      rw [wd_self, f_isBell, Option.bind_some, ite_b, if_neg c1]
theorem p_send : CP_send RQ := by
  intro h R a x v
  have h3 := b_nb R.m
  by_cases c1 : 0 ≤ a ∧ a ≤ ms h 12 8 - 1
  · obtain ⟨b, hb, rfl⟩ := in_cnt (v_nb R.m) (by omega) c1
    by_cases x0 : x = 0
    · subst x0
      by_cases c2 : 1 ≤ v ∧ v ≤ 99
      · refine ⟨ms h 56 b, dp (si h 1 b 9 v), dp (si (si h 1 b 9 v) 56 0 b v), ?_, ?_, ?_⟩
        · unfold F_X11_send nm
          rw [rf_11_3 R.1, Option.bind_some, e_has R, Option.bind_some, ite_b, if_pos c1, Option.bind_some, rf_2_0 R.1, Option.bind_some, gar_v (by omega) (by omega), rb_23 R hb, Option.bind_some, if_pos rfl, e_from, Option.bind_some, ite_b, if_pos c2, cb_9 R hb]
        · unfold F_X12_send
          simp only [wd_si, wd_self]
          rw [f_isBell, Option.bind_some, ite_b, ms_si _ _ (by decide), if_pos c1, e_in_0_1, Option.bind_some, ite_b, if_pos (show (0 : Int32) ≤ 0 ∧ (0 : Int32) ≤ 1 from ⟨by decide, by decide⟩), if_pos trivial]
          unfold J_X12_send_29
          rw [if_pos rfl]
          unfold J_X12_send_42
          rw [e_in_1_99, Option.bind_some, ite_b, if_pos c2, if_pos rfl, xr_si, rf_12_15 R.1, Option.bind_some, ga_v (by omega) (by omega), Option.bind_some]
          unfold J_X12_send_70
          rw [if_pos rfl, xr_si, rf_12_15 R.1, Option.bind_some, sa_v (by omega) (by omega), Option.bind_some, m_56, ms_si _ _ (by decide)]
        · simp only [wd_si, wd_osi, wd_self]
          refine RQ.mk R R.1 (by simp (disch := decide) only [gW_si, gW_sik]; exact R.w) (by simp (disch := decide) only [gP_si, gP_sik]; exact R.p) ⟨R.b.1, R.b.2.1, R.b.2.2.1, fun c hc => ⟨(R.b.2.2.2.1 c hc).1, ?_⟩, R.b.2.2.2.2⟩ (by simp (disch := decide) only [gL_si, gL_sik]; exact R.l) (by simp (disch := decide) only [gU_si, gU_sik]; exact R.u) (by simp (disch := decide) only [gT_si, gT_sik]; exact R.t) (by simp (disch := decide) only [gK_si, gK_sik]; exact R.k) (by simp (disch := decide) only [gC_si, gC_sik]; exact R.c) (by simp (disch := decide) only [gS_si, gS_sik]; exact R.s) (by simp (disch := decide) only [gF_si, gF_sik]; exact R.f)
          obtain ⟨⟨w0, w1, w2, w3, w7, w8, w9, w10⟩, q2, q3, ⟨q4, q5, q6, q7⟩⟩ := (R.b.2.2.2.1 c hc).2
          have ew : ∀ s', s' ≠ 9 → gi (si (si h 1 b 9 v) 56 0 b v) 1 c s' = gi h 1 c s' := fun s' e => by rw [gi_si, if_neg (fun q => by omega), gi_si, if_neg (fun q => e q.2.2)]
          refine ⟨⟨(ew 0 (by decide)).trans w0, (ew 1 (by decide)).trans w1, (ew 2 (by decide)).trans w2, (ew 3 (by decide)).trans w3, (ew 7 (by decide)).trans w7, (ew 8 (by decide)).trans w8, ?_, (ew 10 (by decide)).trans w10⟩, q2, q3, ⟨q4, q5, ?_, q7⟩⟩
          · show gi (si (si h 1 b 9 v) 56 0 b v) 1 c 9 = gi (si (si h 1 b 9 v) 56 0 b v) 56 0 c
            by_cases e : c = b
            · simp (disch := first | assumption | decide | omega) only [nm, u2, u3, u4, u5, u6, Option.bind_some, xr_si, xr_sl, xr_srow, wd_si, wd_sl, wd_srow, wd_self, wd_osi, wd_osl, wd_osr, if_true, if_false, and_self, and_true, true_and, false_and, and_false, ite_b, ite_b1, T10, eq_self, gi_si, xl_si, xi_sl, gl_sl, Nat.reduceEqDiff, not_true_eq_false, not_false_eq_true, e]
            · simp (disch := first | assumption | decide | omega) only [nm, u2, u3, u4, u5, u6, Option.bind_some, xr_si, xr_sl, xr_srow, wd_si, wd_sl, wd_srow, wd_self, wd_osi, wd_osl, wd_osr, if_true, if_false, and_self, and_true, true_and, false_and, and_false, ite_b, ite_b1, T10, eq_self, gi_si, xl_si, xi_sl, gl_sl, Nat.reduceEqDiff, not_true_eq_false, not_false_eq_true, e]
              exact w9
          · show cn (gi (si (si h 1 b 9 v) 56 0 b v) 56 0 c) 99
            by_cases e : c = b
            · simp (disch := first | assumption | decide | omega) only [nm, u2, u3, u4, u5, u6, Option.bind_some, xr_si, xr_sl, xr_srow, wd_si, wd_sl, wd_srow, wd_self, wd_osi, wd_osl, wd_osr, if_true, if_false, and_self, and_true, true_and, false_and, and_false, ite_b, ite_b1, T10, eq_self, gi_si, xl_si, xi_sl, gl_sl, Nat.reduceEqDiff, not_true_eq_false, not_false_eq_true, e]
              obtain ⟨n, n1, n2, rfl⟩ := in_litl (l := 1) (n := 99) (by omega) (by omega) c2
              exact cn_of n2 (by omega)
            · simp (disch := first | assumption | decide | omega) only [nm, u2, u3, u4, u5, u6, Option.bind_some, xr_si, xr_sl, xr_srow, wd_si, wd_sl, wd_srow, wd_self, wd_osi, wd_osl, wd_osr, if_true, if_false, and_self, and_true, true_and, false_and, and_false, ite_b, ite_b1, T10, eq_self, gi_si, xl_si, xi_sl, gl_sl, Nat.reduceEqDiff, not_true_eq_false, not_false_eq_true, e]
              exact q6
      · refine ⟨-2, dp h, dp h, ?_, ?_, R⟩
        · unfold F_X11_send
          rw [rf_11_3 R.1, Option.bind_some, e_has R, Option.bind_some, ite_b, if_pos c1, Option.bind_some, rf_2_0 R.1, Option.bind_some, gar_v (by omega) (by omega), rb_23 R hb, Option.bind_some, if_pos rfl, e_from, Option.bind_some, ite_b, if_neg c2]
          rfl
        · unfold F_X12_send
          rw [wd_self, f_isBell, Option.bind_some, ite_b, if_pos c1, e_in_0_1, Option.bind_some, ite_b, if_pos (show (0 : Int32) ≤ 0 ∧ (0 : Int32) ≤ 1 from ⟨by decide, by decide⟩), if_pos rfl]
          unfold J_X12_send_29
          rw [if_pos rfl]
          unfold J_X12_send_42
          rw [e_in_1_99, Option.bind_some, ite_b, if_neg c2]
    · by_cases x1 : x = 1
      · subst x1
        by_cases c2 : 0 ≤ v ∧ v ≤ 999
        · refine ⟨ms h 57 b, dp (si h 1 b 10 v), dp (si (si h 1 b 10 v) 57 0 b v), ?_, ?_, ?_⟩
          · unfold F_X11_send
            rw [rf_11_3 R.1, Option.bind_some, e_has R, Option.bind_some, ite_b, if_pos c1, Option.bind_some, rf_2_0 R.1, Option.bind_some, gar_v (by omega) (by omega), rb_23 R hb, Option.bind_some, if_neg x0]
            unfold J_X11_send_55 nm
            rw [if_pos rfl, e_from, Option.bind_some, ite_b, if_pos c2, cb_10 R hb]
          · unfold F_X12_send
            simp only [wd_si, wd_self]
            rw [f_isBell, Option.bind_some, ite_b, ms_si _ _ (by decide), if_pos c1, e_in_0_1, Option.bind_some, ite_b, if_pos (show (0 : Int32) ≤ 1 ∧ (1 : Int32) ≤ 1 from ⟨by decide, by decide⟩), if_neg x0]
            unfold J_X12_send_29
            rw [if_neg x0]
            unfold J_X12_send_42
            rw [e_in_0_999, Option.bind_some, ite_b, if_pos c2, if_neg x0, xr_si, rf_12_16 R.1, Option.bind_some, ga_v (by omega) (by omega), Option.bind_some]
            unfold J_X12_send_70
            rw [if_neg x0, xr_si, rf_12_16 R.1, Option.bind_some, sa_v (by omega) (by omega), Option.bind_some, m_57, ms_si _ _ (by decide)]
          · simp only [wd_si, wd_osi, wd_self]
            refine RQ.mk R R.1 (by simp (disch := decide) only [gW_si, gW_sik]; exact R.w) (by simp (disch := decide) only [gP_si, gP_sik]; exact R.p) ⟨R.b.1, R.b.2.1, R.b.2.2.1, fun c hc => ⟨(R.b.2.2.2.1 c hc).1, ?_⟩, R.b.2.2.2.2⟩ (by simp (disch := decide) only [gL_si, gL_sik]; exact R.l) (by simp (disch := decide) only [gU_si, gU_sik]; exact R.u) (by simp (disch := decide) only [gT_si, gT_sik]; exact R.t) (by simp (disch := decide) only [gK_si, gK_sik]; exact R.k) (by simp (disch := decide) only [gC_si, gC_sik]; exact R.c) (by simp (disch := decide) only [gS_si, gS_sik]; exact R.s) (by simp (disch := decide) only [gF_si, gF_sik]; exact R.f)
            obtain ⟨⟨w0, w1, w2, w3, w7, w8, w9, w10⟩, q2, q3, ⟨q4, q5, q6, q7, q8⟩⟩ := (R.b.2.2.2.1 c hc).2
            have ew : ∀ s', s' ≠ 10 → gi (si (si h 1 b 10 v) 57 0 b v) 1 c s' = gi h 1 c s' := fun s' e => by rw [gi_si, if_neg (fun q => by omega), gi_si, if_neg (fun q => e q.2.2)]
            refine ⟨⟨(ew 0 (by decide)).trans w0, (ew 1 (by decide)).trans w1, (ew 2 (by decide)).trans w2, (ew 3 (by decide)).trans w3, (ew 7 (by decide)).trans w7, (ew 8 (by decide)).trans w8, (ew 9 (by decide)).trans w9, ?_⟩, q2, q3, ⟨q4, q5, q6, ?_, q8⟩⟩
            · show gi (si (si h 1 b 10 v) 57 0 b v) 1 c 10 = gi (si (si h 1 b 10 v) 57 0 b v) 57 0 c
              by_cases e : c = b
              · simp (disch := first | assumption | decide | omega) only [nm, u2, u3, u4, u5, u6, Option.bind_some, xr_si, xr_sl, xr_srow, wd_si, wd_sl, wd_srow, wd_self, wd_osi, wd_osl, wd_osr, if_true, if_false, and_self, and_true, true_and, false_and, and_false, ite_b, ite_b1, T10, eq_self, gi_si, xl_si, xi_sl, gl_sl, Nat.reduceEqDiff, not_true_eq_false, not_false_eq_true, e]
              · simp (disch := first | assumption | decide | omega) only [nm, u2, u3, u4, u5, u6, Option.bind_some, xr_si, xr_sl, xr_srow, wd_si, wd_sl, wd_srow, wd_self, wd_osi, wd_osl, wd_osr, if_true, if_false, and_self, and_true, true_and, false_and, and_false, ite_b, ite_b1, T10, eq_self, gi_si, xl_si, xi_sl, gl_sl, Nat.reduceEqDiff, not_true_eq_false, not_false_eq_true, e]
                exact w10
            · show cn (gi (si (si h 1 b 10 v) 57 0 b v) 57 0 c) 999
              by_cases e : c = b
              · simp (disch := first | assumption | decide | omega) only [nm, u2, u3, u4, u5, u6, Option.bind_some, xr_si, xr_sl, xr_srow, wd_si, wd_sl, wd_srow, wd_self, wd_osi, wd_osl, wd_osr, if_true, if_false, and_self, and_true, true_and, false_and, and_false, ite_b, ite_b1, T10, eq_self, gi_si, xl_si, xi_sl, gl_sl, Nat.reduceEqDiff, not_true_eq_false, not_false_eq_true, e]
                exact cn_in 999 c2.1 c2.2
              · simp (disch := first | assumption | decide | omega) only [nm, u2, u3, u4, u5, u6, Option.bind_some, xr_si, xr_sl, xr_srow, wd_si, wd_sl, wd_srow, wd_self, wd_osi, wd_osl, wd_osr, if_true, if_false, and_self, and_true, true_and, false_and, and_false, ite_b, ite_b1, T10, eq_self, gi_si, xl_si, xi_sl, gl_sl, Nat.reduceEqDiff, not_true_eq_false, not_false_eq_true, e]
                exact q7
        · refine ⟨-2, dp h, dp h, ?_, ?_, R⟩
          · unfold F_X11_send
            rw [rf_11_3 R.1, Option.bind_some, e_has R, Option.bind_some, ite_b, if_pos c1, Option.bind_some, rf_2_0 R.1, Option.bind_some, gar_v (by omega) (by omega), rb_23 R hb, Option.bind_some, if_neg x0]
            unfold J_X11_send_55 nm
            rw [if_pos rfl, e_from, Option.bind_some, ite_b, if_neg c2]
          · unfold F_X12_send
            rw [wd_self, f_isBell, Option.bind_some, ite_b, if_pos c1, e_in_0_1, Option.bind_some, ite_b, if_pos (show (0 : Int32) ≤ 1 ∧ (1 : Int32) ≤ 1 from ⟨by decide, by decide⟩), if_neg x0]
            unfold J_X12_send_29
            rw [if_neg x0]
            unfold J_X12_send_42
            rw [e_in_0_999, Option.bind_some, ite_b, if_neg c2]
      · have c2 : ¬ (0 ≤ x ∧ x ≤ 1) := by
          intro q
          obtain ⟨n, hn, rfl⟩ := in_lit (n := 1) (by omega) q
          have : n = 0 ∨ n = 1 := by omega
          rcases this with rfl | rfl
          · exact x0 rfl
          · exact x1 rfl
        refine ⟨-2, dp h, dp h, ?_, ?_, R⟩
        · unfold F_X11_send
          rw [rf_11_3 R.1, Option.bind_some, e_has R, Option.bind_some, ite_b, if_pos c1, Option.bind_some, rf_2_0 R.1, Option.bind_some, gar_v (by omega) (by omega), rb_23 R hb, Option.bind_some, if_neg x0]
          unfold J_X11_send_55
          rw [if_neg x1]
        · unfold F_X12_send
          rw [wd_self, f_isBell, Option.bind_some, ite_b, if_pos c1, e_in_0_1, Option.bind_some, ite_b, if_neg c2]
  · refine ⟨-2, dp h, dp h, ?_, ?_, R⟩
    · unfold F_X11_send
      rw [rf_11_3 R.1, Option.bind_some, e_has R, Option.bind_some, ite_b, if_neg c1]
    · unfold F_X12_send
      rw [wd_self, f_isBell, Option.bind_some, ite_b, if_neg c1]
