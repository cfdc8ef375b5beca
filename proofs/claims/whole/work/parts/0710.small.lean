/-! stage III: tests of both sides, small methods -/
theorem in_cnt {x a : Int32} {n : Nat} (hx : x = nI n) (hn : n < 1000000) (h : 0 ≤ a ∧ a ≤ x - 1) : ∃ b, b < n ∧ a = nI b := by
  obtain ⟨h1, h2⟩ := h
  subst hx
  obtain ⟨j, hj, rfl⟩ := nI_of (x := a) (fun q => (fa_of_lt q).2.1 h1)
  refine ⟨j, ?_, rfl⟩
  rw [fa_le, nI_toInt (by omega), show nI n - 1 = nI n - nI 1 from rfl, pk_sub_toInt (by omega) (by omega)] at h2
  omega
theorem in_lit {a : Int32} {n : Nat} (hn : n < 1000000) (h : 0 ≤ a ∧ a ≤ nI n) : ∃ b, b ≤ n ∧ a = nI b := by
  obtain ⟨h1, h2⟩ := h
  obtain ⟨j, hj, rfl⟩ := nI_of (x := a) (fun q => (fa_of_lt q).2.1 h1)
  rw [nI_leI (by omega) (by omega)] at h2
  exact ⟨j, h2, rfl⟩
theorem in_litl {a : Int32} {l n : Nat} (hl : l < 1000000) (hn : n < 1000000) (h : nI l ≤ a ∧ a ≤ nI n) : ∃ b, l ≤ b ∧ b ≤ n ∧ a = nI b := by
  obtain ⟨h1, h2⟩ := h
  have h0 : 0 ≤ a := by
    rw [fa_le] at *
    rw [nI_toInt (by omega)] at h1
    have : (0 : Int32).toInt = 0 := by decide
    omega
  obtain ⟨j, hj, rfl⟩ := nI_of (x := a) (fun q => (fa_of_lt q).2.1 h0)
  rw [nI_leI (by omega) (by omega)] at h1 h2
  exact ⟨j, h1, h2, rfl⟩
/-! the class's tests -/
theorem e_isLand (a : Int32) : F_X11_isLand a = some (if 0 ≤ a ∧ a ≤ 3 then 1 else 0) := by simp only [F_X11_isLand, e_from, Option.bind_some, e_bz]
theorem e_isSheet (a : Int32) : F_X11_isSheet a = some (if 0 ≤ a ∧ a ≤ 3 then 1 else 0) := by simp only [F_X11_isSheet, e_from, Option.bind_some, e_bz]
theorem e_isWeek (a : Int32) : F_X11_isWeek a = some (if 0 ≤ a ∧ a ≤ 199 then 1 else 0) := by simp only [F_X11_isWeek, e_from, Option.bind_some, e_bz]
theorem e_isProof (a : Int32) : F_X11_isProof a = some (if 0 ≤ a ∧ a ≤ 4 then 1 else 0) := by simp only [F_X11_isProof, e_from, Option.bind_some, e_bz]
theorem e_isForm (a : Int32) : F_X11_isForm a = some (if 0 ≤ a ∧ a ≤ 2 then 1 else 0) := by simp only [F_X11_isForm, e_from, Option.bind_some, e_bz]
theorem e_isParish {h : HP} (R : RQ h) (a : Int32) : F_X11_isParish 0 a h = some (if 0 ≤ a ∧ a ≤ ms h 12 6 - 1 then 1 else 0) := by simp only [F_X11_isParish, cw_np R, e_from, Option.bind_some, e_bz]
theorem e_isUnnamed {h : HP} (R : RQ h) (a : Int32) : F_X11_isUnnamed 0 a h = some (if 0 ≤ a ∧ a ≤ ms h 12 28 - 1 then 1 else 0) := by simp only [F_X11_isUnnamed, cw_nu R, e_from, Option.bind_some, e_bz]
theorem e_isBatch {h : HP} (R : RQ h) (a : Int32) : F_X11_isBatch 0 a h = some (if 0 ≤ a ∧ a ≤ ms h 12 39 - 1 then 1 else 0) := by simp only [F_X11_isBatch, cw_nk R, e_from, Option.bind_some, e_bz]
theorem e_has {h : HP} (R : RQ h) (a : Int32) : F_X2_has 0 a h = some (if 0 ≤ a ∧ a ≤ ms h 12 8 - 1 then 1 else 0) := by simp only [F_X2_has, cw_nb R, e_from, Option.bind_some, e_bz]
/-! the reference's tests -/
theorem f_isSheet (a : Int32) : F_X12_isSheet a = some (if 0 ≤ a ∧ a ≤ 3 then 1 else 0) := by simp only [F_X12_isSheet, e_in_0_3, Option.bind_some, e_bz]
theorem f_isWeek (a : Int32) : F_X12_isWeek a = some (if 0 ≤ a ∧ a ≤ 199 then 1 else 0) := by simp only [F_X12_isWeek, e_in_0_199, Option.bind_some, e_bz]
theorem f_isParish (h : HP) (a : Int32) : F_X12_isParish 0 a h = some (if 0 ≤ a ∧ a ≤ ms h 12 6 - 1 then 1 else 0) := by simp only [F_X12_isParish, m_12_6, e_in_0_x, Option.bind_some, e_bz]
theorem f_isBell (h : HP) (a : Int32) : F_X12_isBell 0 a h = some (if 0 ≤ a ∧ a ≤ ms h 12 8 - 1 then 1 else 0) := by simp only [F_X12_isBell, m_12_8, e_in_0_x, Option.bind_some, e_bz]
theorem f_isUnnamed (h : HP) (a : Int32) : F_X12_isUnnamed 0 a h = some (if 0 ≤ a ∧ a ≤ ms h 12 28 - 1 then 1 else 0) := by simp only [F_X12_isUnnamed, m_12_28, e_in_0_x, Option.bind_some, e_bz]
theorem f_isBatch (h : HP) (a : Int32) : F_X12_isBatch 0 a h = some (if 0 ≤ a ∧ a ≤ ms h 12 39 - 1 then 1 else 0) := by simp only [F_X12_isBatch, m_12_39, e_in_0_x, Option.bind_some, e_bz]
/-! pass -/
theorem vw_at {D : Nat → Nat → Bool} (h : HP) {k s : Nat} (i : Nat) (hd : D k s = true) : vw D h k i s = gi h k i s := if_pos hd
theorem RQ.mk {h h' : HP} (_R : RQ h) (r : gR h'.2.2) (w : gW (vw dW h') h'.2.2) (p : gP (vw dP h') h'.2.2) (b : gB (vw dB h') h'.2.2) (l : gL (vw dL h') h'.2.2) (u : gU (vw dU h') h'.2.2) (t : gT (vw dT h') h'.2.2) (k : gK (vw dK h') h'.2.2) (c : gC (vw dC h') h'.2.2) (s : gS (vw dS h') h'.2.2) (f : gF (vw dF h') h'.2.2) : RQ h' := ⟨r, w, p, b, l, u, t, k, c, s, f⟩
theorem T10 : ((1 : Int32) = 0) = False := by decide
theorem gB_week {v v' : Nat → Nat → Nat → Int32} {r : RF} (hg : gB v r) (e : ∀ k i s, k ≠ 12 → v' k i s = v k i s) (e8 : v' 12 0 8 = v 12 0 8) (hw : v 12 0 5 ≤ v' 12 0 5) : gB v' r := by
  have e1 : ∀ i s, v' 1 i s = v 1 i s := fun i s => e 1 i s (by omega)
  have e2 : ∀ i s, v' 2 i s = v 2 i s := fun i s => e 2 i s (by omega)
  have e20 : ∀ i s, v' 20 i s = v 20 i s := fun i s => e 20 i s (by omega)
  have e21 : ∀ i s, v' 21 i s = v 21 i s := fun i s => e 21 i s (by omega)
  have e22 : ∀ i s, v' 22 i s = v 22 i s := fun i s => e 22 i s (by omega)
  have e50 : ∀ i s, v' 50 i s = v 50 i s := fun i s => e 50 i s (by omega)
  have e51 : ∀ i s, v' 51 i s = v 51 i s := fun i s => e 51 i s (by omega)
  have e52 : ∀ i s, v' 52 i s = v 52 i s := fun i s => e 52 i s (by omega)
  have e53 : ∀ i s, v' 53 i s = v 53 i s := fun i s => e 53 i s (by omega)
  have e54 : ∀ i s, v' 54 i s = v 54 i s := fun i s => e 54 i s (by omega)
  have e55 : ∀ i s, v' 55 i s = v 55 i s := fun i s => e 55 i s (by omega)
  have e56 : ∀ i s, v' 56 i s = v 56 i s := fun i s => e 56 i s (by omega)
  have e57 : ∀ i s, v' 57 i s = v 57 i s := fun i s => e 57 i s (by omega)
  have e58 : ∀ i s, v' 58 i s = v 58 i s := fun i s => e 58 i s (by omega)
  have e59 : ∀ i s, v' 59 i s = v 59 i s := fun i s => e 59 i s (by omega)
  have e60 : ∀ i s, v' 60 i s = v 60 i s := fun i s => e 60 i s (by omega)
  unfold gB bE at *
  simp only [e1, e2, e20, e21, e22, e50, e51, e52, e53, e54, e55, e56, e57, e58, e59, e60, e8]
  obtain ⟨h1, h2, h3, h4, h5⟩ := hg
  refine ⟨h1, h2, h3, fun b hb => ?_, h5⟩
  obtain ⟨q1, q2, q3, ⟨q4, q5⟩, q6⟩ := h4 b hb
  refine ⟨q1, q2, q3, ⟨q4, fun k hk => ?_⟩, q6⟩
  obtain ⟨w1, w2, w3⟩ := q5 k hk
  refine ⟨w1, w2, ?_⟩
  rw [fa_le] at *
  omega
theorem p_pass : CP_pass RQ := by
  intro h R a
  by_cases c1 : 1 ≤ a ∧ a ≤ 100
  · by_cases c2 : ms h 12 5 + a ≤ 199
    · have hw : cn (ms h 12 5 + a) 199 ∧ ms h 12 5 ≤ ms h 12 5 + a := by
        obtain ⟨n, h1, h2, rfl⟩ := in_litl (l := 1) (n := 100) (by omega) (by omega) c1
        have h3 := b_wk R.m
        rw [v_wk R.m, nI_add] at c2 ⊢
        rw [show (199 : Int32) = nI 199 from rfl, nI_leI (by omega) (by omega)] at c2
        exact ⟨cn_of c2 (by omega), nI_le (by omega) (by omega)⟩
      refine ⟨ms h 12 5 + a, dp (si h 11 0 0 (ms h 12 5 + a)), dp (si (si h 11 0 0 (ms h 12 5 + a)) 12 0 5 (ms h 12 5 + a)), ?_, ?_, ?_⟩
      · simp (disch := first | assumption | decide | omega) only [F_X11_pass, e_from, nm, u2, u3, u4, u5, u6, Option.bind_some, xr_si, xr_sl, xr_srow, wd_si, wd_sl, wd_srow, wd_self, wd_osi, wd_osl, wd_osr, if_true, if_false, and_self, and_true, true_and, false_and, and_false, ite_b, ite_b1, T10, eq_self, gi_si, xl_si, xi_sl, gl_sl, Nat.reduceEqDiff, not_true_eq_false, not_false_eq_true, c1, c2, cw_wk R]
      · simp (disch := first | assumption | decide | omega) only [F_X12_pass, e_in_1_100, nm, u2, u3, u4, u5, u6, Option.bind_some, xr_si, xr_sl, xr_srow, wd_si, wd_sl, wd_srow, wd_self, wd_osi, wd_osl, wd_osr, if_true, if_false, and_self, and_true, true_and, false_and, and_false, ite_b, ite_b1, T10, eq_self, gi_si, xl_si, xi_sl, gl_sl, Nat.reduceEqDiff, not_true_eq_false, not_false_eq_true, c1, c2, m_12_5, ms_si, ms_sik, ms_pt, ms_ptk]
      · simp only [wd_si, wd_osi, wd_self]
        refine RQ.mk R R.1 ⟨rfl, hw.1⟩ (by simp (disch := decide) only [gP_si, gP_sik]; exact R.p) (gB_week R.b ?_ ?_ hw.2) (by simp (disch := decide) only [gL_si, gL_sik]; exact R.l) (by simp (disch := decide) only [gU_si, gU_sik]; exact R.u) (by simp (disch := decide) only [gT_si, gT_sik]; exact R.t) (by simp (disch := decide) only [gK_si, gK_sik]; exact R.k) (by simp (disch := decide) only [gC_si, gC_sik]; exact R.c) (by simp (disch := decide) only [gS_si, gS_sik]; exact R.s) (by simp (disch := decide) only [gF_si, gF_sik]; exact R.f)
        · intro k i s hk
          unfold vw
          split
          · rename_i hd
            rw [gi_si, gi_si, if_neg (fun q => hk q.1), if_neg]
            rintro ⟨rfl, -, rfl⟩
            cases hd
          · rfl
        · rfl
    · refine ⟨-2, dp h, dp h, ?_, ?_, ?_⟩
      · simp (disch := first | assumption | decide | omega) only [F_X11_pass, e_from, nm, u2, u3, u4, u5, u6, Option.bind_some, xr_si, xr_sl, xr_srow, wd_si, wd_sl, wd_srow, wd_self, wd_osi, wd_osl, wd_osr, if_true, if_false, and_self, and_true, true_and, false_and, and_false, ite_b, ite_b1, T10, eq_self, gi_si, xl_si, xi_sl, gl_sl, Nat.reduceEqDiff, not_true_eq_false, not_false_eq_true, c1, c2, cw_wk R]
      · simp (disch := first | assumption | decide | omega) only [F_X12_pass, e_in_1_100, nm, u2, u3, u4, u5, u6, Option.bind_some, xr_si, xr_sl, xr_srow, wd_si, wd_sl, wd_srow, wd_self, wd_osi, wd_osl, wd_osr, if_true, if_false, and_self, and_true, true_and, false_and, and_false, ite_b, ite_b1, T10, eq_self, gi_si, xl_si, xi_sl, gl_sl, Nat.reduceEqDiff, not_true_eq_false, not_false_eq_true, c1, c2, m_12_5]
      · exact R
  · refine ⟨-2, dp h, dp h, ?_, ?_, ?_⟩
    · simp (disch := first | assumption | decide | omega) only [F_X11_pass, e_from, nm, u2, u3, u4, u5, u6, Option.bind_some, xr_si, xr_sl, xr_srow, wd_si, wd_sl, wd_srow, wd_self, wd_osi, wd_osl, wd_osr, if_true, if_false, and_self, and_true, true_and, false_and, and_false, ite_b, ite_b1, T10, eq_self, gi_si, xl_si, xi_sl, gl_sl, Nat.reduceEqDiff, not_true_eq_false, not_false_eq_true, c1]
    · simp (disch := first | assumption | decide | omega) only [F_X12_pass, e_in_1_100, nm, u2, u3, u4, u5, u6, Option.bind_some, xr_si, xr_sl, xr_srow, wd_si, wd_sl, wd_srow, wd_self, wd_osi, wd_osl, wd_osr, if_true, if_false, and_self, and_true, true_and, false_and, and_false, ite_b, ite_b1, T10, eq_self, gi_si, xl_si, xi_sl, gl_sl, Nat.reduceEqDiff, not_true_eq_false, not_false_eq_true, c1]
    · exact R
theorem p_parish : CP_parish RQ := by
  intro h R a
  have hb := b_np R.m
  by_cases c1 : 0 ≤ a ∧ a ≤ 3
  · by_cases c2 : NP (ms h) = 8
    · refine ⟨-4, dp h, dp h, ?_, ?_, R⟩
      · simp (disch := first | assumption | decide | omega) only [F_X11_parish, e_isLand, nm, u2, u3, u4, u5, u6, Option.bind_some, xr_si, xr_sl, xr_srow, wd_si, wd_sl, wd_srow, wd_self, wd_osi, wd_osl, wd_osr, if_true, if_false, and_self, and_true, true_and, false_and, and_false, ite_b, ite_b1, T10, eq_self, gi_si, xl_si, xi_sl, gl_sl, Nat.reduceEqDiff, not_true_eq_false, not_false_eq_true, c1, cw_np R, v_np R.m, c2, show (nI 8 < 8) = False from by decide]
      · simp (disch := first | assumption | decide | omega) only [F_X12_parish, e_in_0_3, nm, u2, u3, u4, u5, u6, Option.bind_some, xr_si, xr_sl, xr_srow, wd_si, wd_sl, wd_srow, wd_self, wd_osi, wd_osl, wd_osr, if_true, if_false, and_self, and_true, true_and, false_and, and_false, ite_b, ite_b1, T10, eq_self, gi_si, xl_si, xi_sl, gl_sl, Nat.reduceEqDiff, not_true_eq_false, not_false_eq_true, c1, m_12_6, v_np R.m, c2, show (nI 8 = 8) = True from by decide]
    · have c3 : nI (NP (ms h)) < 8 := nI_lt (b := 8) (by omega) (by omega)
      have c4 : ¬ nI (NP (ms h)) = 8 := by rw [L8, nI_eq (by omega) (by omega)]; exact c2
      refine ⟨nI (NP (ms h)), dp (si (si h 41 0 (NP (ms h)) a) 11 0 2 (nI (NP (ms h) + 1))), dp (si (si (si (si h 41 0 (NP (ms h)) a) 11 0 2 (nI (NP (ms h) + 1))) 49 0 (NP (ms h)) a) 12 0 6 (nI (NP (ms h) + 1))), ?_, ?_, ?_⟩
      · simp (disch := first | assumption | decide | omega) only [F_X11_parish, e_isLand, nm, u2, u3, u4, u5, u6, Option.bind_some, xr_si, xr_sl, xr_srow, wd_si, wd_sl, wd_srow, wd_self, wd_osi, wd_osl, wd_osr, if_true, if_false, and_self, and_true, true_and, false_and, and_false, ite_b, ite_b1, T10, eq_self, gi_si, xl_si, xi_sl, gl_sl, Nat.reduceEqDiff, not_true_eq_false, not_false_eq_true, c1, cw_np R, v_np R.m, c3, rf_11_1 R.1, sa_v, nI_1, nI_pred]
      · simp (disch := first | assumption | decide | omega) only [F_X12_parish, e_in_0_3, nm, u2, u3, u4, u5, u6, Option.bind_some, xr_si, xr_sl, xr_srow, wd_si, wd_sl, wd_srow, wd_self, wd_osi, wd_osl, wd_osr, if_true, if_false, and_self, and_true, true_and, false_and, and_false, ite_b, ite_b1, T10, eq_self, gi_si, xl_si, xi_sl, gl_sl, Nat.reduceEqDiff, not_true_eq_false, not_false_eq_true, c1, m_12_6, ms_si, ms_sik, ms_pt, ms_ptk, v_np R.m, c4, rf_12_7 R.1, sa_v, nI_1, nI_pred]
      · simp only [wd_si, wd_osi, wd_self]
        refine RQ.mk R R.1 (by simp (disch := decide) only [gW_si, gW_sik]; exact R.w) ⟨rfl, cn_of (n := NP (ms h) + 1) (by omega) (by omega), fun p hp => ?_⟩ (by simp (disch := decide) only [gB_si, gB_sik]; exact R.b) (by simp (disch := decide) only [gL_si, gL_sik]; exact R.l) (by simp (disch := decide) only [gU_si, gU_sik]; exact R.u) (by simp (disch := decide) only [gT_si, gT_sik]; exact R.t) (by simp (disch := decide) only [gK_si, gK_sik]; exact R.k) (by simp (disch := decide) only [gC_si, gC_sik]; exact R.c) (by simp (disch := decide) only [gS_si, gS_sik]; exact R.s) (by simp (disch := decide) only [gF_si, gF_sik]; exact R.f)
        show gi _ 41 0 p = gi _ 49 0 p ∧ cn (gi _ 49 0 p) 3
        by_cases e : p = NP (ms h)
        · simp (disch := first | assumption | decide | omega) only [nm, u2, u3, u4, u5, u6, Option.bind_some, xr_si, xr_sl, xr_srow, wd_si, wd_sl, wd_srow, wd_self, wd_osi, wd_osl, wd_osr, if_true, if_false, and_self, and_true, true_and, false_and, and_false, ite_b, ite_b1, T10, eq_self, gi_si, xl_si, xi_sl, gl_sl, Nat.reduceEqDiff, not_true_eq_false, not_false_eq_true, e]
          exact cn_in 3 c1.1 c1.2
        · simp (disch := first | assumption | decide | omega) only [nm, u2, u3, u4, u5, u6, Option.bind_some, xr_si, xr_sl, xr_srow, wd_si, wd_sl, wd_srow, wd_self, wd_osi, wd_osl, wd_osr, if_true, if_false, and_self, and_true, true_and, false_and, and_false, ite_b, ite_b1, T10, eq_self, gi_si, xl_si, xi_sl, gl_sl, Nat.reduceEqDiff, not_true_eq_false, not_false_eq_true, e]
          exact R.p.2.2 p hp
  · refine ⟨-2, dp h, dp h, ?_, ?_, R⟩
    · simp (disch := first | assumption | decide | omega) only [F_X11_parish, e_isLand, nm, u2, u3, u4, u5, u6, Option.bind_some, xr_si, xr_sl, xr_srow, wd_si, wd_sl, wd_srow, wd_self, wd_osi, wd_osl, wd_osr, if_true, if_false, and_self, and_true, true_and, false_and, and_false, ite_b, ite_b1, T10, eq_self, gi_si, xl_si, xi_sl, gl_sl, Nat.reduceEqDiff, not_true_eq_false, not_false_eq_true, c1]
    · simp (disch := first | assumption | decide | omega) only [F_X12_parish, e_in_0_3, nm, u2, u3, u4, u5, u6, Option.bind_some, xr_si, xr_sl, xr_srow, wd_si, wd_sl, wd_srow, wd_self, wd_osi, wd_osl, wd_osr, if_true, if_false, and_self, and_true, true_and, false_and, and_false, ite_b, ite_b1, T10, eq_self, gi_si, xl_si, xi_sl, gl_sl, Nat.reduceEqDiff, not_true_eq_false, not_false_eq_true, c1]
theorem p_moved : CP_moved RQ := by
  intro h R a l
  have hb := b_np R.m
  by_cases c1 : 0 ≤ a ∧ a ≤ ms h 12 6 - 1
  · by_cases c2 : 0 ≤ l ∧ l ≤ 3
    · obtain ⟨p, hp, rfl⟩ := in_cnt (v_np R.m) (by omega) c1
      by_cases c3 : ms h 49 p = l
      · refine ⟨-2, dp h, dp h, ?_, ?_, R⟩
        · simp (disch := first | assumption | decide | omega) only [F_X11_moved, e_isParish R, e_isLand, nm, u2, u3, u4, u5, u6, Option.bind_some, xr_si, xr_sl, xr_srow, wd_si, wd_sl, wd_srow, wd_self, wd_osi, wd_osl, wd_osr, if_true, if_false, and_self, and_true, true_and, false_and, and_false, ite_b, ite_b1, T10, eq_self, gi_si, xl_si, xi_sl, gl_sl, Nat.reduceEqDiff, not_true_eq_false, not_false_eq_true, c1, c2, c3, rf_11_1 R.1, ga_v, cp_41 R]
        · simp (disch := first | assumption | decide | omega) only [F_X12_moved, f_isParish, e_in_0_3, nm, u2, u3, u4, u5, u6, Option.bind_some, xr_si, xr_sl, xr_srow, wd_si, wd_sl, wd_srow, wd_self, wd_osi, wd_osl, wd_osr, if_true, if_false, and_self, and_true, true_and, false_and, and_false, ite_b, ite_b1, T10, eq_self, gi_si, xl_si, xi_sl, gl_sl, Nat.reduceEqDiff, not_true_eq_false, not_false_eq_true, c1, c2, c3, rf_12_7 R.1, ga_v, m_49]
      · refine ⟨ms h 49 p, dp (si h 41 0 p l), dp (si (si h 41 0 p l) 49 0 p l), ?_, ?_, ?_⟩
        · simp (disch := first | assumption | decide | omega) only [F_X11_moved, e_isParish R, e_isLand, nm, u2, u3, u4, u5, u6, Option.bind_some, xr_si, xr_sl, xr_srow, wd_si, wd_sl, wd_srow, wd_self, wd_osi, wd_osl, wd_osr, if_true, if_false, and_self, and_true, true_and, false_and, and_false, ite_b, ite_b1, T10, eq_self, gi_si, xl_si, xi_sl, gl_sl, Nat.reduceEqDiff, not_true_eq_false, not_false_eq_true, c1, c2, c3, rf_11_1 R.1, ga_v, sa_v, cp_41 R]
        · simp (disch := first | assumption | decide | omega) only [F_X12_moved, f_isParish, e_in_0_3, nm, u2, u3, u4, u5, u6, Option.bind_some, xr_si, xr_sl, xr_srow, wd_si, wd_sl, wd_srow, wd_self, wd_osi, wd_osl, wd_osr, if_true, if_false, and_self, and_true, true_and, false_and, and_false, ite_b, ite_b1, T10, eq_self, gi_si, xl_si, xi_sl, gl_sl, Nat.reduceEqDiff, not_true_eq_false, not_false_eq_true, c1, c2, c3, rf_12_7 R.1, ga_v, sa_v, m_49, ms_si, ms_sik, ms_pt, ms_ptk]
        · simp only [wd_si, wd_osi, wd_self]
          refine RQ.mk R R.1 (by simp (disch := decide) only [gW_si, gW_sik]; exact R.w) ⟨R.p.1, R.p.2.1, fun q hq => ?_⟩ (by simp (disch := decide) only [gB_si, gB_sik]; exact R.b) (by simp (disch := decide) only [gL_si, gL_sik]; exact R.l) (by simp (disch := decide) only [gU_si, gU_sik]; exact R.u) (by simp (disch := decide) only [gT_si, gT_sik]; exact R.t) (by simp (disch := decide) only [gK_si, gK_sik]; exact R.k) (by simp (disch := decide) only [gC_si, gC_sik]; exact R.c) (by simp (disch := decide) only [gS_si, gS_sik]; exact R.s) (by simp (disch := decide) only [gF_si, gF_sik]; exact R.f)
          show gi _ 41 0 q = gi _ 49 0 q ∧ cn (gi _ 49 0 q) 3
          by_cases e : q = p
          · simp (disch := first | assumption | decide | omega) only [nm, u2, u3, u4, u5, u6, Option.bind_some, xr_si, xr_sl, xr_srow, wd_si, wd_sl, wd_srow, wd_self, wd_osi, wd_osl, wd_osr, if_true, if_false, and_self, and_true, true_and, false_and, and_false, ite_b, ite_b1, T10, eq_self, gi_si, xl_si, xi_sl, gl_sl, Nat.reduceEqDiff, not_true_eq_false, not_false_eq_true, e]
            exact cn_in 3 c2.1 c2.2
          · simp (disch := first | assumption | decide | omega) only [nm, u2, u3, u4, u5, u6, Option.bind_some, xr_si, xr_sl, xr_srow, wd_si, wd_sl, wd_srow, wd_self, wd_osi, wd_osl, wd_osr, if_true, if_false, and_self, and_true, true_and, false_and, and_false, ite_b, ite_b1, T10, eq_self, gi_si, xl_si, xi_sl, gl_sl, Nat.reduceEqDiff, not_true_eq_false, not_false_eq_true, e]
            exact R.p.2.2 q hq
    · refine ⟨-2, dp h, dp h, ?_, ?_, R⟩
      · simp (disch := first | assumption | decide | omega) only [F_X11_moved, e_isParish R, e_isLand, nm, u2, u3, u4, u5, u6, Option.bind_some, xr_si, xr_sl, xr_srow, wd_si, wd_sl, wd_srow, wd_self, wd_osi, wd_osl, wd_osr, if_true, if_false, and_self, and_true, true_and, false_and, and_false, ite_b, ite_b1, T10, eq_self, gi_si, xl_si, xi_sl, gl_sl, Nat.reduceEqDiff, not_true_eq_false, not_false_eq_true, c1, c2]
      · simp (disch := first | assumption | decide | omega) only [F_X12_moved, f_isParish, e_in_0_3, nm, u2, u3, u4, u5, u6, Option.bind_some, xr_si, xr_sl, xr_srow, wd_si, wd_sl, wd_srow, wd_self, wd_osi, wd_osl, wd_osr, if_true, if_false, and_self, and_true, true_and, false_and, and_false, ite_b, ite_b1, T10, eq_self, gi_si, xl_si, xi_sl, gl_sl, Nat.reduceEqDiff, not_true_eq_false, not_false_eq_true, c1, c2]
  · refine ⟨-2, dp h, dp h, ?_, ?_, R⟩
    · simp (disch := first | assumption | decide | omega) only [F_X11_moved, e_isParish R, e_isLand, nm, u2, u3, u4, u5, u6, Option.bind_some, xr_si, xr_sl, xr_srow, wd_si, wd_sl, wd_srow, wd_self, wd_osi, wd_osl, wd_osr, if_true, if_false, and_self, and_true, true_and, false_and, and_false, ite_b, ite_b1, T10, eq_self, gi_si, xl_si, xi_sl, gl_sl, Nat.reduceEqDiff, not_true_eq_false, not_false_eq_true, c1]
    · simp (disch := first | assumption | decide | omega) only [F_X12_moved, f_isParish, e_in_0_3, nm, u2, u3, u4, u5, u6, Option.bind_some, xr_si, xr_sl, xr_srow, wd_si, wd_sl, wd_srow, wd_self, wd_osi, wd_osl, wd_osr, if_true, if_false, and_self, and_true, true_and, false_and, and_false, ite_b, ite_b1, T10, eq_self, gi_si, xl_si, xi_sl, gl_sl, Nat.reduceEqDiff, not_true_eq_false, not_false_eq_true, c1]
