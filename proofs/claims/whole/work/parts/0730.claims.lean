/-! stage III: claim, rank, whose, lands -/
theorem p_claim : CP_claim RQ := by
  intro h R a b pr w
  have h3 := b_nb R.m
  have h4 := b_np R.m
  have h5 := b_nc R.m
  by_cases c1 : 0 ≤ a ∧ a ≤ ms h 12 6 - 1
  · by_cases c2 : 0 ≤ b ∧ b ≤ ms h 12 8 - 1
    · by_cases c3 : 0 ≤ pr ∧ pr ≤ 4
      · by_cases c4 : 0 ≤ w ∧ w ≤ 199
        · by_cases c5 : NC (ms h) = 30
          · refine ⟨-4, dp h, dp h, ?_, ?_, R⟩
            · unfold F_X11_claim
              rw [e_isParish R, Option.bind_some, ite_b, if_pos c1, rf_11_3 R.1, Option.bind_some, e_has R, Option.bind_some, ite_b, if_pos c2, e_isProof, Option.bind_some, ite_b, if_pos c3, e_isWeek, Option.bind_some, ite_b, if_pos c4, rf_11_13 R.1, Option.bind_some, cw_nc R, v_nc R.m, c5, if_neg (show ¬ nI 30 < 30 by decide)]
            · unfold F_X12_claim
              rw [wd_self, f_isParish, Option.bind_some, ite_b, if_pos c1, f_isBell, Option.bind_some, ite_b, if_pos c2, e_in_0_4, Option.bind_some, ite_b, if_pos c3, f_isWeek, Option.bind_some, ite_b, if_pos c4, m_12_54, v_nc R.m, c5, if_pos (show nI 30 = 30 from rfl)]
          · have hA : F_X3_add 0 a b pr w h = some (dp (si (si (si (si (si h 24 0 (NC (ms h)) a) 25 0 (NC (ms h)) b) 26 0 (NC (ms h)) pr) 27 0 (NC (ms h)) w) 3 0 5 (nI (NC (ms h) + 1)))) := by
              unfold F_X3_add nm
              rw [cw_nc R, v_nc R.m, if_neg (show ¬ 30 ≤ nI (NC (ms h)) from nI_ge (a := NC (ms h)) (b := 30) (by omega) (by omega)), rf_3_0 R.1, Option.bind_some, sa_v (by omega) (by omega), Option.bind_some]
              simp (disch := first | assumption | decide | omega) only [xr_si, rf_3_1 R.1, rf_3_2 R.1, rf_3_3 R.1, gi_si, cw_nc R, v_nc R.m, sa_v, Option.bind_some, nI_1, Nat.reduceEqDiff, false_and, if_false]
            generalize hn : NC (ms h) = n at *
            have hv := v_nc R.m
            rw [hn] at hv
            refine ⟨nI (n + 1), dp (si (si (si (si (si h 24 0 n a) 25 0 n b) 26 0 n pr) 27 0 n w) 3 0 5 (nI (n + 1))), dp (si (si (si (si (si (si (si (si (si (si h 24 0 n a) 25 0 n b) 26 0 n pr) 27 0 n w) 3 0 5 (nI (n + 1))) 79 0 n a) 80 0 n b) 81 0 n pr) 82 0 n w) 12 0 54 (nI (n + 1))), ?_, ?_, ?_⟩
            · unfold F_X11_claim
              rw [e_isParish R, Option.bind_some, ite_b, if_pos c1, rf_11_3 R.1, Option.bind_some, e_has R, Option.bind_some, ite_b, if_pos c2, e_isProof, Option.bind_some, ite_b, if_pos c3, e_isWeek, Option.bind_some, ite_b, if_pos c4, rf_11_13 R.1, Option.bind_some, cw_nc R, hv, if_pos (show nI n < 30 from nI_lt (a := n) (b := 30) (by omega) (by omega)), Option.bind_some, hA, Option.bind_some]
              unfold nm
              simp only [wd_si, wd_self, xr_si, rf_11_13 R.1, Option.bind_some, gi_si, and_self, if_true]
            · simp only [wd_si, wd_self]
              have hX2 : ms (si (si (si (si (si h 24 0 n a) 25 0 n b) 26 0 n pr) 27 0 n w) 3 0 5 (nI (n + 1))) = ms h := by
                rw [ms_sik _ _ (by decide), ms_sik _ _ (by decide), ms_sik _ _ (by decide), ms_sik _ _ (by decide), ms_sik _ _ (by decide)]
              have G' : gR (si (si (si (si (si h 24 0 n a) 25 0 n b) 26 0 n pr) 27 0 n w) 3 0 5 (nI (n + 1))).2.2 := R.1
              generalize si (si (si (si (si h 24 0 n a) 25 0 n b) 26 0 n pr) 27 0 n w) 3 0 5 (nI (n + 1)) = X at hX2 G'
              unfold F_X12_claim nm
              rw [f_isParish, Option.bind_some, ite_b, hX2, if_pos c1, f_isBell, Option.bind_some, ite_b, hX2, if_pos c2, e_in_0_4, Option.bind_some, ite_b, if_pos c3, f_isWeek, Option.bind_some, ite_b, if_pos c4, m_12_54, hX2, hv, if_neg (show ¬ nI n = 30 from fun q => c5 ((nI_eq (b := 30) (by omega) (by omega)).mp q)), rf_12_55 G', Option.bind_some, sa_v (by omega) (by omega), Option.bind_some]
              simp (disch := first | assumption | decide | omega) only [xr_si, rf_12_56 G', rf_12_57 G', rf_12_58 G', gi_si, m_12_54, ms_sik, hX2, hv, sa_v, Option.bind_some, nI_1, and_self, if_true, Nat.reduceEqDiff, false_and, if_false, ms_pt]
            · simp only [wd_si, wd_osi, wd_self]
              obtain ⟨q1, q2, q3, q4⟩ := R.c
              refine RQ.mk R R.1 (by simp (disch := decide) only [gW_si, gW_sik]; exact R.w) (by simp (disch := decide) only [gP_si, gP_sik]; exact R.p) (by simp (disch := decide) only [gB_si, gB_sik]; exact R.b) (by simp (disch := decide) only [gL_si, gL_sik]; exact R.l) (by simp (disch := decide) only [gU_si, gU_sik]; exact R.u) (by simp (disch := decide) only [gT_si, gT_sik]; exact R.t) (by simp (disch := decide) only [gK_si, gK_sik]; exact R.k) ⟨?_, ?_, fun c hc => ?_, q4⟩ (by simp (disch := decide) only [gS_si, gS_sik]; exact R.s) (by simp (disch := decide) only [gF_si, gF_sik]; exact R.f)
              · rfl
              · exact cn_of (n := n + 1) (by omega) (by omega)
              · generalize hX : si (si (si (si (si (si (si (si (si (si h 24 0 n a) 25 0 n b) 26 0 n pr) 27 0 n w) 3 0 5 (nI (n + 1))) 79 0 n a) 80 0 n b) 81 0 n pr) 82 0 n w) 12 0 54 (nI (n + 1)) = X
                show (gi X 24 0 c = gi X 79 0 c ∧ gi X 25 0 c = gi X 80 0 c ∧ gi X 26 0 c = gi X 81 0 c ∧ gi X 27 0 c = gi X 82 0 c) ∧ cn (gi X 79 0 c) 7 ∧ cn (gi X 81 0 c) 4
                rw [← hX]
                simp only [gi_si, Nat.reduceEqDiff, false_and, if_false, true_and]
                by_cases e : c = n
                · simp only [e, if_true]
                  refine ⟨⟨trivial, trivial, trivial, trivial⟩, ?_, cn_in 4 c3.1 c3.2⟩
                  obtain ⟨p, hp, rfl⟩ := in_cnt (v_np R.m) (by omega) c1
                  exact cn_of (by omega) (by omega)
                · simp only [e, if_false]
                  exact q3 c hc
        · refine ⟨-2, dp h, dp h, ?_, ?_, R⟩
          · unfold F_X11_claim
            rw [e_isParish R, Option.bind_some, ite_b, if_pos c1, rf_11_3 R.1, Option.bind_some, e_has R, Option.bind_some, ite_b, if_pos c2, e_isProof, Option.bind_some, ite_b, if_pos c3, e_isWeek, Option.bind_some, ite_b, if_neg c4]
          · unfold F_X12_claim
            rw [wd_self, f_isParish, Option.bind_some, ite_b, if_pos c1, f_isBell, Option.bind_some, ite_b, if_pos c2, e_in_0_4, Option.bind_some, ite_b, if_pos c3, f_isWeek, Option.bind_some, ite_b, if_neg c4]
      · refine ⟨-2, dp h, dp h, ?_, ?_, R⟩
        · unfold F_X11_claim
          rw [e_isParish R, Option.bind_some, ite_b, if_pos c1, rf_11_3 R.1, Option.bind_some, e_has R, Option.bind_some, ite_b, if_pos c2, e_isProof, Option.bind_some, ite_b, if_neg c3]
        · unfold F_X12_claim
          rw [wd_self, f_isParish, Option.bind_some, ite_b, if_pos c1, f_isBell, Option.bind_some, ite_b, if_pos c2, e_in_0_4, Option.bind_some, ite_b, if_neg c3]
    · refine ⟨-2, dp h, dp h, ?_, ?_, R⟩
      · unfold F_X11_claim
        rw [e_isParish R, Option.bind_some, ite_b, if_pos c1, rf_11_3 R.1, Option.bind_some, e_has R, Option.bind_some, ite_b, if_neg c2]
      · unfold F_X12_claim
        rw [wd_self, f_isParish, Option.bind_some, ite_b, if_pos c1, f_isBell, Option.bind_some, ite_b, if_neg c2]
  · refine ⟨-2, dp h, dp h, ?_, ?_, R⟩
    · unfold F_X11_claim
      rw [e_isParish R, Option.bind_some, ite_b, if_neg c1]
    · unfold F_X12_claim
      rw [wd_self, f_isParish, Option.bind_some, ite_b, if_neg c1]
theorem p_rank : CP_rank RQ := by
  intro h R a v
  by_cases c1 : 0 ≤ a ∧ a ≤ 4
  · by_cases c2 : 0 ≤ v ∧ v ≤ 9
    · obtain ⟨p, hp, rfl⟩ := in_lit (n := 4) (by omega) c1
      refine ⟨ms h 83 p, dp (si h 28 0 p v), dp (si (si h 28 0 p v) 83 0 p v), ?_, ?_, ?_⟩
      · unfold F_X11_rank
        rw [e_isProof, Option.bind_some, ite_b, if_pos c1, e_from, Option.bind_some, ite_b, if_pos c2, rf_11_13 R.1, Option.bind_some, rf_3_4 R.1, Option.bind_some, ga_v (by omega) (by omega), Option.bind_some, Option.bind_some, rf_3_4 R.1, Option.bind_some, sa_v (by omega) (by omega), Option.bind_some, cc_28 R (by omega)]
      · unfold F_X12_rank
        simp only [wd_si, wd_self]
        rw [e_in_0_4, Option.bind_some, ite_b, if_pos c1, e_in_0_9, Option.bind_some, ite_b, if_pos c2, xr_si, rf_12_59 R.1, Option.bind_some, ga_v (by omega) (by omega), Option.bind_some, Option.bind_some, sa_v (by omega) (by omega), Option.bind_some, m_83, ms_sik _ _ (by decide)]
      · simp only [wd_si, wd_osi, wd_self]
        obtain ⟨q1, q2, q3, q4⟩ := R.c
        refine RQ.mk R R.1 (by simp (disch := decide) only [gW_si, gW_sik]; exact R.w) (by simp (disch := decide) only [gP_si, gP_sik]; exact R.p) (by simp (disch := decide) only [gB_si, gB_sik]; exact R.b) (by simp (disch := decide) only [gL_si, gL_sik]; exact R.l) (by simp (disch := decide) only [gU_si, gU_sik]; exact R.u) (by simp (disch := decide) only [gT_si, gT_sik]; exact R.t) (by simp (disch := decide) only [gK_si, gK_sik]; exact R.k) ⟨q1, q2, q3, fun c hc => ?_⟩ (by simp (disch := decide) only [gS_si, gS_sik]; exact R.s) (by simp (disch := decide) only [gF_si, gF_sik]; exact R.f)
        show gi (si (si h 28 0 p v) 83 0 p v) 28 0 c = gi (si (si h 28 0 p v) 83 0 p v) 83 0 c ∧ cn (gi (si (si h 28 0 p v) 83 0 p v) 83 0 c) 9
        by_cases e : c = p
        · simp (disch := first | assumption | decide | omega) only [nm, u2, u3, u4, u5, u6, Option.bind_some, xr_si, xr_sl, xr_srow, wd_si, wd_sl, wd_srow, wd_self, wd_osi, wd_osl, wd_osr, if_true, if_false, and_self, and_true, true_and, false_and, and_false, ite_b, ite_b1, T10, eq_self, gi_si, xl_si, xi_sl, gl_sl, Nat.reduceEqDiff, not_true_eq_false, not_false_eq_true, e]
          exact cn_in 9 c2.1 c2.2
        · simp (disch := first | assumption | decide | omega) only [nm, u2, u3, u4, u5, u6, Option.bind_some, xr_si, xr_sl, xr_srow, wd_si, wd_sl, wd_srow, wd_self, wd_osi, wd_osl, wd_osr, if_true, if_false, and_self, and_true, true_and, false_and, and_false, ite_b, ite_b1, T10, eq_self, gi_si, xl_si, xi_sl, gl_sl, Nat.reduceEqDiff, not_true_eq_false, not_false_eq_true, e]
          exact q4 c hc
    · refine ⟨-2, dp h, dp h, ?_, ?_, R⟩
      · unfold F_X11_rank
        rw [e_isProof, Option.bind_some, ite_b, if_pos c1, e_from, Option.bind_some, ite_b, if_neg c2]
      · unfold F_X12_rank
        rw [wd_self, e_in_0_4, Option.bind_some, ite_b, if_pos c1, e_in_0_9, Option.bind_some, ite_b, if_neg c2]
  · refine ⟨-2, dp h, dp h, ?_, ?_, R⟩
    · unfold F_X11_rank
      rw [e_isProof, Option.bind_some, ite_b, if_neg c1]
    · unfold F_X12_rank
      rw [wd_self, e_in_0_4, Option.bind_some, ite_b, if_neg c1]
/-! whose -/
def toldB (m : Nat → Nat → Int32) (b w : Int32) (c : Nat) : Prop := m 80 c = b ∧ m 82 c ≤ w
theorem e_isTold {h : HP} (R : RQ h) (b w : Int32) {c : Nat} (hc : c < 30) : F_X3_isTold 0 (nI c) b w h = some (if ms h 80 c = b ∧ ms h 82 c ≤ w then 1 else 0) := by
  unfold F_X3_isTold
  rw [rf_3_1 R.1, Option.bind_some, ga_v hc (by omega), Option.bind_some, cc_25 R hc, rf_3_3 R.1, Option.bind_some, ga_v hc (by omega), Option.bind_some, cc_27 R hc]
  by_cases e1 : ms h 80 c = b
  · rw [if_pos e1]
    by_cases e2 : w < ms h 82 c
    · rw [if_pos e2, if_neg (fun q => (fa_of_lt e2).2.1 q.2)]
    · rw [if_neg e2, if_pos ⟨e1, fa_of_nlt e2⟩]
  · rw [if_neg e1, if_neg (fun q => e1 q.1)]
theorem f_isTold {h : HP} (G : gR h.2.2) (b w : Int32) {c : Nat} (hc : c < 30) : F_X12_isTold 0 (nI c) b w h = some (if ms h 80 c = b ∧ ms h 82 c ≤ w then 1 else 0) := by
  unfold F_X12_isTold
  rw [rf_12_56 G, Option.bind_some, ga_v hc (by omega), Option.bind_some, m_80, rf_12_58 G, Option.bind_some, ga_v hc (by omega), Option.bind_some, m_82]
  by_cases e1 : ms h 80 c = b
  · rw [if_pos e1]
    by_cases e2 : w < ms h 82 c
    · rw [if_pos e2, if_neg (fun q => (fa_of_lt e2).2.1 q.2)]
    · rw [if_neg e2, if_pos ⟨e1, fa_of_nlt e2⟩]
  · rw [if_neg e1, if_neg (fun q => e1 q.1)]
/-- of claims c and on from 0: the best rank, the parishes that have it -/
def whN (m : Nat → Nat → Int32) (b w : Int32) : Nat → Int32 × Nat
  | 0 => (10, 0)
  | c + 1 => if m 80 c = b ∧ m 82 c ≤ w then (if m 83 (m 81 c).toNatClampNeg < (whN m b w c).1 then (m 83 (m 81 c).toNatClampNeg, 2 ^ (m 79 c).toNatClampNeg) else if m 83 (m 81 c).toNatClampNeg = (whN m b w c).1 then ((whN m b w c).1, (whN m b w c).2 ||| 2 ^ (m 79 c).toNatClampNeg) else whN m b w c) else whN m b w c
/-- the one who owns it, out of the parishes with the best rank -/
def owV (x : Nat) : Int32 := if x = 0 then -3 else if pop x ≤ 1 then nI (ntzN 8 x) else -1
theorem or_lt {a b : Nat} (n : Nat) (ha : a < 2 ^ n) (hb : b < 2 ^ n) : a ||| b < 2 ^ n := Nat.or_lt_two_pow ha hb
theorem pw8 {p : Nat} (h : p < 8) : 2 ^ p < 256 := by
  have := Nat.pow_lt_pow_right (a := 2) (m := p) (n := 8) (by omega) h
  omega
theorem whN_ok {m : Nat → Nat → Int32} (W : MW m) (b w : Int32) : ∀ c, c ≤ 30 → (whN m b w c).2 < 256 ∧ ((whN m b w c).2 = 0 → (whN m b w c).1 = 10) := by
  intro c
  induction c with
  | zero => intro _; exact ⟨by show (0 : Nat) < 256; omega, fun _ => rfl⟩
  | succ c ih =>
    intro hc
    obtain ⟨i1, i2⟩ := ih (by omega)
    have hp := pw8 (p := (m 79 c).toNatClampNeg) (by have := (n_79 W (c := c) (by omega)).2; omega)
    have h0 : 0 < 2 ^ (m 79 c).toNatClampNeg := Nat.two_pow_pos _
    unfold whN
    split
    · split
      · exact ⟨hp, fun q => by simp only [] at q; omega⟩
      · split
        · refine ⟨or_lt 8 i1 hp, fun q => ?_⟩
          simp only [] at q
          have := Nat.right_le_or (n := (whN m b w c).2) (m := 2 ^ (m 79 c).toNatClampNeg)
          omega
        · exact ⟨i1, i2⟩
    · exact ⟨i1, i2⟩
theorem ow_1 : ∀ p, p < 8 → owV (2 ^ p) = nI p := by decide +kernel
theorem ow_or : ∀ x, x < 256 → ∀ p, p < 8 → 0 < x → owV (x ||| 2 ^ p) = if owV x = nI p then owV x else -1 := by decide +kernel
theorem e_ownerOf {h : HP} (R : RQ h) (b w : Int32) : F_X3_ownerOf 0 b w h = some (owV (whN (ms h) b w (NC (ms h))).2) := by
  have h5 := b_nc R.m
  unfold F_X3_ownerOf
  have key : loopN LF (B_X3_ownerOf_10 0 b w h) (-3, 10, 0) = some (owV (whN (ms h) b w (NC (ms h))).2) := by
    refine loopS (fun c => (owV (whN (ms h) b w c).2, (whN (ms h) b w c).1, nI c)) (NC (ms h)) (by omega) ?_ ?_
    · intro c hc
      obtain ⟨i1, i2⟩ := whN_ok R.m b w c (by omega)
      obtain ⟨p, hp, ep⟩ := cn_ex (n_79 R.m (c := c) (by omega))
      obtain ⟨pr, hpr, epr⟩ := cn_ex (n_81 R.m (c := c) (by omega))
      obtain ⟨rk, hrk, erk⟩ := cn_ex (n_83 R.m (p := pr) (by omega))
      unfold B_X3_ownerOf_10 u3 nm
      simp only []
      rw [cw_nc R, v_nc R.m, if_neg (nI_ge hc (by omega)), e_isTold R b w (by omega), Option.bind_some, ite_b]
      simp only [whN]
      by_cases t : ms h 80 c = b ∧ ms h 82 c ≤ w
      · rw [if_pos t, if_pos t]
        simp (disch := first | assumption | decide | omega) only [rf_3_4 R.1, rf_3_2 R.1, rf_3_0 R.1, ga_v, cc_26 R (c := c) (by omega), cc_24 R (c := c) (by omega), cc_28 R (p := pr) (by omega), ep, epr, nI_clamp, nI_1, Option.bind_some]
        by_cases e1 : ms h 83 pr < (whN (ms h) b w c).1
        · rw [if_neg (fun q => (fa_of_lt e1).2.1 q), if_pos e1]
          simp only [ow_1 p (by omega)]
        · rw [if_pos (fa_of_nlt e1), if_neg e1]
          by_cases e2 : ms h 83 pr = (whN (ms h) b w c).1
          · rw [if_pos e2, if_pos e2]
            have hz : 0 < (whN (ms h) b w c).2 := by
              rcases Nat.eq_zero_or_pos (whN (ms h) b w c).2 with z | z
              · exfalso
                rw [i2 z, erk, L10, nI_eq (by omega) (by omega)] at e2
                omega
              · exact z
            simp only [ow_or _ i1 p (by omega) hz]
            split <;> rfl
          · rw [if_neg e2, if_neg e2]
      · rw [if_neg t, if_neg t, nI_1]
    · unfold B_X3_ownerOf_10 u3
      simp only []
      rw [cw_nc R, v_nc R.m, if_pos (nI_le (Nat.le_refl _) (by omega))]
  rw [key]
  rfl
theorem low_all : ∀ x, x < 256 → 0 < x → x.testBit (ntzN 8 x) = true ∧ ntzN 8 x < 8 ∧ ∀ i, i < ntzN 8 x → x.testBit i = false := by decide +kernel
theorem f_whose {h : HP} (G : gR h.2.2) (W : MW (ms h)) (b w : Int32) (hb : 0 ≤ b ∧ b ≤ ms h 12 8 - 1) (hw : 0 ≤ w ∧ w ≤ 199) : F_X12_whose 0 b w h = some (owV (whN (ms h) b w (NC (ms h))).2) := by
  have h5 := b_nc W
  unfold F_X12_whose
  rw [f_isBell, Option.bind_some, ite_b, if_pos hb, f_isWeek, Option.bind_some, ite_b, if_pos hw]
  have key : loopN LF (B_X12_whose_27 0 b w h) (10, 0, 0) = some (nI (whN (ms h) b w (NC (ms h))).2) := by
    refine loopS (fun c => ((whN (ms h) b w c).1, nI (whN (ms h) b w c).2, nI c)) (NC (ms h)) (by omega) ?_ ?_
    · intro c hc
      obtain ⟨i1, i2⟩ := whN_ok W b w c (by omega)
      obtain ⟨p, hp, ep⟩ := cn_ex (n_79 W (c := c) (by omega))
      obtain ⟨pr, hpr, epr⟩ := cn_ex (n_81 W (c := c) (by omega))
      obtain ⟨rk, hrk, erk⟩ := cn_ex (n_83 W (p := pr) (by omega))
      unfold B_X12_whose_27 u3 nm
      simp only []
      rw [m_12_54, v_nc W, if_neg (nI_ge hc (by omega)), f_isTold G b w (by omega), Option.bind_some, ite_b]
      simp only [whN]
      by_cases t : ms h 80 c = b ∧ ms h 82 c ≤ w
      · rw [if_pos t, if_pos t]
        simp (disch := first | assumption | decide | omega) only [rf_12_59 G, rf_12_57 G, rf_12_55 G, ga_v, m_81, m_83, m_79, ep, epr, nI_clamp, nI_1, Option.bind_some, J_X12_whose_73, J_X12_whose_87, nm, bt_or, bt_or0]
        by_cases e1 : ms h 83 pr < (whN (ms h) b w c).1
        · have e0 : ¬ (whN (ms h) b w c).1 ≤ ms h 83 pr := fun q => (fa_of_lt e1).2.1 q
          simp only [e1, e0, if_true, if_false]
          rw [show (0 : Int32) = nI 0 from rfl, bt_or (by omega), Nat.zero_or]
        · have e0 : (whN (ms h) b w c).1 ≤ ms h 83 pr := fa_of_nlt e1
          by_cases e2 : ms h 83 pr = (whN (ms h) b w c).1
          · simp only [e2, Int32.lt_irrefl, Int32.le_refl, if_true, if_false]
          · simp only [e1, e0, e2, if_true, if_false]
      · rw [if_neg t, if_neg t, nI_1]
    · unfold B_X12_whose_27 u3
      simp only []
      rw [m_12_54, v_nc W, if_pos (nI_le (Nat.le_refl _) (by omega))]
  rw [key, Option.bind_some]
  obtain ⟨i1, -⟩ := whN_ok W b w (NC (ms h)) (by omega)
  generalize (whN (ms h) b w (NC (ms h))).2 = x at i1
  unfold owV
  by_cases z : x = 0
  · subst z
    rfl
  · rw [if_neg (nI_ne0 (by omega) (by omega)), if_neg z, f_ones (by omega)]
    obtain ⟨l1, l2, l3⟩ := low_all x i1 (by omega)
    have k2 : loopN LF (B_X12_whose_129 (nI x) h) 0 = some (nI (ntzN 8 x)) := by
      refine loopS (fun i => nI i) (ntzN 8 x) (by omega) ?_ ?_
      · intro i hi
        unfold B_X12_whose_129 nm
        rw [if_pos (by rw [bt_t0 (by omega) (by omega)]; exact l3 i hi), nI_1]
      · unfold B_X12_whose_129 nm
        rw [if_neg (by rw [bt_t0 (by omega) (by omega), l1]; decide)]
    rw [k2, Option.bind_some, Option.bind_some]
    have hp : pop x ≤ 32 := fb_ct_le _ 32
    by_cases e : pop x ≤ 1
    · rw [if_pos e, if_pos (show nI (pop x) ≤ 1 from nI_le (b := 1) e (by omega))]
    · rw [if_neg e, if_neg (show ¬ nI (pop x) ≤ 1 from nI_ge (a := 1) (by omega) (by omega))]
theorem p_whose : CP_whose RQ := by
  intro h R b w
  by_cases c1 : 0 ≤ b ∧ b ≤ ms h 12 8 - 1
  · by_cases c2 : 0 ≤ w ∧ w ≤ 199
    · refine ⟨_, ?_, f_whose R.1 R.m b w c1 c2, R⟩
      unfold F_X11_whose
      rw [rf_11_3 R.1, Option.bind_some, e_has R, Option.bind_some, ite_b, if_pos c1, e_isWeek, Option.bind_some, ite_b, if_pos c2, rf_11_13 R.1, Option.bind_some, e_ownerOf R, Option.bind_some]
    · refine ⟨-2, ?_, ?_, R⟩
      · unfold F_X11_whose
        rw [rf_11_3 R.1, Option.bind_some, e_has R, Option.bind_some, ite_b, if_pos c1, e_isWeek, Option.bind_some, ite_b, if_neg c2]
      · unfold F_X12_whose
        rw [f_isBell, Option.bind_some, ite_b, if_pos c1, f_isWeek, Option.bind_some, ite_b, if_neg c2]
  · refine ⟨-2, ?_, ?_, R⟩
    · unfold F_X11_whose
      rw [rf_11_3 R.1, Option.bind_some, e_has R, Option.bind_some, ite_b, if_neg c1]
    · unfold F_X12_whose
      rw [f_isBell, Option.bind_some, ite_b, if_neg c1]
/-! lands -/
def laN (m : Nat → Nat → Int32) (b w : Int32) : Nat → Nat
  | 0 => 0
  | c + 1 => if m 80 c = b ∧ m 82 c ≤ w then laN m b w c ||| 2 ^ (m 49 (m 79 c).toNatClampNeg).toNatClampNeg else laN m b w c
theorem laN_ok {m : Nat → Nat → Int32} (W : MW m) (b w : Int32) : ∀ c, c ≤ 30 → laN m b w c < 256 := by
  intro c
  induction c with
  | zero => intro _; show (0 : Nat) < 256; omega
  | succ c ih =>
    intro hc
    have i1 := ih (by omega)
    unfold laN
    split
    · refine or_lt 8 i1 (pw8 ?_)
      have h1 := (n_79 W (c := c) (by omega)).2
      have h2 := (n_49 W (p := (m 79 c).toNatClampNeg) (by omega)).2
      omega
    · exact i1
theorem p_lands : CP_lands RQ := by
  intro h R b w
  have h5 := b_nc R.m
  by_cases c1 : 0 ≤ b ∧ b ≤ ms h 12 8 - 1
  · by_cases c2 : 0 ≤ w ∧ w ≤ 199
    · have hl := laN_ok R.m b w (NC (ms h)) (by omega)
      refine ⟨nI (pop (laN (ms h) b w (NC (ms h)))), ?_, ?_, R⟩
      · unfold F_X11_lands
        rw [rf_11_3 R.1, Option.bind_some, e_has R, Option.bind_some, ite_b, if_pos c1, e_isWeek, Option.bind_some, ite_b, if_pos c2, rf_11_13 R.1, Option.bind_some, rf_11_1 R.1, Option.bind_some]
        unfold F_X3_landCount
        have key : loopN LF (B_X3_landCount_6 0 b w 0 h) (0, 0) = some (nI (laN (ms h) b w (NC (ms h)))) := by
          refine loopS (fun c => (nI (laN (ms h) b w c), nI c)) (NC (ms h)) (by omega) ?_ ?_
          · intro c hc
            obtain ⟨p, hp, ep⟩ := cn_ex (n_79 R.m (c := c) (by omega))
            obtain ⟨l, hl, el⟩ := cn_ex (n_49 R.m (p := p) (by omega))
            unfold B_X3_landCount_6 u2 nm
            simp only []
            rw [cw_nc R, v_nc R.m, if_neg (nI_ge hc (by omega)), e_isTold R b w (by omega), Option.bind_some, ite_b, nI_1]
            simp only [laN]
            by_cases t : ms h 80 c = b ∧ ms h 82 c ≤ w
            · rw [if_pos t, if_pos t]
              simp (disch := first | assumption | decide | omega) only [rf_3_0 R.1, ga_v, cc_24 R (c := c) (by omega), cp_41 R (p := p) (by omega), ep, el, bt_or, nI_clamp, Option.bind_some]
            · rw [if_neg t, if_neg t]
          · unfold B_X3_landCount_6 u2
            simp only []
            rw [cw_nc R, v_nc R.m, if_pos (nI_le (Nat.le_refl _) (by omega))]
        rw [key, Option.bind_some, e_bitCount (by omega), Option.bind_some, Option.bind_some]
      · unfold F_X12_lands
        rw [f_isBell, Option.bind_some, ite_b, if_pos c1, f_isWeek, Option.bind_some, ite_b, if_pos c2]
        have key : loopN LF (B_X12_lands_23 0 b w h) (0, 0) = some (nI (laN (ms h) b w (NC (ms h)))) := by
          refine loopS (fun c => (nI (laN (ms h) b w c), nI c)) (NC (ms h)) (by omega) ?_ ?_
          · intro c hc
            obtain ⟨p, hp, ep⟩ := cn_ex (n_79 R.m (c := c) (by omega))
            obtain ⟨l, hl, el⟩ := cn_ex (n_49 R.m (p := p) (by omega))
            unfold B_X12_lands_23 u2 nm
            simp only []
            rw [m_12_54, v_nc R.m, if_neg (nI_ge hc (by omega)), f_isTold R.1 b w (by omega), Option.bind_some, ite_b, nI_1]
            simp only [laN]
            by_cases t : ms h 80 c = b ∧ ms h 82 c ≤ w
            · rw [if_pos t, if_pos t]
              simp (disch := first | assumption | decide | omega) only [rf_12_7 R.1, rf_12_55 R.1, ga_v, m_79, m_49, ep, el, bt_or, nI_clamp, Option.bind_some]
            · rw [if_neg t, if_neg t, bt_or0]
          · unfold B_X12_lands_23 u2
            simp only []
            rw [m_12_54, v_nc R.m, if_pos (nI_le (Nat.le_refl _) (by omega))]
        rw [key, Option.bind_some, f_ones (by omega), Option.bind_some]
    · refine ⟨-2, ?_, ?_, R⟩
      · unfold F_X11_lands
        rw [rf_11_3 R.1, Option.bind_some, e_has R, Option.bind_some, ite_b, if_pos c1, e_isWeek, Option.bind_some, ite_b, if_neg c2]
      · unfold F_X12_lands
        rw [f_isBell, Option.bind_some, ite_b, if_pos c1, f_isWeek, Option.bind_some, ite_b, if_neg c2]
  · refine ⟨-2, ?_, ?_, R⟩
    · unfold F_X11_lands
      rw [rf_11_3 R.1, Option.bind_some, e_has R, Option.bind_some, ite_b, if_neg c1]
    · unfold F_X12_lands
      rw [f_isBell, Option.bind_some, ite_b, if_neg c1]
