/-! stage III: melts, shorts -/
theorem mB_r {m : Nat → Nat → Int32} (W : MW m) (b : Nat) (w : Int32) : ∃ j, j ≤ 3 ∧ mB m b w = nI j := by
  unfold mB letV
  rcases whyV_r (LW m) w (m 52 b) (m 51 b) with q | ⟨p, x, q1, q2⟩
  · rw [q, if_pos rfl]
    exact ⟨3, by omega, rfl⟩
  · have hlen := LW_len W
    have hp : p < (LW m).length := (List.getElem?_eq_some_iff.mp q1).1
    rw [q2, if_neg (nI_m1 (by omega)), nI_clamp (by omega), q1]
    exact cn_ex (LW_ok W q1).1
/-- which bell is melted next -/
def coN (m : Nat → Nat → Int32) (mw : Nat → Int32) (w : Int32) : Nat → Int32
  | 0 => -1
  | b + 1 => if (mw b = -1 ∧ (stV m b = 2 ∨ stV m b = 3)) ∧ (coN m mw w b = -1 ∨ mB m b w < mB m (coN m mw w b).toNatClampNeg w ∨ (mB m b w = mB m (coN m mw w b).toNatClampNeg w ∧ ¬ m 51 b ≤ m 51 (coN m mw w b).toNatClampNeg)) then nI b else coN m mw w b
theorem coN_r (m : Nat → Nat → Int32) (mw : Nat → Int32) (w : Int32) : ∀ b, coN m mw w b = -1 ∨ ∃ c, c < b ∧ coN m mw w b = nI c ∧ mw c = -1 := by
  intro b
  induction b with
  | zero => exact Or.inl rfl
  | succ b ih =>
    unfold coN
    split
    · rename_i q
      exact Or.inr ⟨b, by omega, rfl, q.1.1⟩
    · rcases ih with q | ⟨c, q1, q2, q3⟩
      · exact Or.inl q
      · exact Or.inr ⟨c, by omega, q2, q3⟩
theorem e_chooseL {h : HP} (R : RQ h) {w : Int32} (I : IF h w) {mw : Nat → Int32} (hm : ∀ b, b < 20 → gi h 37 0 b = mw b) : loopN LF (B_X6_choose_16 0 0 0 0 h) (-1, 4, 0) = some (coN (ms h) mw w (NB (ms h))) := by
  have h3 := b_nb R.m
  refine loopS (fun b => (coN (ms h) mw w b, (if coN (ms h) mw w b = -1 then nI 4 else mB (ms h) (coN (ms h) mw w b).toNatClampNeg w), nI b)) (NB (ms h)) (by omega) ?_ ?_
  · intro b hb
    have stp : coN (ms h) mw w (b + 1) = if (mw b = -1 ∧ (stV (ms h) b = 2 ∨ stV (ms h) b = 3)) ∧ (coN (ms h) mw w b = -1 ∨ mB (ms h) b w < mB (ms h) (coN (ms h) mw w b).toNatClampNeg w ∨ (mB (ms h) b w = mB (ms h) (coN (ms h) mw w b).toNatClampNeg w ∧ ¬ ms h 51 b ≤ ms h 51 (coN (ms h) mw w b).toNatClampNeg)) then nI b else coN (ms h) mw w b := rfl
    unfold B_X6_choose_16
    simp only [nm, u3]
    rw [cw_nb R, v_nb R.m, if_neg (nI_ge hb (by omega)), rf_2_0 R.1, Option.bind_some, gar_v (by omega) (by omega), rb_23 R hb, Option.bind_some, rf_6_0 R.1, Option.bind_some, ga_v (by omega) (by omega), Option.bind_some, hm b (by omega), e_ty R hb, Option.bind_some, ite_b, e_letterOf R I hb, Option.bind_some, nI_1]
    obtain ⟨lb, hlb, elb⟩ := mB_r R.m b w
    by_cases c1 : mw b = -1
    · rw [if_pos c1]
      by_cases c2 : stV (ms h) b = 2 ∨ stV (ms h) b = 3
      · rw [if_pos c2]
        rcases coN_r (ms h) mw w b with q | ⟨c, q1, q2, q3⟩
        · have e1 : coN (ms h) mw w (b + 1) = nI b := by rw [stp, if_pos ⟨⟨c1, c2⟩, Or.inl q⟩]
          rw [q, if_pos rfl, if_pos rfl, e1, if_neg (nI_m1 (by omega)), nI_clamp (by omega)]
          unfold J_X6_choose_92
          simp only [nm]
          rw [elb, if_pos (nI_lt (by omega) (by omega)), nI_1]
        · obtain ⟨lc, hlc, elc⟩ := mB_r R.m c w
          rw [q2, if_neg (nI_m1 (by omega)), if_neg (nI_m1 (by omega)), nI_clamp (by omega), elc]
          rw [Option.bind_some, gar_v (by omega) (by omega), rb_23 R (show c < NB (ms h) by omega), Option.bind_some, cb_1 R hb, cb_1 R (show c < NB (ms h) by omega)]
          rw [q2, nI_clamp (show c < 2147483648 by omega), elb, elc] at stp
          unfold J_X6_choose_92
          simp only [nm, nI_1]
          rw [elb]
          have m1c : ¬ nI c = -1 := nI_m1 (by omega)
          by_cases d1 : nI lb < nI lc
          · have e1 : coN (ms h) mw w (b + 1) = nI b := by rw [stp, if_pos ⟨⟨c1, c2⟩, Or.inr (Or.inl d1)⟩]
            rw [e1, if_neg (nI_m1 (by omega)), nI_clamp (by omega), elb]
            simp only [d1, if_true, ite_self]
          · by_cases d2 : nI lb = nI lc
            · by_cases d3 : ms h 51 b ≤ ms h 51 c
              · have e1 : coN (ms h) mw w (b + 1) = nI c := by
                  rw [stp, if_neg]
                  rintro ⟨-, w1 | w1 | w1⟩
                  · exact m1c w1
                  · exact d1 w1
                  · exact w1.2 d3
                rw [e1, if_neg m1c, nI_clamp (by omega), elc]
                simp only [d1, d2, d3, if_true, if_false, Int32.lt_irrefl]
              · have e1 : coN (ms h) mw w (b + 1) = nI b := by rw [stp, if_pos ⟨⟨c1, c2⟩, Or.inr (Or.inr ⟨d2, d3⟩)⟩]
                rw [e1, if_neg (nI_m1 (by omega)), nI_clamp (by omega), elb]
                simp only [d2, d3, if_true, if_false, Int32.lt_irrefl, show ((1 : Int32) = 0) = False from by decide]
            · have e1 : coN (ms h) mw w (b + 1) = nI c := by
                rw [stp, if_neg]
                rintro ⟨-, w1 | w1 | w1⟩
                · exact m1c w1
                · exact d1 w1
                · exact d2 w1.1
              rw [e1, if_neg m1c, nI_clamp (by omega), elc]
              simp only [d1, d2, if_false, ite_self]
      · have e1 : coN (ms h) mw w (b + 1) = coN (ms h) mw w b := by rw [stp, if_neg (fun q => c2 q.1.2)]
        rw [if_neg c2, e1]
    · have e1 : coN (ms h) mw w (b + 1) = coN (ms h) mw w b := by rw [stp, if_neg (fun q => c1 q.1.1)]
      rw [if_neg c1, e1]
  · unfold B_X6_choose_16
    simp only [u3]
    rw [cw_nb R, v_nb R.m, if_pos (nI_le (Nat.le_refl _) (by omega))]
theorem f_nextMelt {h : HP} (G : gR h.2.2) (W : MW (ms h)) (P : PM h (LW (ms h))) (w : Int32) {mw : Nat → Int32} (hm : ∀ b, b < NB (ms h) → gi h 77 0 b = mw b) : F_X12_nextMelt 0 w h = some (coN (ms h) mw w (NB (ms h))) := by
  have h3 := b_nb W
  have key : loopN LF (B_X12_nextMelt_4 0 w h) (-1, 0) = some (coN (ms h) mw w (NB (ms h))) := by
    refine loopS (fun b => (coN (ms h) mw w b, nI b)) (NB (ms h)) (by omega) ?_ ?_
    · intro b hb
      have stp : coN (ms h) mw w (b + 1) = if (mw b = -1 ∧ (stV (ms h) b = 2 ∨ stV (ms h) b = 3)) ∧ (coN (ms h) mw w b = -1 ∨ mB (ms h) b w < mB (ms h) (coN (ms h) mw w b).toNatClampNeg w ∨ (mB (ms h) b w = mB (ms h) (coN (ms h) mw w b).toNatClampNeg w ∧ ¬ ms h 51 b ≤ ms h 51 (coN (ms h) mw w b).toNatClampNeg)) then nI b else coN (ms h) mw w b := rfl
      obtain ⟨lb, hlb, elb⟩ := mB_r W b w
      have j63 : ∀ t0 : Int32, J_X12_nextMelt_63 0 w (coN (ms h) mw w b) (nI b) t0 h = if t0 < 0 then some (.inl (nI b, nI (b + 1))) else if t0 = 0 then (ga h 51 0 20 (coN (ms h) mw w b)).bind (fun x16 => if ms h 51 b ≤ x16 then some (.inl (coN (ms h) mw w b, nI (b + 1))) else some (.inl (nI b, nI (b + 1)))) else some (.inl (coN (ms h) mw w b, nI (b + 1))) := by
        intro t0
        unfold J_X12_nextMelt_63
        simp only [nm, nI_1]
        rw [rf_12_10 G, Option.bind_some, ga_v (by omega) (by omega), Option.bind_some, Option.bind_some, m_51]
      have j41 : J_X12_nextMelt_41 0 w (coN (ms h) mw w b) (nI b) h = some (.inl ((if coN (ms h) mw w b = -1 ∨ mB (ms h) b w < mB (ms h) (coN (ms h) mw w b).toNatClampNeg w ∨ (mB (ms h) b w = mB (ms h) (coN (ms h) mw w b).toNatClampNeg w ∧ ¬ ms h 51 b ≤ ms h 51 (coN (ms h) mw w b).toNatClampNeg) then nI b else coN (ms h) mw w b), nI (b + 1))) := by
        unfold J_X12_nextMelt_41
        rw [j63 (-1), if_pos (show (-1 : Int32) < 0 by decide)]
        rcases coN_r (ms h) mw w b with q | ⟨c, q1, q2, q3⟩
        · rw [if_pos q, if_pos (Or.inl q)]
        · obtain ⟨lc, hlc, elc⟩ := mB_r W c w
          have m1c : ¬ nI c = -1 := nI_m1 (by omega)
          have jq := j63 (nI lb - nI lc)
          rw [q2] at jq ⊢
          rw [if_neg m1c, nI_clamp (by omega)]
          rw [f_letterOf G W P w (show b < 20 by omega), Option.bind_some, f_letterOf G W P w (show c < 20 by omega), Option.bind_some, elb, elc, jq, ga_v (by omega) (by omega), Option.bind_some, m_51]
          by_cases d1 : lb < lc
          · rw [if_pos (pk_sneg (by omega) d1), if_pos (Or.inr (Or.inl (nI_lt d1 (by omega))))]
          · have dn : ¬ nI lb < nI lc := nI_nlt (by omega) (by omega)
            rw [pk_sub (by omega), if_neg (nI_pos (by omega))]
            by_cases d2 : lb = lc
            · subst d2
              rw [if_pos (show nI (lb - lb) = 0 by rw [Nat.sub_self]; rfl)]
              by_cases d3 : ms h 51 b ≤ ms h 51 c
              · rw [if_pos d3, if_neg]
                rintro (w1 | w1 | w1)
                · exact m1c w1
                · exact dn w1
                · exact w1.2 d3
              · rw [if_neg d3, if_pos (Or.inr (Or.inr ⟨rfl, d3⟩))]
            · rw [if_neg (nI_ne0 (by omega) (by omega)), if_neg]
              rintro (w1 | w1 | w1)
              · exact m1c w1
              · exact dn w1
              · exact d2 ((nI_eq (by omega) (by omega)).mp w1.1)
      unfold B_X12_nextMelt_4
      simp only [nm, u2]
      rw [m_12_8, v_nb W, if_neg (nI_ge hb (by omega)), f_stateOf G W hb, Option.bind_some, rf_12_49 G, Option.bind_some, ga_v (by omega) (by omega), Option.bind_some, hm b hb, j41, nI_1]
      by_cases c1 : mw b = -1
      · rw [if_pos c1]
        by_cases c2 : stV (ms h) b = 2 ∨ stV (ms h) b = 3
        · rw [ite23 _ _ c2, stp]
          by_cases c3 : coN (ms h) mw w b = -1 ∨ mB (ms h) b w < mB (ms h) (coN (ms h) mw w b).toNatClampNeg w ∨ (mB (ms h) b w = mB (ms h) (coN (ms h) mw w b).toNatClampNeg w ∧ ¬ ms h 51 b ≤ ms h 51 (coN (ms h) mw w b).toNatClampNeg)
          · rw [if_pos c3, if_pos ⟨⟨c1, c2⟩, c3⟩]
          · rw [if_neg c3, if_neg (fun q => c3 q.2)]
        · rw [if_neg (fun q => c2 (Or.inl q)), if_neg (fun q => c2 (Or.inr q)), stp, if_neg (fun q => c2 q.1.2)]
      · rw [if_neg c1, stp, if_neg (fun q => c1 q.1.1)]
    · unfold B_X12_nextMelt_4
      simp only [u2]
      rw [m_12_8, v_nb W, if_pos (nI_le (Nat.le_refl _) (by omega))]
  unfold F_X12_nextMelt
  rw [key]
  rfl
