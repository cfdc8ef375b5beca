/-! stage III: letter, why, kept, gained, write -/
/-- a query: the class changes scratch alone, the reference too -/
theorem query {h : HP} (R : RQ h) {r : Int32} {F1 F2 : HP → Option (Int32 × DP)} (c : ∃ h1, F1 h = some (r, dp h1) ∧ SQ h h1) (f : ∀ h1, RQ h1 → ms h1 = ms h → ∃ h2, F2 h1 = some (r, dp h2) ∧ SQ h1 h2) : ∃ (r : Int32) (d : DP) (d2 : DP), F1 h = some (r, d) ∧ F2 (wd h d) = some (r, d2) ∧ RQ (wd (wd h d) d2) := by
  obtain ⟨h1, c1, c2⟩ := c
  obtain ⟨h2, f1, f2⟩ := f h1 (c2.rl R) c2.mq
  refine ⟨r, dp h1, dp h2, c1, ?_, ?_⟩
  · rw [wd_dp c2.1]; exact f1
  · rw [wd_dp c2.1, wd_dp f2.1]
    exact f2.rl (c2.rl R)
theorem p_letter : CP_letter RQ := by
  intro h R a w
  have h3 := b_nb R.m
  by_cases c1 : 0 ≤ a ∧ a ≤ ms h 12 8 - 1
  · by_cases c2 : 0 ≤ w ∧ w ≤ 199
    · obtain ⟨b, hb, rfl⟩ := in_cnt (v_nb R.m) (by omega) c1
      refine query (F1 := F_X11_letter 0 (nI b) w) (F2 := F_X12_letter 0 (nI b) w) (r := mB (ms h) b w) R ?_ ?_
      · obtain ⟨h1, r1, x1, i1⟩ := e_inForce R w
        have q1 := x1.sq S34_la
        have R1 := q1.rl R
        refine ⟨h1, ?_, q1⟩
        unfold F_X11_letter
        simp only [nm, u2]
        rw [rf_11_3 R.1, Option.bind_some, e_has R, Option.bind_some, ite_b, if_pos c1, e_isWeek, Option.bind_some, ite_b, if_pos c2, rf_11_4 R.1, Option.bind_some, Option.bind_some, rf_2_0 R.1, Option.bind_some, gar_v (by omega) (by omega), rb_23 R hb, Option.bind_some, Option.bind_some, r1, Option.bind_some, wd_dp x1.1, e_letterOf R1 i1 (q1.mq.symm ▸ hb), Option.bind_some, q1.mq]
      · intro h1 R1 e1
        obtain ⟨h2, r2, x2, q2, pm⟩ := f_readsM R1.1 R1.m
        refine ⟨h2, ?_, q2⟩
        unfold F_X12_letter
        simp only [nm, u2]
        rw [← e1] at c1
        rw [f_isBell, Option.bind_some, ite_b, if_pos c1, f_isWeek, Option.bind_some, ite_b, if_pos c2, r2, Option.bind_some, wd_dp x2.1, f_letterOf (q2.rl R1).1 (q2.rl R1).m (q2.mq.symm ▸ pm) w (show b < 20 by omega), Option.bind_some, q2.mq, e1]
    · refine ⟨-2, dp h, dp h, ?_, ?_, R⟩
      · unfold F_X11_letter
        rw [rf_11_3 R.1, Option.bind_some, e_has R, Option.bind_some, ite_b, if_pos c1, e_isWeek, Option.bind_some, ite_b, if_neg c2]
      · unfold F_X12_letter
        rw [wd_self, f_isBell, Option.bind_some, ite_b, if_pos c1, f_isWeek, Option.bind_some, ite_b, if_neg c2]
  · refine ⟨-2, dp h, dp h, ?_, ?_, R⟩
    · unfold F_X11_letter
      rw [rf_11_3 R.1, Option.bind_some, e_has R, Option.bind_some, ite_b, if_neg c1]
    · unfold F_X12_letter
      rw [wd_self, f_isBell, Option.bind_some, ite_b, if_neg c1]
theorem p_why : CP_why RQ := by
  intro h R a w
  have h3 := b_nb R.m
  by_cases c1 : 0 ≤ a ∧ a ≤ ms h 12 8 - 1
  · by_cases c2 : 0 ≤ w ∧ w ≤ 199
    · obtain ⟨b, hb, rfl⟩ := in_cnt (v_nb R.m) (by omega) c1
      refine query (F1 := F_X11_why 0 (nI b) w) (F2 := F_X12_why 0 (nI b) w) (r := whyV (LW (ms h)) w (ms h 52 b) (ms h 51 b)) R ?_ ?_
      · obtain ⟨h1, r1, x1, i1⟩ := e_inForce R w
        have q1 := x1.sq S34_la
        have R1 := q1.rl R
        refine ⟨h1, ?_, q1⟩
        unfold F_X11_why
        simp only [nm, u2]
        rw [rf_11_3 R.1, Option.bind_some, e_has R, Option.bind_some, ite_b, if_pos c1, e_isWeek, Option.bind_some, ite_b, if_pos c2, rf_11_4 R.1, Option.bind_some, Option.bind_some, rf_2_0 R.1, Option.bind_some, gar_v (by omega) (by omega), rb_23 R hb, Option.bind_some, Option.bind_some, r1, Option.bind_some, wd_dp x1.1, e_partFor R1 i1 (q1.mq.symm ▸ hb), Option.bind_some, q1.mq]
      · intro h1 R1 e1
        obtain ⟨h2, r2, x2, q2, pm⟩ := f_readsM R1.1 R1.m
        refine ⟨h2, ?_, q2⟩
        unfold F_X12_why
        simp only [nm, u2]
        rw [← e1] at c1
        rw [f_isBell, Option.bind_some, ite_b, if_pos c1, f_isWeek, Option.bind_some, ite_b, if_pos c2, r2, Option.bind_some, wd_dp x2.1, f_whyOf (q2.rl R1).1 pm (LW_len R1.m) w (show b < 20 by omega), Option.bind_some, q2.mq, e1]
    · refine ⟨-2, dp h, dp h, ?_, ?_, R⟩
      · unfold F_X11_why
        rw [rf_11_3 R.1, Option.bind_some, e_has R, Option.bind_some, ite_b, if_pos c1, e_isWeek, Option.bind_some, ite_b, if_neg c2]
      · unfold F_X12_why
        rw [wd_self, f_isBell, Option.bind_some, ite_b, if_pos c1, f_isWeek, Option.bind_some, ite_b, if_neg c2]
  · refine ⟨-2, dp h, dp h, ?_, ?_, R⟩
    · unfold F_X11_why
      rw [rf_11_3 R.1, Option.bind_some, e_has R, Option.bind_some, ite_b, if_neg c1]
    · unfold F_X12_why
      rw [wd_self, f_isBell, Option.bind_some, ite_b, if_neg c1]
/-! gained -/
def gaN (m : Nat → Nat → Int32) (p w : Int32) : Nat → Int32
  | 0 => 0
  | b + 1 => if m 50 b = p then (if m 55 b = -1 then gaN m p w b else gaN m p w b + m 51 b * (m 55 b - mB m b w)) else gaN m p w b
theorem p_gained : CP_gained RQ := by
  intro h R p w
  have h3 := b_nb R.m
  by_cases c1 : 0 ≤ p ∧ p ≤ ms h 12 6 - 1
  · by_cases c2 : 0 ≤ w ∧ w ≤ 199
    · refine query (F1 := F_X11_gained 0 p w) (F2 := F_X12_gained 0 p w) (r := gaN (ms h) p w (NB (ms h))) R ?_ ?_
      · obtain ⟨h1, r1, x1, i1⟩ := e_inForce R w
        have q1 := x1.sq S34_la
        have R1 := q1.rl R
        have em := q1.mq
        have hn1 := b_nb R1.m
        refine ⟨h1, ?_, q1⟩
        have hl : loopN LF (B_X11_gained_33 0 p 0 h1) (0, 0) = some (gaN (ms h) p w (NB (ms h))) := by
          rw [← em]
          refine loopS (fun b => (gaN (ms h1) p w b, nI b)) (NB (ms h1)) (by omega) ?_ ?_
          · intro b hb
            have hb2 : b < 20 := by omega
            unfold B_X11_gained_33
            simp only [nm, u2]
            rw [rf_11_3 R1.1, Option.bind_some, cw_nb R1, v_nb R1.m, if_neg (nI_ge hb (by omega)), Option.bind_some, rf_2_0 R1.1, Option.bind_some, gar_v hb2 (by omega), rb_23 R1 hb, Option.bind_some, rf_11_4 R1.1, Option.bind_some, e_letterOf R1 i1 hb, Option.bind_some, cb_0 R1 hb, cb_8 R1 hb, cb_1 R1 hb, nI_1]
            simp only [gaN]
            split
            · split <;> rfl
            · rfl
          · unfold B_X11_gained_33
            simp only [nm, u2]
            rw [rf_11_3 R1.1, Option.bind_some, cw_nb R1, v_nb R1.m, if_pos (nI_le (Nat.le_refl _) (by omega))]
        unfold F_X11_gained
        simp only [nm, u2]
        rw [e_isParish R, Option.bind_some, ite_b, if_pos c1, e_isWeek, Option.bind_some, ite_b, if_pos c2, rf_11_4 R.1, Option.bind_some, r1, Option.bind_some, wd_dp x1.1, hl, Option.bind_some]
      · intro h1 R1 e1
        obtain ⟨h2, r2, x2, q2, pm⟩ := f_readsM R1.1 R1.m
        refine ⟨h2, ?_, q2⟩
        have R2 := q2.rl R1
        have em : ms h2 = ms h := q2.mq.trans e1
        have hn1 := b_nb R2.m
        have pm2 : PM h2 (LW (ms h2)) := by rw [q2.mq]; exact pm
        have hl : loopN LF (B_X12_gained_28 0 p w h2) (0, 0) = some (gaN (ms h) p w (NB (ms h))) := by
          rw [← em]
          refine loopS (fun b => (gaN (ms h2) p w b, nI b)) (NB (ms h2)) (by omega) ?_ ?_
          · intro b hb
            have hb2 : b < 20 := by omega
            unfold B_X12_gained_28
            simp only [nm, u2]
            rw [m_12_8, v_nb R2.m, if_neg (nI_ge hb (by omega)), rf_12_9 R2.1, Option.bind_some, ga_v hb2 (by omega), Option.bind_some, m_50, rf_12_14 R2.1, Option.bind_some, ga_v hb2 (by omega), Option.bind_some, m_55, rf_12_10 R2.1, Option.bind_some, ga_v hb2 (by omega), Option.bind_some, m_51, Option.bind_some, ga_v hb2 (by omega), Option.bind_some, m_55, f_letterOf R2.1 R2.m pm2 w hb2, Option.bind_some, nI_1, Int32.add_zero]
            simp only [gaN]
            split
            · split <;> rfl
            · rfl
          · unfold B_X12_gained_28
            simp only [nm, u2]
            rw [m_12_8, v_nb R2.m, if_pos (nI_le (Nat.le_refl _) (by omega))]
        unfold F_X12_gained
        simp only [nm, u2]
        rw [← e1] at c1
        rw [f_isParish, Option.bind_some, ite_b, if_pos c1, f_isWeek, Option.bind_some, ite_b, if_pos c2, r2, Option.bind_some, wd_dp x2.1, hl, Option.bind_some]
    · refine ⟨-2147483648, dp h, dp h, ?_, ?_, R⟩
      · unfold F_X11_gained
        rw [e_isParish R, Option.bind_some, ite_b, if_pos c1, e_isWeek, Option.bind_some, ite_b, if_neg c2]
      · unfold F_X12_gained
        rw [wd_self, f_isParish, Option.bind_some, ite_b, if_pos c1, f_isWeek, Option.bind_some, ite_b, if_neg c2]
  · refine ⟨-2147483648, dp h, dp h, ?_, ?_, R⟩
    · unfold F_X11_gained
      rw [e_isParish R, Option.bind_some, ite_b, if_neg c1]
    · unfold F_X12_gained
      rw [wd_self, f_isParish, Option.bind_some, ite_b, if_neg c1]
/-! kept -/
def knV (L : List PT) (w : Int32) : Int32 := if lastL L w 3 = -1 then 1 else match L[(lastL L w 3).toNatClampNeg]? with
  | some x => x.2.2.1
  | none => 1
theorem knV_r {L : List PT} (hL : ∀ x, x ∈ L → okX x) (hl : L.length ≤ 26) (w : Int32) : ∃ n, n ≤ 9 ∧ knV L w = nI n := by
  unfold knV
  rcases lastK_r L w 3 _ (Nat.le_refl _) with q | ⟨p, x, q1, q2, q3, q4⟩
  · have q' : lastL L w 3 = -1 := q
    rw [q', if_pos rfl]
    exact ⟨1, by omega, rfl⟩
  · have q' : lastL L w 3 = nI p := q4
    rw [q', if_neg (nI_m1 (by omega)), nI_clamp (by omega), q2]
    exact cn_ex ((hL x (List.mem_of_getElem? q2)).2 q3)
def kiN (m : Nat → Nat → Int32) (p w : Int32) (bits : Nat) : Nat → Int32
  | 0 => -1
  | b + 1 => if (m 50 b = p ∧ bits.testBit b = false ∧ ¬ wasV m b w = 4) ∧ (kiN m p w bits b = -1 ∨ m 51 b < m 51 (kiN m p w bits b).toNatClampNeg) then nI b else kiN m p w bits b
def koN (m : Nat → Nat → Int32) (p w : Int32) : Nat → Nat
  | 0 => 0
  | i + 1 => if kiN m p w (koN m p w i) (NB m) = -1 then koN m p w i else koN m p w i ||| 2 ^ (kiN m p w (koN m p w i) (NB m)).toNatClampNeg
theorem kiN_r (m : Nat → Nat → Int32) (p w : Int32) (bits : Nat) : ∀ b, kiN m p w bits b = -1 ∨ ∃ c, c < b ∧ kiN m p w bits b = nI c := by
  intro b
  induction b with
  | zero => exact Or.inl rfl
  | succ b ih =>
    unfold kiN
    split
    · exact Or.inr ⟨b, by omega, rfl⟩
    · rcases ih with q | ⟨c, q1, q2⟩
      · exact Or.inl q
      · exact Or.inr ⟨c, by omega, q2⟩
theorem koN_lt {m : Nat → Nat → Int32} (W : MW m) (p w : Int32) : ∀ i, koN m p w i < 1048576 := by
  intro i
  have h3 := b_nb W
  induction i with
  | zero => show (0 : Nat) < 1048576; omega
  | succ i ih =>
    unfold koN
    split
    · exact ih
    · rename_i c
      rcases kiN_r m p w (koN m p w i) (NB m) with q | ⟨c2, q1, q2⟩
      · exact absurd q c
      · rw [q2, nI_clamp (by omega)]
        exact or_lt 20 ih (Nat.pow_lt_pow_right (by omega) (by omega))
theorem koN_stop {m : Nat → Nat → Int32} {p w : Int32} {i : Nat} (h : kiN m p w (koN m p w i) (NB m) = -1) : ∀ j, koN m p w (i + j) = koN m p w i := by
  intro j
  induction j with
  | zero => rfl
  | succ j ih =>
    have e : koN m p w (i + j + 1) = if kiN m p w (koN m p w (i + j)) (NB m) = -1 then koN m p w (i + j) else koN m p w (i + j) ||| 2 ^ (kiN m p w (koN m p w (i + j)) (NB m)).toNatClampNeg := rfl
    show koN m p w (i + j + 1) = _
    rw [e, ih, if_pos h]
theorem e_lightest {h : HP} (R : RQ h) (p w : Int32) {n : Nat} (hn : n ≤ 9) : F_X2_lightest 0 p w (nI n) h = some (nI (koN (ms h) p w n)) := by
  have h3 := b_nb R.m
  have inner : ∀ (bits : Nat) (x2 : Int32), bits < 1048576 → loopN LF (B_X2_lightest_18 0 p w (nI n) (nI bits) x2 h) (-1, 0) = some (kiN (ms h) p w bits (NB (ms h))) := by
    intro bits x2 hbits
    refine loopS (fun b => (kiN (ms h) p w bits b, nI b)) (NB (ms h)) (by omega) ?_ ?_
    · intro b hb
      unfold B_X2_lightest_18
      simp only [nm, u2]
      rw [cw_nb R, v_nb R.m, if_neg (nI_ge hb (by omega)), rf_2_0 R.1, Option.bind_some, gar_v (by omega) (by omega), rb_23 R hb, Option.bind_some, Option.bind_some, gar_v (by omega) (by omega), rb_23 R hb, Option.bind_some, e_stateIn R hb, Option.bind_some, cb_0 R hb]
      have j0 : J_X2_lightest_71 0 p w (nI n) (nI bits) x2 (kiN (ms h) p w bits b) (nI b) 0 h = some (.inl (kiN (ms h) p w bits b, nI (b + 1))) := by
        unfold J_X2_lightest_71
        rw [if_pos rfl, nI_1]
        rfl
      have j1 : J_X2_lightest_71 0 p w (nI n) (nI bits) x2 (kiN (ms h) p w bits b) (nI b) 1 h = some (.inl (if kiN (ms h) p w bits b = -1 ∨ ms h 51 b < ms h 51 (kiN (ms h) p w bits b).toNatClampNeg then nI b else kiN (ms h) p w bits b, nI (b + 1))) := by
        unfold J_X2_lightest_71
        simp only [nm]
        rw [if_neg (show ¬ (1 : Int32) = 0 by decide), nI_1]
        rcases kiN_r (ms h) p w bits b with q | ⟨c, q1, q2⟩
        · rw [if_pos q, if_pos (Or.inl q)]
        · rw [q2, if_neg (nI_m1 (by omega)), nI_clamp (by omega)]
          rw [rf_2_0 R.1, Option.bind_some, gar_v (by omega) (by omega), rb_23 R hb, Option.bind_some, Option.bind_some, gar_v (by omega) (by omega), rb_23 R (show c < NB (ms h) by omega), Option.bind_some, cb_1 R hb, cb_1 R (show c < NB (ms h) by omega)]
          by_cases c3 : ms h 51 c ≤ ms h 51 b
          · rw [if_pos c3, if_neg]
            rintro (w1 | w1)
            · exact nI_m1 (by omega) w1
            · exact (fa_of_lt w1).2.1 c3
          · rw [if_neg c3, if_pos (Or.inr (fa_of_nle c3))]
      rw [j0, j1]
      have d2e := bt_t0 (n := bits) (i := b) (by omega) (by omega)
      simp only [kiN]
      by_cases d1 : ms h 50 b = p
      · by_cases d2 : bits.testBit b = false
        · by_cases d3 : wasV (ms h) b w = 4
          · rw [if_pos d1, if_pos (d2e.mpr d2), if_pos d3, if_neg]
            rintro ⟨⟨-, -, w1⟩, -⟩
            exact w1 d3
          · rw [if_pos d1, if_pos (d2e.mpr d2), if_neg d3]
            by_cases d4 : kiN (ms h) p w bits b = -1 ∨ ms h 51 b < ms h 51 (kiN (ms h) p w bits b).toNatClampNeg
            · rw [if_pos d4, if_pos ⟨⟨d1, d2, d3⟩, d4⟩]
            · rw [if_neg d4, if_neg (fun w1 => d4 w1.2)]
        · rw [if_pos d1, if_neg (fun w1 => d2 (d2e.mp w1)), if_neg (fun w1 => d2 w1.1.2.1)]
      · rw [if_neg d1, if_neg (fun w1 => d1 w1.1.1)]
    · unfold B_X2_lightest_18
      simp only [u2]
      rw [cw_nb R, v_nb R.m, if_pos (nI_le (Nat.le_refl _) (by omega))]
  have outer : ∃ o, loopN LF (B_X2_lightest_6 0 p w (nI n) h) (0, 0) = some o ∧ (o = .inl (nI (koN (ms h) p w n)) ∨ o = .inr (nI (koN (ms h) p w n))) := by
    refine loopI (fun i s => s = (nI (koN (ms h) p w i), nI i)) _ n (by omega) rfl ?_
    intro i s hi hs
    subst hs
    have hk := koN_lt R.m p w i
    unfold B_X2_lightest_6
    simp only [nm, u2]
    by_cases c : i < n
    · rw [if_neg (nI_ge c (by omega)), inner _ _ hk, Option.bind_some]
      rcases kiN_r (ms h) p w (koN (ms h) p w i) (NB (ms h)) with q | ⟨c2, q1, q2⟩
      · right
        rw [if_pos q]
        refine ⟨_, rfl, Or.inl ?_⟩
        have := koN_stop q (n - i)
        rw [show i + (n - i) = n by omega] at this
        rw [this]
      · left
        have e : koN (ms h) p w (i + 1) = koN (ms h) p w i ||| 2 ^ c2 := by
          show (if kiN (ms h) p w (koN (ms h) p w i) (NB (ms h)) = -1 then _ else _) = _
          rw [q2, if_neg (nI_m1 (by omega)), nI_clamp (by omega)]
        rw [q2, if_neg (nI_m1 (by omega)), bt_or (by omega), nI_1]
        exact ⟨_, c, rfl, by rw [e]⟩
    · right
      have : i = n := by omega
      subst this
      rw [if_pos (nI_le (Nat.le_refl _) (by omega))]
      exact ⟨_, rfl, Or.inr rfl⟩
  obtain ⟨o, h1, h2⟩ := outer
  unfold F_X2_lightest
  rw [h1, Option.bind_some]
  rcases h2 with rfl | rfl <;> rfl
theorem f_keptOf {h : HP} (G : gR h.2.2) (W : MW (ms h)) (P : PM h (LW (ms h))) (p w : Int32) : ∃ n, n ≤ 9 ∧ knV (LW (ms h)) w = nI n ∧ F_X12_keptOf 0 p w h = some (nI (koN (ms h) p w n)) := by
  have h3 := b_nb W
  have hlen := LW_len W
  obtain ⟨n, hn, en⟩ := knV_r (fun x hx => (lw_x (b_nt W)).2 x hx) hlen w
  have en : knV (LW (ms h)) w = nI n := en
  refine ⟨n, hn, en, ?_⟩
  have inner : ∀ (bits : Nat) (x2 t0 : Int32), bits < 1048576 → loopN LF (B_X12_keptOf_43 0 p w t0 (nI bits) x2 h) (-1, 0) = some (kiN (ms h) p w bits (NB (ms h))) := by
    intro bits x2 t0 hbits
    refine loopS (fun b => (kiN (ms h) p w bits b, nI b)) (NB (ms h)) (by omega) ?_ ?_
    · intro b hb
      unfold B_X12_keptOf_43
      simp only [nm, u2]
      rw [m_12_8, v_nb W, if_neg (nI_ge hb (by omega)), rf_12_9 G, Option.bind_some, ga_v (by omega) (by omega), Option.bind_some, m_50, f_wasIn G W hb, Option.bind_some]
      have j0 : J_X12_keptOf_89 0 p w t0 (nI bits) x2 (kiN (ms h) p w bits b) (nI b) 0 h = some (.inl (kiN (ms h) p w bits b, nI (b + 1))) := by
        unfold J_X12_keptOf_89
        rw [if_pos rfl, nI_1]
        rfl
      have j1 : J_X12_keptOf_89 0 p w t0 (nI bits) x2 (kiN (ms h) p w bits b) (nI b) 1 h = some (.inl (if kiN (ms h) p w bits b = -1 ∨ ms h 51 b < ms h 51 (kiN (ms h) p w bits b).toNatClampNeg then nI b else kiN (ms h) p w bits b, nI (b + 1))) := by
        unfold J_X12_keptOf_89
        simp only [nm]
        rw [if_neg (show ¬ (1 : Int32) = 0 by decide), nI_1]
        rcases kiN_r (ms h) p w bits b with q | ⟨c, q1, q2⟩
        · rw [if_pos q, if_pos (Or.inl q)]
        · rw [q2, if_neg (nI_m1 (by omega)), nI_clamp (by omega)]
          rw [rf_12_10 G, Option.bind_some, ga_v (by omega) (by omega), Option.bind_some, Option.bind_some, ga_v (by omega) (by omega), Option.bind_some, m_51, m_51]
          by_cases c3 : ms h 51 c ≤ ms h 51 b
          · rw [if_pos c3, if_neg]
            rintro (w1 | w1)
            · exact nI_m1 (by omega) w1
            · exact (fa_of_lt w1).2.1 c3
          · rw [if_neg c3, if_pos (Or.inr (fa_of_nle c3))]
      rw [j0, j1]
      have d2e := bt_t0 (n := bits) (i := b) (by omega) (by omega)
      simp only [kiN]
      by_cases d1 : ms h 50 b = p
      · by_cases d2 : bits.testBit b = false
        · by_cases d3 : wasV (ms h) b w = 4
          · rw [if_pos d1, if_pos (d2e.mpr d2), if_pos d3, if_neg]
            rintro ⟨⟨-, -, w1⟩, -⟩
            exact w1 d3
          · rw [if_pos d1, if_pos (d2e.mpr d2), if_neg d3]
            by_cases d4 : kiN (ms h) p w bits b = -1 ∨ ms h 51 b < ms h 51 (kiN (ms h) p w bits b).toNatClampNeg
            · rw [if_pos d4, if_pos ⟨⟨d1, d2, d3⟩, d4⟩]
            · rw [if_neg d4, if_neg (fun w1 => d4 w1.2)]
        · rw [if_pos d1, if_neg (fun w1 => d2 (d2e.mp w1)), if_neg (fun w1 => d2 w1.1.2.1)]
      · rw [if_neg d1, if_neg (fun w1 => d1 w1.1.1)]
    · unfold B_X12_keptOf_43
      simp only [u2]
      rw [m_12_8, v_nb W, if_pos (nI_le (Nat.le_refl _) (by omega))]
  have outer : J_X12_keptOf_22 0 p w (nI n) h = some (nI (koN (ms h) p w n)) := by
    have hl : loopN LF (B_X12_keptOf_30 0 p w (nI n) h) (0, 0) = some (nI (koN (ms h) p w n)) := by
      refine loopS (fun i => (nI (koN (ms h) p w i), nI i)) n (by omega) ?_ ?_
      · intro i hi
        have hk := koN_lt W p w i
        unfold B_X12_keptOf_30
        simp only [nm, u2]
        rw [if_neg (nI_ge hi (by omega)), inner _ _ _ hk, Option.bind_some, nI_1, bt_or0]
        rcases kiN_r (ms h) p w (koN (ms h) p w i) (NB (ms h)) with q | ⟨c2, q1, q2⟩
        · have e : koN (ms h) p w (i + 1) = koN (ms h) p w i := koN_stop q 1
          rw [if_pos q, e]
        · have e : koN (ms h) p w (i + 1) = koN (ms h) p w i ||| 2 ^ c2 := by
            show (if kiN (ms h) p w (koN (ms h) p w i) (NB (ms h)) = -1 then _ else _) = _
            rw [q2, if_neg (nI_m1 (by omega)), nI_clamp (by omega)]
          rw [q2, if_neg (nI_m1 (by omega)), bt_or (by omega), e]
      · unfold B_X12_keptOf_30
        simp only [u2]
        rw [if_pos (nI_le (Nat.le_refl _) (by omega))]
    unfold J_X12_keptOf_22
    rw [hl]
    rfl
  unfold F_X12_keptOf
  rw [f_partIn G P hlen, Option.bind_some]
  unfold knV at en
  rcases lastK_r (LW (ms h)) w 3 _ (Nat.le_refl _) with q | ⟨pp, x, q1, q2, q3, q4⟩
  · have q' : lastL (LW (ms h)) w 3 = -1 := q
    rw [q', if_pos rfl] at en
    rw [q', if_pos rfl, en, outer]
  · have q' : lastL (LW (ms h)) w 3 = nI pp := q4
    obtain ⟨y1, y2, y3, y4⟩ := P.2 pp x q2
    rw [q', if_neg (nI_m1 (by omega)), nI_clamp (by omega), q2] at en
    rw [q', if_neg (nI_m1 (by omega))]
    rw [rf_12_25 G, Option.bind_some, ga_v (by omega) (by omega), Option.bind_some, y2, if_pos q3, show x.2.2.1 = nI n from en, outer]
theorem e_keptNumber {h : HP} (R : RQ h) {w : Int32} (I : IF h w) : F_X4_keptNumber 0 0 h = some (knV (LW (ms h)) w) := by
  have hlen := LW_len R.m
  have i3 := I 3 (by omega)
  unfold F_X4_keptNumber knV
  rw [show (3 : Int32) = nI 3 from rfl]
  rw [ga_v (by omega) (by omega), Option.bind_some, i3]
  rcases lastK_r (LW (ms h)) w (nI 3) _ (Nat.le_refl _) with q | ⟨pp, x, q1, q2, q3, q4⟩
  · have q' : lastL (LW (ms h)) w (nI 3) = -1 := q
    rw [q', if_pos rfl, if_pos rfl]
  · have q' : lastL (LW (ms h)) w (nI 3) = nI pp := q4
    rw [q', if_neg (nI_m1 (by omega)), if_neg (nI_m1 (by omega)), nI_clamp (by omega), q2]
    rw [rf_4_5 R.1, Option.bind_some, ga_v (by omega) (by omega), Option.bind_some, ((c_PL R).2 pp x q2).2.2.1]
/-- kept of the class, where it is asked well -/
theorem e_kept {h : HP} (R : RQ h) {p w : Int32} (c1 : 0 ≤ p ∧ p ≤ ms h 12 6 - 1) (c2 : 0 ≤ w ∧ w ≤ ms h 12 5) : ∃ n h1, n ≤ 9 ∧ knV (LW (ms h)) w = nI n ∧ F_X11_kept 0 p w h = some (nI (koN (ms h) p w n), dp h1) ∧ EX S34 h h1 := by
  obtain ⟨h1, r1, x1, i1⟩ := e_inForce R w
  have q1 := x1.sq S34_la
  have R1 := q1.rl R
  obtain ⟨n, hn, en⟩ := knV_r (fun x hx => (lw_x (b_nt R.m)).2 x hx) (LW_len R.m) w
  have en' : knV (LW (ms h)) w = nI n := en
  refine ⟨n, h1, hn, en', ?_, x1⟩
  unfold F_X11_kept
  simp only [nm, u2]
  rw [e_isParish R, Option.bind_some, ite_b, if_pos c1, e_from, Option.bind_some, ite_b, cw_wk R, if_pos c2, rf_11_3 R.1, Option.bind_some, rf_11_4 R.1, Option.bind_some, Option.bind_some, r1, Option.bind_some, wd_dp x1.1, e_keptNumber R1 i1, Option.bind_some, q1.mq, en', e_lightest R1 p w hn, Option.bind_some, q1.mq]
theorem p_kept : CP_kept RQ := by
  intro h R p w
  by_cases c1 : 0 ≤ p ∧ p ≤ ms h 12 6 - 1
  · by_cases c2 : 0 ≤ w ∧ w ≤ ms h 12 5
    · obtain ⟨n, h1, hn, en, r1, x1⟩ := e_kept R c1 c2
      refine query (F1 := F_X11_kept 0 p w) (F2 := F_X12_kept 0 p w) (r := nI (koN (ms h) p w n)) R ⟨h1, r1, x1.sq S34_la⟩ ?_
      intro h1 R1 e1
      obtain ⟨h2, r2, x2, q2, pm⟩ := f_readsM R1.1 R1.m
      have R2 := q2.rl R1
      have em : ms h2 = ms h := q2.mq.trans e1
      obtain ⟨n2, hn2, en2, r3⟩ := f_keptOf R2.1 R2.m (by rw [q2.mq]; exact pm) p w
      refine ⟨h2, ?_, q2⟩
      rw [em] at en2 r3
      have e3 : nI n2 = nI n := by rw [← en2, en]
      have e4 : n2 = n := (nI_eq (by omega) (by omega)).mp e3
      rw [e4] at r3
      unfold F_X12_kept
      simp only [nm, u2]
      rw [← e1] at c1 c2
      rw [f_isParish, Option.bind_some, ite_b, if_pos c1, m_12_5, e_in_0_x, Option.bind_some, ite_b, if_pos c2, r2, Option.bind_some, wd_dp x2.1, r3, Option.bind_some]
    · refine ⟨-2, dp h, dp h, ?_, ?_, R⟩
      · unfold F_X11_kept
        rw [e_isParish R, Option.bind_some, ite_b, if_pos c1, e_from, Option.bind_some, ite_b, cw_wk R, if_neg c2]
      · unfold F_X12_kept
        rw [wd_self, f_isParish, Option.bind_some, ite_b, if_pos c1, m_12_5, e_in_0_x, Option.bind_some, ite_b, if_neg c2]
  · refine ⟨-2, dp h, dp h, ?_, ?_, R⟩
    · unfold F_X11_kept
      rw [e_isParish R, Option.bind_some, ite_b, if_neg c1]
    · unfold F_X12_kept
      rw [wd_self, f_isParish, Option.bind_some, ite_b, if_neg c1]
