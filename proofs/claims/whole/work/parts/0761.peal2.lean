/-! stage III: peal, step -/
def miV (m : Nat → Nat → Int32) (p : Int32) : Int32 := m 12 38 &&& (ruN m p (NB m) ^^^ (-1))
def flN (m : Nat → Nat → Int32) (p : Int32) : Nat → Int32
  | 0 => -1
  | b + 1 => if ((stV m b = 2 ∨ stV m b = 3) ∧ (¬ spV m b (grN m p (NB m)) = -1 ∧ (miV m p >>> (spV m b (grN m p (NB m)) &&& 31)) &&& 1 = 1)) ∧ (flN m p b = -1 ∨ ¬ m 51 b ≤ m 51 (flN m p b).toNatClampNeg) then nI b else flN m p b
theorem flN_ok (m : Nat → Nat → Int32) (p : Int32) : ∀ b, flN m p b = -1 ∨ ∃ c, c < b ∧ flN m p b = nI c := by
  intro b
  induction b with
  | zero => exact Or.inl rfl
  | succ b ih =>
    unfold flN
    split
    · exact Or.inr ⟨b, by omega, rfl⟩
    · rcases ih with q | ⟨c, q1, q2⟩
      · exact Or.inl q
      · exact Or.inr ⟨c, by omega, q2⟩
def plV (m : Nat → Nat → Int32) (p x : Int32) : Int32 :=
  if x = 0 then nI (rnN m p (NB m)) else if x = 1 then grN m p (NB m) else if x = 2 then nI (ouN m p (NB m)) else if x = 3 then miV m p else
  if x = 4 then (if rnN m p (NB m) ≤ 0 then 0 else if ouN m p (NB m) = 0 then (if ruN m p (NB m) = m 12 38 then 1 else 0) else 0) else flN m p (NB m)
theorem ite23 {x : Int32} {α : Type} (A B : α) (h : x = 2 ∨ x = 3) : (if x = 2 then A else if x = 3 then A else B) = A := by
  rcases h with q | q
  · rw [if_pos q]
  · by_cases q2 : x = 2
    · rw [if_pos q2]
    · rw [if_neg q2, if_pos q]
theorem same_bits (a b : Int32) : (b &&& (a ^^^ (-1)) = 0 ∧ a &&& (b ^^^ (-1)) = 0) ↔ a = b := by
  constructor
  · rintro ⟨h1, h2⟩
    apply b_ext
    intro i hi
    have e1 := congrArg (fun x => bt x i) h1
    have e2 := congrArg (fun x => bt x i) h2
    simp only [b_and, b_xor, b_m1 i hi, b_0] at e1 e2
    cases ha : bt a i <;> cases hb : bt b i <;> simp [ha, hb] at e1 e2 ⊢
  · rintro rfl
    have : a &&& (a ^^^ (-1)) = 0 := by
      apply b_ext
      intro i hi
      rw [b_and, b_xor, b_m1 i hi, b_0]
      cases bt a i <;> rfl
    exact ⟨this, this⟩
theorem rnN_le (m : Nat → Nat → Int32) (p : Int32) : ∀ b, rnN m p b ≤ b := by
  intro b
  induction b with
  | zero => exact Nat.le_refl _
  | succ b ih => unfold rnN; split <;> omega
theorem ouN_le (m : Nat → Nat → Int32) (p : Int32) : ∀ b, ouN m p b ≤ b := by
  intro b
  induction b with
  | zero => exact Nat.le_refl _
  | succ b ih => unfold ouN; split <;> omega
theorem e_ty {h : HP} (R : RQ h) {b : Nat} (hb : b < NB (ms h)) : F_X1_isTakenOrInYard b h = some (if stV (ms h) b = 2 ∨ stV (ms h) b = 3 then 1 else 0) := by
  unfold F_X1_isTakenOrInYard
  rw [e_stateNow R hb, Option.bind_some]
  by_cases c1 : stV (ms h) b = 2
  · rw [if_pos c1, if_pos (Or.inl c1)]
  · rw [if_neg c1]
    by_cases c2 : stV (ms h) b = 3
    · rw [if_pos c2, if_pos (Or.inr c2)]
    · rw [if_neg c2, if_neg (fun q => q.elim c1 c2)]
theorem e_missing {h : HP} (R : RQ h) {p : Int32} (H : HE h p) : F_X7_missing 0 h = some (miV (ms h) p) := by
  unfold F_X7_missing miV
  rw [cw_t1 R, H.2.2.2.2]
theorem e_filling {h : HP} (R : RQ h) {p : Int32} (H : HE h p) : F_X7_filling 0 0 h = some (flN (ms h) p (NB (ms h))) := by
  have h3 := b_nb R.m
  have key : loopN LF (B_X7_filling_4 0 0 h) (-1, 0) = some (flN (ms h) p (NB (ms h))) := by
    refine loopS (fun b => (flN (ms h) p b, nI b)) (NB (ms h)) (by omega) ?_ ?_
    · intro b hb
      have es := e_stepOf R (gOk_gr (ms h) p) H.2.1 H.2.2.1 hb
      have hJ : ∀ v, J_X7_filling_50 0 0 v (nI b) b h = some (.inl (if ¬ spV (ms h) b (grN (ms h) p (NB (ms h))) = -1 ∧ (miV (ms h) p >>> (spV (ms h) b (grN (ms h) p (NB (ms h))) &&& 31)) &&& 1 = 1 then nI b else v, nI (b + 1))) := by
        intro v
        unfold J_X7_filling_50
        simp only [nm]
        rw [es, Option.bind_some, e_missing R H, Option.bind_some, nI_1]
        by_cases d1 : spV (ms h) b (grN (ms h) p (NB (ms h))) = -1
        · rw [if_pos d1, if_neg (fun q => q.1 d1)]
        · rw [if_neg d1]
          by_cases d2 : (miV (ms h) p >>> (spV (ms h) b (grN (ms h) p (NB (ms h))) &&& 31)) &&& 1 = 1
          · rw [if_pos d2, if_pos ⟨d1, d2⟩]
          · rw [if_neg d2, if_neg (fun q => d2 q.2)]
      unfold B_X7_filling_4
      simp only [nm, u2]
      rw [cw_nb R, v_nb R.m, if_neg (nI_ge hb (by omega)), rf_2_0 R.1, Option.bind_some, gar_v (by omega) (by omega), rb_23 R hb, Option.bind_some, e_ty R hb, Option.bind_some, ite_b, hJ]
      simp only [flN]
      by_cases c1 : stV (ms h) b = 2 ∨ stV (ms h) b = 3
      · rw [if_pos c1]
        rcases flN_ok (ms h) p b with q | ⟨c, q1, q2⟩
        · rw [if_pos q]
          by_cases d : ¬ spV (ms h) b (grN (ms h) p (NB (ms h))) = -1 ∧ (miV (ms h) p >>> (spV (ms h) b (grN (ms h) p (NB (ms h))) &&& 31)) &&& 1 = 1
          · rw [if_pos d, if_pos ⟨⟨c1, d⟩, Or.inl q⟩]
          · rw [if_neg d, if_neg (fun w => d w.1.2)]
        · rw [q2, if_neg (nI_m1 (by omega)), nI_clamp (by omega)]
          rw [Option.bind_some, gar_v (by omega) (by omega), rb_23 R (show c < NB (ms h) by omega), Option.bind_some, cb_1 R hb, cb_1 R (show c < NB (ms h) by omega), nI_1]
          by_cases c2 : ms h 51 b ≤ ms h 51 c
          · rw [if_pos c2, if_neg]
            rintro ⟨-, w | w⟩
            · exact nI_m1 (by omega) w
            · exact w c2
          · rw [if_neg c2]
            by_cases d : ¬ spV (ms h) b (grN (ms h) p (NB (ms h))) = -1 ∧ (miV (ms h) p >>> (spV (ms h) b (grN (ms h) p (NB (ms h))) &&& 31)) &&& 1 = 1
            · rw [if_pos d, if_pos ⟨⟨c1, d⟩, Or.inr c2⟩]
            · rw [if_neg d, if_neg (fun w => d w.1.2)]
      · rw [if_neg c1, if_neg (fun q => c1 q.1.1), nI_1]
    · unfold B_X7_filling_4
      simp only [u2]
      rw [cw_nb R, v_nb R.m, if_pos (nI_le (Nat.le_refl _) (by omega))]
  unfold F_X7_filling
  rw [key]
  rfl
theorem e_told {h : HP} (R : RQ h) {p : Int32} (H : HE h p) (x : Int32) : F_X7_told 0 0 x h = some (plV (ms h) p x) := by
  have h3 := b_nb R.m
  have q1 := rnN_le (ms h) p (NB (ms h))
  have q2 := ouN_le (ms h) p (NB (ms h))
  have hw : F_X7_isWhole 0 h = some (if rnN (ms h) p (NB (ms h)) ≤ 0 then 0 else if ouN (ms h) p (NB (ms h)) = 0 then (if ruN (ms h) p (NB (ms h)) = ms h 12 38 then 1 else 0) else 0) := by
    unfold F_X7_isWhole
    rw [H.1, H.2.2.2.1, H.2.2.2.2, cw_t1 R]
    by_cases c1 : rnN (ms h) p (NB (ms h)) ≤ 0
    · rw [if_pos c1, if_pos (show nI (rnN (ms h) p (NB (ms h))) ≤ 0 from nI_le (b := 0) c1 (by omega))]
    · rw [if_neg c1, if_neg (nI_nle (by omega) (by omega))]
      by_cases c2 : ouN (ms h) p (NB (ms h)) = 0
      · rw [if_pos c2, if_pos (by rw [c2]; rfl)]
        split <;> rfl
      · rw [if_neg c2, if_neg (nI_ne0 (by omega) (by omega))]
  unfold F_X7_told plV
  rw [H.1, H.2.1, H.2.2.2.1, e_missing R H, e_filling R H, hw]
  simp only [Option.bind_some]
  split
  · rfl
  · split
    · rfl
    · split
      · rfl
      · split
        · rfl
        · split
          · split
            · rfl
            · split
              · split <;> rfl
              · rfl
          · rfl
theorem f_pealOf {h : HP} (G : gR h.2.2) (W : MW (ms h)) (p x : Int32) (hx : 0 ≤ x ∧ x ≤ 5) : F_X12_pealOf 0 p x h = some (plV (ms h) p x) := by
  have h3 := b_nb W
  have q1 := rnN_le (ms h) p (NB (ms h))
  have q2 := ouN_le (ms h) p (NB (ms h))
  have gg := gOk_gr (ms h) p
  -- all that ring
  have l1 : loopN LF (B_X12_pealOf_18 0 p x (grN (ms h) p (NB (ms h))) h) (0, 0, 0, 0) = some (nI (rnN (ms h) p (NB (ms h))), nI (ouN (ms h) p (NB (ms h))), ruN (ms h) p (NB (ms h))) := by
    refine loopS (fun b => (nI (rnN (ms h) p b), nI (ouN (ms h) p b), ruN (ms h) p b, nI b)) (NB (ms h)) (by omega) ?_ ?_
    · intro b hb
      unfold B_X12_pealOf_18
      simp only [nm, u4]
      rw [m_12_8, v_nb W, if_neg (nI_ge hb (by omega)), f_rings G W p hb, Option.bind_some, ite_b, f_stepOf G W gg hb, Option.bind_some, nI_1, nI_1]
      unfold J_X12_pealOf_62
      simp only [nm, nI_1, bt_or0, Int32.add_zero]
      simp only [rnN, ouN, ruN]
      by_cases c1 : ms h 50 b = p ∧ ((stV (ms h) b = 0 ∨ stV (ms h) b = 5) ∧ ¬ ms h 54 (5 * b + 4) = -1)
      · by_cases c2 : spV (ms h) b (grN (ms h) p (NB (ms h))) = -1
        · rw [if_pos c1, if_pos c2, if_pos c2, if_pos c1, if_pos ⟨c1, c2⟩, if_neg (fun q => q.2 c2)]
        · rw [if_pos c1, if_neg c2, if_neg c2, if_pos c1, if_neg (fun q => c2 q.2), if_pos ⟨c1, c2⟩]
      · rw [if_neg c1, if_neg c1, if_neg (fun q => c1 q.1), if_neg (fun q => c1 q.1)]
    · unfold B_X12_pealOf_18
      simp only [u4]
      rw [m_12_8, v_nb W, if_pos (nI_le (Nat.le_refl _) (by omega))]
  -- the filling one
  have l2 : loopN LF (B_X12_pealOf_181 0 (grN (ms h) p (NB (ms h))) (miV (ms h) p) h) (-1, 0) = some (flN (ms h) p (NB (ms h))) := by
    refine loopS (fun b => (flN (ms h) p b, nI b)) (NB (ms h)) (by omega) ?_ ?_
    · intro b hb
      have j245 : ∀ t0 : Int32, J_X12_pealOf_245 0 (grN (ms h) p (NB (ms h))) (miV (ms h) p) (flN (ms h) p b) (nI b) t0 h = some (.inl (if ¬ t0 = 0 ∧ (flN (ms h) p b = -1 ∨ ¬ ms h 51 b ≤ ms h 51 (flN (ms h) p b).toNatClampNeg) then nI b else flN (ms h) p b, nI (b + 1))) := by
        intro t0
        unfold J_X12_pealOf_245
        simp only [nm, nI_1]
        by_cases c0 : t0 = 0
        · rw [if_pos c0, if_neg (fun q => q.1 c0)]
        · rw [if_neg c0]
          rcases flN_ok (ms h) p b with q | ⟨c, q1, q2⟩
          · rw [if_pos q, if_pos ⟨c0, Or.inl q⟩]
          · rw [q2, if_neg (nI_m1 (by omega)), nI_clamp (by omega)]
            rw [rf_12_10 G, Option.bind_some, ga_v (by omega) (by omega), Option.bind_some, Option.bind_some, ga_v (by omega) (by omega), Option.bind_some, m_51, m_51]
            by_cases c2 : ms h 51 b ≤ ms h 51 c
            · rw [if_pos c2, if_neg]
              rintro ⟨-, w | w⟩
              · exact nI_m1 (by omega) w
              · exact w c2
            · rw [if_neg c2, if_pos ⟨c0, Or.inr c2⟩]
      have j221 : ∀ t0 : Int32, J_X12_pealOf_221 0 (grN (ms h) p (NB (ms h))) (miV (ms h) p) (flN (ms h) p b) (nI b) t0 h = some (.inl (if (¬ t0 = -1 ∧ (miV (ms h) p >>> (t0 &&& 31)) &&& 1 = 1) ∧ (flN (ms h) p b = -1 ∨ ¬ ms h 51 b ≤ ms h 51 (flN (ms h) p b).toNatClampNeg) then nI b else flN (ms h) p b, nI (b + 1))) := by
        intro t0
        unfold J_X12_pealOf_221
        rw [j245, j245]
        by_cases c0 : t0 = -1
        · rw [if_pos c0, if_neg (fun q => q.1 rfl), if_neg (fun q => q.1.1 c0)]
        · rw [if_neg c0]
          by_cases c1 : (miV (ms h) p >>> (t0 &&& 31)) &&& 1 = 1
          · rw [if_pos c1]
            by_cases c2 : flN (ms h) p b = -1 ∨ ¬ ms h 51 b ≤ ms h 51 (flN (ms h) p b).toNatClampNeg
            · rw [if_pos ⟨by decide, c2⟩, if_pos ⟨⟨c0, c1⟩, c2⟩]
            · rw [if_neg (fun q => c2 q.2), if_neg (fun q => c2 q.2)]
          · rw [if_neg c1, if_neg (fun q => q.1 rfl), if_neg (fun q => c1 q.1.2)]
      unfold B_X12_pealOf_181 J_X12_pealOf_210
      simp only [u2]
      rw [m_12_8, v_nb W, if_neg (nI_ge hb (by omega)), f_stateOf G W hb, Option.bind_some, f_stepOf G W gg hb, Option.bind_some, j221, j221]
      simp only [flN]
      by_cases c1 : stV (ms h) b = 2 ∨ stV (ms h) b = 3
      · rw [ite23 _ _ c1]
        by_cases c2 : (¬ spV (ms h) b (grN (ms h) p (NB (ms h))) = -1 ∧ (miV (ms h) p >>> (spV (ms h) b (grN (ms h) p (NB (ms h))) &&& 31)) &&& 1 = 1) ∧ (flN (ms h) p b = -1 ∨ ¬ ms h 51 b ≤ ms h 51 (flN (ms h) p b).toNatClampNeg)
        · rw [if_pos c2, if_pos ⟨⟨c1, c2.1⟩, c2.2⟩]
        · rw [if_neg c2, if_neg (fun q => c2 ⟨q.1.2, q.2⟩)]
      · rw [if_neg (fun q => c1 (Or.inl q)), if_neg (fun q => c1 (Or.inr q)), if_neg (fun q => q.1.1 trivial), if_neg (fun q => c1 q.1.1)]
    · unfold B_X12_pealOf_181
      simp only [u2]
      rw [m_12_8, v_nb W, if_pos (nI_le (Nat.le_refl _) (by omega))]
  obtain ⟨n, hn, rfl⟩ := in_lit (n := 5) (by omega) hx
  unfold F_X12_pealOf
  simp only [nm, u3]
  rw [f_groundOf G W p, Option.bind_some, l1, Option.bind_some, m_12_38]
  rw [show ms h 12 38 &&& (ruN (ms h) p (NB (ms h)) ^^^ (-1)) = miV (ms h) p from rfl, l2]
  unfold plV
  have hn6 : n = 0 ∨ n = 1 ∨ n = 2 ∨ n = 3 ∨ n = 4 ∨ n = 5 := by omega
  rcases hn6 with rfl | rfl | rfl | rfl | rfl | rfl
  · rfl
  · rfl
  · rfl
  · rfl
  · have e4 : ∀ {α : Type} (a b : α), (if (4 : Int32) ≤ nI 4 then a else b) = a := fun a b => rfl
    show (if nI (rnN (ms h) p (NB (ms h))) ≤ 0 then some 0 else (if nI (ouN (ms h) p (NB (ms h))) = 0 then (if miV (ms h) p = 0 then (if (ruN (ms h) p (NB (ms h)) &&& (ms h 12 38 ^^^ (-1))) = 0 then some 1 else some 0) else some 0) else some 0)) = some (if rnN (ms h) p (NB (ms h)) ≤ 0 then 0 else if ouN (ms h) p (NB (ms h)) = 0 then (if ruN (ms h) p (NB (ms h)) = ms h 12 38 then 1 else 0) else 0)
    by_cases c1 : rnN (ms h) p (NB (ms h)) ≤ 0
    · rw [if_pos c1, if_pos (show nI (rnN (ms h) p (NB (ms h))) ≤ 0 from nI_le (b := 0) c1 (by omega))]
    · rw [if_neg c1, if_neg (nI_nle (by omega) (by omega))]
      by_cases c2 : ouN (ms h) p (NB (ms h)) = 0
      · rw [if_pos c2, if_pos (by rw [c2]; rfl)]
        have sb := same_bits (ruN (ms h) p (NB (ms h))) (ms h 12 38)
        by_cases c3 : ruN (ms h) p (NB (ms h)) = ms h 12 38
        · obtain ⟨b1, b2⟩ := sb.mpr c3
          rw [if_pos c3, if_pos (show miV (ms h) p = 0 from b1), if_pos b2]
        · rw [if_neg c3]
          by_cases c4 : miV (ms h) p = 0
          · rw [if_pos c4, if_neg (fun q => c3 (sb.mp ⟨c4, q⟩))]
          · rw [if_neg c4]
      · rw [if_neg c2, if_neg (nI_ne0 (by omega) (by omega))]
  · rfl
theorem p_peal : CP_peal RQ := by
  intro h R p x
  by_cases c1 : 0 ≤ p ∧ p ≤ ms h 12 6 - 1
  · by_cases c2 : 0 ≤ x ∧ x ≤ 5
    · obtain ⟨h1, r1, x1, he⟩ := e_hear R p
      have s1 := x1.sq S7_la
      have R1 := s1.rl R
      refine ⟨plV (ms h) p x, dp h1, ?_, ?_, ?_⟩
      · unfold F_X11_peal
        simp only [nm]
        rw [e_isParish R, Option.bind_some, ite_b, if_pos c1, e_from, Option.bind_some, ite_b, if_pos c2, rf_11_8 R.1, Option.bind_some, rf_11_3 R.1, Option.bind_some, r1, Option.bind_some, wd_dp x1.1, rf_11_8 R1.1, Option.bind_some, rf_11_3 R1.1, Option.bind_some, e_told R1 he, Option.bind_some, s1.mq]
      · rw [wd_dp x1.1]
        unfold F_X12_peal
        rw [← s1.mq] at c1 ⊢
        rw [f_isParish, Option.bind_some, ite_b, if_pos c1, e_in_0_5, Option.bind_some, ite_b, if_pos c2, f_pealOf R1.1 R1.m p x c2, Option.bind_some]
      · rw [wd_dp x1.1]; exact R1
    · refine ⟨-1000, dp h, ?_, ?_, R⟩
      · unfold F_X11_peal
        rw [e_isParish R, Option.bind_some, ite_b, if_pos c1, e_from, Option.bind_some, ite_b, if_neg c2]
      · unfold F_X12_peal
        rw [wd_self, f_isParish, Option.bind_some, ite_b, if_pos c1, e_in_0_5, Option.bind_some, ite_b, if_neg c2]
  · refine ⟨-1000, dp h, ?_, ?_, R⟩
    · unfold F_X11_peal
      rw [e_isParish R, Option.bind_some, ite_b, if_neg c1]
    · unfold F_X12_peal
      rw [wd_self, f_isParish, Option.bind_some, ite_b, if_neg c1]
theorem p_step : CP_step RQ := by
  intro h R p a
  have h3 := b_nb R.m
  by_cases c1 : 0 ≤ p ∧ p ≤ ms h 12 6 - 1
  · by_cases c2 : 0 ≤ a ∧ a ≤ ms h 12 8 - 1
    · obtain ⟨b, hb, rfl⟩ := in_cnt (v_nb R.m) (by omega) c2
      obtain ⟨h1, r1, x1, he⟩ := e_hear R p
      have s1 := x1.sq S7_la
      have R1 := s1.rl R
      have hb1 : b < NB (ms h1) := by rw [s1.mq]; exact hb
      refine ⟨spV (ms h) b (grN (ms h) p (NB (ms h))), dp h1, ?_, ?_, ?_⟩
      · unfold F_X11_step
        simp only [nm]
        rw [e_isParish R, Option.bind_some, ite_b, if_pos c1, rf_11_3 R.1, Option.bind_some, e_has R, Option.bind_some, ite_b, if_pos c2, rf_11_8 R.1, Option.bind_some, Option.bind_some, r1, Option.bind_some, wd_dp x1.1, rf_11_8 R1.1, Option.bind_some, rf_11_3 R1.1, Option.bind_some, rf_2_0 R1.1, Option.bind_some, gar_v (by omega) (by omega), rb_23 R1 hb1, Option.bind_some, e_stepOf R1 (gOk_gr (ms h1) p) he.2.1 he.2.2.1 hb1, Option.bind_some, s1.mq]
      · rw [wd_dp x1.1]
        unfold F_X12_step
        rw [← s1.mq] at c1 c2 ⊢
        rw [f_isParish, Option.bind_some, ite_b, if_pos c1, f_isBell, Option.bind_some, ite_b, if_pos c2, f_groundOf R1.1 R1.m p, Option.bind_some, f_stepOf R1.1 R1.m (gOk_gr (ms h1) p) hb1, Option.bind_some]
      · rw [wd_dp x1.1]; exact R1
    · refine ⟨-2, dp h, ?_, ?_, R⟩
      · unfold F_X11_step
        rw [e_isParish R, Option.bind_some, ite_b, if_pos c1, rf_11_3 R.1, Option.bind_some, e_has R, Option.bind_some, ite_b, if_neg c2]
      · unfold F_X12_step
        rw [wd_self, f_isParish, Option.bind_some, ite_b, if_pos c1, f_isBell, Option.bind_some, ite_b, if_neg c2]
  · refine ⟨-2, dp h, ?_, ?_, R⟩
    · unfold F_X11_step
      rw [e_isParish R, Option.bind_some, ite_b, if_neg c1]
    · unfold F_X12_step
      rw [wd_self, f_isParish, Option.bind_some, ite_b, if_neg c1]
