/-! become -/
def mayV (x s : Int32) : Int32 := (F_X12_may x s).getD 0
theorem may_same {x s : Int32} (hs : 0 ≤ s ∧ s ≤ 5) : F_X11_mayFollow x s = some (mayV x s) ∧ F_X12_may x s = some (mayV x s) := by
  obtain ⟨n, hn, rfl⟩ := in_lit (n := 5) (by omega) hs
  have h6 : n = 0 ∨ n = 1 ∨ n = 2 ∨ n = 3 ∨ n = 4 ∨ n = 5 := by omega
  have go : ∀ s : Int32, F_X11_mayFollow x s = F_X12_may x s → (∃ r, F_X12_may x s = some r) → F_X11_mayFollow x s = some (mayV x s) ∧ F_X12_may x s = some (mayV x s) := by
    intro s e1 e2
    obtain ⟨r, hr⟩ := e2
    have : mayV x s = r := by unfold mayV; rw [hr]; rfl
    rw [e1, this]
    exact ⟨hr, hr⟩
  rcases h6 with rfl | rfl | rfl | rfl | rfl | rfl
  · refine go 0 rfl ?_
    show ∃ r, (if x = 1 then some (1 : Int32) else some 0) = some r
    split <;> exact ⟨_, rfl⟩
  · refine go 1 rfl ?_
    show ∃ r, (if x = 0 then some (1 : Int32) else (if x = 5 then some 1 else some 0)) = some r
    split
    · exact ⟨_, rfl⟩
    · split <;> exact ⟨_, rfl⟩
  · refine go 2 ?_ ?_
    · show (if x = 0 then some (1 : Int32) else (if x = 5 then some 1 else if x = 1 then some 1 else some 0)) = (if x = 0 then some (1 : Int32) else (if x = 1 then some 1 else if x = 5 then some 1 else some 0))
      by_cases h5 : x = 5 <;> by_cases h1 : x = 1 <;> simp only [h5, h1, if_true, if_false, ite_self]
    · show ∃ r, (if x = 0 then some (1 : Int32) else (if x = 1 then some 1 else if x = 5 then some 1 else some 0)) = some r
      split
      · exact ⟨_, rfl⟩
      · split
        · exact ⟨_, rfl⟩
        · split <;> exact ⟨_, rfl⟩
  · refine go 3 rfl ?_
    show ∃ r, (if x = 2 then some (1 : Int32) else some 0) = some r
    split <;> exact ⟨_, rfl⟩
  · refine go 4 rfl ?_
    show ∃ r, (if x = 3 then some (1 : Int32) else some 0) = some r
    split <;> exact ⟨_, rfl⟩
  · refine go 5 rfl ?_
    show ∃ r, (if x = 3 then some (1 : Int32) else some 0) = some r
    split <;> exact ⟨_, rfl⟩
theorem p_become : CP_become RQ := by
  intro h R a s
  have h3 := b_nb R.m
  by_cases c1 : 0 ≤ a ∧ a ≤ ms h 12 8 - 1
  · obtain ⟨b, hb, rfl⟩ := in_cnt (v_nb R.m) (by omega) c1
    have hc := b_ch R.m hb
    have hv := v_ch R.m hb
    by_cases c2 : 0 ≤ s ∧ s ≤ 5
    · obtain ⟨y1, y2⟩ := may_same (x := stV (ms h) b) c2
      by_cases c3 : mayV (stV (ms h) b) s = 0
      · refine ⟨-3, dp h, dp h, ?_, ?_, R⟩
        · unfold F_X11_become
          rw [rf_11_3 R.1, Option.bind_some, e_has R, Option.bind_some, ite_b, if_pos c1, e_from, Option.bind_some, ite_b, if_pos c2, Option.bind_some, rf_2_0 R.1, Option.bind_some, gar_v (by omega) (by omega), rb_23 R hb, Option.bind_some, e_stateNow R hb, Option.bind_some, y1, Option.bind_some, if_pos c3]
        · unfold F_X12_become
          rw [wd_self, f_isBell, Option.bind_some, ite_b, if_pos c1, e_in_0_5, Option.bind_some, ite_b, if_pos c2, f_stateOf R.1 R.m hb, Option.bind_some, y2, Option.bind_some, if_pos c3]
      · by_cases c4 : chN (ms h) b = 16
        · refine ⟨-4, dp h, dp h, ?_, ?_, R⟩
          · unfold F_X11_become
            rw [rf_11_3 R.1, Option.bind_some, e_has R, Option.bind_some, ite_b, if_pos c1, e_from, Option.bind_some, ite_b, if_pos c2, Option.bind_some, rf_2_0 R.1, Option.bind_some, gar_v (by omega) (by omega), rb_23 R hb, Option.bind_some, e_stateNow R hb, Option.bind_some, y1, Option.bind_some, if_neg c3, cb_7 R hb, hv, c4, if_neg (show ¬ nI 16 < 16 by decide)]
          · unfold F_X12_become
            rw [wd_self, f_isBell, Option.bind_some, ite_b, if_pos c1, e_in_0_5, Option.bind_some, ite_b, if_pos c2, f_stateOf R.1 R.m hb, Option.bind_some, y2, Option.bind_some, if_neg c3, rf_12_17 R.1, Option.bind_some, ga_v (by omega) (by omega), Option.bind_some, m_58, hv, c4, if_pos (show nI 16 = 16 from rfl)]
        · have hX : F_X1_change b s (ms h 12 5) h = some (dp (si (si (si h 21 b (chN (ms h) b) (ms h 12 5)) 22 b (chN (ms h) b) s) 1 b 7 (nI (chN (ms h) b + 1)))) := by
            unfold F_X1_change nm
            rw [cb_7 R hb, hv, if_neg (show ¬ 16 ≤ nI (chN (ms h) b) from nI_ge (a := chN (ms h) b) (b := 16) (by omega) (by omega)), rb_5 R hb, Option.bind_some, sa_v (by omega) (by omega), Option.bind_some, xr_si, rb_6 R hb, Option.bind_some]
            simp (disch := first | assumption | decide | omega) only [gi_si, cb_7 R hb, hv, sa_v, Option.bind_some, nI_1, Nat.reduceEqDiff, false_and, if_false]
          generalize hn : chN (ms h) b = n at *
          refine ⟨stV (ms h) b, dp (si (si (si h 21 b n (ms h 12 5)) 22 b n s) 1 b 7 (nI (n + 1))), dp (si (si (si (si (si (si h 21 b n (ms h 12 5)) 22 b n s) 1 b 7 (nI (n + 1))) 59 0 (16 * b + n) s) 60 0 (16 * b + n) (ms h 12 5)) 58 0 b (nI (n + 1))), ?_, ?_, ?_⟩
          · unfold F_X11_become
            rw [rf_11_3 R.1, Option.bind_some, e_has R, Option.bind_some, ite_b, if_pos c1, e_from, Option.bind_some, ite_b, if_pos c2, Option.bind_some, rf_2_0 R.1, Option.bind_some, gar_v (by omega) (by omega), rb_23 R hb, Option.bind_some, e_stateNow R hb, Option.bind_some, y1, Option.bind_some, if_neg c3, cb_7 R hb, hv, if_pos (show nI n < 16 from nI_lt (a := n) (b := 16) (by omega) (by omega)), cw_wk R, hX, Option.bind_some]
            unfold nm
            simp only [wd_si, wd_self]
          · have hX2 : ms (si (si (si h 21 b n (ms h 12 5)) 22 b n s) 1 b 7 (nI (n + 1))) = ms h := by
              rw [ms_si _ _ (by decide), ms_sik _ _ (by decide), ms_sik _ _ (by decide)]
            simp only [wd_si, wd_self]
            have G' : gR (si (si (si h 21 b n (ms h 12 5)) 22 b n s) 1 b 7 (nI (n + 1))).2.2 := R.1
            generalize si (si (si h 21 b n (ms h 12 5)) 22 b n s) 1 b 7 (nI (n + 1)) = X at hX2 G'
            have W' : MW (ms X) := by rw [hX2]; exact R.m
            unfold F_X12_become
            rw [f_isBell, Option.bind_some, ite_b, hX2, if_pos c1, e_in_0_5, Option.bind_some, ite_b, if_pos c2, f_stateOf G' W' (hX2.symm ▸ hb), Option.bind_some, hX2, y2, Option.bind_some, if_neg c3, rf_12_17 G', Option.bind_some, ga_v (by omega) (by omega), Option.bind_some, m_58, hX2, hv, if_neg (show ¬ nI n = 16 from fun q => c4 ((nI_eq (b := 16) (by omega) (by omega)).mp q)), rf_12_18 G', Option.bind_some, Option.bind_some, ga_v (by omega) (by omega), Option.bind_some, m_58, hX2, hv, ix16, sa_v (by omega) (by omega), Option.bind_some]
            simp (disch := first | assumption | decide | omega) only [xr_si, rf_12_17 G', rf_12_19 G', rf_12_18 G', ga_v, sa_v, gi_si, m_58, m_12_5, ms_sik, ms_si, ms_pt, ms_ptk, hX2, hv, ix16, nI_1, Option.bind_some, Nat.reduceEqDiff, false_and, if_false]
          · simp only [wd_si, wd_osi, wd_self]
            refine RQ.mk R R.1 (by simp (disch := decide) only [gW_si, gW_sik]; exact R.w) (by simp (disch := decide) only [gP_si, gP_sik]; exact R.p) ⟨R.b.1, R.b.2.1, R.b.2.2.1, fun c hc' => ⟨(R.b.2.2.2.1 c hc').1, ?_⟩, fun c hc1 hc2 => ?_⟩ (by simp (disch := decide) only [gL_si, gL_sik]; exact R.l) (by simp (disch := decide) only [gU_si, gU_sik]; exact R.u) (by simp (disch := decide) only [gT_si, gT_sik]; exact R.t) (by simp (disch := decide) only [gK_si, gK_sik]; exact R.k) (by simp (disch := decide) only [gC_si, gC_sik]; exact R.c) (by simp (disch := decide) only [gS_si, gS_sik]; exact R.s) (by simp (disch := decide) only [gF_si, gF_sik]; exact R.f)
            · have hcb : c < NB (ms h) := hc'
              obtain ⟨⟨w0, w1, w2, w3, w7, w8, w9, w10⟩, q2, ⟨q3, q4⟩, q5⟩ := (R.b.2.2.2.1 c hc').2
              generalize hX : si (si (si (si (si (si h 21 b n (ms h 12 5)) 22 b n s) 1 b 7 (nI (n + 1))) 59 0 (16 * b + n) s) 60 0 (16 * b + n) (ms h 12 5)) 58 0 b (nI (n + 1)) = X
              have e1 : ∀ s', gi X 1 c s' = if c = b ∧ s' = 7 then nI (n + 1) else gi h 1 c s' := fun s' => by rw [← hX]; simp only [gi_si, Nat.reduceEqDiff, false_and, if_false, true_and]
              have e58 : gi X 58 0 c = if c = b then nI (n + 1) else gi h 58 0 c := by rw [← hX]; simp only [gi_si, Nat.reduceEqDiff, false_and, if_false, true_and]
              have e21 : ∀ k, gi X 21 c k = if c = b ∧ k = n then ms h 12 5 else gi h 21 c k := fun k => by rw [← hX]; simp only [gi_si, Nat.reduceEqDiff, false_and, if_false, true_and]
              have e22 : ∀ k, gi X 22 c k = if c = b ∧ k = n then s else gi h 22 c k := fun k => by rw [← hX]; simp only [gi_si, Nat.reduceEqDiff, false_and, if_false, true_and]
              have e59 : ∀ k, gi X 59 0 k = if k = 16 * b + n then s else gi h 59 0 k := fun k => by rw [← hX]; simp only [gi_si, Nat.reduceEqDiff, false_and, if_false, true_and]
              have e60 : ∀ k, gi X 60 0 k = if k = 16 * b + n then ms h 12 5 else gi h 60 0 k := fun k => by rw [← hX]; simp only [gi_si, Nat.reduceEqDiff, false_and, if_false, true_and]
              have e5 : gi X 12 0 5 = ms h 12 5 := by rw [← hX]; simp only [gi_si, Nat.reduceEqDiff, false_and, if_false, true_and]; rfl
              have eo : ∀ k s', (k = 50 ∨ k = 51 ∨ k = 52 ∨ k = 53 ∨ k = 54 ∨ k = 55 ∨ k = 56 ∨ k = 57) → gi X k 0 s' = gi h k 0 s' := by
                intro k s' hk
                rw [← hX]
                rcases hk with rfl | rfl | rfl | rfl | rfl | rfl | rfl | rfl <;> simp only [gi_si, Nat.reduceEqDiff, false_and, if_false]
              have e20 : ∀ s', gi X 20 c s' = gi h 20 c s' := fun s' => by rw [← hX]; simp only [gi_si, Nat.reduceEqDiff, false_and, if_false]
              clear hX
              have ew : ∀ s', s' ≠ 7 → gi X 1 c s' = gi h 1 c s' := fun s' e => by rw [e1, if_neg (fun q => e q.2)]
              refine ⟨⟨?_, ?_, ?_, ?_, ?_, ?_, ?_, ?_⟩, fun t ht => ?_, ⟨?_, fun k hk => ?_⟩, ?_⟩
              · exact (ew 0 (by decide)).trans (w0.trans (eo 50 c (by omega)).symm)
              · exact (ew 1 (by decide)).trans (w1.trans (eo 51 c (by omega)).symm)
              · exact (ew 2 (by decide)).trans (w2.trans (eo 52 c (by omega)).symm)
              · exact (ew 3 (by decide)).trans (w3.trans (eo 53 c (by omega)).symm)
              · show gi X 1 c 7 = gi X 58 0 c
                rw [e1, e58]
                by_cases e : c = b
                · rw [if_pos ⟨e, rfl⟩, if_pos e]
                · rw [if_neg (fun q => e q.1), if_neg e]
                  exact w7
              · exact (ew 8 (by decide)).trans (w8.trans (eo 55 c (by omega)).symm)
              · exact (ew 9 (by decide)).trans (w9.trans (eo 56 c (by omega)).symm)
              · exact (ew 10 (by decide)).trans (w10.trans (eo 57 c (by omega)).symm)
              · show gi X 20 c t = gi X 54 0 (5 * c + t) ∧ tn (gi X 54 0 (5 * c + t))
                rw [e20, eo 54 _ (by omega)]
                exact q2 t ht
              · show cn (gi X 58 0 c) 16
                rw [e58]
                by_cases e : c = b
                · rw [if_pos e]
                  exact cn_of (by omega) (by omega)
                · rw [if_neg e]
                  exact q3
              · have hk' : k < (gi X 58 0 c).toNatClampNeg := hk
                show gi X 21 c k = gi X 60 0 (16 * c + k) ∧ gi X 22 c k = gi X 59 0 (16 * c + k) ∧ gi X 60 0 (16 * c + k) ≤ gi X 12 0 5
                rw [e21, e22, e59, e60, e5]
                rw [e58] at hk'
                by_cases e : c = b
                · subst e
                  rw [if_pos rfl, nI_clamp (by omega)] at hk'
                  by_cases e2 : k = n
                  · subst e2
                    simp only [and_self, if_true, true_and]
                    rw [fa_le]
                    omega
                  · simp only [e2, and_false, if_false, show ¬ 16 * c + k = 16 * c + n from by omega]
                    exact q4 k (by show k < chN (ms h) c; omega)
                · rw [if_neg e] at hk'
                  have hk2 : k < chN (ms h) c := hk'
                  have hk3 := b_ch R.m hcb
                  simp only [e, false_and, if_false, show ¬ 16 * c + k = 16 * b + n from by omega]
                  exact q4 k hk'
              · show cn (gi X 51 0 c) 9999 ∧ cn (gi X 53 0 c) 30 ∧ cn (gi X 56 0 c) 99 ∧ cn (gi X 57 0 c) 999 ∧ cn (gi X 52 0 c) 1939
                rw [eo 51 _ (by omega), eo 53 _ (by omega), eo 56 _ (by omega), eo 57 _ (by omega), eo 52 _ (by omega)]
                exact q5
            · show gi (si (si (si (si (si (si h 21 b n (ms h 12 5)) 22 b n s) 1 b 7 (nI (n + 1))) 59 0 (16 * b + n) s) 60 0 (16 * b + n) (ms h 12 5)) 58 0 b (nI (n + 1))) 58 0 c = 0
              have hq : NB (ms h) ≤ c := hc1
              rw [gi_si, if_neg (by omega)]
              exact R.b.2.2.2.2 c hc1 hc2
    · refine ⟨-2, dp h, dp h, ?_, ?_, R⟩
      · unfold F_X11_become
        rw [rf_11_3 R.1, Option.bind_some, e_has R, Option.bind_some, ite_b, if_pos c1, e_from, Option.bind_some, ite_b, if_neg c2]
      · unfold F_X12_become
        rw [wd_self, f_isBell, Option.bind_some, ite_b, if_pos c1, e_in_0_5, Option.bind_some, ite_b, if_neg c2]
  · refine ⟨-2, dp h, dp h, ?_, ?_, R⟩
    · unfold F_X11_become
      rw [rf_11_3 R.1, Option.bind_some, e_has R, Option.bind_some, ite_b, if_neg c1]
    · unfold F_X12_become
      rw [wd_self, f_isBell, Option.bind_some, ite_b, if_neg c1]
