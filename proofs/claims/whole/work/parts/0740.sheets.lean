/-! stage III: sheets, and what is small beside them -/
theorem si_srow (h : HP) (k i s : Nat) (f : Nat → Int32) (v : Int32) : si (srow h k i f) k i s v = srow h k i (va_up f s v) := by
  unfold si srow up3
  refine Prod.ext ?_ rfl
  funext k1 i1
  by_cases e : k1 = k ∧ i1 = i
  · obtain ⟨rfl, rfl⟩ := e
    simp
  · simp [e]
theorem srow_self (h : HP) (k i : Nat) (f : Nat → Int32) (hf : ∀ s, f s = gi h k i s) : srow h k i f = h := by
  unfold srow
  refine Prod.ext ?_ rfl
  funext k1 i1
  by_cases e : k1 = k ∧ i1 = i
  · obtain ⟨rfl, rfl⟩ := e
    simp only [and_self, if_true]
    funext s
    exact hf s
  · simp [e]
theorem srow_ext (h : HP) (k i : Nat) {f g : Nat → Int32} (hf : ∀ s, f s = g s) : srow h k i f = srow h k i g := by rw [show f = g from funext hf]
/-- filling a row up to n -/
theorem e_fill34 (h : HP) (i : Nat) (v : Int32) : F_J_fill_34 i v h = some (dp (srow h 34 i (fun j => if j < 4 then v else gi h 34 i j))) := by
  unfold F_J_fill_34
  have key : loopN LF (B_J_fill_34_5 i v h) (0, dp h) = some (dp (srow h 34 i (fun j => if j < 4 then v else gi h 34 i j))) := by
    have := loopS (B := B_J_fill_34_5 i v h) (fun k => (nI k, dp (srow h 34 i (fun j => if j < k then v else gi h 34 i j)))) (r := dp (srow h 34 i (fun j => if j < 4 then v else gi h 34 i j))) 4 (by omega) (fun k hk => by
      unfold B_J_fill_34_5 u2 nm
      simp only [wd_srow, wd_self]
      rw [if_neg (show ¬ 4 ≤ nI k from nI_ge (b := 4) hk (by omega)), sa_v (by omega) (by omega), Option.bind_some, si_srow, nI_1]
      rw [srow_ext h 34 i (g := fun j => if j < k + 1 then v else gi h 34 i j) (fun j => by unfold va_up; by_cases e : j = k <;> by_cases e2 : j < k <;> simp [e, e2] <;> omega)]) (by
      unfold B_J_fill_34_5 u2 nm
      simp only [wd_srow, wd_self]
      rw [if_pos (show 4 ≤ nI 4 from nI_le (a := 4) (Nat.le_refl _) (by omega))])
    rw [srow_self h 34 i _ (fun s => by simp)] at this
    exact this
  rw [key]
  rfl
theorem e_fill37 (h : HP) (i : Nat) (v : Int32) : F_J_fill_37 i v h = some (dp (srow h 37 i (fun j => if j < 20 then v else gi h 37 i j))) := by
  unfold F_J_fill_37
  have key : loopN LF (B_J_fill_37_5 i v h) (0, dp h) = some (dp (srow h 37 i (fun j => if j < 20 then v else gi h 37 i j))) := by
    have := loopS (B := B_J_fill_37_5 i v h) (fun k => (nI k, dp (srow h 37 i (fun j => if j < k then v else gi h 37 i j)))) (r := dp (srow h 37 i (fun j => if j < 20 then v else gi h 37 i j))) 20 (by omega) (fun k hk => by
      unfold B_J_fill_37_5 u2 nm
      simp only [wd_srow, wd_self]
      rw [if_neg (show ¬ 20 ≤ nI k from nI_ge (b := 20) hk (by omega)), sa_v (by omega) (by omega), Option.bind_some, si_srow, nI_1]
      rw [srow_ext h 37 i (g := fun j => if j < k + 1 then v else gi h 37 i j) (fun j => by unfold va_up; by_cases e : j = k <;> by_cases e2 : j < k <;> simp [e, e2] <;> omega)]) (by
      unfold B_J_fill_37_5 u2 nm
      simp only [wd_srow, wd_self]
      rw [if_pos (show 20 ≤ nI 20 from nI_le (a := 20) (Nat.le_refl _) (by omega))])
    rw [srow_self h 37 i _ (fun s => by simp)] at this
    exact this
  rw [key]
  rfl
theorem e_fill39 (h : HP) (i : Nat) (v : Int32) : F_J_fill_39 i v h = some (dp (srow h 39 i (fun j => if j < 60 then v else gi h 39 i j))) := by
  unfold F_J_fill_39
  have key : loopN LF (B_J_fill_39_5 i v h) (0, dp h) = some (dp (srow h 39 i (fun j => if j < 60 then v else gi h 39 i j))) := by
    have := loopS (B := B_J_fill_39_5 i v h) (fun k => (nI k, dp (srow h 39 i (fun j => if j < k then v else gi h 39 i j)))) (r := dp (srow h 39 i (fun j => if j < 60 then v else gi h 39 i j))) 60 (by omega) (fun k hk => by
      unfold B_J_fill_39_5 u2 nm
      simp only [wd_srow, wd_self]
      rw [if_neg (show ¬ 60 ≤ nI k from nI_ge (b := 60) hk (by omega)), sa_v (by omega) (by omega), Option.bind_some, si_srow, nI_1]
      rw [srow_ext h 39 i (g := fun j => if j < k + 1 then v else gi h 39 i j) (fun j => by unfold va_up; by_cases e : j = k <;> by_cases e2 : j < k <;> simp [e, e2] <;> omega)]) (by
      unfold B_J_fill_39_5 u2 nm
      simp only [wd_srow, wd_self]
      rw [if_pos (show 60 ≤ nI 60 from nI_le (a := 60) (Nat.le_refl _) (by omega))])
    rw [srow_self h 39 i _ (fun s => by simp)] at this
    exact this
  rw [key]
  rfl
/-! findings -/
theorem e_finding (v : Int32) (h : HP) : F_X11_finding 0 v h = some (-10 - v, dp (si h 11 0 15 v)) := rfl
theorem f_met (v : Int32) (h : HP) : F_X12_met 0 v h = some (-10 - v, dp (si h 12 0 4 v)) := rfl
theorem RQ_find {h : HP} (R : RQ h) (v : Int32) : RQ (si (si h 11 0 15 v) 12 0 4 v) :=
  RQ.mk R R.1 (by simp (disch := decide) only [gW_si, gW_sik]; exact R.w) (by simp (disch := decide) only [gP_si, gP_sik]; exact R.p) (by simp (disch := decide) only [gB_si, gB_sik]; exact R.b) (by simp (disch := decide) only [gL_si, gL_sik]; exact R.l) (by simp (disch := decide) only [gU_si, gU_sik]; exact R.u) (by simp (disch := decide) only [gT_si, gT_sik]; exact R.t) (by simp (disch := decide) only [gK_si, gK_sik]; exact R.k) (by simp (disch := decide) only [gC_si, gC_sik]; exact R.c) (by simp (disch := decide) only [gS_si, gS_sik]; exact R.s) rfl
/-- a finding on both sides -/
theorem find2 {h : HP} (R : RQ h) (v : Int32) : wd h (dp (si h 11 0 15 v)) = si h 11 0 15 v ∧ RQ (wd (wd h (dp (si h 11 0 15 v))) (dp (si (si h 11 0 15 v) 12 0 4 v))) := by
  simp only [wd_si, wd_osi, wd_self]
  exact ⟨trivial, RQ_find R v⟩
theorem ms_15 (h : HP) (v : Int32) : ms (si h 11 0 15 v) = ms h := ms_si _ _ (by decide)
/-- what a sheet is, by its numbers: lost, or of a form and so long -/
theorem sh_cases {h : HP} (R : RQ h) {s : Nat} (hs : s < 4) : (gi h 9 s 0 = 1 ∧ ms h 45 s = -1) ∨ (gi h 9 s 0 = 0 ∧ ∃ f n, f ≤ 2 ∧ n ≤ 60 ∧ ms h 45 s = nI f ∧ ms h 46 s = nI n ∧ gi h 9 s 1 = nI f ∧ gi h 9 s 2 = nI n ∧ ∀ i, i < n → gi h 39 s i = ms h 47 (60 * s + i)) := by
  rcases sh_c R hs with ⟨a, b⟩ | ⟨a, b, c, d, e, f⟩
  · exact Or.inl ⟨a, b⟩
  · right
    obtain ⟨x, hx, ex⟩ := cn_ex c
    obtain ⟨n, hn, en⟩ := cn_ex e
    refine ⟨a, x, n, hx, hn, ex, en, b.trans ex, d.trans en, fun i hi => f i ?_⟩
    rw [en, nI_clamp (by omega)]
    exact hi
theorem p_lose : CP_lose RQ := by
  intro h R a
  by_cases c1 : 0 ≤ a ∧ a ≤ 3
  · obtain ⟨s, hs, rfl⟩ := in_lit (n := 3) (by omega) c1
    rcases sh_cases R (s := s) (by omega) with ⟨l1, l2⟩ | ⟨l1, f, n, hf, hn, e1, e2, e3, e4, e5⟩
    · obtain ⟨w1, w2⟩ := find2 R 1
      refine ⟨-11, dp (si h 11 0 15 1), dp (si (si h 11 0 15 1) 12 0 4 1), ?_, ?_, w2⟩
      · unfold F_X11_lose u2 nm
        rw [e_isSheet, Option.bind_some, ite_b, if_pos c1, rf_11_14 R.1, Option.bind_some, gar_v (by omega) (by omega), rs_44 R (by omega), Option.bind_some, l1, if_neg (show ¬ (1 : Int32) = 0 by decide), e_finding, Option.bind_some]
        rfl
      · rw [w1]
        unfold F_X12_lose u2 nm
        rw [f_isSheet, Option.bind_some, ite_b, if_pos c1, xr_si, rf_12_0 R.1, Option.bind_some, ga_v (by omega) (by omega), Option.bind_some, m_45, ms_15, l2, if_neg (show ¬ (0 : Int32) ≤ -1 by decide), f_met, Option.bind_some]
        rfl
    · refine ⟨nI n, dp (si h 9 s 0 1), dp (si (si h 9 s 0 1) 45 0 s (-1)), ?_, ?_, ?_⟩
      · unfold F_X11_lose
        simp only [nm]
        rw [e_isSheet, Option.bind_some, ite_b, if_pos c1, rf_11_14 R.1, Option.bind_some, gar_v (by omega) (by omega), rs_44 R (by omega), Option.bind_some, l1, if_pos rfl]
        simp (disch := first | assumption | decide | omega) only [gar_v, xr_si, rf_11_14 R.1, rs_44 R (s := s) (by omega), Option.bind_some, gi_si, Nat.reduceEqDiff, and_false, if_false, e4]
      · simp only [wd_si, wd_self]
        unfold F_X12_lose
        rw [f_isSheet, Option.bind_some, ite_b, if_pos c1, xr_si, rf_12_0 R.1, Option.bind_some, ga_v (by omega) (by omega), Option.bind_some, m_45, ms_si _ _ (by decide), e1, if_pos (nI_pos' (by omega)), Option.bind_some, sa_v (by omega) (by omega), Option.bind_some, xr_si, xr_si, rf_12_1 R.1, Option.bind_some, ga_v (by omega) (by omega), Option.bind_some]
        simp (disch := first | assumption | decide | omega) only [gi_si, Nat.reduceEqDiff, false_and, if_false, m_46, ms_si, ms_ptk, e2]
      · simp only [wd_si, wd_osi, wd_self]
        refine RQ.mk R R.1 (by simp (disch := decide) only [gW_si, gW_sik]; exact R.w) (by simp (disch := decide) only [gP_si, gP_sik]; exact R.p) (by simp (disch := decide) only [gB_si, gB_sik]; exact R.b) (by simp (disch := decide) only [gL_si, gL_sik]; exact R.l) (by simp (disch := decide) only [gU_si, gU_sik]; exact R.u) (by simp (disch := decide) only [gT_si, gT_sik]; exact R.t) (by simp (disch := decide) only [gK_si, gK_sik]; exact R.k) (by simp (disch := decide) only [gC_si, gC_sik]; exact R.c) (fun s' hs' => ⟨(R.s s' hs').1, ?_⟩) (by simp (disch := decide) only [gF_si, gF_sik]; exact R.f)
        generalize hX : si (si h 9 s 0 1) 45 0 s (-1) = X
        show (gi X 9 s' 0 = 1 ∧ gi X 45 0 s' = -1) ∨ (gi X 9 s' 0 = 0 ∧ gi X 9 s' 1 = gi X 45 0 s' ∧ cn (gi X 45 0 s') 2 ∧ gi X 9 s' 2 = gi X 46 0 s' ∧ cn (gi X 46 0 s') 60 ∧ ∀ i, i < (gi X 46 0 s').toNatClampNeg → gi X 39 s' i = gi X 47 0 (60 * s' + i))
        rw [← hX]
        simp only [gi_si, Nat.reduceEqDiff, false_and, if_false, true_and, and_false]
        by_cases e : s' = s
        · left
          simp only [e, and_self, if_true]
        · simp only [e, false_and, if_false]
          exact (R.s s' hs').2
  · refine ⟨-2, dp h, dp h, ?_, ?_, R⟩
    · unfold F_X11_lose
      rw [e_isSheet, Option.bind_some, ite_b, if_neg c1]
    · unfold F_X12_lose
      rw [wd_self, f_isSheet, Option.bind_some, ite_b, if_neg c1]
theorem e_renew {h : HP} (R : RQ h) {s : Nat} (hs : s < 4) (f n : Int32) : F_X9_renew s f n h = some (dp (srow (si (si (si h 9 s 0 0) 9 s 1 f) 9 s 2 n) 39 s (fun j => if j < 60 then 0 else gi h 39 s j))) := by
  unfold F_X9_renew
  simp only [nm]
  rw [xr_si, xr_si, xr_si, rs_9 R hs, Option.bind_some, e_fill39, Option.bind_some]
  simp only [wd_srow, wd_si, wd_osi, wd_self, gi_si, Nat.reduceEqDiff, false_and, if_false]
theorem p_sheet : CP_sheet RQ := by
  intro h R a f n
  by_cases c1 : 0 ≤ a ∧ a ≤ 3
  · by_cases c2 : 0 ≤ f ∧ f ≤ 2
    · by_cases c3 : n ≤ 60
      · by_cases c4 : 0 ≤ n
        · obtain ⟨s, hs, rfl⟩ := in_lit (n := 3) (by omega) c1
          obtain ⟨f, hf, rfl⟩ := in_lit (n := 2) (by omega) c2
          obtain ⟨n, hn, rfl⟩ := in_lit (n := 60) (by omega) ⟨c4, c3⟩
          refine ⟨nI n, dp (srow (si (si (si h 9 s 0 0) 9 s 1 (nI f)) 9 s 2 (nI n)) 39 s (fun j => if j < 60 then 0 else gi h 39 s j)), dp (srow (si (si (srow (si (si (si h 9 s 0 0) 9 s 1 (nI f)) 9 s 2 (nI n)) 39 s (fun j => if j < 60 then 0 else gi h 39 s j)) 45 0 s (nI f)) 46 0 s (nI n)) 47 0 (fun j => if 60 * s ≤ j ∧ j < 60 * s + n then 0 else gi h 47 0 j)), ?_, ?_, ?_⟩
          · unfold F_X11_sheet nm
            rw [e_isSheet, Option.bind_some, ite_b, if_pos c1, e_isForm, Option.bind_some, ite_b, if_pos c2, if_pos c3, if_pos c4, rf_11_14 R.1, Option.bind_some, gar_v (by omega) (by omega), rs_44 R (by omega), Option.bind_some, e_renew R (by omega), Option.bind_some]
            simp only [wd_srow, wd_si, wd_osi, wd_self]
          · simp only [wd_srow, wd_si, wd_self]
            have G' : gR (srow (si (si (si h 9 s 0 0) 9 s 1 (nI f)) 9 s 2 (nI n)) 39 s (fun j => if j < 60 then 0 else gi h 39 s j)).2.2 := R.1
            have q47 : ∀ j, gi (srow (si (si (si h 9 s 0 0) 9 s 1 (nI f)) 9 s 2 (nI n)) 39 s (fun j => if j < 60 then 0 else gi h 39 s j)) 47 0 j = gi h 47 0 j := fun j => by simp only [gi_srow, gi_si, Nat.reduceEqDiff, false_and, if_false]
            generalize srow (si (si (si h 9 s 0 0) 9 s 1 (nI f)) 9 s 2 (nI n)) 39 s (fun j => if j < 60 then 0 else gi h 39 s j) = X at G' q47
            unfold F_X12_sheet nm
            rw [f_isSheet, Option.bind_some, ite_b, if_pos c1, e_in_0_2, Option.bind_some, ite_b, if_pos c2, if_pos c3, if_pos c4, rf_12_0 G', Option.bind_some, sa_v (by omega) (by omega), Option.bind_some, xr_si, rf_12_1 G', Option.bind_some, sa_v (by omega) (by omega), Option.bind_some]
            have key : loopN LF (B_X12_sheet_55 0 (nI s) (nI n) (si (si X 45 0 s (nI f)) 46 0 s (nI n))) (0, dp (si (si X 45 0 s (nI f)) 46 0 s (nI n))) = some (dp (srow (si (si X 45 0 s (nI f)) 46 0 s (nI n)) 47 0 (fun j => if 60 * s ≤ j ∧ j < 60 * s + n then 0 else gi h 47 0 j))) := by
              have q47' : ∀ j, gi (si (si X 45 0 s (nI f)) 46 0 s (nI n)) 47 0 j = gi h 47 0 j := fun j => by simp only [gi_si, Nat.reduceEqDiff, false_and, if_false, q47]
              have G'' : gR (si (si X 45 0 s (nI f)) 46 0 s (nI n)).2.2 := G'
              generalize si (si X 45 0 s (nI f)) 46 0 s (nI n) = Y at q47' G''
              have := loopS (B := B_X12_sheet_55 0 (nI s) (nI n) Y) (fun k => (nI k, dp (srow Y 47 0 (fun j => if 60 * s ≤ j ∧ j < 60 * s + k then 0 else gi h 47 0 j)))) (r := dp (srow Y 47 0 (fun j => if 60 * s ≤ j ∧ j < 60 * s + n then 0 else gi h 47 0 j))) n (by omega) (fun k hk => by
                unfold B_X12_sheet_55 u2 nm
                simp only [wd_srow, wd_self]
                rw [if_neg (nI_ge hk (by omega)), xr_srow, rf_12_2 G'', Option.bind_some, ix60, sa_v (by omega) (by omega), Option.bind_some, si_srow, nI_1]
                rw [srow_ext Y 47 0 (g := fun j => if 60 * s ≤ j ∧ j < 60 * s + (k + 1) then 0 else gi h 47 0 j) (fun j => by
                  unfold va_up
                  by_cases e : j = 60 * s + k
                  · rw [if_pos e, if_pos (by omega)]
                  · rw [if_neg e]
                    show (if 60 * s ≤ j ∧ j < 60 * s + k then 0 else gi h 47 0 j) = _
                    by_cases e2 : 60 * s ≤ j ∧ j < 60 * s + k
                    · rw [if_pos e2, if_pos (by omega)]
                    · rw [if_neg e2, if_neg (by omega)])]) (by
                unfold B_X12_sheet_55 u2 nm
                simp only [wd_srow, wd_self]
                rw [if_pos (nI_le (Nat.le_refl _) (by omega))])
              rw [srow_self Y 47 0 _ (fun j => by rw [if_neg (by omega), q47'])] at this
              exact this
            rw [key, Option.bind_some]
            simp only [wd_srow, wd_si, wd_osi, wd_self]
          · simp only [wd_srow, wd_si, wd_osi, wd_osr, wd_self]
            generalize hX : srow (si (si (srow (si (si (si h 9 s 0 0) 9 s 1 (nI f)) 9 s 2 (nI n)) 39 s (fun j => if j < 60 then 0 else gi h 39 s j)) 45 0 s (nI f)) 46 0 s (nI n)) 47 0 (fun j => if 60 * s ≤ j ∧ j < 60 * s + n then 0 else gi h 47 0 j) = X
            have ex : EX (fun k _ => Nat.beq k 9 || (Nat.beq k 39 || (Nat.beq k 45 || (Nat.beq k 46 || Nat.beq k 47)))) h X := by
              rw [← hX]
              exact EX.srow (EX.si (EX.si (EX.srow (EX.si (EX.si (EX.si (EX.rfl' h) _ _ rfl) _ _ rfl) _ _ rfl) _ _ (fun _ => rfl)) _ _ rfl) _ _ rfl) _ _ (fun _ => rfl)
            have hq : X.2.2 = h.2.2 := ex.1
            have qr : gR X.2.2 := by rw [hq]; exact R.1
            refine RQ.mk R qr ?_ ?_ ?_ ?_ ?_ ?_ ?_ ?_ (fun s' hs' => ⟨by rw [hq]; exact (R.s s' hs').1, ?_⟩) ?_
            · rw [vw_ex ex (by intro k s e; unfold dW at e; simp only [Bool.or_eq_true, Bool.and_eq_true, Nat.beq_eq] at e; rcases e with ⟨rfl, rfl⟩ | ⟨rfl, rfl⟩ <;> rfl), hq]; exact R.w
            · rw [vw_ex ex (by intro k s e; unfold dP at e; simp only [Bool.or_eq_true, Bool.and_eq_true, Nat.beq_eq] at e; rcases e with ⟨rfl, rfl⟩ | ⟨rfl, rfl⟩ | rfl | rfl <;> rfl), hq]; exact R.p
            · rw [vw_ex ex (by intro k s e; unfold dB at e; simp only [Bool.or_eq_true, Bool.and_eq_true, Nat.beq_eq] at e; rcases e with ⟨rfl, rfl | rfl | rfl | rfl | rfl | rfl | rfl | rfl⟩ | ⟨rfl, rfl⟩ | ⟨rfl, rfl | rfl⟩ | rfl | rfl | rfl | rfl | rfl | rfl | rfl | rfl | rfl | rfl | rfl | rfl | rfl | rfl <;> rfl), hq]; exact R.b
            · rw [vw_ex ex (by intro k s e; unfold dL at e; simp only [Bool.or_eq_true, Bool.and_eq_true, Nat.beq_eq] at e; rcases e with ⟨rfl, rfl | rfl | rfl⟩ | ⟨rfl, rfl⟩ | rfl | rfl | rfl | rfl | rfl | rfl <;> rfl), hq]; exact R.l
            · rw [vw_ex ex (by intro k s e; unfold dU at e; simp only [Bool.or_eq_true, Bool.and_eq_true, Nat.beq_eq] at e; rcases e with ⟨rfl, rfl | rfl | rfl⟩ | ⟨rfl, rfl⟩ | ⟨rfl, rfl⟩ | rfl | rfl | rfl | rfl | rfl <;> rfl), hq]; exact R.u
            · rw [vw_ex ex (by intro k s e; unfold dT at e; simp only [Bool.or_eq_true, Bool.and_eq_true, Nat.beq_eq] at e; rcases e with ⟨rfl, rfl | rfl⟩ | ⟨rfl, rfl | rfl⟩ <;> rfl), hq]; exact R.t
            · rw [vw_ex ex (by intro k s e; unfold dK at e; simp only [Bool.or_eq_true, Bool.and_eq_true, Nat.beq_eq] at e; rcases e with rfl | ⟨rfl, rfl⟩ | ⟨rfl, rfl | rfl⟩ | rfl | rfl | rfl | rfl | rfl | rfl | rfl <;> rfl), hq]; exact R.k
            · rw [vw_ex ex (by intro k s e; unfold dC at e; simp only [Bool.or_eq_true, Bool.and_eq_true, Nat.beq_eq] at e; rcases e with ⟨rfl, rfl⟩ | ⟨rfl, rfl⟩ | rfl | rfl | rfl | rfl | rfl | rfl | rfl | rfl | rfl | rfl <;> rfl), hq]; exact R.c
            · show (gi X 9 s' 0 = 1 ∧ gi X 45 0 s' = -1) ∨ (gi X 9 s' 0 = 0 ∧ gi X 9 s' 1 = gi X 45 0 s' ∧ cn (gi X 45 0 s') 2 ∧ gi X 9 s' 2 = gi X 46 0 s' ∧ cn (gi X 46 0 s') 60 ∧ ∀ i, i < (gi X 46 0 s').toNatClampNeg → gi X 39 s' i = gi X 47 0 (60 * s' + i))
              rw [← hX]
              simp only [gi_si, gi_srow, Nat.reduceEqDiff, false_and, if_false, true_and, and_false]
              by_cases e : s' = s
              · right
                subst e
                simp only [and_self, if_true, Nat.reduceEqDiff, and_false, if_false, true_and]
                refine ⟨cn_of hf (by omega), cn_of hn (by omega), fun i hi => ?_⟩
                rw [nI_clamp (by omega)] at hi
                rw [if_pos (by omega), if_pos (by omega)]
              · simp only [e, false_and, if_false]
                rcases (R.s s' hs').2 with w | ⟨w1, w2, w3, w4, w5, w6⟩
                · exact Or.inl w
                · refine Or.inr ⟨w1, w2, w3, w4, w5, fun i hi => ?_⟩
                  have hi2 : i < (gi h 46 0 s').toNatClampNeg := hi
                  have hi3 : (gi h 46 0 s').toNatClampNeg ≤ 60 := w5.2
                  rw [if_neg (show ¬ (60 * s ≤ 60 * s' + i ∧ 60 * s' + i < 60 * s + n) from by omega)]
                  exact w6 i hi
            · rw [vw_ex ex (by intro k s e; unfold dF at e; simp only [Bool.or_eq_true, Bool.and_eq_true, Nat.beq_eq] at e; rcases e with ⟨rfl, rfl⟩ | ⟨rfl, rfl⟩ <;> rfl), hq]; exact R.f
        · obtain ⟨w1, w2⟩ := find2 R 5
          refine ⟨-15, dp (si h 11 0 15 5), dp (si (si h 11 0 15 5) 12 0 4 5), ?_, ?_, w2⟩
          · unfold F_X11_sheet u2 nm
            rw [e_isSheet, Option.bind_some, ite_b, if_pos c1, e_isForm, Option.bind_some, ite_b, if_pos c2, if_pos c3, if_neg c4, e_finding, Option.bind_some]
            rfl
          · rw [w1]
            unfold F_X12_sheet u2 nm
            rw [f_isSheet, Option.bind_some, ite_b, if_pos c1, e_in_0_2, Option.bind_some, ite_b, if_pos c2, if_pos c3, if_neg c4, f_met, Option.bind_some]
            rfl
      · refine ⟨-2, dp h, dp h, ?_, ?_, R⟩
        · unfold F_X11_sheet
          rw [e_isSheet, Option.bind_some, ite_b, if_pos c1, e_isForm, Option.bind_some, ite_b, if_pos c2, if_neg c3]
        · unfold F_X12_sheet
          rw [wd_self, f_isSheet, Option.bind_some, ite_b, if_pos c1, e_in_0_2, Option.bind_some, ite_b, if_pos c2, if_neg c3]
    · refine ⟨-2, dp h, dp h, ?_, ?_, R⟩
      · unfold F_X11_sheet
        rw [e_isSheet, Option.bind_some, ite_b, if_pos c1, e_isForm, Option.bind_some, ite_b, if_neg c2]
      · unfold F_X12_sheet
        rw [wd_self, f_isSheet, Option.bind_some, ite_b, if_pos c1, e_in_0_2, Option.bind_some, ite_b, if_neg c2]
  · refine ⟨-2, dp h, dp h, ?_, ?_, R⟩
    · unfold F_X11_sheet
      rw [e_isSheet, Option.bind_some, ite_b, if_neg c1]
    · unfold F_X12_sheet
      rw [wd_self, f_isSheet, Option.bind_some, ite_b, if_neg c1]
/-! put, get -/
def cutV (f v : Int32) : Int32 := if f = 0 then v.toInt8.toInt32 else if f = 1 then v.toInt16.toInt32 else v
theorem f_cut (f v : Int32) : F_X12_cut f v = some (cutV f v) := by
  unfold F_X12_cut cutV
  split
  · rfl
  · split <;> rfl
theorem e_store {h : HP} (R : RQ h) {s : Nat} (hs : s < 4) {i : Nat} (hi : i < 60) (v : Int32) : F_X9_store s (nI i) v h = some (dp (si h 39 s i (cutV (gi h 9 s 1) v))) := by
  unfold F_X9_store J_X9_store_31 cutV
  rw [rs_9 R hs, Option.bind_some, sa_v hi (by omega), Option.bind_some, sa_v hi (by omega), Option.bind_some, sa_v hi (by omega), Option.bind_some]
  split
  · rfl
  · split <;> rfl
theorem e_hasItems1 {h : HP} {s n : Nat} (e : gi h 9 s 2 = nI n) (hn : n ≤ 60) (i : Int32) : F_X9_hasItems s i 1 h = some (if 0 ≤ i ∧ i ≤ nI n - 1 then 1 else 0) := by
  unfold F_X9_hasItems
  rw [e]
  by_cases c1 : i < 0
  · rw [if_pos c1, if_neg (fun q => (fa_of_lt c1).2.1 q.1)]
  · rw [if_neg c1, if_neg (show ¬ (1 : Int32) < 0 by decide)]
    obtain ⟨j, hj, rfl⟩ := nI_of c1
    by_cases c2 : n ≤ j
    · have h1 : nI n - nI j < 1 := by
        rw [fa_lt, Int32.toInt_sub, nI_toInt (by omega), nI_toInt (by omega), fb_bmod (by omega) (by omega)]
        have : (1 : Int32).toInt = 1 := by decide
        omega
      rw [if_pos h1, if_neg]
      rintro ⟨-, q⟩
      rw [fa_le, nI_toInt (by omega), show nI n - 1 = nI n - nI 1 from rfl, pk_sub_toInt (by omega) (by omega)] at q
      omega
    · have h1 : ¬ nI n - nI j < 1 := by
        rw [pk_sub (by omega)]
        exact nI_nlt (b := 1) (by omega) (by omega)
      rw [if_neg h1, if_pos]
      refine ⟨nI_pos' (by omega), ?_⟩
      rw [L1, pk_sub (by omega)]
      exact nI_le (by omega) (by omega)
theorem p_put : CP_put RQ := by
  intro h R a f i v
  by_cases c1 : 0 ≤ a ∧ a ≤ 3
  · by_cases c2 : 0 ≤ f ∧ f ≤ 2
    · obtain ⟨s, hs, rfl⟩ := in_lit (n := 3) (by omega) c1
      have fin : ∀ x : Int32, ¬ x = 0 → F_X11_findingAt 0 (nI s) f i h = some x → F_X12_lacks 0 (nI s) f i (si h 11 0 15 x) = some (-10 - x, dp (si (si h 11 0 15 x) 12 0 4 x)) → ¬ (-10 - x) = 0 → ∃ (r : Int32) (d : DP) (d2 : DP), F_X11_put 0 (nI s) f i v h = some (r, d) ∧ F_X12_put 0 (nI s) f i v (wd h d) = some (r, d2) ∧ RQ (wd (wd h d) d2) := by
        intro x hx h1 h2 h3
        obtain ⟨w1, w2⟩ := find2 R x
        refine ⟨-10 - x, dp (si h 11 0 15 x), dp (si (si h 11 0 15 x) 12 0 4 x), ?_, ?_, w2⟩
        · unfold F_X11_put
          simp only [nm, u2]
          rw [e_isSheet, Option.bind_some, ite_b, if_pos c1, e_isForm, Option.bind_some, ite_b, if_pos c2, h1, Option.bind_some, if_neg hx, e_finding, Option.bind_some]
          simp only [wd_si, wd_self]
        · rw [w1]
          unfold F_X12_put
          simp only [nm, u2]
          rw [f_isSheet, Option.bind_some, ite_b, if_pos c1, e_in_0_2, Option.bind_some, ite_b, if_pos c2, h2, Option.bind_some, if_neg h3]
          simp only [wd_si, wd_osi, wd_self]
      have lk : ∀ X : HP, ms X = ms h → X.2.2 = h.2.2 → F_X12_lacks 0 (nI s) f i X = (if 0 ≤ ms h 45 s then (if ms h 45 s = f then (if 0 ≤ i ∧ i ≤ ms h 46 s - 1 then some (0, dp X) else some (-12, dp (si X 12 0 4 2))) else some (-13, dp (si X 12 0 4 3))) else some (-11, dp (si X 12 0 4 1))) := by
        intro X e1 e2
        have G' : gR X.2.2 := by rw [e2]; exact R.1
        unfold F_X12_lacks
        simp only [nm, u2, f_met, Option.bind_some, wd_si, wd_self]
        simp (disch := first | assumption | decide | omega) only [rf_12_0 G', rf_12_1 G', ga_v, m_45, m_46, e1, Option.bind_some, e_in_0_x, ite_b]
        rfl
      rcases sh_cases R (s := s) (by omega) with ⟨l1, l2⟩ | ⟨l1, g, n, hg, hn, e1, e2, e3, e4, e5⟩
      · refine fin 1 (by decide) ?_ ?_ (by decide)
        · unfold F_X11_findingAt
          rw [rf_11_14 R.1, Option.bind_some, gar_v (by omega) (by omega), rs_44 R (by omega), Option.bind_some, l1, if_neg (show ¬ (1 : Int32) = 0 by decide)]
        · rw [lk _ (ms_15 _ _) rfl, l2, if_neg (by decide)]
          rfl
      · by_cases c3 : nI g = f
        · by_cases c4 : 0 ≤ i ∧ i ≤ nI n - 1
          · obtain ⟨i, hi, rfl⟩ := in_cnt rfl (by omega) c4
            refine ⟨1, dp (si h 39 s i (cutV f v)), dp (si (si h 39 s i (cutV f v)) 47 0 (60 * s + i) (cutV f v)), ?_, ?_, ?_⟩
            · unfold F_X11_put
              simp only [nm, u2]
              rw [e_isSheet, Option.bind_some, ite_b, if_pos c1, e_isForm, Option.bind_some, ite_b, if_pos c2]
              unfold F_X11_findingAt
              rw [rf_11_14 R.1, Option.bind_some, gar_v (by omega) (by omega), rs_44 R (by omega), Option.bind_some, l1, if_pos rfl, e3, if_pos c3, e_hasItems1 e4 (by omega), Option.bind_some, ite_b, if_pos c4, Option.bind_some, if_pos rfl]
              simp (disch := first | assumption | decide | omega) only [Option.bind_some, gar_v, rs_44 R (s := s) (by omega), e_store R (s := s) (by omega) (i := i) (by omega), e3, c3, wd_si, wd_self]
            · simp only [wd_si, wd_self]
              have hX : ms (si h 39 s i (cutV f v)) = ms h := ms_sik _ _ (by decide)
              unfold F_X12_put
              simp only [nm, u2]
              rw [f_isSheet, Option.bind_some, ite_b, if_pos c1, e_in_0_2, Option.bind_some, ite_b, if_pos c2, lk _ hX rfl, e1, if_pos (nI_pos' (by omega)), if_pos c3, e2, if_pos c4, Option.bind_some, if_pos rfl, wd_self, xr_si, rf_12_2 R.1, Option.bind_some, f_cut, Option.bind_some, ix60, sa_v (by omega) (by omega), Option.bind_some]
            · simp only [wd_si, wd_osi, wd_self]
              refine RQ.mk R R.1 (by simp (disch := decide) only [gW_si, gW_sik]; exact R.w) (by simp (disch := decide) only [gP_si, gP_sik]; exact R.p) (by simp (disch := decide) only [gB_si, gB_sik]; exact R.b) (by simp (disch := decide) only [gL_si, gL_sik]; exact R.l) (by simp (disch := decide) only [gU_si, gU_sik]; exact R.u) (by simp (disch := decide) only [gT_si, gT_sik]; exact R.t) (by simp (disch := decide) only [gK_si, gK_sik]; exact R.k) (by simp (disch := decide) only [gC_si, gC_sik]; exact R.c) (fun s' hs' => ⟨(R.s s' hs').1, ?_⟩) (by simp (disch := decide) only [gF_si, gF_sik]; exact R.f)
              generalize hX : si (si h 39 s i (cutV f v)) 47 0 (60 * s + i) (cutV f v) = X
              show (gi X 9 s' 0 = 1 ∧ gi X 45 0 s' = -1) ∨ (gi X 9 s' 0 = 0 ∧ gi X 9 s' 1 = gi X 45 0 s' ∧ cn (gi X 45 0 s') 2 ∧ gi X 9 s' 2 = gi X 46 0 s' ∧ cn (gi X 46 0 s') 60 ∧ ∀ i, i < (gi X 46 0 s').toNatClampNeg → gi X 39 s' i = gi X 47 0 (60 * s' + i))
              rw [← hX]
              simp only [gi_si, Nat.reduceEqDiff, false_and, if_false, true_and, and_false]
              rcases (R.s s' hs').2 with w | ⟨w1, w2, w3, w4, w5, w6⟩
              · exact Or.inl w
              · refine Or.inr ⟨w1, w2, w3, w4, w5, fun j hj => ?_⟩
                have hj2 : j < (gi h 46 0 s').toNatClampNeg := hj
                have hj3 : (gi h 46 0 s').toNatClampNeg ≤ 60 := w5.2
                by_cases e : s' = s ∧ j = i
                · rw [if_pos e, if_pos (show 60 * s' + j = 60 * s + i from by omega)]
                · rw [if_neg e, if_neg (show ¬ 60 * s' + j = 60 * s + i from by omega)]
                  exact w6 j hj
          · refine fin 2 (by decide) ?_ ?_ (by decide)
            · unfold F_X11_findingAt
              rw [rf_11_14 R.1, Option.bind_some, gar_v (by omega) (by omega), rs_44 R (by omega), Option.bind_some, l1, if_pos rfl, e3, if_pos c3, e_hasItems1 e4 (by omega), Option.bind_some, ite_b, if_neg c4]
            · rw [lk _ (ms_15 _ _) rfl, e1, if_pos (nI_pos' (by omega)), if_pos c3, e2, if_neg c4]
              rfl
        · refine fin 3 (by decide) ?_ ?_ (by decide)
          · unfold F_X11_findingAt
            rw [rf_11_14 R.1, Option.bind_some, gar_v (by omega) (by omega), rs_44 R (by omega), Option.bind_some, l1, if_pos rfl, e3, if_neg c3]
          · rw [lk _ (ms_15 _ _) rfl, e1, if_pos (nI_pos' (by omega)), if_neg c3]
            rfl
    · refine ⟨-2, dp h, dp h, ?_, ?_, R⟩
      · unfold F_X11_put
        rw [e_isSheet, Option.bind_some, ite_b, if_pos c1, e_isForm, Option.bind_some, ite_b, if_neg c2]
      · unfold F_X12_put
        rw [wd_self, f_isSheet, Option.bind_some, ite_b, if_pos c1, e_in_0_2, Option.bind_some, ite_b, if_neg c2]
  · refine ⟨-2, dp h, dp h, ?_, ?_, R⟩
    · unfold F_X11_put
      rw [e_isSheet, Option.bind_some, ite_b, if_neg c1]
    · unfold F_X12_put
      rw [wd_self, f_isSheet, Option.bind_some, ite_b, if_neg c1]
theorem p_get : CP_get RQ := by
  intro h R a f i
  by_cases c1 : 0 ≤ a ∧ a ≤ 3
  · by_cases c2 : 0 ≤ f ∧ f ≤ 2
    · obtain ⟨s, hs, rfl⟩ := in_lit (n := 3) (by omega) c1
      have fin : ∀ x : Int32, ¬ x = 0 → F_X11_findingAt 0 (nI s) f i h = some x → F_X12_lacks 0 (nI s) f i (si h 11 0 15 x) = some (-10 - x, dp (si (si h 11 0 15 x) 12 0 4 x)) → ¬ (-10 - x) = 0 → ∃ (r : Int32) (d : DP) (d2 : DP), F_X11_get 0 (nI s) f i h = some (r, d) ∧ F_X12_get 0 (nI s) f i (wd h d) = some (r, d2) ∧ RQ (wd (wd h d) d2) := by
        intro x hx h1 h2 h3
        obtain ⟨w1, w2⟩ := find2 R x
        refine ⟨-2147483648, dp (si h 11 0 15 x), dp (si (si h 11 0 15 x) 12 0 4 x), ?_, ?_, w2⟩
        · unfold F_X11_get
          simp only [nm]
          rw [e_isSheet, Option.bind_some, ite_b, if_pos c1, e_isForm, Option.bind_some, ite_b, if_pos c2, h1, Option.bind_some, if_neg hx]
        · rw [w1]
          unfold F_X12_get
          simp only [nm, u2]
          rw [f_isSheet, Option.bind_some, ite_b, if_pos c1, e_in_0_2, Option.bind_some, ite_b, if_pos c2, h2, Option.bind_some, if_neg h3]
          simp only [wd_si, wd_osi, wd_self]
      have lk : ∀ X : HP, ms X = ms h → X.2.2 = h.2.2 → F_X12_lacks 0 (nI s) f i X = (if 0 ≤ ms h 45 s then (if ms h 45 s = f then (if 0 ≤ i ∧ i ≤ ms h 46 s - 1 then some (0, dp X) else some (-12, dp (si X 12 0 4 2))) else some (-13, dp (si X 12 0 4 3))) else some (-11, dp (si X 12 0 4 1))) := by
        intro X e1 e2
        have G' : gR X.2.2 := by rw [e2]; exact R.1
        unfold F_X12_lacks
        simp only [nm, u2, f_met, Option.bind_some, wd_si, wd_self]
        simp (disch := first | assumption | decide | omega) only [rf_12_0 G', rf_12_1 G', ga_v, m_45, m_46, e1, Option.bind_some, e_in_0_x, ite_b]
        rfl
      rcases sh_cases R (s := s) (by omega) with ⟨l1, l2⟩ | ⟨l1, g, n, hg, hn, e1, e2, e3, e4, e5⟩
      · refine fin 1 (by decide) ?_ ?_ (by decide)
        · unfold F_X11_findingAt
          rw [rf_11_14 R.1, Option.bind_some, gar_v (by omega) (by omega), rs_44 R (by omega), Option.bind_some, l1, if_neg (show ¬ (1 : Int32) = 0 by decide)]
        · rw [lk _ (ms_15 _ _) rfl, l2, if_neg (by decide)]
          rfl
      · by_cases c3 : nI g = f
        · by_cases c4 : 0 ≤ i ∧ i ≤ nI n - 1
          · obtain ⟨i, hi, rfl⟩ := in_cnt rfl (by omega) c4
            refine ⟨ms h 47 (60 * s + i), dp h, dp h, ?_, ?_, R⟩
            · unfold F_X11_get
              rw [e_isSheet, Option.bind_some, ite_b, if_pos c1, e_isForm, Option.bind_some, ite_b, if_pos c2]
              unfold F_X11_findingAt
              rw [rf_11_14 R.1, Option.bind_some, gar_v (by omega) (by omega), rs_44 R (by omega), Option.bind_some, l1, if_pos rfl, e3, if_pos c3, e_hasItems1 e4 (by omega), Option.bind_some, ite_b, if_pos c4, Option.bind_some, if_pos rfl]
              simp (disch := first | assumption | decide | omega) only [Option.bind_some, gar_v, rs_44 R (s := s) (by omega), rs_9 R (s := s) (by omega), ga_v, e5 i hi]
            · simp only [wd_self]
              unfold F_X12_get
              simp only [nm, u2]
              rw [f_isSheet, Option.bind_some, ite_b, if_pos c1, e_in_0_2, Option.bind_some, ite_b, if_pos c2, lk _ rfl rfl, e1, if_pos (nI_pos' (by omega)), if_pos c3, e2, if_pos c4, Option.bind_some, if_pos rfl, wd_self, rf_12_2 R.1, Option.bind_some, ix60, ga_v (by omega) (by omega), Option.bind_some]
              rfl
          · refine fin 2 (by decide) ?_ ?_ (by decide)
            · unfold F_X11_findingAt
              rw [rf_11_14 R.1, Option.bind_some, gar_v (by omega) (by omega), rs_44 R (by omega), Option.bind_some, l1, if_pos rfl, e3, if_pos c3, e_hasItems1 e4 (by omega), Option.bind_some, ite_b, if_neg c4]
            · rw [lk _ (ms_15 _ _) rfl, e1, if_pos (nI_pos' (by omega)), if_pos c3, e2, if_neg c4]
              rfl
        · refine fin 3 (by decide) ?_ ?_ (by decide)
          · unfold F_X11_findingAt
            rw [rf_11_14 R.1, Option.bind_some, gar_v (by omega) (by omega), rs_44 R (by omega), Option.bind_some, l1, if_pos rfl, e3, if_neg c3]
          · rw [lk _ (ms_15 _ _) rfl, e1, if_pos (nI_pos' (by omega)), if_neg c3]
            rfl
    · refine ⟨-2147483648, dp h, dp h, ?_, ?_, R⟩
      · unfold F_X11_get
        rw [e_isSheet, Option.bind_some, ite_b, if_pos c1, e_isForm, Option.bind_some, ite_b, if_neg c2]
      · unfold F_X12_get
        rw [wd_self, f_isSheet, Option.bind_some, ite_b, if_pos c1, e_in_0_2, Option.bind_some, ite_b, if_neg c2]
  · refine ⟨-2147483648, dp h, dp h, ?_, ?_, R⟩
    · unfold F_X11_get
      rw [e_isSheet, Option.bind_some, ite_b, if_neg c1]
    · unfold F_X12_get
      rw [wd_self, f_isSheet, Option.bind_some, ite_b, if_neg c1]
