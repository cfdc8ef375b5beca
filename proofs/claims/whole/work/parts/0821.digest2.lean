/-! stage III: digest, the reference -/
def stD (f : Nat → Int32) (d : Int64) (k : Nat) : Int64 := if k ≤ 8 then dgA f 17 k else if k = 9 then dgA f 17 8 else d
theorem f_dl0 {X : HP} (G : gR X.2.2) (W : MW (ms X)) : loopN LF (B_X12_digest_6 0 X) (17, 0) = some (dg1 (ms X)) := by
  have ed1 : 31 * dgA (fun k => ctV (ms X) (nI k)) 17 8 + (ctV (ms X) 9).toInt64 = dg1 (ms X) := by unfold dg1; rfl
  generalize dg1 (ms X) = D at ed1 ⊢
  have key : loopN LF (B_X12_digest_6 0 X) (stD (fun k => ctV (ms X) (nI k)) D 0, nI 0) = some D := by
    refine loopS (fun k => (stD (fun k => ctV (ms X) (nI k)) D k, nI k)) 10 (by omega) (fun k hk => ?_) ?_
    · have e0 : ¬ (10 : Int32) ≤ nI k := nI_ge (b := 10) hk (by omega)
      by_cases c : k = 8
      · subst c
        have a1 : stD (fun k => ctV (ms X) (nI k)) D 8 = dgA (fun k => ctV (ms X) (nI k)) 17 8 := by unfold stD; rw [if_pos (by omega)]
        have a2 : stD (fun k => ctV (ms X) (nI k)) D (8 + 1) = dgA (fun k => ctV (ms X) (nI k)) 17 8 := by unfold stD; rw [if_neg (by omega), if_pos rfl]
        rw [a1, a2]
        generalize dgA (fun k => ctV (ms X) (nI k)) 17 8 = V
        unfold B_X12_digest_6
        simp only [nm, u2]
        rw [if_neg e0, if_pos (show nI 8 = (8 : Int32) from rfl), nI_1]
      · have a0 : ∀ x : Int64, B_X12_digest_6 0 X (x, nI k) = some (.inl (31 * x + (ctV (ms X) (nI k)).toInt64, nI (k + 1))) := by
          intro x
          unfold B_X12_digest_6
          simp only [nm, u2]
          rw [if_neg e0, if_neg (show ¬ nI k = (8 : Int32) from fun q => c ((nI_eq (b := 8) (by omega) (by omega)).mp q)), f_count G W, Option.bind_some, nI_1]
        show B_X12_digest_6 0 X (stD (fun k => ctV (ms X) (nI k)) D k, nI k) = _
        rw [a0]
        by_cases c9 : k = 9
        · subst c9
          have a1 : stD (fun k => ctV (ms X) (nI k)) D 9 = dgA (fun k => ctV (ms X) (nI k)) 17 8 := by unfold stD; rw [if_neg (by omega), if_pos rfl]
          have a2 : stD (fun k => ctV (ms X) (nI k)) D (9 + 1) = D := by unfold stD; rw [if_neg (by omega), if_neg (by omega)]
          rw [a1, a2, ← ed1]
          rfl
        · have a1 : stD (fun k => ctV (ms X) (nI k)) D k = dgA (fun k => ctV (ms X) (nI k)) 17 k := by unfold stD; rw [if_pos (by omega)]
          have a2 : stD (fun k => ctV (ms X) (nI k)) D (k + 1) = dgA (fun k => ctV (ms X) (nI k)) 17 (k + 1) := by unfold stD; rw [if_pos (by omega)]
          rw [a1, a2]
          rfl
    · have a2 : stD (fun k => ctV (ms X) (nI k)) D 10 = D := by unfold stD; rw [if_neg (by omega), if_neg (by omega)]
      rw [a2]
      unfold B_X12_digest_6
      simp only [nm, u2]
      rw [if_pos (show (10 : Int32) ≤ nI 10 from nI_le (a := 10) (by omega) (by omega))]
  have a0 : stD (fun k => ctV (ms X) (nI k)) D 0 = 17 := by unfold stD; rw [if_pos (by omega)]; rfl
  rw [a0] at key
  exact key
theorem f_dl1 {X : HP} (G : gR X.2.2) (W : MW (ms X)) (P : PM X (LW (ms X))) (x : Int64) : loopN LF (B_X12_digest_48 0 X) (x, 0) = some (rpt (wpV (ms X)) x (NP (ms X))) := by
  have h8 := b_np W
  refine loopS (fun p => (rpt (wpV (ms X)) x p, nI p)) (NP (ms X)) (by omega) (fun p hp => ?_) ?_
  · have lp : ∀ y : Int64, loopN LF (B_X12_digest_73 0 (nI p) X) (y, 0) = some (dgA (fun k => plV (ms X) (nI p) (nI k)) y 6) := by
      intro y
      refine loopS (fun k => (dgA (fun k => plV (ms X) (nI p) (nI k)) y k, nI k)) 6 (by omega) (fun k hk => ?_) ?_
      · unfold B_X12_digest_73
        simp only [nm, u2]
        rw [if_neg (show ¬ (6 : Int32) ≤ nI k from nI_ge (b := 6) hk (by omega)), f_pealOf G W (nI p) (nI k) ⟨nI_pos' (by omega), nI_le (b := 5) (by omega) (by omega)⟩, Option.bind_some, nI_1]
        rfl
      · unfold B_X12_digest_73
        simp only [nm, u2]
        rw [if_pos (show (6 : Int32) ≤ nI 6 from nI_le (a := 6) (by omega) (by omega))]
    obtain ⟨n, hn, en, r⟩ := f_keptOf G W P (nI p) (ms X 12 5)
    have ko : nI (koN (ms X) (nI p) (ms X 12 5) n) = koV (ms X) p := by unfold koV; rw [en, nI_clamp (by omega)]
    rw [ko] at r
    unfold B_X12_digest_48
    simp only [nm, u2]
    rw [m_12_6, v_np W, if_neg (nI_ge hp (by omega)), rf_12_7 G, Option.bind_some, ga_v (show p < 8 by omega) (by omega), Option.bind_some, m_49, lp, Option.bind_some, m_12_5, r, Option.bind_some, nI_1]
    rfl
  · unfold B_X12_digest_48
    simp only [nm, u2]
    rw [m_12_6, v_np W, if_pos (nI_le (Nat.le_refl _) (by omega))]
theorem f_dl2 {X : HP} (G : gR X.2.2) (W : MW (ms X)) (P : PM X (LW (ms X))) (x : Int64) : loopN LF (B_X12_digest_126 0 X) (x, 0) = some (rpt (wbV (ms X)) x (NB (ms X))) := by
  have h20 := b_nb W
  refine loopS (fun b => (rpt (wbV (ms X)) x b, nI b)) (NB (ms X)) (by omega) (fun b hb => ?_) ?_
  · have l1 : ∀ y : Int64, loopN LF (B_X12_digest_137 0 (nI b) X) (y, 0) = some (dgA (fun k => abV (ms X) b (nI k)) y 9) := by
      intro y
      refine loopS (fun k => (dgA (fun k => abV (ms X) b (nI k)) y k, nI k)) 9 (by omega) (fun k hk => ?_) ?_
      · unfold B_X12_digest_137
        simp only [nm, u2]
        rw [if_neg (show ¬ (9 : Int32) ≤ nI k from nI_ge (b := 9) hk (by omega)), f_about G W hb, Option.bind_some, nI_1]
        rfl
      · unfold B_X12_digest_137
        simp only [nm, u2]
        rw [if_pos (show (9 : Int32) ≤ nI 9 from nI_le (a := 9) (by omega) (by omega))]
    have l2 : ∀ y : Int64, loopN LF (B_X12_digest_168 0 (nI b) X) (y, 0) = some (dgA (fun k => ms X 54 (5 * b + k)) y 5) := by
      intro y
      refine loopS (fun k => (dgA (fun k => ms X 54 (5 * b + k)) y k, nI k)) 5 (by omega) (fun k hk => ?_) ?_
      · unfold B_X12_digest_168
        simp only [nm, u2]
        rw [if_neg (show ¬ (5 : Int32) ≤ nI k from nI_ge (b := 5) hk (by omega)), rf_12_13 G, Option.bind_some, ix5, ga_v (show 5 * b + k < 100 by omega) (by omega), Option.bind_some, m_54, nI_1]
        rfl
      · unfold B_X12_digest_168
        simp only [nm, u2]
        rw [if_pos (show (5 : Int32) ≤ nI 5 from nI_le (a := 5) (by omega) (by omega))]
    have r := f_letterOf G W P (ms X 12 5) (show b < 20 by omega)
    unfold B_X12_digest_126
    simp only [nm, u2]
    rw [m_12_8, v_nb W, if_neg (nI_ge hb (by omega)), l1, Option.bind_some, l2, Option.bind_some, m_12_5, r, Option.bind_some, nI_1]
    rfl
  · unfold B_X12_digest_126
    simp only [nm, u2]
    rw [m_12_8, v_nb W, if_pos (nI_le (Nat.le_refl _) (by omega))]
theorem f_digest {h : HP} (R : RQ h) {c o A : Nat} (bs : BST (NU (ms h)) (cbV (ms h)) (dfI (ms h)) (NB (ms h)) ((c : Nat) : Int) ((o : Nat) : Int)) (ba : BSS (wN (ms h)) (dN (ms h)) (uN (ms h)) (YD (ms h) (NB (ms h))) A) :
    ∃ Y, F_X12_digest 0 h = some (dgV (ms h) (nI c) (nI o) (nI A), dp Y) ∧ SQ h Y := by
  obtain ⟨X1, r1, y1, x1, pm⟩ := f_readsM R.1 R.m
  have R1 : RQ X1 := x1.rl R
  have e1 : ms X1 = ms h := x1.mq
  have pm1 : PM X1 (LW (ms X1)) := by rw [e1]; exact pm
  obtain ⟨X2, r2, y2, x2, -⟩ := f_readsM R1.1 R1.m
  have R2 : RQ X2 := x2.rl R1
  have e2 : ms X2 = ms h := x2.mq.trans e1
  obtain ⟨Z, V, many, off, fr, xZ, ly, xV, -, v1, v2, -, -, bs2⟩ := f_base R2.1 R2.m
  rw [e2] at bs2
  have be := bs.eq bs2
  have b1 : c = many := by omega
  have b2 : o = off := by omega
  have RV : RQ V := (xV.sq S70_la).rl ((xZ.sq S71_la).rl R2)
  have eV : ms V = ms h := ((xV.sq S70_la).mq.trans (xZ.sq S71_la).mq).trans e2
  obtain ⟨T, B, xT, ba2, fs⟩ := f_sentNow RV.1 RV.m 0
  rw [eV] at ba2 fs
  have ea := ba.eq ba2
  subst ea
  have l0 := f_dl0 R.1 R.m
  have l1 := f_dl1 R1.1 R1.m pm1 (dg1 (ms h))
  have l2 := f_dl2 R1.1 R1.m pm1 (rpt (wpV (ms h)) (dg1 (ms h)) (NP (ms h)))
  rw [e1] at l1 l2 r2
  have ed2 : rpt (wbV (ms h)) (rpt (wpV (ms h)) (dg1 (ms h)) (NP (ms h))) (NB (ms h)) = dg2 (ms h) := by unfold dg2; rfl
  rw [ed2] at l2
  refine ⟨T, ?_, (x1.t x2).t (((xZ.sq S71_la).t (xV.sq S70_la)).t (xT.sq S78_la))⟩
  unfold dgV
  generalize dg2 (ms h) = D2 at l2 ⊢
  generalize dg1 (ms h) = D1 at l0 l1 l2 ⊢
  unfold F_X12_digest
  rw [l0, Option.bind_some, r1, Option.bind_some]
  simp only [nm, u2, wd_dp x1.1]
  rw [l1, Option.bind_some, l2, Option.bind_some, r2, Option.bind_some]
  simp only [wd_dp x2.1]
  rw [fr, Option.bind_some, wd_dp xZ.1, ly, Option.bind_some, wd_dp xV.1, fs, Option.bind_some, v1, v2, b1, b2, wd_dp xT.1, if_pos rfl]
theorem p_digest : CP_digest RQ := by
  intro h R
  obtain ⟨Y, c, o, A, ed, xY, bs, ba⟩ := e_digest R
  have RY : RQ Y := xY.rl R
  have eY : ms Y = ms h := xY.mq
  obtain ⟨Z, fd, xZ⟩ := f_digest RY (c := c) (o := o) (A := A) (by rw [eY]; exact bs) (by rw [eY]; exact ba)
  rw [eY] at fd
  refine ⟨_, dp Y, dp Z, ed, ?_, ?_⟩
  · rw [wd_dp xY.1]; exact fd
  · rw [wd_dp xY.1, wd_dp xZ.1]; exact xZ.rl RY
