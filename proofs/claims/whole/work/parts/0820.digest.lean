/-! stage III: digest -/
def dgA (f : Nat → Int32) (x : Int64) : Nat → Int64
  | 0 => x
  | n + 1 => 31 * dgA f x n + (f n).toInt64
def koV (m : Nat → Nat → Int32) (p : Nat) : Int32 := nI (koN m (nI p) (m 12 5) (knV (LW m) (m 12 5)).toNatClampNeg)
def wpV (m : Nat → Nat → Int32) (p : Nat) (x : Int64) : Int64 := 31 * dgA (fun k => plV m (nI p) (nI k)) (31 * x + (m 49 p).toInt64) 6 + (koV m p).toInt64
def wbV (m : Nat → Nat → Int32) (b : Nat) (x : Int64) : Int64 := 31 * dgA (fun k => m 54 (5 * b + k)) (dgA (fun k => abV m b (nI k)) x 9) 5 + (mB m b (m 12 5)).toInt64
def rpt (f : Nat → Int64 → Int64) (x : Int64) : Nat → Int64
  | 0 => x
  | n + 1 => f n (rpt f x n)
def dg1 (m : Nat → Nat → Int32) : Int64 := 31 * dgA (fun k => ctV m (nI k)) 17 8 + (ctV m 9).toInt64
def dg2 (m : Nat → Nat → Int32) : Int64 := rpt (wbV m) (rpt (wpV m) (dg1 m) (NP m)) (NB m)
def dgV (m : Nat → Nat → Int32) (c o A : Int32) : Int64 := 31 * (31 * (31 * (31 * dg2 m + (LF1 m).toInt64) + c.toInt64) + o.toInt64) + A.toInt64
theorem in_p {m : Nat → Nat → Int32} (W : MW m) {p : Nat} (hp : p < NP m) : 0 ≤ nI p ∧ nI p ≤ m 12 6 - 1 := by
  have h8 := b_np W
  refine ⟨nI_pos' (by omega), ?_⟩
  rw [v_np W, show nI (NP m) - 1 = nI (NP m - 1) from pk_sub (b := 1) (by omega)]
  exact nI_le (by omega) (by omega)
theorem in_b {m : Nat → Nat → Int32} (W : MW m) {b : Nat} (hb : b < NB m) : 0 ≤ nI b ∧ nI b ≤ m 12 8 - 1 := by
  have h20 := b_nb W
  refine ⟨nI_pos' (by omega), ?_⟩
  rw [v_nb W, show nI (NB m) - 1 = nI (NB m - 1) from pk_sub (b := 1) (by omega)]
  exact nI_le (by omega) (by omega)
theorem in_w {m : Nat → Nat → Int32} (W : MW m) : 0 ≤ m 12 5 ∧ m 12 5 ≤ 199 := by
  have h1 := b_wk W
  rw [v_wk W]
  exact ⟨nI_pos' (by omega), nI_le (b := 199) h1 (by omega)⟩
theorem le_self (x : Int32) : x ≤ x := by rw [fa_le]; exact Int.le_refl _
/-- a letter of the class -/
theorem e_letterV {h : HP} (R : RQ h) {b : Nat} (hb : b < NB (ms h)) : ∃ h1, F_X11_letter 0 (nI b) (ms h 12 5) h = some (mB (ms h) b (ms h 12 5), dp h1) ∧ SQ h h1 := by
  have h3 := b_nb R.m
  have c1 := in_b R.m hb
  have c2 := in_w R.m
  obtain ⟨h1, r1, x1, i1⟩ := e_inForce R (ms h 12 5)
  have q1 := x1.sq S34_la
  have R1 := q1.rl R
  refine ⟨h1, ?_, q1⟩
  unfold F_X11_letter
  simp only [nm, u2]
  rw [rf_11_3 R.1, Option.bind_some, e_has R, Option.bind_some, ite_b, if_pos c1, e_isWeek, Option.bind_some, ite_b, if_pos c2, rf_11_4 R.1, Option.bind_some, Option.bind_some, rf_2_0 R.1, Option.bind_some, gar_v (by omega) (by omega), rb_23 R hb, Option.bind_some, Option.bind_some, r1, Option.bind_some, wd_dp x1.1, e_letterOf R1 i1 (q1.mq.symm ▸ hb), Option.bind_some, q1.mq]
theorem e_withParish {X : HP} (R : RQ X) {p : Nat} (hp : p < NP (ms X)) (x : Int64) : ∃ Y, F_X11_withParish 0 x (nI p) X = some (wpV (ms X) p x, dp Y) ∧ SQ X Y := by
  have h8 := b_np R.m
  obtain ⟨h1, r1, x1, he⟩ := e_hear R (nI p)
  have s1 := x1.sq S7_la
  have R1 := s1.rl R
  have e1 : ms h1 = ms X := s1.mq
  have wk : gi h1 11 0 0 = ms X 12 5 := by rw [cw_wk R1, e1]
  obtain ⟨n, h2, hn, en, r2, x2⟩ := e_kept R1 (p := nI p) (w := ms X 12 5) (by rw [e1]; exact in_p R.m hp) (by rw [e1]; exact ⟨(in_w R.m).1, le_self _⟩)
  rw [e1] at en r2
  have ko : nI (koN (ms X) (nI p) (ms X 12 5) n) = koV (ms X) p := by unfold koV; rw [en, nI_clamp (by omega)]
  have lp : ∀ y : Int64, loopN LF (B_X11_withParish_30 0 (nI p) h1) (y, 0) = some (dgA (fun k => plV (ms X) (nI p) (nI k)) y 6) := by
    intro y
    refine loopS (fun k => (dgA (fun k => plV (ms X) (nI p) (nI k)) y k, nI k)) 6 (by omega) (fun k hk => ?_) ?_
    · have et := e_told R1 he (nI k)
      rw [e1] at et
      unfold B_X11_withParish_30
      simp only [nm, u2]
      rw [if_neg (show ¬ (5 : Int32) < nI k from nlt_not (b := k) (a := 5) (by omega) (by omega)), rf_11_8 R1.1, Option.bind_some, rf_11_3 R1.1, Option.bind_some, et, Option.bind_some, nI_1]
      rfl
    · unfold B_X11_withParish_30
      simp only [nm, u2]
      rw [if_pos (show (5 : Int32) < nI 6 from nI_lt (a := 5) (by omega) (by omega))]
  refine ⟨h2, ?_, s1.t (x2.sq S34_la)⟩
  unfold F_X11_withParish
  simp only [nm, u2]
  rw [rf_11_1 R.1, Option.bind_some, ga_v (show p < 8 by omega) (by omega), Option.bind_some, cp_41 R (show p < 8 by omega), rf_11_8 R.1, Option.bind_some, rf_11_3 R.1, Option.bind_some, r1, Option.bind_some, wd_dp x1.1, lp, Option.bind_some, wk, r2, Option.bind_some, wd_dp x2.1, ko]
  rfl
theorem e_withBell {X : HP} (R : RQ X) {b : Nat} (hb : b < NB (ms X)) (x : Int64) : ∃ Y, F_X11_withBell 0 x (nI b) X = some (wbV (ms X) b x, dp Y) ∧ SQ X Y := by
  have h20 := b_nb R.m
  obtain ⟨h1, r1, s1⟩ := e_letterV R hb
  have l1 : ∀ y : Int64, loopN LF (B_X11_withBell_6 0 (nI b) X) (y, 0) = some (dgA (fun k => abV (ms X) b (nI k)) y 9) := by
    intro y
    refine loopS (fun k => (dgA (fun k => abV (ms X) b (nI k)) y k, nI k)) 9 (by omega) (fun k hk => ?_) ?_
    · unfold B_X11_withBell_6
      simp only [nm, u2]
      rw [if_neg (show ¬ (8 : Int32) < nI k from nlt_not (b := k) (a := 8) (by omega) (by omega)), e_about R hb, Option.bind_some, nI_1]
      rfl
    · unfold B_X11_withBell_6
      simp only [nm, u2]
      rw [if_pos (show (8 : Int32) < nI 9 from nI_lt (a := 8) (by omega) (by omega))]
  have l2 : ∀ y : Int64, loopN LF (B_X11_withBell_39 0 (nI b) X) (y, 0) = some (dgA (fun k => ms X 54 (5 * b + k)) y 5) := by
    intro y
    refine loopS (fun k => (dgA (fun k => ms X 54 (5 * b + k)) y k, nI k)) 5 (by omega) (fun k hk => ?_) ?_
    · unfold B_X11_withBell_39
      simp only [nm, u2]
      rw [if_neg (show ¬ (5 : Int32) ≤ nI k from nI_ge (b := 5) hk (by omega)), rf_11_3 R.1, Option.bind_some, rf_2_0 R.1, Option.bind_some, gar_v (by omega) (by omega), rb_23 R hb, Option.bind_some, rb_4 R hb, Option.bind_some, ga_v (show k < 5 by omega) (by omega), Option.bind_some, cb_20 R hb hk, nI_1]
      rfl
    · unfold B_X11_withBell_39
      simp only [nm, u2]
      rw [if_pos (show (5 : Int32) ≤ nI 5 from nI_le (a := 5) (by omega) (by omega))]
  refine ⟨h1, ?_, s1⟩
  unfold F_X11_withBell
  simp only [nm, u2]
  rw [l1, Option.bind_some, l2, Option.bind_some, cw_wk R, r1, Option.bind_some, wd_dp s1.1]
  rfl
theorem e_sent0 {h : HP} (R : RQ h) : ∃ X A, F_X11_sent 0 0 h = some (nI A, dp X) ∧ SQ h X ∧ BSS (wN (ms h)) (dN (ms h)) (uN (ms h)) (YD (ms h) (NB (ms h))) A := by
  obtain ⟨X, A, pl, xX, bs, -, -, e2, -, -⟩ := e_sendplan R
  have RX : RQ X := (xX.sq S8_la).rl R
  refine ⟨X, A, ?_, xX.sq S8_la, bs⟩
  unfold F_X11_sent
  simp only [nm]
  rw [e_from, Option.bind_some, ite_b, if_pos (show (0 : Int32) ≤ 0 ∧ (0 : Int32) ≤ 2 by decide), rf_11_12 R.1, Option.bind_some, rf_11_3 R.1, Option.bind_some, pl, Option.bind_some, wd_dp xX.1, rf_11_12 RX.1, Option.bind_some, e2]
  rfl
theorem e_dl0 {h : HP} (R : RQ h) : loopN LF (B_X11_digest_6 0 h) (17, 0) = some (dgA (fun k => ctV (ms h) (nI k)) 17 8) := by
  refine loopS (fun k => (dgA (fun k => ctV (ms h) (nI k)) 17 k, nI k)) 8 (by omega) (fun k hk => ?_) ?_
  · unfold B_X11_digest_6
    simp only [nm, u2]
    rw [if_neg (show ¬ (7 : Int32) < nI k from nlt_not (b := k) (a := 7) (by omega) (by omega)), e_count R, Option.bind_some, nI_1]
    rfl
  · unfold B_X11_digest_6
    simp only [nm, u2]
    rw [if_pos (show (7 : Int32) < nI 8 from nI_lt (a := 7) (by omega) (by omega))]
theorem e_dl1 {h : HP} (R : RQ h) (x : Int64) : ∃ r : Int64 × DP, loopN LF (B_X11_digest_47 0 h) (x, 0, dp h) = some r ∧ ∃ X, r = (rpt (wpV (ms h)) x (NP (ms h)), dp X) ∧ SQ h X := by
  have h8 := b_np R.m
  refine loopI (fun p q => ∃ X, q = (rpt (wpV (ms h)) x p, nI p, dp X) ∧ SQ h X) _ (NP (ms h)) (by omega) ⟨h, rfl, SQ.r h⟩ ?_
  rintro p q hp ⟨X, rfl, xX⟩
  have hwd : wd h (dp X) = X := wd_dp xX.1
  have RX : RQ X := xX.rl R
  have eX : ms X = ms h := xX.mq
  by_cases c : p < NP (ms h)
  · left
    obtain ⟨Y, wp, xY⟩ := e_withParish RX (p := p) (by rw [eX]; exact c) (rpt (wpV (ms h)) x p)
    rw [eX] at wp
    refine ⟨(rpt (wpV (ms h)) x (p + 1), nI (p + 1), dp Y), c, ?_, Y, rfl, xX.t xY⟩
    unfold B_X11_digest_47
    simp only [nm, u2, u3, hwd]
    rw [cw_np RX, eX, v_np R.m, if_neg (nI_ge c (by omega)), wp, Option.bind_some, wd_dp xY.1, nI_1]
    rfl
  · right
    have : p = NP (ms h) := by omega
    subst this
    refine ⟨_, ?_, X, rfl, xX⟩
    unfold B_X11_digest_47
    simp only [nm, u3, hwd]
    rw [cw_np RX, eX, v_np R.m, if_pos (nI_le (Nat.le_refl _) (by omega))]
theorem e_dl2 {h X1 : HP} (R : RQ h) (x1 : SQ h X1) (x : Int64) : ∃ r : Int64 × DP, loopN LF (B_X11_digest_70 0 X1) (x, 0, dp X1) = some r ∧ ∃ X, r = (rpt (wbV (ms h)) x (NB (ms h)), dp X) ∧ SQ h X := by
  have h20 := b_nb R.m
  refine loopI (fun b q => ∃ X, q = (rpt (wbV (ms h)) x b, nI b, dp X) ∧ SQ h X) _ (NB (ms h)) (by omega) ⟨X1, rfl, x1⟩ ?_
  rintro b q hb ⟨X, rfl, xX⟩
  have hwd : wd X1 (dp X) = X := wd_dp (xX.1.trans x1.1.symm)
  have RX : RQ X := xX.rl R
  have eX : ms X = ms h := xX.mq
  by_cases c : b < NB (ms h)
  · left
    obtain ⟨Y, wb, xY⟩ := e_withBell RX (b := b) (by rw [eX]; exact c) (rpt (wbV (ms h)) x b)
    rw [eX] at wb
    refine ⟨(rpt (wbV (ms h)) x (b + 1), nI (b + 1), dp Y), c, ?_, Y, rfl, xX.t xY⟩
    unfold B_X11_digest_70
    simp only [nm, u2, u3, hwd]
    rw [rf_11_3 RX.1, Option.bind_some, cw_nb RX, eX, v_nb R.m, if_neg (nI_ge c (by omega)), wb, Option.bind_some, wd_dp xY.1, nI_1]
    rfl
  · right
    have : b = NB (ms h) := by omega
    subst this
    refine ⟨_, ?_, X, rfl, xX⟩
    unfold B_X11_digest_70
    simp only [nm, u3, hwd]
    rw [rf_11_3 RX.1, Option.bind_some, cw_nb RX, eX, v_nb R.m, if_pos (nI_le (Nat.le_refl _) (by omega))]
/-- the class's digest -/
theorem e_digest {h : HP} (R : RQ h) : ∃ Y c o A, F_X11_digest 0 h = some (dgV (ms h) (nI c) (nI o) (nI A), dp Y) ∧ SQ h Y ∧ BST (NU (ms h)) (cbV (ms h)) (dfI (ms h)) (NB (ms h)) ((c : Nat) : Int) ((o : Nat) : Int) ∧ BSS (wN (ms h)) (dN (ms h)) (uN (ms h)) (YD (ms h) (NB (ms h))) A := by
  have hU := b_nu R.m
  have ed1 : 31 * dgA (fun k => ctV (ms h) (nI k)) 17 8 + (ctV (ms h) 9).toInt64 = dg1 (ms h) := by unfold dg1; rfl
  obtain ⟨r, l1, X1, rfl, x1⟩ := e_dl1 R (dg1 (ms h))
  obtain ⟨r, l2, X2, rfl, x2⟩ := e_dl2 R x1 (rpt (wpV (ms h)) (dg1 (ms h)) (NP (ms h)))
  have ed2 : rpt (wbV (ms h)) (rpt (wpV (ms h)) (dg1 (ms h)) (NP (ms h))) (NB (ms h)) = dg2 (ms h) := by unfold dg2; rfl
  rw [ed2] at l2
  have R2 : RQ X2 := x2.rl R
  have e2 : ms X2 = ms h := x2.mq
  obtain ⟨X3, g, c, o, ly, x3, n3, op, w, hc, cU, ho, oU, cd, bs⟩ := e_best R2
  rw [e2] at n3 op w hc cU ho cd bs
  have R3 : RQ X3 := (x3.sq S5_la).rl R2
  have e3 : ms X3 = ms h := (x3.sq S5_la).mq.trans e2
  have ec := e_laidCount w n3 hU hc cU (by omega) cd
  have ed := e_layDiff w hU (by omega) ho oU cd
  obtain ⟨X4, A, st, x4, bs4⟩ := e_sent0 R3
  rw [e3] at bs4
  have ft : F_X11_fault 0 X2 = some (LF1 (ms h)) := by
    unfold F_X11_fault
    rw [rf_11_4 R2.1, Option.bind_some, c_fault R2, e2]
  refine ⟨X4, c, o, A, ?_, x2.t ((x3.sq S5_la).t x4), bs, bs4⟩
  unfold dgV
  generalize dg2 (ms h) = D2 at l2 ⊢
  generalize dg1 (ms h) = D1 at ed1 l1 l2 ⊢
  unfold F_X11_digest
  rw [e_dl0 R, Option.bind_some, e_count R, Option.bind_some]
  simp only [nm, u2]
  rw [ed1, l1, Option.bind_some]
  simp only [wd_dp x1.1]
  rw [l2, Option.bind_some]
  simp only [wd_dp (x2.1.trans x1.1.symm)]
  rw [ft, Option.bind_some, rf_11_7 R2.1, Option.bind_some, rf_11_5 R2.1, Option.bind_some, rf_11_3 R2.1, Option.bind_some, ly, Option.bind_some, wd_dp x3.1, rf_11_7 R3.1, Option.bind_some, ec, Option.bind_some, Option.bind_some, ed, Option.bind_some, st, Option.bind_some, wd_dp x4.1]
