/-! stage III: laid -/
def S7x (k s : Nat) : Bool := Nat.beq k 70 || (Nat.beq k 71 || (Nat.beq k 12 && (Nat.beq s 35 || Nat.beq s 36)))
theorem S7x_la : ∀ k s, S7x k s = true → la k s = false := by
  intro k s e
  unfold S7x at e
  simp only [Bool.or_eq_true, Bool.and_eq_true, Nat.beq_eq] at e
  rcases e with rfl | rfl | ⟨rfl, rfl | rfl⟩ <;> rfl
theorem S70_7 : ∀ k s, S7x k s = false → S70 k s = false := by
  intro k s e
  unfold S7x at e
  unfold S70
  simp only [Bool.or_eq_false_iff] at e ⊢
  exact ⟨e.1, e.2.2⟩
theorem S71_7 : ∀ k s, S7x k s = false → S71 k s = false := by
  intro k s e
  unfold S7x at e
  simp only [Bool.or_eq_false_iff] at e
  exact e.2.1
theorem fxr_up {X : HP} {fx : Nat → Nat} (f : FXR fx X) {k b : Nat} (hb : b ≤ 21) : FXR (gup fx k b) (si X 71 0 k (nI b)) := by
  intro u hu
  rw [gi_si]
  by_cases q : u = k
  · subst q
    rw [if_pos ⟨rfl, rfl, rfl⟩, gup_s]
    exact ⟨rfl, hb⟩
  · rw [if_neg (fun z => q z.2.2), gup_o fx b q]
    exact f u hu
theorem gup_gup (fx : Nat → Nat) (k a b : Nat) : gup (gup fx k a) k b = gup fx k b := by
  funext i
  unfold gup
  by_cases q : i = k
  · rw [if_pos q, if_pos q]
  · rw [if_neg q, if_neg q, if_neg q]
/-- one b is tried for k -/
theorem f_try {X Y : HP} {k b c o : Nat} {fx : Nat → Nat} (a1 : Int32) (G0 : gR X.2.2) (W : MW (ms X)) (xY : EX S7x X Y) (f : FXR fx Y) (hk : k < NU (ms X)) (hb : b ≤ 20) (hc : c ≤ 8) (ho : o ≤ 3960) :
    (BST (NU (ms X)) (okf (NU (ms X)) (cbV (ms X)) (gup fx k b)) (dfI (ms X)) (NB (ms X)) c o → ∃ Z, J_X12_laid_92 0 a1 (nI c) (nI o) (nI k) (nI b) Y = some (.inl (0, nI (b + 1), dp Z)) ∧ EX S7x X Z ∧ FXR (gup fx k b) Z) ∧
    (¬ BST (NU (ms X)) (okf (NU (ms X)) (cbV (ms X)) (gup fx k b)) (dfI (ms X)) (NB (ms X)) c o → ∃ Z, J_X12_laid_92 0 a1 (nI c) (nI o) (nI k) (nI b) Y = some (.inl (1, nI (b + 1), dp Z)) ∧ EX S7x X Z ∧ FXR (gup fx k 21) Z) := by
  have hU := b_nu W
  have GY : gR Y.2.2 := by rw [xY.1]; exact G0
  have eY : ms Y = ms X := (xY.sq S7x_la).mq
  have x1 : EX S7x X (si Y 71 0 k (nI b)) := xY.si 0 _ rfl
  have e1 : ms (si Y 71 0 k (nI b)) = ms X := (x1.sq S7x_la).mq
  have f1 := fxr_up f (k := k) (b := b) (by omega)
  obtain ⟨Z, many, off, ly, xZ, z1, z2, z3, z4, z5⟩ := f_lays (X := si Y 71 0 k (nI b)) GY (by rw [e1]; exact W) f1
  rw [e1] at z5
  have x2 : EX S7x X Z := x1.trans (xZ.mono S70_7)
  have GZ : gR Z.2.2 := by rw [x2.1]; exact G0
  have fZ : FXR (gup fx k b) Z := xZ.fxr f1
  have wdZ : wd (si Y 71 0 k (nI b)) (dp Z) = Z := wd_dp xZ.1
  have hd : J_X12_laid_92 0 a1 (nI c) (nI o) (nI k) (nI b) Y = if many = c then (if off = o then J_X12_laid_126 0 a1 (nI c) (nI o) (nI k) (nI b) 0 Z else J_X12_laid_126 0 a1 (nI c) (nI o) (nI k) (nI b) 1 Z) else J_X12_laid_126 0 a1 (nI c) (nI o) (nI k) (nI b) 1 Z := by
    unfold J_X12_laid_92
    simp only [nm]
    rw [rf_12_34 GY, Option.bind_some, sa_v (show k < 8 by omega) (by omega), Option.bind_some, ly, Option.bind_some, wdZ, z1, z2]
    by_cases q : many = c
    · rw [if_pos ((nI_eq (by omega) (by omega)).mpr q), if_pos q]
      by_cases q2 : off = o
      · rw [if_pos ((nI_eq (by omega) (by omega)).mpr q2), if_pos q2]
      · rw [if_neg (fun z => q2 ((nI_eq (by omega) (by omega)).mp z)), if_neg q2]
    · rw [if_neg (fun z => q ((nI_eq (by omega) (by omega)).mp z)), if_neg q]
  have j146 : ∀ v t : Int32, J_X12_laid_146 0 a1 (nI c) (nI o) (nI k) v (nI b) t (nI k) 0 Z = some (.inl (v, nI (b + 1), dp (si Z 71 0 k t))) := by
    intro v t
    unfold J_X12_laid_146
    simp only [nm]
    rw [sa_v (show k < 8 by omega) (by omega), Option.bind_some, nI_1]
  have yes : J_X12_laid_126 0 a1 (nI c) (nI o) (nI k) (nI b) 0 Z = some (.inl (0, nI (b + 1), dp (si Z 71 0 k (nI b)))) := by
    unfold J_X12_laid_126
    rw [rf_12_34 GZ, Option.bind_some, if_pos rfl, j146]
  have nay : J_X12_laid_126 0 a1 (nI c) (nI o) (nI k) (nI b) 1 Z = some (.inl (1, nI (b + 1), dp (si Z 71 0 k (nI 21)))) := by
    unfold J_X12_laid_126
    rw [rf_12_34 GZ, Option.bind_some, if_neg (show ¬ (1 : Int32) = 0 by decide), j146]
    rfl
  refine ⟨fun bs => ?_, fun bs => ?_⟩
  · have be := z5.eq bs
    refine ⟨_, (by rw [hd, if_pos (show many = c by omega), if_pos (show off = o by omega), yes]), x2.si 0 _ rfl, ?_⟩
    have := fxr_up fZ (k := k) (b := b) (by omega)
    rw [gup_gup] at this
    exact this
  · have nb : ¬ (many = c ∧ off = o) := by
      rintro ⟨q1, q2⟩
      subst q1
      subst q2
      exact bs z5
    refine ⟨si Z 71 0 k (nI 21), ?_, x2.si 0 _ rfl, ?_⟩
    · rw [hd]
      by_cases q : many = c
      · rw [if_pos q, if_neg (fun z => nb ⟨q, z⟩), nay]
      · rw [if_neg q, nay]
    · have := fxr_up fZ (k := k) (b := 21) (by omega)
      rw [gup_gup] at this
      exact this
theorem fxk_reset {U k : Nat} {g fx : Nat → Nat} (F : FXK U g k fx) : FXK U g k (gup fx k 21) := by
  intro j hj
  by_cases q : j = k
  · subst q; rw [gup_s]; exact ⟨fun h => by omega, fun _ => rfl⟩
  · rw [gup_o fx 21 q]; exact F j hj
theorem fxk_next {U k : Nat} {g fx : Nat → Nat} (F : FXK U g k fx) : FXK U g (k + 1) (gup fx k (g k)) := by
  intro j hj
  by_cases q : j = k
  · subst q; rw [gup_s]; exact ⟨fun _ => rfl, fun h => by omega⟩
  · rw [gup_o fx _ q]
    exact ⟨fun h => (F j hj).1 (by omega), fun h => (F j hj).2 (by omega)⟩
/-- all b are tried for k: the best laying's is taken -/
theorem f_laidk {X Y : HP} {k c o : Nat} {g fx : Nat → Nat} (a1 : Int32) (G0 : gR X.2.2) (W : MW (ms X)) (xY : EX S7x X Y) (f : FXR fx Y) (F : FXK (NU (ms X)) g k fx) (hk : k < NU (ms X)) (hc : c ≤ 8) (ho : o ≤ 3960)
    (op : OPT (NU (ms X)) (cbV (ms X)) (dfI (ms X)) (NB (ms X)) g) (hcg : cnG (NU (ms X)) g = ((c : Nat) : Int)) (hvg : VS (NU (ms X)) (dfI (ms X)) g = ((o : Nat) : Int)) (bs : BST (NU (ms X)) (cbV (ms X)) (dfI (ms X)) (NB (ms X)) c o) :
    ∃ r : DP, loopN LF (B_X12_laid_44 0 a1 (nI c) (nI o) (nI k) Y) (1, 0, dp Y) = some r ∧ ∃ Z fx', r = dp Z ∧ EX S7x X Z ∧ FXR fx' Z ∧ FXK (NU (ms X)) g (k + 1) fx' := by
  have hU := b_nu W
  have hB := b_nb W
  have g20 := op.1.le20 hB hk
  refine loopI (fun j q => (j ≤ g k ∧ ∃ Z fx, q = (1, nI j, dp Z) ∧ EX S7x X Z ∧ FXR fx Z ∧ FXK (NU (ms X)) g k fx) ∨ (j ≤ g k + 1 ∧ ∃ Z fx v, q = (0, nI v, dp Z) ∧ v ≤ 21 ∧ EX S7x X Z ∧ FXR fx Z ∧ FXK (NU (ms X)) g (k + 1) fx)) _ 22 (by omega) (Or.inl ⟨Nat.zero_le _, Y, fx, rfl, xY, f, F⟩) ?_
  rintro j q hj (⟨hjg, Z, fx, rfl, xZ, fZ, FZ⟩ | ⟨hjg, Z, fx, v, rfl, hv, xZ, fZ, FZ⟩)
  · left
    have hwd : wd Y (dp Z) = Z := wd_dp (xZ.1.trans xY.1.symm)
    have GZ : gR Z.2.2 := by rw [xZ.1]; exact G0
    have eZ : ms Z = ms X := (xZ.sq S7x_la).mq
    have WZ : MW (ms Z) := by rw [eZ]; exact W
    obtain ⟨t1, t2⟩ := f_try (k := k) (b := j) (c := c) (o := o) a1 G0 W xZ fZ hk (by omega) hc ho
    have go : B_X12_laid_44 0 a1 (nI c) (nI o) (nI k) Y (1, nI j, dp Z) = if j = 20 then J_X12_laid_92 0 a1 (nI c) (nI o) (nI k) (nI j) Z else if j < NB (ms X) ∧ hasF fx j (NU (ms X)) = false ∧ cbV (ms X) k j = true then J_X12_laid_92 0 a1 (nI c) (nI o) (nI k) (nI j) Z else some (.inl (1, nI (j + 1), dp Z)) := by
      have isf := f_isFixed GZ WZ fZ (b := j) (by omega)
      rw [eZ] at isf
      unfold B_X12_laid_44
      simp only [nm, u3, hwd]
      rw [if_neg (show ¬ (20 : Int32) < nI j from nlt_not (b := j) (a := 20) (by omega) (by omega)), if_neg (show ¬ (1 : Int32) = 0 by decide)]
      by_cases c1 : j = 20
      · rw [if_pos (show nI j = (20 : Int32) by rw [c1]; rfl), if_pos c1]
      · rw [if_neg (show ¬ nI j = (20 : Int32) from fun q => c1 ((nI_eq (b := 20) (by omega) (by omega)).mp q)), if_neg c1, f_isBell, Option.bind_some, ite_b, eZ, v_nb W]
        by_cases c2 : j < NB (ms X)
        · have b0 : 0 ≤ nI j ∧ nI j ≤ nI (NB (ms X)) - 1 := ⟨nI_pos' (by omega), by rw [show nI (NB (ms X)) - 1 = nI (NB (ms X) - 1) from pk_sub (b := 1) (by omega)]; exact nI_le (by omega) (by omega)⟩
          rw [if_pos b0, isf, Option.bind_some, ite_b]
          by_cases c3 : hasF fx j (NU (ms X)) = true
          · rw [if_pos c3, if_neg (fun q => by rw [c3] at q; cases q.2.1), nI_1]
          · have c3' : hasF fx j (NU (ms X)) = false := by
              cases e : hasF fx j (NU (ms X)) with
              | false => rfl
              | true => exact absurd e c3
            have cb := f_couldBe GZ WZ (u := k) (b := j) (by rw [eZ]; exact hk) (by rw [eZ]; exact c2)
            rw [eZ] at cb
            rw [if_neg c3, cb, Option.bind_some, ite_b]
            by_cases c4 : cbV (ms X) k j = true
            · rw [if_pos c4, if_pos ⟨c2, c3', c4⟩]
            · rw [if_neg c4, if_neg (fun q => c4 q.2.2), nI_1]
        · have b0 : ¬ (0 ≤ nI j ∧ nI j ≤ nI (NB (ms X)) - 1) := by
            intro q
            obtain ⟨i, hi, e⟩ := in_cnt rfl (show NB (ms X) < 1000000 by omega) q
            have := (nI_eq (by omega) (by omega)).mp e
            omega
          rw [if_neg b0, if_neg (fun q => c2 q.1), nI_1]
    by_cases cg : j = g k
    · -- it is the best laying's
      have pre := pre_yes hB op.1 FZ hk
      have go2 : B_X12_laid_44 0 a1 (nI c) (nI o) (nI k) Y (1, nI j, dp Z) = J_X12_laid_92 0 a1 (nI c) (nI o) (nI k) (nI j) Z := by
        rw [go]
        by_cases c1 : j = 20
        · rw [if_pos c1]
        · have := pre.resolve_left (by omega)
          rw [← cg] at this
          rw [if_neg c1, if_pos this]
      obtain ⟨V, v1, v2, v3⟩ := t1 (by rw [cg]; exact trial_yes hB op.1 hcg hvg bs FZ hk)
      refine ⟨_, by omega, (by rw [go2, v1]), Or.inr ⟨by omega, V, gup fx k j, j + 1, rfl, by omega, v2, v3, ?_⟩⟩
      rw [cg]
      exact fxk_next FZ
    · by_cases c1 : j < NB (ms X) ∧ hasF fx j (NU (ms X)) = false ∧ cbV (ms X) k j = true
      · obtain ⟨V, v1, v2, v3⟩ := t2 (trial_no hU hB op hcg hvg bs FZ hk (by omega) c1.1 c1.2.1 c1.2.2)
        refine ⟨_, by omega, (by rw [go, if_neg (by omega), if_pos c1, v1]), Or.inl ⟨by omega, V, _, rfl, v2, v3, fxk_reset FZ⟩⟩
      · exact ⟨_, by omega, (by rw [go, if_neg (by omega), if_neg c1]), Or.inl ⟨by omega, Z, fx, rfl, xZ, fZ, FZ⟩⟩
  · right
    have hwd : wd Y (dp Z) = Z := wd_dp (xZ.1.trans xY.1.symm)
    refine ⟨dp Z, ?_, Z, fx, rfl, xZ, fZ, FZ⟩
    unfold B_X12_laid_44
    simp only [nm, u3, hwd]
    by_cases c1 : (20 : Int32) < nI v
    · rw [if_pos c1]
    · rw [if_neg c1]
      rfl
theorem p_laid : CP_laid RQ := by
  intro h R a
  have hU := b_nu R.m
  have hB := b_nb R.m
  by_cases c1 : 0 ≤ a ∧ a ≤ ms h 12 28 - 1
  · obtain ⟨u, hu, rfl⟩ := in_cnt (v_nu R.m) (by omega) c1
    obtain ⟨Y, g, c, o, l, x, n, op, w, hc, cU, ho, oU, cd, bs⟩ := e_best R
    have RY : RQ Y := (x.sq S5_la).rl R
    have eY : ms Y = ms h := (x.sq S5_la).mq
    obtain ⟨Z, V, many, off, fr, xZ, ly, xV, fV, v1, v2, v3, v4, bs2⟩ := f_base RY.1 RY.m
    rw [eY] at bs2
    have be := bs.eq bs2
    have b1 : c = many := by omega
    have b2 : o = off := by omega
    subst b1
    subst b2
    have GV : gR V.2.2 := by rw [xV.1, xZ.1]; exact RY.1
    have RV : RQ V := (xV.sq S70_la).rl ((xZ.sq S71_la).rl RY)
    have eV : ms V = ms h := ((xV.sq S70_la).mq.trans (xZ.sq S71_la).mq).trans eY
    have g20 := op.1.le20 hB hu
    have eb := e_bellOf (u := u) w hU hu (fun u hu => op.1.le20 hB hu) (by omega) (by omega) cd
    have l32 : ∃ r : DP, loopN LF (B_X12_laid_32 0 (nI u) (nI c) (nI o) V) (0, dp V) = some r ∧ ∃ T fx, r = dp T ∧ EX S7x V T ∧ FXR fx T ∧ FXK (NU (ms h)) g (u + 1) fx := by
      refine loopI (fun j q => j ≤ u + 1 ∧ ∃ T fx, q = (nI j, dp T) ∧ EX S7x V T ∧ FXR fx T ∧ FXK (NU (ms h)) g j fx) _ (u + 1) (by omega) ⟨Nat.zero_le _, V, _, rfl, EX.rfl' V, fV, fun j _ => ⟨fun z => absurd z (Nat.not_lt_zero j), fun _ => rfl⟩⟩ ?_
      rintro j q - ⟨hj, T, fx, rfl, xT, fT, FT⟩
      have hwd : wd V (dp T) = T := wd_dp xT.1
      by_cases cj : j ≤ u
      · left
        obtain ⟨r, lk, T2, fx2, rfl, xT2, fT2, FT2⟩ := f_laidk (X := V) (k := j) (c := c) (o := o) (g := g) (nI u) GV RV.m xT fT (by rw [eV]; exact FT) (by rw [eV]; omega) (by omega) oU (by rw [eV]; exact op) (by rw [eV]; exact hc) (by rw [eV]; exact ho) (by rw [eV]; exact bs)
        rw [eV] at FT2
        refine ⟨(nI (j + 1), dp T2), by omega, ?_, by omega, T2, fx2, rfl, xT2, fT2, FT2⟩
        unfold B_X12_laid_32
        simp only [nm, u2, hwd]
        rw [if_neg (nlt_not cj (by omega)), lk, Option.bind_some, wd_dp (xT2.1.trans xT.1.symm), nI_1]
      · right
        have : j = u + 1 := by omega
        subst this
        refine ⟨dp T, ?_, T, fx, rfl, xT, fT, FT⟩
        unfold B_X12_laid_32
        simp only [nm, u2, hwd]
        rw [if_pos (nI_lt (by omega) (by omega))]
    obtain ⟨r, l32, T, fx, rfl, xT, fT, FT⟩ := l32
    have GT' : gR T.2.2 := by rw [xT.1]; exact GV
    have vu : gi T 71 0 u = nI (g u) := by rw [(fT u (by omega)).1, (FT u hu).1 (by omega)]
    refine ⟨if g u = 20 then -1 else nI (g u), dp Y, dp T, ?_, ?_, ?_⟩
    · unfold F_X11_laid
      simp only [nm]
      rw [e_isUnnamed R, Option.bind_some, ite_b, if_pos c1, rf_11_7 R.1, Option.bind_some, rf_11_5 R.1, Option.bind_some, rf_11_3 R.1, Option.bind_some, l, Option.bind_some, wd_dp x.1, rf_11_7 RY.1, Option.bind_some, eb, Option.bind_some]
    · rw [wd_dp x.1]
      unfold F_X12_laid
      simp only [nm]
      rw [f_isUnnamed, Option.bind_some, eY, ite_b, if_pos c1, fr, Option.bind_some, wd_dp xZ.1, ly, Option.bind_some, wd_dp xV.1, v1, v2, l32, Option.bind_some, wd_dp xT.1, rf_12_34 GT', Option.bind_some, ga_v (show u < 8 by omega) (by omega), Option.bind_some, vu]
      by_cases q : g u = 20
      · rw [if_pos (show nI (g u) = (20 : Int32) by rw [q]; rfl), if_pos q]
      · rw [if_neg (show ¬ nI (g u) = (20 : Int32) from fun z => q ((nI_eq (b := 20) (by omega) (by omega)).mp z)), if_neg q, Option.bind_some, ga_v (show u < 8 by omega) (by omega), Option.bind_some, vu]
    · rw [wd_dp x.1, wd_dp (xT.1.trans (xV.1.trans xZ.1))]
      exact (xT.sq S7x_la).rl RV
  · refine ⟨-2, dp h, dp h, ?_, ?_, R⟩
    · unfold F_X11_laid
      rw [e_isUnnamed R, Option.bind_some, ite_b, if_neg c1]
    · unfold F_X12_laid
      simp only [wd_self]
      rw [f_isUnnamed, Option.bind_some, ite_b, if_neg c1]
