/-! stage III: laying, laid -/
theorem l2i_v {x : Int64} {k : Nat} (hk : k < 2 ^ 31) (e : x.toInt = (k : Int)) : x.toInt32 = nI k := by
  have : x = (nI k).toInt64 := (fa_eq64 _ _).mpr (by rw [e, Int32.toInt_toInt64, nI_toInt hk])
  rw [this, lg_l2i_i2l]
theorem dzl_v {x y : Int64} {a b : Int} (hx : x.toInt = a) (hy : y.toInt = b) (ha : 0 ≤ a) (hb : 0 < b) : ∃ q, dzl x y = some q ∧ q.toInt = a / b := by
  refine ⟨x / y, ?_, ?_⟩
  · unfold dzl
    rw [if_neg]
    intro z
    rw [z] at hy
    have : (0 : Int64).toInt = 0 := by decide +kernel
    omega
  · rw [lg_ldiv_nonneg (by omega) (by omega), hx, hy]
theorem rzl_v {x y : Int64} {a b : Int} (hx : x.toInt = a) (hy : y.toInt = b) (ha : 0 ≤ a) (hb : 0 < b) (h1 : 0 ≤ a / b * b) (h2 : a / b * b ≤ a) : ∃ q, rzl x y = some q ∧ q.toInt = a - a / b * b := by
  have hr := fb_rngL x
  have e1 : (x / y).toInt = a / b := by rw [lg_ldiv_nonneg (by omega) (by omega), hx, hy]
  have e2 : (x / y * y).toInt = a / b * b := by rw [fb_mulL (by rw [e1, hy]; omega) (by rw [e1, hy]; omega), e1, hy]
  refine ⟨x - x / y * y, ?_, ?_⟩
  · unfold rzl
    rw [if_neg]
    intro z
    rw [z] at hy
    have : (0 : Int64).toInt = 0 := by decide +kernel
    omega
  · rw [fb_subL (by rw [hx, e2]; omega) (by rw [hx, e2]; omega), hx, e2]
theorem NLT_v : (154922431942656 : Int64).toInt = 154922431942656 := by decide +kernel
theorem DIF_v : (37822859361 : Int64).toInt = 37822859361 := by decide +kernel
theorem c21_v : (21 : Int64).toInt = 21 := by decide +kernel
/-- a worth: how many are laid, by how much they differ, the figures -/
def WT (Y : HP) (U : Nat) (df : Nat → Nat → Int) (g : Nat → Nat) : Prop := (gl Y 5 0 3).toInt = (U - cnG U g) * 154922431942656 + VS U df g * 37822859361 + cdG U g
theorem e_laidCount {Y : HP} {U c : Nat} {df : Nat → Nat → Int} {g : Nat → Nat} (w : WT Y U df g) (n2 : gi Y 5 0 2 = nI U) (hU : U ≤ 8) (hc : cnG U g = (c : Int)) (cU : c ≤ U) (v : 0 ≤ VS U df g ∧ VS U df g ≤ 3960) (k : 0 ≤ cdG U g ∧ cdG U g < 37822859361) : F_X5_laidCount 0 Y = some (nI c) := by
  unfold WT at w
  obtain ⟨q, h1, h2⟩ := dzl_v (b := 154922431942656) w NLT_v (by omega) (by omega)
  have h3 : q.toInt = ((U - c : Nat) : Int) := by omega
  unfold F_X5_laidCount
  rw [h1, Option.bind_some, n2, l2i_v (by omega) h3, pk_sub (by omega), show U - (U - c) = c by omega]
theorem e_layDiff {Y : HP} {U o : Nat} {df : Nat → Nat → Int} {g : Nat → Nat} (w : WT Y U df g) (hU : U ≤ 8) (hc : 0 ≤ cnG U g ∧ cnG U g ≤ U) (ho : VS U df g = (o : Int)) (oU : o ≤ 3960) (k : 0 ≤ cdG U g ∧ cdG U g < 37822859361) : F_X5_differences 0 Y = some (nI o) := by
  unfold WT at w
  obtain ⟨q, h1, h2⟩ := rzl_v (b := 154922431942656) w NLT_v (by omega) (by omega) (by omega) (by omega)
  have h3 : q.toInt = (o : Int) * 37822859361 + cdG U g := by omega
  obtain ⟨r, h4, h5⟩ := dzl_v (b := 37822859361) h3 DIF_v (by omega) (by omega)
  have h6 : r.toInt = (o : Int) := by omega
  unfold F_X5_differences
  rw [h1, Option.bind_some, h4, Option.bind_some, l2i_v (by omega) h6]
theorem p21_8 : ∀ u, u < 8 → (37822859361 : Nat) = 21 * (21 ^ u * 21 ^ (7 - u)) := by decide +kernel
/-- the figure of u out of a worth -/
theorem fig_of {U u w : Nat} {C : Int} {g : Nat → Nat} (hU : U ≤ 8) (hu : u < U) (hg : ∀ u, u < U → g u ≤ 20) (hC : 0 ≤ C) (hw : (w : Int) = C * 37822859361 + cdG U g) : w / 21 ^ (7 - u) % 21 = g u := by
  obtain ⟨q, t, h1, h2, h3, h4⟩ := cd_fig hU hu hg
  have hp := p21_8 u (by omega)
  have hpos : 0 < 21 ^ (7 - u) := Nat.pow_pos (by omega)
  have g20 := hg u hu
  generalize 21 ^ (7 - u) = P at h1 h4 hp hpos ⊢
  generalize 21 ^ u = R at hp
  have hp' : (37822859361 : Int) = 21 * ((R : Int) * (P : Int)) := by
    have : ((37822859361 : Nat) : Int) = ((21 * (R * P) : Nat) : Int) := by rw [← hp]
    omega
  have e1 : C * 37822859361 = 21 * (C * (R : Int) * (P : Int)) := by
    rw [hp', Int.mul_assoc C (R : Int) (P : Int), ← Int.mul_assoc C 21, Int.mul_comm C 21, Int.mul_assoc]
  have e2 : (21 * (C * (R : Int) + q) + (g u : Int)) * (P : Int) = 21 * (C * (R : Int) * (P : Int)) + 21 * (q * (P : Int)) + (g u : Int) * (P : Int) := by
    rw [Int.add_mul, Int.mul_assoc, Int.add_mul, Int.mul_add]
  have e3 : (21 * q + (g u : Int)) * (P : Int) = 21 * (q * (P : Int)) + (g u : Int) * (P : Int) := by rw [Int.add_mul, Int.mul_assoc]
  have hCR : 0 ≤ C * (R : Int) := Int.mul_nonneg hC (by omega)
  generalize hZ : C * (R : Int) + q = Z at e2
  have hZ0 : 0 ≤ Z := by omega
  obtain ⟨z, rfl⟩ : ∃ z : Nat, Z = (z : Int) := ⟨Z.toNat, by omega⟩
  obtain ⟨s, rfl⟩ : ∃ s : Nat, t = (s : Int) := ⟨t.toNat, by omega⟩
  have e4 : ((21 * z + g u : Nat) : Int) * (P : Int) = (21 * (z : Int) + (g u : Int)) * (P : Int) := by
    congr 1
  have e5 : (((21 * z + g u) * P : Nat) : Int) = ((21 * z + g u : Nat) : Int) * (P : Int) := Int.natCast_mul _ _
  have e6 : w = P * (21 * z + g u) + s := by
    rw [Nat.mul_comm P]
    omega
  rw [e6, Nat.mul_add_div hpos, Nat.div_eq_of_lt (by omega)]
  omega
theorem e_bellOf {Y : HP} {U u : Nat} {df : Nat → Nat → Int} {g : Nat → Nat} (w : WT Y U df g) (hU : U ≤ 8) (hu : u < U) (hg : ∀ u, u < U → g u ≤ 20) (hc : 0 ≤ cnG U g ∧ cnG U g ≤ U) (v : 0 ≤ VS U df g ∧ VS U df g ≤ 3960) (k : 0 ≤ cdG U g ∧ cdG U g < 37822859361) :
    F_X5_bellOf 0 (nI u) Y = some (if g u = 20 then -1 else nI (g u)) := by
  unfold WT at w
  obtain ⟨n, hn⟩ : ∃ n : Nat, (gl Y 5 0 3).toInt = (n : Int) := ⟨(gl Y 5 0 3).toInt.toNat, by omega⟩
  have hf := fig_of (w := n) (C := (U - cnG U g) * 4096 + VS U df g) hU hu hg (by omega) (by omega)
  have l1 : ∃ r : Int64, loopN LF (B_X5_bellOf_9 (nI u) Y) (gl Y 5 0 3, 7) = some r ∧ r.toInt = ((n / 21 ^ (7 - u) : Nat) : Int) := by
    refine loopI (fun j q => ∃ x : Int64, q = (x, nI (7 - j)) ∧ u ≤ 7 - j ∧ j ≤ 7 ∧ x.toInt = ((n / 21 ^ j : Nat) : Int)) _ 7 (by omega) ⟨_, rfl, by omega, by omega, by rw [Nat.pow_zero, Nat.div_one]; exact hn⟩ ?_
    rintro j q hj ⟨x, rfl, h1, -, h2⟩
    by_cases c : u < 7 - j
    · left
      obtain ⟨d, hd⟩ : ∃ d, d = n / 21 ^ j := ⟨_, rfl⟩
      rw [← hd] at h2
      obtain ⟨y, h3, h4⟩ := dzl_v h2 c21_v (by omega) (by omega)
      refine ⟨(y, nI (7 - (j + 1))), by omega, ?_, y, rfl, by omega, by omega, ?_⟩
      · unfold B_X5_bellOf_9
        simp only [nm, u2]
        rw [if_neg (nI_ge c (by omega)), h3, Option.bind_some, add_m1, show nI (7 - j) - 1 = nI (7 - (j + 1)) from pk_sub (b := 1) (by omega)]
      · rw [h4, Nat.pow_succ, ← Nat.div_div_eq_div_mul, ← hd]
        omega
    · right
      refine ⟨x, ?_, ?_⟩
      · unfold B_X5_bellOf_9
        simp only [nm, u2]
        rw [if_pos (nI_le (by omega) (by omega))]
      · rw [h2, show 7 - u = j by omega]
  obtain ⟨r, l1, hr⟩ := l1
  generalize n / 21 ^ (7 - u) = d at hr hf
  obtain ⟨y, h3, h4⟩ := rzl_v hr c21_v (by omega) (by omega) (by omega) (by omega)
  have h5 : y.toInt = (g u : Int) := by
    rw [h4, ← hf]
    omega
  have g20 := hg u hu
  unfold F_X5_bellOf
  simp only [nm]
  rw [l1, Option.bind_some, h3, Option.bind_some, l2i_v (by omega) h5]
  by_cases c : g u = 20
  · rw [if_pos c, if_pos (show nI (g u) = 20 by rw [c]; rfl)]
  · rw [if_neg c, if_neg (show ¬ nI (g u) = (20 : Int32) from fun q => c ((nI_eq (b := 20) (by omega) (by omega)).mp q))]
/-- what both know of the best laying -/
theorem e_best {h : HP} (R : RQ h) : ∃ Y g c o, F_X5_layAll 0 0 (gi h 11 0 6) 0 h = some (dp Y) ∧ EX S5 h Y ∧ gi Y 5 0 2 = nI (NU (ms h)) ∧ OPT (NU (ms h)) (cbV (ms h)) (dfI (ms h)) (NB (ms h)) g ∧ WT Y (NU (ms h)) (dfI (ms h)) g ∧
    cnG (NU (ms h)) g = ((c : Nat) : Int) ∧ c ≤ NU (ms h) ∧ VS (NU (ms h)) (dfI (ms h)) g = ((o : Nat) : Int) ∧ o ≤ 3960 ∧ (0 ≤ cdG (NU (ms h)) g ∧ cdG (NU (ms h)) g < 37822859361) ∧ BST (NU (ms h)) (cbV (ms h)) (dfI (ms h)) (NB (ms h)) c o := by
  have hU := b_nu R.m
  have hB := b_nb R.m
  obtain ⟨Y, g, l, x, n, op, w⟩ := e_layAll R
  have h1 := cnG_bound (NU (ms h)) g
  have h2 := VS_bound op.1 (dfI_cb R.m hB)
  have h3 := cd_bound (g := g) hU (fun u hu => op.1.le20 hB hu)
  obtain ⟨c, hc⟩ : ∃ c : Nat, cnG (NU (ms h)) g = (c : Int) := ⟨(cnG (NU (ms h)) g).toNat, by omega⟩
  obtain ⟨o, ho⟩ : ∃ o : Nat, VS (NU (ms h)) (dfI (ms h)) g = (o : Int) := ⟨(VS (NU (ms h)) (dfI (ms h)) g).toNat, by omega⟩
  have bs := op.bst hU hB (dfI_cb R.m hB)
  rw [hc, ho] at bs
  refine ⟨Y, g, c, o, l, x, n, op, ?_, hc, by omega, ho, by omega, h3, bs⟩
  unfold WT
  rw [w, worth_eq]
theorem f_base {X : HP} (G : gR X.2.2) (W : MW (ms X)) : ∃ Z Y many off, F_X12_frees 0 X = some (dp Z) ∧ EX S71 X Z ∧ F_X12_lays 0 Z = some (dp Y) ∧ EX S70 Z Y ∧ FXR (fun _ => 21) Y ∧ gi Y 12 0 35 = nI many ∧ gi Y 12 0 36 = nI off ∧ many ≤ 8 ∧ off ≤ 3960 ∧ BST (NU (ms X)) (cbV (ms X)) (dfI (ms X)) (NB (ms X)) many off := by
  have hN := b_nb W
  obtain ⟨Z, fr, xZ, fZ⟩ := f_frees G
  have eZ : ms Z = ms X := (xZ.sq S71_la).mq
  obtain ⟨Y, many, off, ly, xY, y1, y2, y3, y4, y5⟩ := f_lays (by rw [xZ.1]; exact G) (by rw [eZ]; exact W) fZ
  rw [eZ] at y5
  exact ⟨Z, Y, many, off, fr, xZ, ly, xY, xY.fxr fZ, y1, y2, y3, y4, y5.cong (fun u b hu hb => okf_free (fun _ _ => rfl) hu (by omega))⟩
theorem p_laying : CP_laying RQ := by
  intro h R a
  by_cases c1 : 0 ≤ a ∧ a ≤ 1
  · obtain ⟨Y, g, c, o, l, x, n, op, w, hc, cU, ho, oU, cd, bs⟩ := e_best R
    have RY : RQ Y := (x.sq S5_la).rl R
    have eY : ms Y = ms h := (x.sq S5_la).mq
    obtain ⟨Z, V, many, off, fr, xZ, ly, xV, -, v1, v2, -, -, bs2⟩ := f_base RY.1 RY.m
    rw [eY] at bs2
    have be := bs.eq bs2
    have b1 : c = many := by omega
    have b2 : o = off := by omega
    have hU := b_nu R.m
    have ec := e_laidCount w n hU hc cU (by omega) cd
    have ed := e_layDiff w hU (by omega) ho oU cd
    refine ⟨if a = 0 then nI c else nI o, dp Y, dp V, ?_, ?_, ?_⟩
    · unfold F_X11_laying
      simp only [nm]
      rw [e_from, Option.bind_some, ite_b, if_pos c1, rf_11_7 R.1, Option.bind_some, rf_11_5 R.1, Option.bind_some, rf_11_3 R.1, Option.bind_some, l, Option.bind_some, wd_dp x.1, rf_11_7 RY.1, Option.bind_some, Option.bind_some, ec, Option.bind_some, ed, Option.bind_some]
      split <;> rfl
    · rw [wd_dp x.1]
      unfold F_X12_laying
      simp only [nm]
      rw [e_in_0_1, Option.bind_some, ite_b, if_pos c1, fr, Option.bind_some, wd_dp xZ.1, ly, Option.bind_some, wd_dp xV.1, v1, v2, b1, b2]
      split <;> rfl
    · rw [wd_dp x.1, wd_dp (xV.1.trans xZ.1)]
      exact (xV.sq S70_la).rl ((xZ.sq S71_la).rl RY)
  · refine ⟨-2, dp h, dp h, ?_, ?_, R⟩
    · unfold F_X11_laying
      rw [e_from, Option.bind_some, ite_b, if_neg c1]
    · unfold F_X12_laying
      simp only [wd_self]
      rw [e_in_0_1, Option.bind_some, ite_b, if_neg c1]
