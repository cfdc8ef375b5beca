/-! stage III: the laying, the class -/
def dfN (m : Nat → Nat → Int32) (u b : Nat) : Nat := fb_sm (fun t => apV m u b t) 5
theorem dfN_le {m : Nat → Nat → Int32} (W : MW m) {u b : Nat} (hu : u < NU m) (hb : b < NB m) : dfN m u b ≤ 49995 := by
  have : dfN m u b ≤ 5 * 9999 := fb_sm_bound (fun t ht => apV_le W hu hb ht)
  omega
theorem tcN_t {m : Nat → Nat → Int32} {u b : Nat} : ∀ n, tcN m u b n = true → ∀ t, t < n → apV m u b t ≤ (m 67 u).toNatClampNeg := by
  intro n
  induction n with
  | zero => intro _ t ht; omega
  | succ n ih =>
    intro h t ht
    have h' : (tcN m u b n && decide (apV m u b n ≤ (m 67 u).toNatClampNeg)) = true := h
    rw [Bool.and_eq_true, decide_eq_true_iff] at h'
    by_cases q : t = n
    · subst q; exact h'.2
    · exact ih h'.1 t (by omega)
theorem dfN_cb {m : Nat → Nat → Int32} (W : MW m) {u b : Nat} (hu : u < NU m) (h : cbV m u b = true) : dfN m u b ≤ 495 := by
  unfold cbV at h
  rw [Bool.and_eq_true, Bool.and_eq_true] at h
  have h1 := (n_67 W hu).2
  have : dfN m u b ≤ 5 * 99 := fb_sm_bound (fun t ht => Nat.le_trans (tcN_t 5 h.2.2 t ht) h1)
  omega
theorem e_difference {h : HP} (R : RQ h) {u o b : Nat} (hu : u < NU (ms h)) (U : UO h u o) (hb : b < NB (ms h)) : F_X10_difference o b h = some (nI (dfN (ms h) u b)) := by
  have key : loopN LF (B_X10_difference_4 o b h) (nI (fb_sm (fun t => apV (ms h) u b t) 0), nI 0) = some (nI (dfN (ms h) u b)) := by
    refine loopS (fun t => (nI (fb_sm (fun t => apV (ms h) u b t) t), nI t)) 5 (by omega) (fun t ht => ?_) ?_
    · unfold B_X10_difference_4
      simp only [nm, u2]
      rw [if_neg (show ¬ (5 : Int32) ≤ nI t from nI_ge (b := 5) ht (by omega)), e_apart R hu U hb ht, Option.bind_some, nI_add, nI_1]
      rw [fb_sm_succ]
    · unfold B_X10_difference_4
      simp only [nm, u2]
      rw [if_pos (show (5 : Int32) ≤ nI 5 from nI_le (a := 5) (Nat.le_refl _) (by omega))]
      rfl
  unfold F_X10_difference
  rw [show loopN LF (B_X10_difference_4 o b h) (0, 0) = _ from key]
  rfl
theorem fig_v : ∀ u, u < 8 → (FIG u).toInt = ((21 ^ (7 - u) : Nat) : Int) := by decide +kernel
theorem fig_b : ∀ u, u < 8 → 1 ≤ 21 ^ (7 - u) ∧ 21 ^ (7 - u) ≤ 1801088541 := by decide +kernel
theorem nl_v {F : Int64} {p : Nat} (f1 : F.toInt = (p : Int)) (f2 : 1 ≤ p ∧ p ≤ 1801088541) : (154922431942656 + 20 * F).toInt = 154922431942656 + 20 * (p : Int) := by
  have c2 : (20 : Int64).toInt = 20 := by decide +kernel
  have c3 : (154922431942656 : Int64).toInt = 154922431942656 := by decide +kernel
  have m3 : (20 * F).toInt = 20 * (p : Int) := by rw [fb_mulL (by rw [c2, f1]; omega) (by rw [c2, f1]; omega), c2, f1]
  rw [fb_addL (by rw [c3, m3]; omega) (by rw [c3, m3]; omega), c3, m3]
theorem chg_w {F : Int64} {p : Nat} (f1 : F.toInt = (p : Int)) (f2 : 1 ≤ p ∧ p ≤ 1801088541) {b d : Nat} (hb : b ≤ 20) (hd : d ≤ 49995) : (((nI d).toInt64 * 37822859361 + (nI b).toInt64 * F) - (154922431942656 + 20 * F)).toInt = (d : Int) * 37822859361 + (b : Int) * (p : Int) - (154922431942656 + 20 * (p : Int)) := by
  have s1 := nl_v f1 f2
  have a1 : ((nI d).toInt64).toInt = (d : Int) := by rw [Int32.toInt_toInt64, nI_toInt (by omega)]
  have a2 : ((nI b).toInt64).toInt = (b : Int) := by rw [Int32.toInt_toInt64, nI_toInt (by omega)]
  have c1 : (37822859361 : Int64).toInt = 37822859361 := by decide +kernel
  have q1 : (b : Int) * (p : Int) ≤ 20 * (p : Int) := Int.mul_le_mul_of_nonneg_right (by omega) (by omega)
  have q0 : 0 ≤ (b : Int) * (p : Int) := Int.mul_nonneg (by omega) (by omega)
  have m2 : ((nI b).toInt64 * F).toInt = (b : Int) * (p : Int) := by rw [fb_mulL (by rw [a2, f1]; omega) (by rw [a2, f1]; omega), a2, f1]
  have m1 : ((nI d).toInt64 * 37822859361).toInt = (d : Int) * 37822859361 := by rw [fb_mulL (by rw [a1, c1]; omega) (by rw [a1, c1]; omega), a1, c1]
  generalize (nI b).toInt64 * F = B at m2 ⊢
  generalize (nI d).toInt64 * 37822859361 = A at m1 ⊢
  generalize 154922431942656 + 20 * F = C at s1 ⊢
  have hp : (1 : Int) ≤ (p : Int) ∧ (p : Int) ≤ 1801088541 := by omega
  have hd' : (0 : Int) ≤ (d : Int) ∧ (d : Int) ≤ 49995 := by omega
  generalize (b : Int) * (p : Int) = Q at q0 q1 m2 ⊢
  generalize (p : Int) = P at hp q1 s1 ⊢
  generalize (d : Int) = D at hd' m1 ⊢
  have k1 : -9223372036854775808 ≤ D * 37822859361 + Q := by omega
  have k2 : D * 37822859361 + Q < 9223372036854775808 := by omega
  have k3 : -9223372036854775808 ≤ D * 37822859361 + Q - (154922431942656 + 20 * P) := by omega
  have k4 : D * 37822859361 + Q - (154922431942656 + 20 * P) < 9223372036854775808 := by omega
  have s0 : (A + B).toInt = D * 37822859361 + Q := by
    have := fb_addL (x := A) (y := B) (by rw [m1, m2]; exact k1) (by rw [m1, m2]; exact k2)
    rw [this, m1, m2]
  have := fb_subL (x := A + B) (y := C) (by rw [s0, s1]; exact k3) (by rw [s0, s1]; exact k4)
  rw [this, s0, s1]
theorem chg_v {u b d : Nat} (hu : u < 8) (hb : b ≤ 20) (hd : d ≤ 49995) : (((nI d).toInt64 * 37822859361 + (nI b).toInt64 * FIG u) - (154922431942656 + 20 * FIG u)).toInt = (d : Int) * 37822859361 + (b : Int) * ((21 ^ (7 - u) : Nat) : Int) - (154922431942656 + 20 * ((21 ^ (7 - u) : Nat) : Int)) := chg_w (fig_v u hu) (fig_b u hu) hb hd
theorem minl_t (x y : Int64) : F_J_minl x y = some (if y.toInt < x.toInt then y else x) := by
  unfold F_J_minl
  by_cases c : y.toInt < x.toInt
  · rw [if_pos c, if_pos ((lg_cmp_gt x y).mpr ((fa_lt64 y x).mpr c))]
  · rw [if_neg c, if_neg (fun q => c ((fa_lt64 y x).mp ((lg_cmp_gt x y).mp q)))]
/-- the table in the heap -/
def TB5 (U : Nat) (G : Nat → Option Int) (X : HP) : Prop :=
  (∀ S, S < 2 ^ U → G S = none → gl X 35 0 S = 4611686018427387904) ∧ ∀ S v, S < 2 ^ U → G S = some v → (gl X 35 0 S).toInt = v
def S35 (k s : Nat) : Bool := Nat.beq k 35
def S36 (k s : Nat) : Bool := Nat.beq k 36
def S5 (k s : Nat) : Bool := Nat.beq k 5 || (Nat.beq k 35 || Nat.beq k 36)
theorem S5_la : ∀ k s, S5 k s = true → la k s = false := by
  intro k s e
  unfold S5 at e
  simp only [Bool.or_eq_true, Nat.beq_eq] at e
  rcases e with rfl | rfl | rfl <;> rfl
theorem S35_5 : ∀ k s, S5 k s = false → S35 k s = false := by
  intro k s e
  unfold S5 at e
  simp only [Bool.or_eq_false_iff] at e
  exact e.2.1
theorem S36_5 : ∀ k s, S5 k s = false → S36 k s = false := by
  intro k s e
  unfold S5 at e
  simp only [Bool.or_eq_false_iff] at e
  exact e.2.2
theorem nev_v : (4611686018427387904 : Int64).toInt = 4611686018427387904 := by decide +kernel
/-- a worth is small -/
theorem worth_b {U B : Nat} {ok : Nat → Nat → Bool} {df : Nat → Nat → Int} {g : Nat → Nat} (hU : U ≤ 8) (hB : B ≤ 20) (hd : ∀ u b, u < U → b < B → ok u b = true → 0 ≤ df u b ∧ df u b ≤ 495) (a : AS U ok B g) : 0 ≤ vC U + VS U (cC df) g ∧ vC U + VS U (cC df) g ≤ 2000000000000000 := by
  have h1 := VS_bound a hd
  have h2 := cnG_bound U g
  have h3 := cd_bound (g := g) hU (fun u hu => a.le20 hB hu)
  rw [worth_eq]
  omega
theorem pow8 {U : Nat} (hU : U ≤ 8) : 2 ^ U ≤ 256 := by
  have h : 2 ^ U ≤ 2 ^ 8 := Nat.pow_le_pow_right (by omega) hU
  omega
theorem e_layin {X : HP} {U b x T : Nat} {ok : Nat → Nat → Bool} {df : Nat → Nat → Int} {F G : Nat → Option Int} {v : Int} (a4 : Int32) (hU : U ≤ 8) (hb : b < 20) (d : DPI U ok (cC df) (vC U) b F)
    (hd : ∀ u c, u < U → c < 20 → ok u c = true → 0 ≤ df u c ∧ df u c ≤ 495) (r0 : gr X 5 0 0 = some 0) (r1 : gr X 5 0 1 = some 0) (n2 : gi X 5 0 2 = nI U)
    (x36 : ∀ u, u < U → (gl X 36 0 u).toInt = cC df u b) (cb : ∀ u, u < U → -200000000000000 ≤ cC df u b ∧ cC df u b ≤ 2100000000000000)
    (s : STo U ok (cC df) (vC U) b F (x + 1) G) (tb : TB5 U G X) (hx : x < 2 ^ U) (ne : G x = some v) (hT : T < 256) (tT : ∀ u, u < U → T.testBit u = (ok u b && !x.testBit u)) :
    ∃ r, loopN LF (B_X5_layBell_95 0 a4 (nI x) (nI T) X) (0, dp X) = some r ∧ ∃ Y G', r = dp Y ∧ EX S35 X Y ∧ STo U ok (cC df) (vC U) b F x G' ∧ TB5 U G' Y := by
  have p8 := pow8 hU
  refine loopI (fun j q => ∃ Y G, q = (nI j, dp Y) ∧ j ≤ U ∧ EX S35 X Y ∧ STp U ok (cC df) (vC U) b F (x + 1) x j G ∧ TB5 U G Y) _ U (by omega) ⟨X, G, rfl, Nat.zero_le _, EX.rfl' X, s.enter, tb⟩ ?_
  rintro j q hj ⟨Y, G, rfl, -, xY, sY, tY⟩
  have hwd : wd X (dp Y) = Y := wd_dp xY.1
  have r0' : gr Y 5 0 0 = some 0 := by rw [gr_22 xY.1]; exact r0
  have r1' : gr Y 5 0 1 = some 0 := by rw [gr_22 xY.1]; exact r1
  have n2' : gi Y 5 0 2 = nI U := by rw [xY.2.1 5 0 2 rfl]; exact n2
  by_cases c : j < U
  · left
    have hbit := tT j c
    have e36 : (gl Y 36 0 j).toInt = cC df j b := by rw [xY.2.2 36 0 j rfl]; exact x36 j c
    have hGx : G x = some v := by
      rw [sY.2.1 x (by omega), ← s.2.1 x (by omega)]
      exact ne
    by_cases ct : T.testBit j = true
    · rw [ct] at hbit
      have hb2 := hbit.symm
      rw [Bool.and_eq_true, Bool.not_eq_true'] at hb2
      obtain ⟨hok, hxj⟩ := hb2
      have hw : x ||| 2 ^ j < 2 ^ U := or_lt2 hx c
      have ev : (gl Y 35 0 x).toInt = v := tY.2 x v hx hGx
      obtain ⟨g1, ag1, -, vg1⟩ := sY.1 x v hx hGx
      have bv := worth_b hU (B := b + 1) (by omega) (fun u c hu hc h => hd u c hu (by omega) h) ag1
      rw [← vg1] at bv
      have bc := cb j c
      have es : (gl Y 35 0 x + gl Y 36 0 j).toInt = v + cC df j b := by
        rw [fb_addL (by rw [ev, e36]; omega) (by rw [ev, e36]; omega), ev, e36]
      have new := sY.upd hb d hx c hGx hxj hok
      have emin : (if (gl Y 35 0 x + gl Y 36 0 j).toInt < (gl Y 35 0 (x ||| 2 ^ j)).toInt then gl Y 35 0 x + gl Y 36 0 j else gl Y 35 0 (x ||| 2 ^ j)).toInt = tmn (G (x ||| 2 ^ j)) (v + cC df j b) := by
        cases hg : G (x ||| 2 ^ j) with
        | none =>
          rw [tY.1 _ hw hg, es, nev_v, if_pos (by omega), es]
          rfl
        | some w =>
          have ew := tY.2 _ w hw hg
          rw [es, ew]
          show _ = if w ≤ v + cC df j b then w else v + cC df j b
          by_cases q : w ≤ v + cC df j b
          · rw [if_neg (by omega), if_pos q, ew]
          · rw [if_pos (by omega), if_neg q, es]
      refine ⟨(nI (j + 1), dp (sL Y 35 0 (x ||| 2 ^ j) (if (gl Y 35 0 x + gl Y 36 0 j).toInt < (gl Y 35 0 (x ||| 2 ^ j)).toInt then gl Y 35 0 x + gl Y 36 0 j else gl Y 35 0 (x ||| 2 ^ j)))), c, ?_, _, _, rfl, by omega, xY.sL 0 _ rfl, new, fun S hS e => ?_, fun S w hS e => ?_⟩
      · unfold B_X5_layBell_95
        simp only [nm, u2, hwd]
        rw [n2', if_neg (nI_ge c (by omega)), bt_test (show T < 2147483648 by omega) (show j < 31 by omega), ite_b1, if_pos ct, bt_or (show j < 31 by omega), r0', Option.bind_some, Option.bind_some, gal_v (show x ||| 2 ^ j < 256 by omega) (by omega), Option.bind_some, Option.bind_some, gal_v (show x < 256 by omega) (by omega), Option.bind_some, r1', Option.bind_some, gal_v (show j < 8 by omega) (by omega), Option.bind_some, minl_t, Option.bind_some, sal_v (show x ||| 2 ^ j < 256 by omega) (by omega), Option.bind_some, nI_1]
      · rw [gl_sl]
        unfold tup at e
        by_cases q : S = x ||| 2 ^ j
        · rw [if_pos q] at e; cases e
        · rw [if_neg q] at e
          rw [if_neg (fun z => q z.2.2)]
          exact tY.1 S hS e
      · rw [gl_sl]
        unfold tup at e
        by_cases q : S = x ||| 2 ^ j
        · rw [if_pos q] at e
          injection e with e
          rw [if_pos ⟨rfl, rfl, q⟩, emin, e]
        · rw [if_neg q] at e
          rw [if_neg (fun z => q z.2.2)]
          exact tY.2 S w hS e
    · refine ⟨(nI (j + 1), dp Y), c, ?_, Y, G, rfl, by omega, xY, sY.skip ?_, tY⟩
      · unfold B_X5_layBell_95
        simp only [nm, u2, hwd]
        rw [n2', if_neg (nI_ge c (by omega)), bt_test (show T < 2147483648 by omega) (show j < 31 by omega), ite_b1, if_neg ct, nI_1]
      · rintro ⟨z1, z2⟩
        rw [z1, z2] at hbit
        exact ct hbit
  · right
    have : j = U := by omega
    subst this
    refine ⟨dp Y, ?_, Y, G, rfl, xY, sY.leave, tY⟩
    unfold B_X5_layBell_95
    simp only [nm, u2, hwd]
    rw [n2', if_pos (nI_le (Nat.le_refl _) (by omega))]
theorem bt_nI {n i : Nat} (hi : i < 32) : bt (nI n) i = n.testBit i := by
  unfold bt
  show (BitVec.ofNat 32 n).getLsbD i = _
  rw [BitVec.getLsbD_ofNat, decide_eq_true hi, Bool.true_and]
/-- takers that are not in the set -/
theorem open_v {t x : Nat} {p : Nat → Bool} {U : Nat} (hU : U ≤ 8) (ht : t = mskB p U) : nI t &&& (nI x ^^^ (-1)) = nI (mskB (fun u => p u && !x.testBit u) U) := by
  apply b_ext
  intro i hi
  rw [b_and, b_xor, b_m1 i hi, bt_nI hi, bt_nI hi, bt_nI hi, ht, mskB_bit, mskB_bit, Bool.xor_true, Bool.and_assoc]
theorem e_layset {X : HP} {U b : Nat} {ok : Nat → Nat → Bool} {df : Nat → Nat → Int} {F : Nat → Option Int} (hU : U ≤ 8) (hb : b < 20) (d : DPI U ok (cC df) (vC U) b F)
    (hd : ∀ u c, u < U → c < 20 → ok u c = true → 0 ≤ df u c ∧ df u c ≤ 495) (r0 : gr X 5 0 0 = some 0) (r1 : gr X 5 0 1 = some 0) (n2 : gi X 5 0 2 = nI U)
    (x36 : ∀ u, u < U → (gl X 36 0 u).toInt = cC df u b) (cb : ∀ u, u < U → -200000000000000 ≤ cC df u b ∧ cC df u b ≤ 2100000000000000) (tb : TB5 U F X) :
    ∃ r, loopN LF (B_X5_layBell_64 0 (nI (mskB (fun u => ok u b) U)) X) (nI (2 ^ U) - 1, dp X) = some r ∧ ∃ Y G, r = dp Y ∧ EX S35 X Y ∧ DPI U ok (cC df) (vC U) (b + 1) G ∧ TB5 U G Y := by
  have p8 := pow8 hU
  refine loopI (fun j q => ∃ y Y G, y + j = 2 ^ U ∧ q = (nI y - 1, dp Y) ∧ EX S35 X Y ∧ STo U ok (cC df) (vC U) b F y G ∧ TB5 U G Y) _ (2 ^ U) (by omega) ⟨2 ^ U, X, F, by omega, rfl, EX.rfl' X, STo.begin d, tb⟩ ?_
  rintro j q hj ⟨y, Y, G, hy, rfl, xY, sY, tY⟩
  have hwd : wd X (dp Y) = Y := wd_dp xY.1
  have r0' : gr Y 5 0 0 = some 0 := by rw [gr_22 xY.1]; exact r0
  have r1' : gr Y 5 0 1 = some 0 := by rw [gr_22 xY.1]; exact r1
  have n2' : gi Y 5 0 2 = nI U := by rw [xY.2.1 5 0 2 rfl]; exact n2
  cases y with
  | zero =>
    right
    refine ⟨dp Y, ?_, Y, G, rfl, xY, sY.fin hb d, tY⟩
    unfold B_X5_layBell_64
    simp only [nm, u2, hwd]
    rw [if_pos (show nI 0 - 1 < 0 by decide)]
  | succ x =>
    left
    have hx : x < 2 ^ U := by omega
    rw [nI_pred]
    cases hg : G x with
    | none =>
      refine ⟨(nI x - 1, dp Y), by omega, ?_, x, Y, G, by omega, rfl, xY, sY.none hg, tY⟩
      unfold B_X5_layBell_64
      simp only [nm, u2, hwd]
      rw [if_neg (nI_pos (n := x) (by omega)), r0', Option.bind_some, gal_v (show x < 256 by omega) (by omega), Option.bind_some, tY.1 x hx hg, if_pos ((lg_cmp_eq _ _).mpr rfl), add_m1]
    | some v =>
      have ev := tY.2 x v hx hg
      obtain ⟨g1, ag1, -, vg1⟩ := sY.1 x v hx hg
      have bv := worth_b hU (B := b + 1) (by omega) (fun u c hu hc h => hd u c hu (by omega) h) ag1
      rw [← vg1] at bv
      have nn : ¬ lg_cmp (gl Y 35 0 x) 4611686018427387904 = 0 := by
        rw [lg_cmp_eq]
        intro z
        rw [z, nev_v] at ev
        omega
      obtain ⟨r, l1, Z, G', rfl, xZ, sZ, tZ⟩ := e_layin (X := Y) (T := mskB (fun u => ok u b && !x.testBit u) U) (nI (mskB (fun u => ok u b) U)) hU hb d hd r0' r1' n2' (fun u hu => by rw [xY.2.2 36 0 u rfl]; exact x36 u hu) cb sY tY hx hg (by have := mskB_lt (fun u => ok u b && !x.testBit u) U; omega) (fun u hu => by rw [mskB_bit, decide_eq_true hu, Bool.true_and])
      refine ⟨(nI x - 1, dp Z), by omega, ?_, x, Z, G', by omega, rfl, xY.trans xZ, sZ, tZ⟩
      unfold B_X5_layBell_64
      simp only [nm, u2, hwd]
      rw [if_neg (nI_pos (n := x) (by omega)), r0', Option.bind_some, gal_v (show x < 256 by omega) (by omega), Option.bind_some, if_neg nn, open_v hU rfl, l1, Option.bind_some, add_m1, wd_dp xZ.1]
