/-! stage III: what can be sent, the class -/
def S8 (k s : Nat) : Bool := Nat.beq k 8 || Nat.beq k 38
theorem nlt_inv {a b : Nat} (ha : a < 2 ^ 31) (h : nI a < nI b) : a < b := by
  rcases Nat.lt_or_ge a b with q | q
  · exact q
  · exact absurd (nI_le q ha) (fa_of_lt h).2.1
theorem nlt_not {a b : Nat} (h : b ≤ a) (ha : a < 2 ^ 31) : ¬ nI a < nI b := fun q => (fa_of_lt q).2.1 (nI_le h ha)
theorem S8_la : ∀ k s, S8 k s = true → la k s = false := by
  intro k s e
  unfold S8 at e
  simp only [Bool.or_eq_true, Nat.beq_eq] at e
  rcases e with rfl | rfl <;> rfl
theorem e_gin {X : HP} (R : RQ X) {i n : Nat} {f : Nat → Nat} (hi : i < NB (ms X)) (hn : n < 10) (hf : ∀ k, k < n → f k < NB (ms X)) (hr : ∀ k, k < n → gi X 38 0 k = nI (f k)) :
    ∃ r : Int32 × DP, loopN LF (B_X8_gather_42 0 0 (nI i) X) (nI n, dp X) = some r ∧ ∃ p Y, r = (nI p, dp Y) ∧ EX S8 X Y ∧ gi Y 8 0 1 = gi X 8 0 1 ∧ p ≤ n ∧ (∀ k, k < p → gi Y 38 0 k = nI (f k)) ∧ (∀ k, p < k → k ≤ n → gi Y 38 0 k = nI (f (k - 1))) ∧ (p = 0 ∨ uN (ms X) (f (p - 1)) ≤ uN (ms X) i) ∧ ∀ k, p ≤ k → k < n → uN (ms X) i < uN (ms X) (f k) := by
  have hb := b_nb R.m
  refine loopI (fun j q => ∃ p Y, p + j = n ∧ q = (nI p, dp Y) ∧ EX S8 X Y ∧ gi Y 8 0 1 = gi X 8 0 1 ∧ (∀ k, k < p → gi Y 38 0 k = nI (f k)) ∧ (∀ k, p < k → k ≤ n → gi Y 38 0 k = nI (f (k - 1))) ∧ ∀ k, p ≤ k → k < n → uN (ms X) i < uN (ms X) (f k)) _ n (by omega) ⟨n, X, by omega, rfl, EX.rfl' X, rfl, hr, fun k h1 h2 => by omega, fun k h1 h2 => by omega⟩ ?_
  rintro j q hj ⟨p, Y, hp, rfl, x, y1, y2, y3, y4⟩
  have hwd : wd X (dp Y) = Y := wd_dp x.1
  have RY : RQ Y := (x.sq S8_la).rl R
  have eY : ms Y = ms X := (x.sq S8_la).mq
  cases p with
  | zero =>
    right
    refine ⟨_, ?_, 0, Y, rfl, x, y1, Nat.zero_le _, fun k hk => by omega, y3, Or.inl rfl, y4⟩
    unfold B_X8_gather_42
    simp only [nm, u2, hwd]
    rw [if_pos (show nI 0 ≤ 0 from nI_le (a := 0) (b := 0) (by omega) (by omega))]
  | succ p =>
    have hu1 := vw_u R.m (hf p (by omega))
    have hu2 := vw_u R.m hi
    have hfp := hf p (by omega)
    have u1 : gi Y 1 (f p) 10 = nI (uN (ms X) (f p)) := by rw [cb_10 RY (by rw [eY]; exact hfp), eY]; exact hu1.1
    have u2' : gi Y 1 i 10 = nI (uN (ms X) i) := by rw [cb_10 RY (by rw [eY]; exact hi), eY]; exact hu2.1
    have start : B_X8_gather_42 0 0 (nI i) X (nI (p + 1), dp Y) = if nI (uN (ms X) (f p)) ≤ nI (uN (ms X) i) then some (.inr (nI (p + 1), dp Y)) else some (.inl (nI p, dp (si Y 38 0 (p + 1) (nI (f p))))) := by
      unfold B_X8_gather_42
      simp only [nm, u2, hwd]
      rw [if_neg (show ¬ nI (p + 1) ≤ 0 from nI_ge (b := p + 1) (a := 0) (by omega) (by omega)), rf_2_0 RY.1, Option.bind_some, rf_8_0 RY.1, Option.bind_some, nI_pred, ga_v (show p < 10 by omega) (by omega), Option.bind_some, y2 p (by omega), gar_v (by omega) (by omega), rb_23 RY (by rw [eY]; exact hfp), Option.bind_some, Option.bind_some, gar_v (by omega) (by omega), rb_23 RY (by rw [eY]; exact hi), Option.bind_some, u1, u2', Option.bind_some, Option.bind_some, ga_v (show p < 10 by omega) (by omega), Option.bind_some, y2 p (by omega), sa_v (show p + 1 < 10 by omega) (by omega), Option.bind_some]
      rw [add_m1, nI_pred]
    by_cases c : uN (ms X) (f p) ≤ uN (ms X) i
    · right
      refine ⟨_, ?_, p + 1, Y, rfl, x, y1, by omega, y2, y3, Or.inr (by show uN (ms X) (f (p + 1 - 1)) ≤ _; rw [Nat.add_sub_cancel]; exact c), y4⟩
      rw [start, if_pos (nI_le c (by omega))]
    · left
      refine ⟨_, by omega, (by rw [start, if_neg (nI_ge (by omega) (by omega))]), p, _, by omega, rfl, x.si 0 _ rfl, ?_, fun k hk => ?_, fun k h1 h2 => ?_, fun k h1 h2 => ?_⟩
      · rw [gi_si, if_neg (by omega)]; exact y1
      · rw [gi_si, if_neg (by omega)]; exact y2 k (by omega)
      · by_cases q : k = p + 1
        · subst q
          rw [gi_si, if_pos ⟨rfl, rfl, rfl⟩, Nat.add_sub_cancel]
        · rw [gi_si, if_neg (by omega)]; exact y3 k (by omega) h2
      · by_cases q : k = p
        · subst q; omega
        · exact y4 k (by omega) h2
/-- where a new one is put in -/
def ins (f : Nat → Nat) (p i : Nat) : Nat → Nat := fun k => if k < p then f k else if k = p then i else f (k - 1)
theorem ins_lo (f : Nat → Nat) {p k : Nat} (i : Nat) (h : k < p) : ins f p i k = f k := by unfold ins; rw [if_pos h]
theorem ins_at (f : Nat → Nat) (p i : Nat) : ins f p i p = i := by unfold ins; rw [if_neg (by omega), if_pos rfl]
theorem ins_hi (f : Nat → Nat) {p k : Nat} (i : Nat) (h : p < k) : ins f p i k = f (k - 1) := by unfold ins; rw [if_neg (by omega), if_neg (by omega)]
theorem ins_inj {f : Nat → Nat} {n p i : Nat} (I : INJ f n) (hp : p ≤ n) (hi : ∀ k, k < n → f k ≠ i) : INJ (ins f p i) (n + 1) := by
  intro a b ha hb e
  rcases Nat.lt_trichotomy a p with qa | qa | qa
  · rw [ins_lo f i qa] at e
    rcases Nat.lt_trichotomy b p with qb | qb | qb
    · rw [ins_lo f i qb] at e; exact I a b (by omega) (by omega) e
    · subst qb; rw [ins_at] at e; exact absurd e (hi a (by omega))
    · rw [ins_hi f i qb] at e; have := I a (b - 1) (by omega) (by omega) e; omega
  · subst qa
    rw [ins_at] at e
    rcases Nat.lt_trichotomy b a with qb | qb | qb
    · rw [ins_lo f i qb] at e; exact absurd e.symm (hi b (by omega))
    · exact qb.symm
    · rw [ins_hi f i qb] at e; exact absurd e.symm (hi (b - 1) (by omega))
  · rw [ins_hi f i qa] at e
    rcases Nat.lt_trichotomy b p with qb | qb | qb
    · rw [ins_lo f i qb] at e; have := I (a - 1) b (by omega) (by omega) e; omega
    · subst qb; rw [ins_at] at e; exact absurd e (hi (a - 1) (by omega))
    · rw [ins_hi f i qb] at e; have := I (a - 1) (b - 1) (by omega) (by omega) e; omega
theorem ins_has {f : Nat → Nat} {n p i : Nat} (hp : p ≤ n) (b : Nat) : hasF (ins f p i) b (n + 1) = true ↔ hasF f b n = true ∨ b = i := by
  rw [hasF_iff, hasF_iff]
  constructor
  · rintro ⟨v, hv, e⟩
    rcases Nat.lt_trichotomy v p with q | q | q
    · rw [ins_lo f i q] at e; exact Or.inl ⟨v, by omega, e⟩
    · subst q; rw [ins_at] at e; exact Or.inr e.symm
    · rw [ins_hi f i q] at e; exact Or.inl ⟨v - 1, by omega, e⟩
  · rintro (⟨v, hv, e⟩ | rfl)
    · by_cases q : v < p
      · exact ⟨v, by omega, by rw [ins_lo f i q]; exact e⟩
      · exact ⟨v + 1, by omega, by rw [ins_hi f i (show p < v + 1 by omega), Nat.add_sub_cancel]; exact e⟩
    · exact ⟨p, by omega, ins_at f p b⟩
/-- what the class has gathered -/
def GC (h X : HP) (i n : Nat) (f : Nat → Nat) : Prop :=
  EX S8 h X ∧ gi X 8 0 1 = nI n ∧ (∀ k, k < n → gi X 38 0 k = nI (f k)) ∧ GTH (ms h) i n f ∧ ∀ j k, j < k → k < n → uN (ms h) (f j) ≤ uN (ms h) (f k)
theorem GC.n10 {h X : HP} {i n : Nat} {f : Nat → Nat} (g : GC h X i n f) : n ≤ 10 := by have := g.2.2.2.1.1; omega
theorem e_gather {h : HP} (R : RQ h) : ∃ r : DP, F_X8_gather 0 0 h = some r ∧ ∃ X n f, r = dp X ∧ GC h X (NB (ms h)) n f := by
  have hb := b_nb R.m
  have x1 : EX S8 h (si h 8 0 1 0) := (EX.rfl' h).si 0 _ rfl
  have l1 : ∃ r : DP, loopN LF (B_X8_gather_7 0 0 (si h 8 0 1 0)) (0, dp (si h 8 0 1 0)) = some r ∧ ∃ X n f, r = dp X ∧ GC h X (NB (ms h)) n f := by
    refine loopI (fun i q => ∃ X n f, q = (nI i, dp X) ∧ GC h X i n f) _ (NB (ms h)) (by omega) ⟨si h 8 0 1 0, 0, fun _ => 0, rfl, x1, by rw [gi_si, if_pos ⟨rfl, rfl, rfl⟩]; rfl, fun k hk => absurd hk (Nat.not_lt_zero k), GTH.zero _ _, fun j k _ hk => absurd hk (Nat.not_lt_zero k)⟩ ?_
    rintro i q hi ⟨X, n, f, rfl, g⟩
    have hn10 := g.n10
    obtain ⟨x, g1, g2, g3, g4⟩ := g
    have hwd : wd (si h 8 0 1 0) (dp X) = X := wd_dp (x.1.trans x1.1.symm)
    have RX : RQ X := (x.sq S8_la).rl R
    have eX : ms X = ms h := (x.sq S8_la).mq
    have e21 : gi X 2 0 1 = nI (NB (ms h)) := by rw [cw_nb RX, eX]; exact v_nb R.m
    by_cases c : i < NB (ms h)
    · by_cases c2 : 10 ≤ n
      · right
        refine ⟨dp X, ?_, X, n, f, rfl, x, g1, g2, g3.full c2 (by omega), g4⟩
        unfold B_X8_gather_7
        simp only [nm, u2, hwd]
        rw [e21, if_neg (nI_ge c (by omega)), g1, if_pos (show (10 : Int32) ≤ nI n from nI_le (a := 10) c2 (by omega))]
      · have st := e_stateNow RX (b := i) (by rw [eX]; exact c)
        rw [eX] at st
        by_cases c3 : stV (ms h) i = 3
        · have yd : ydV (ms h) i = true := decide_eq_true c3
          left
          obtain ⟨r, lp, p, Y, rfl, xY, y1, y2, y3, y4, y5, y6⟩ := e_gin RX (i := i) (n := n) (f := f) (by rw [eX]; exact c) (by omega) (fun k hk => by rw [eX]; have := g3.lt hk; omega) g2
          rw [eX] at y5 y6
          have hwd2 : wd X (dp Y) = Y := wd_dp xY.1
          have RY : RQ Y := (xY.sq S8_la).rl RX
          refine ⟨(nI (i + 1), dp (si (si Y 38 0 p (nI i)) 8 0 1 (nI (n + 1)))), c, ?_, _, n + 1, ins f p i, rfl, ?_, ?_, ?_, ?_, ?_⟩
          · unfold B_X8_gather_7
            simp only [nm, u2, hwd]
            rw [e21, if_neg (nI_ge c (by omega)), g1, if_neg (show ¬ (10 : Int32) ≤ nI n from nI_ge (b := 10) (by omega) (by omega)), rf_2_0 RX.1, Option.bind_some, gar_v (by omega) (by omega), rb_23 RX (by rw [eX]; exact c), Option.bind_some, st, Option.bind_some, if_pos c3, lp, Option.bind_some]
            simp only [u2, hwd2]
            rw [rf_8_0 RY.1, Option.bind_some, sa_v (show p < 10 by omega) (by omega), Option.bind_some, gi_si, if_neg (show ¬ (8 = 38 ∧ 0 = 0 ∧ 1 = p) by omega), y1, g1, nI_1, nI_1]
          · exact (x.trans (xY.mono (fun _ _ e => e))).si 0 _ rfl |>.si 0 _ rfl
          · rw [gi_si, if_pos ⟨rfl, rfl, rfl⟩]
          · intro k hk
            rw [gi_si, if_neg (by omega), gi_si]
            rcases Nat.lt_trichotomy k p with q | q | q
            · rw [if_neg (by omega), ins_lo f i q]; exact y3 k q
            · subst q; rw [if_pos ⟨rfl, rfl, rfl⟩, ins_at]
            · rw [if_neg (by omega), ins_hi f i q]; exact y4 k q (by omega)
          · refine g3.add yd (by omega) (ins_inj g3.2.1 y2 (fun k hk e => by have := g3.lt hk; omega)) (ins_has y2)
          · intro j k hjk hk
            rcases Nat.lt_trichotomy k p with q | q | q
            · rw [ins_lo f i q, ins_lo f i (by omega)]; exact g4 j k hjk (by omega)
            · subst q
              rw [ins_at, ins_lo f i hjk]
              rcases y5 with z | z
              · omega
              · by_cases w : j = k - 1
                · subst w; exact z
                · exact Nat.le_trans (g4 j (k - 1) (by omega) (by omega)) z
            · rw [ins_hi f i q]
              rcases Nat.lt_trichotomy j p with w | w | w
              · rw [ins_lo f i w]
                by_cases v : j = k - 1
                · omega
                · exact g4 j (k - 1) (by omega) (by omega)
              · subst w; rw [ins_at]; exact Nat.le_of_lt (y6 (k - 1) (by omega) (by omega))
              · rw [ins_hi f i w]; exact g4 (j - 1) (k - 1) (by omega) (by omega)
        · left
          refine ⟨(nI (i + 1), dp X), c, ?_, X, n, f, rfl, x, g1, g2, g3.skip (decide_eq_false c3), g4⟩
          unfold B_X8_gather_7
          simp only [nm, u2, hwd]
          rw [e21, if_neg (nI_ge c (by omega)), g1, if_neg (show ¬ (10 : Int32) ≤ nI n from nI_ge (b := 10) (by omega) (by omega)), rf_2_0 RX.1, Option.bind_some, gar_v (by omega) (by omega), rb_23 RX (by rw [eX]; exact c), Option.bind_some, st, Option.bind_some, if_neg c3, nI_1]
    · right
      have : i = NB (ms h) := by omega
      subst this
      refine ⟨dp X, ?_, X, n, f, rfl, x, g1, g2, g3, g4⟩
      unfold B_X8_gather_7
      simp only [nm, u2, hwd]
      rw [e21, if_pos (nI_le (Nat.le_refl _) (by omega))]
  obtain ⟨r, l1, X, n, f, rfl, g⟩ := l1
  refine ⟨dp X, ?_, X, n, f, rfl, g⟩
  unfold F_X8_gather
  simp only [nm]
  rw [l1, Option.bind_some, wd_dp (g.1.1.trans x1.1.symm)]
/-! one set -/
theorem e_better {X : HP} {cb cc cw : Nat} (e2 : gi X 8 0 2 = nI cb) (e3 : gi X 8 0 3 = nI cc) (e4 : gi X 8 0 4 = nI cw) (h1 : cb < 1048576) (h2 : cc ≤ 20) (h3 : cw ≤ 1000000) {n w b : Nat} (n1 : n ≤ 20) (n2 : w ≤ 1000000) (n3 : b < 1048576) :
    F_X8_isBetter 0 (nI n) (nI w) (nI b) X = some (if cc < n ∨ (n = cc ∧ (cw < w ∨ (w = cw ∧ b < cb))) then 1 else 0) := by
  unfold F_X8_isBetter
  rw [e2, e3, e4]
  by_cases c1 : n = cc
  · subst c1
    rw [if_pos rfl]
    by_cases c2 : w = cw
    · subst c2
      rw [if_pos rfl]
      by_cases c3 : cb ≤ b
      · rw [if_pos (nI_le c3 (by omega)), if_neg (by omega)]
      · rw [if_neg (nI_ge (by omega) (by omega)), if_pos (by omega)]
    · rw [if_neg (fun q => c2 ((nI_eq (by omega) (by omega)).mp q))]
      by_cases c3 : w ≤ cw
      · rw [if_pos (nI_le c3 (by omega)), if_neg (by omega)]
      · rw [if_neg (nI_ge (by omega) (by omega)), if_pos (by omega)]
  · rw [if_neg (fun q => c1 ((nI_eq (by omega) (by omega)).mp q))]
    by_cases c3 : n ≤ cc
    · rw [if_pos (nI_le c3 (by omega)), if_neg (by omega)]
    · rw [if_neg (nI_ge (by omega) (by omega)), if_pos (by omega)]
/-- weights until place k, of those of s -/
theorem preN_s (f d : Nat → Nat) (s k : Nat) : preN f d s (k + 1) = preN f d s k + if s.testBit k = true then d (f k) else 0 := rfl
theorem preN_le {f d : Nat → Nat} {s k c : Nat} (h : ∀ j, j < k → d (f j) ≤ c) : preN f d s k ≤ k * c := by
  refine fb_sm_bound (fun j hj => ?_)
  have := h j hj
  show (if s.testBit j = true then d (f j) else 0) ≤ c
  split <;> omega
theorem e_conloop {h X : HP} (R : RQ h) {n : Nat} {f : Nat → Nat} (g : GC h X (NB (ms h)) n f) {Y : HP} (xY : EX S8 X Y) (yn : gi Y 8 0 1 = nI n) (yr : ∀ k, k < n → gi Y 38 0 k = nI (f k)) {s : Nat} (hs : s < 2 ^ n) :
    loopN LF (B_X8_consider_11 0 0 (nI s) Y) (0, 0, 0, 0) = some (if (∀ i, i < n → s.testBit i = true → preN f (dN (ms h)) s (i + 1) ≤ uN (ms h) (f i)) then .inr (nI (preN f (wN (ms h)) s n), nI (msS f s n)) else .inl ()) := by
  have hb := b_nb R.m
  have hn10 := g.n10
  obtain ⟨x, g1, g2, g3, g4⟩ := g
  have x' := x.trans xY
  have RY : RQ Y := (x'.sq S8_la).rl R
  have eY : ms Y = ms h := (x'.sq S8_la).mq
  have hs10 : s < 1024 := by
    have h : 2 ^ n ≤ 2 ^ 10 := Nat.pow_le_pow_right (by omega) hn10
    omega
  have hfN : ∀ k, k < n → f k < NB (ms h) := fun k hk => g3.lt hk
  have dle : ∀ j, j < n → dN (ms h) (f j) ≤ 99 := fun j hj => (vw_d R.m (hfN j hj)).2
  have wle : ∀ j, j < n → wN (ms h) (f j) ≤ 9999 := fun j hj => (vw_w R.m (hfN j hj)).2
  -- by turns left: at place i all before were in time
  have key : ∃ r, loopN LF (B_X8_consider_11 0 0 (nI s) Y) (0, 0, 0, 0) = some r ∧ r = (if (∀ i, i < n → s.testBit i = true → preN f (dN (ms h)) s (i + 1) ≤ uN (ms h) (f i)) then .inr (nI (preN f (wN (ms h)) s n), nI (msS f s n)) else .inl ()) := by
    refine loopI (fun i q => i ≤ n ∧ q = (nI (preN f (dN (ms h)) s i), nI (preN f (wN (ms h)) s i), nI (msS f s i), nI i) ∧ ∀ j, j < i → s.testBit j = true → preN f (dN (ms h)) s (j + 1) ≤ uN (ms h) (f j)) _ n (by omega) ⟨Nat.zero_le _, rfl, fun j hj => by omega⟩ ?_
    rintro i q hi ⟨-, rfl, q1⟩
    by_cases c : i < n
    · have hfi := hfN i c
      have a1 := preN_le (f := f) (d := dN (ms h)) (s := s) (k := i) (c := 99) (fun j hj => dle j (by omega))
      have a2 := preN_le (f := f) (d := wN (ms h)) (s := s) (k := i) (c := 9999) (fun j hj => wle j (by omega))
      have v9 : gi Y 1 (f i) 9 = nI (dN (ms h) (f i)) := by rw [cb_9 RY (by rw [eY]; exact hfi), eY]; exact (vw_d R.m hfi).1
      have v10 : gi Y 1 (f i) 10 = nI (uN (ms h) (f i)) := by rw [cb_10 RY (by rw [eY]; exact hfi), eY]; exact (vw_u R.m hfi).1
      have v1 : gi Y 1 (f i) 1 = nI (wN (ms h) (f i)) := by rw [cb_1 RY (by rw [eY]; exact hfi), eY]; exact (vw_w R.m hfi).1
      have hu := (vw_u R.m hfi).2
      have hd := dle i c
      have hmul1 : i * 99 ≤ 990 := by omega
      by_cases c2 : s.testBit i = true
      · have st : B_X8_consider_11 0 0 (nI s) Y (nI (preN f (dN (ms h)) s i), nI (preN f (wN (ms h)) s i), nI (msS f s i), nI i) = if nI (preN f (dN (ms h)) s (i + 1)) ≤ nI (uN (ms h) (f i)) then some (.inl (nI (preN f (dN (ms h)) s (i + 1)), nI (preN f (wN (ms h)) s (i + 1)), nI (msS f s (i + 1)), nI (i + 1))) else some (.inr (.inl ())) := by
          unfold B_X8_consider_11
          simp only [nm, u4]
          rw [yn, if_neg (nI_ge c (by omega)), bt_test (by omega) (by omega), ite_b1, if_pos c2, rf_2_0 RY.1, Option.bind_some, rf_8_0 RY.1, Option.bind_some, ga_v (show i < 10 by omega) (by omega), Option.bind_some, yr i c, gar_v (by omega) (by omega), rb_23 RY (by rw [eY]; exact hfi), Option.bind_some, v9, v10, v1, Option.bind_some, ga_v (show i < 10 by omega) (by omega), Option.bind_some, yr i c, bt_or (by omega), nI_add, nI_add, nI_1]
          rw [preN_s, preN_s, msS_s, if_pos c2, if_pos c2, if_pos c2]
        by_cases c3 : preN f (dN (ms h)) s (i + 1) ≤ uN (ms h) (f i)
        · left
          refine ⟨_, c, (by rw [st, if_pos (nI_le c3 (by omega))]), by omega, rfl, fun j hj hb => ?_⟩
          by_cases z : j = i
          · subst z; exact c3
          · exact q1 j (by omega) hb
        · right
          have a3 : preN f (dN (ms h)) s (i + 1) ≤ (i + 1) * 99 := preN_le (fun j hj => dle j (by omega))
          refine ⟨_, (by rw [st, if_neg (nI_ge (by omega) (by omega))]), ?_⟩
          rw [if_neg (fun q => c3 (q i c c2))]
      · left
        refine ⟨_, c, ?_, by omega, rfl, fun j hj hb => ?_⟩
        · unfold B_X8_consider_11
          simp only [nm, u4]
          rw [yn, if_neg (nI_ge c (by omega)), bt_test (by omega) (by omega), ite_b1, if_neg c2, nI_1]
          rw [preN_s, preN_s, msS_s, if_neg c2, if_neg c2, if_neg c2]
          rfl
        · by_cases z : j = i
          · subst z; exact absurd hb c2
          · exact q1 j (by omega) hb
    · right
      have : i = n := by omega
      subst this
      refine ⟨.inr (nI (preN f (wN (ms h)) s i), nI (msS f s i)), ?_, ?_⟩
      · unfold B_X8_consider_11
        simp only [nm, u4]
        rw [yn, if_pos (nI_le (Nat.le_refl _) (by omega))]
      · rw [if_pos (fun j hj hb => q1 j hj hb)]
  obtain ⟨r, h1, h2⟩ := key
  rw [h1, h2]
theorem wtA_le {w : Nat → Nat} {A : Nat} (h : ∀ b, b < 20 → A.testBit b = true → w b ≤ 9999) : wtA w A ≤ 199980 := by
  have : wtA w A ≤ 20 * 9999 := fb_sm_bound (fun b hb => by
    show (if A.testBit b = true then w b else 0) ≤ 9999
    by_cases c : A.testBit b = true
    · rw [if_pos c]; exact h b hb c
    · rw [if_neg c]; omega)
  omega
theorem cnA_20 (A : Nat) : cnA A ≤ 20 := by
  have : cnA A ≤ 20 * 1 := fb_sm_bound (fun b hb => by
    show (if A.testBit b = true then 1 else 0) ≤ 1
    split <;> omega)
  omega
/-- the class's best so far, below x all sets are still to come -/
def PB (h Y : HP) (n : Nat) (f : Nat → Nat) (x A : Nat) : Prop :=
  (∃ t, t < 2 ^ n ∧ A = msS f t n) ∧ gi Y 8 0 2 = nI A ∧ gi Y 8 0 3 = nI (cnA A) ∧ gi Y 8 0 4 = nI (wtA (wN (ms h)) A) ∧ tmA (dN (ms h)) (uN (ms h)) A ∧
    ∀ t, x < t → t < 2 ^ n → tmA (dN (ms h)) (uN (ms h)) (msS f t n) → ¬ BTR (wN (ms h)) (msS f t n) A
theorem e_scons {h X : HP} (R : RQ h) {n : Nat} {f : Nat → Nat} (g : GC h X (NB (ms h)) n f) {Y : HP} (xY : EX S8 X Y) (yn : gi Y 8 0 1 = nI n) (yr : ∀ k, k < n → gi Y 38 0 k = nI (f k)) {s A : Nat} (hs : s < 2 ^ n) (P : PB h Y n f s A) :
    ∃ Y' A', F_X8_consider 0 0 (nI s) Y = some (dp Y') ∧ EX S8 Y Y' ∧ gi Y' 8 0 1 = gi Y 8 0 1 ∧ (∀ k, gi Y' 38 0 k = gi Y 38 0 k) ∧ PB h Y' n f (s - 1) A' := by
  have hb := b_nb R.m
  have hn10 := g.n10
  have lp := e_conloop R g xY yn yr hs
  obtain ⟨x, g1, g2, g3, g4⟩ := g
  have hs10 : s < 1024 := by
    have h : 2 ^ n ≤ 2 ^ 10 := Nat.pow_le_pow_right (by omega) hn10
    omega
  have hf20 : ∀ k, k < n → f k < 20 := fun k hk => by have := g3.lt hk; omega
  have hwl : ∀ t, ∀ b, b < 20 → (msS f t n).testBit b = true → wN (ms h) b ≤ 9999 := fun t b _ hbit => (vw_w R.m (msS_sub g3.2.2 t b hbit).1).2
  have tp := tm_pre (d := dN (ms h)) (s := s) g3.2.1 hf20 g4
  have ew : preN f (wN (ms h)) s n = wtA (wN (ms h)) (msS f s n) := sm_set g3.2.1 hf20
  have ec : cnA (msS f s n) = pop s := cnA_pop g3.2.1 hf20 (by omega) hs
  obtain ⟨⟨t, ht, hA⟩, p2, p3, p4, p5, p6⟩ := P
  have lA : A < 1048576 := by rw [hA]; exact msS_lt n hf20
  have lw : wtA (wN (ms h)) A ≤ 199980 := by rw [hA]; exact wtA_le (hwl t)
  have lw2 := wtA_le (hwl s)
  have lc := cnA_20 A
  have lc2 := cnA_20 (msS f s n)
  have lm : msS f s n < 1048576 := msS_lt n hf20
  unfold F_X8_consider
  rw [lp]
  by_cases c : ∀ i, i < n → s.testBit i = true → preN f (dN (ms h)) s (i + 1) ≤ uN (ms h) (f i)
  · rw [if_pos c, Option.bind_some]
    have tm := tp.mpr c
    have bc := e_bitCount (n := s) (by omega)
    have bt := e_better p2 p3 p4 lA lc (by omega) (n := cnA (msS f s n)) (w := wtA (wN (ms h)) (msS f s n)) (b := msS f s n) lc2 (by omega) lm
    rw [← ec] at bc
    rw [← ew] at bt
    simp only [u2, nm]
    rw [bc, Option.bind_some, bt, Option.bind_some, ite_b]
    by_cases c2 : BTR (wN (ms h)) (msS f s n) A
    · rw [if_pos (show cnA A < cnA (msS f s n) ∨ (cnA (msS f s n) = cnA A ∧ (wtA (wN (ms h)) A < preN f (wN (ms h)) s n ∨ (preN f (wN (ms h)) s n = wtA (wN (ms h)) A ∧ msS f s n < A))) by rw [ew]; exact c2), Option.bind_some]
      refine ⟨_, msS f s n, rfl, (((EX.rfl' Y).si 0 _ rfl).si 0 _ rfl).si 0 _ rfl, ?_, fun k => ?_, ⟨s, hs, rfl⟩, ?_, ?_, ?_, tm, fun t' h1 h2 h3 => ?_⟩
      · rw [gi_si, if_neg (by omega), gi_si, if_neg (by omega), gi_si, if_neg (by omega)]
      · rw [gi_si, if_neg (by omega), gi_si, if_neg (by omega), gi_si, if_neg (by omega)]
      · rw [gi_si, if_pos ⟨rfl, rfl, rfl⟩]
      · rw [gi_si, if_neg (by omega), gi_si, if_neg (by omega), gi_si, if_pos ⟨rfl, rfl, rfl⟩]
      · rw [gi_si, if_neg (by omega), gi_si, if_pos ⟨rfl, rfl, rfl⟩, ew]
      · by_cases q : t' = s
        · subst q; unfold BTR; omega
        · have := p6 t' (by omega) h2 h3
          unfold BTR at this c2 ⊢
          omega
    · rw [if_neg (show ¬ (cnA A < cnA (msS f s n) ∨ (cnA (msS f s n) = cnA A ∧ (wtA (wN (ms h)) A < preN f (wN (ms h)) s n ∨ (preN f (wN (ms h)) s n = wtA (wN (ms h)) A ∧ msS f s n < A)))) by rw [ew]; exact c2)]
      refine ⟨Y, A, rfl, EX.rfl' Y, rfl, fun _ => rfl, ⟨t, ht, hA⟩, p2, p3, p4, p5, fun t' h1 h2 h3 => ?_⟩
      by_cases q : t' = s
      · subst q; exact c2
      · exact p6 t' (by omega) h2 h3
  · rw [if_neg c, Option.bind_some]
    refine ⟨Y, A, rfl, EX.rfl' Y, rfl, fun _ => rfl, ⟨t, ht, hA⟩, p2, p3, p4, p5, fun t' h1 h2 h3 => ?_⟩
    by_cases q : t' = s
    · subst q; exact absurd (tp.mp h3) c
    · exact p6 t' (by omega) h2 h3
theorem e_sendplan {h : HP} (R : RQ h) : ∃ X A, F_X8_plan 0 0 h = some (dp X) ∧ EX S8 h X ∧ BSS (wN (ms h)) (dN (ms h)) (uN (ms h)) (YD (ms h) (NB (ms h))) A ∧ A < 1048576 ∧ wtA (wN (ms h)) A ≤ 199980 ∧ gi X 8 0 2 = nI A ∧ gi X 8 0 3 = nI (cnA A) ∧ gi X 8 0 4 = nI (wtA (wN (ms h)) A) := by
  have hb := b_nb R.m
  obtain ⟨r, ga, X, n, f, rfl, g⟩ := e_gather R
  have hn10 := g.n10
  obtain ⟨x, g1, g2, g3, g4⟩ := g
  have hf20 : ∀ k, k < n → f k < 20 := fun k hk => by have := g3.lt hk; omega
  have p2n : 0 < 2 ^ n := Nat.pow_pos (by omega)
  have p2l : 2 ^ n ≤ 2 ^ 10 := Nat.pow_le_pow_right (by omega) hn10
  have hwl : ∀ t, ∀ b, b < 20 → (msS f t n).testBit b = true → wN (ms h) b ≤ 9999 := fun t b _ hbit => (vw_w R.m (msS_sub g3.2.2 t b hbit).1).2
  generalize hX1 : si (si (si X 8 0 2 0) 8 0 3 0) 8 0 4 0 = X1
  have x1 : EX S8 X X1 := by rw [← hX1]; exact (((EX.rfl' X).si 0 _ rfl).si 0 _ rfl).si 0 _ rfl
  have f1 : gi X1 8 0 1 = nI n := by rw [← hX1, gi_si, if_neg (by omega), gi_si, if_neg (by omega), gi_si, if_neg (by omega)]; exact g1
  have f38 : ∀ k, k < n → gi X1 38 0 k = nI (f k) := fun k hk => by rw [← hX1, gi_si, if_neg (by omega), gi_si, if_neg (by omega), gi_si, if_neg (by omega)]; exact g2 k hk
  have P0 : PB h X1 n f (2 ^ n - 1) 0 := by
    refine ⟨⟨0, p2n, (msS_0 f n).symm⟩, ?_, ?_, ?_, tm_0 _ _, fun t h1 h2 => by omega⟩
    · rw [← hX1, gi_si, if_neg (by omega), gi_si, if_neg (by omega), gi_si, if_pos ⟨rfl, rfl, rfl⟩]; rfl
    · rw [← hX1, gi_si, if_neg (by omega), gi_si, if_pos ⟨rfl, rfl, rfl⟩, cn_0]; rfl
    · rw [← hX1, gi_si, if_pos ⟨rfl, rfl, rfl⟩, wt_0]; rfl
  have l1 : ∃ r : DP, loopN LF (B_X8_plan_29 0 0 X1) (nI (2 ^ n - 1), dp X1) = some r ∧ ∃ Y A, r = dp Y ∧ EX S8 X1 Y ∧ PB h Y n f 0 A := by
    refine loopI (fun j q => ∃ s Y A, s + j = 2 ^ n - 1 ∧ q = (nI s, dp Y) ∧ EX S8 X1 Y ∧ gi Y 8 0 1 = nI n ∧ (∀ k, k < n → gi Y 38 0 k = nI (f k)) ∧ PB h Y n f s A) _ (2 ^ n - 1) (by omega) ⟨2 ^ n - 1, X1, 0, by omega, rfl, EX.rfl' X1, f1, f38, P0⟩ ?_
    rintro j q hj ⟨s, Y, A, hsj, rfl, xY, y1, y38, P⟩
    have hwd : wd X1 (dp Y) = Y := wd_dp xY.1
    have PP := P
    obtain ⟨⟨t, ht, hA⟩, p2, p3, p4, p5, p6⟩ := PP
    have lc : cnA A ≤ n := by rw [hA, cnA_pop g3.2.1 hf20 (by omega) ht]; exact cnA_le g3.2.1 hf20 (by omega) ht
    by_cases c : s = 0
    · subst c
      right
      refine ⟨dp Y, ?_, Y, A, rfl, xY, P⟩
      unfold B_X8_plan_29
      simp only [u2, nm, hwd]
      rw [if_pos (show nI 0 ≤ 0 from nI_le (a := 0) (b := 0) (by omega) (by omega))]
    · have e0 : ¬ nI s ≤ 0 := nI_ge (b := s) (a := 0) (by omega) (by omega)
      by_cases c2 : n ≤ cnA A
      · right
        refine ⟨dp Y, ?_, Y, A, rfl, xY, ⟨t, ht, hA⟩, p2, p3, p4, p5, fun t' h1 h2 h3 => ?_⟩
        · unfold B_X8_plan_29
          simp only [u2, nm, hwd]
          rw [if_neg e0, y1, p3, if_pos (nI_le c2 (by omega))]
        · intro bt
          have ct : cnA (msS f t' n) = pop t' := cnA_pop g3.2.1 hf20 (by omega) h2
          have cA : cnA A = pop t := by rw [hA]; exact cnA_pop g3.2.1 hf20 (by omega) ht
          have lt' := cnA_le (f := f) (n := n) g3.2.1 hf20 (by omega) h2
          have ft : pop t' = n := by unfold BTR at bt; omega
          have a1 := pop_full (by omega) h2 ft
          have a2 := pop_full (by omega) ht (show pop t = n by omega)
          have : msS f t' n = A := by
            rw [hA]
            apply Nat.eq_of_testBit_eq
            intro b
            have : (msS f t' n).testBit b = true ↔ (msS f t n).testBit b = true := by
              rw [msS_bit, msS_bit]
              exact ⟨fun ⟨k, k1, _, k3⟩ => ⟨k, k1, a2 k k1, k3⟩, fun ⟨k, k1, _, k3⟩ => ⟨k, k1, a1 k k1, k3⟩⟩
            cases e : (msS f t' n).testBit b with
            | true => exact (this.mp e).symm
            | false =>
              cases q : (msS f t n).testBit b with
              | false => rfl
              | true => rw [this.mpr q] at e; cases e
          rw [this] at bt
          unfold BTR at bt
          omega
      · have bc := e_bitCount (n := s) (by omega)
        have hs2 : s < 2 ^ n := by omega
        have lps := cnA_le (f := f) (n := n) g3.2.1 hf20 (by omega) hs2
        left
        by_cases c3 : pop s < cnA A
        · refine ⟨(nI (s - 1), dp Y), by omega, ?_, s - 1, Y, A, by omega, rfl, xY, y1, y38, ⟨t, ht, hA⟩, p2, p3, p4, p5, fun t' h1 h2 h3 => ?_⟩
          · unfold B_X8_plan_29
            simp only [u2, nm, hwd]
            rw [if_neg e0, y1, p3, if_neg (nI_ge (by omega) (by omega)), bc, Option.bind_some, if_pos (nI_lt c3 (by omega)), add_m1]
            rw [show nI s - 1 = nI (s - 1) from pk_sub (b := 1) (by omega)]
          · by_cases q : t' = s
            · subst q
              have := cnA_pop (f := f) (n := n) g3.2.1 hf20 (by omega) h2
              unfold BTR
              omega
            · exact p6 t' (by omega) h2 h3
        · obtain ⟨Y', A', k1, k2, k3, k4, k5⟩ := e_scons R (X := X) ⟨x, g1, g2, g3, g4⟩ (x1.trans xY) y1 y38 hs2 P
          refine ⟨(nI (s - 1), dp Y'), by omega, ?_, s - 1, Y', A', by omega, rfl, xY.trans k2, by rw [k3]; exact y1, fun k hk => by rw [k4]; exact y38 k hk, k5⟩
          unfold B_X8_plan_29
          simp only [u2, nm, hwd]
          rw [if_neg e0, y1, p3, if_neg (nI_ge (by omega) (by omega)), bc, Option.bind_some, if_neg (nlt_not (show cnA A ≤ pop s by omega) (by omega)), k1, Option.bind_some, wd_dp k2.1, add_m1]
          rw [show nI s - 1 = nI (s - 1) from pk_sub (b := 1) (by omega)]
  obtain ⟨r, l1, Y, A, rfl, xY, P⟩ := l1
  obtain ⟨⟨t, ht, hA⟩, p2, p3, p4, p5, p6⟩ := P
  refine ⟨Y, A, ?_, x.trans (x1.trans xY), ⟨⟨?_, p5⟩, fun B hB hBt => ?_⟩, by rw [hA]; exact msS_lt n hf20, by rw [hA]; exact wtA_le (hwl t), p2, p3, p4⟩
  · unfold F_X8_plan
    rw [ga, Option.bind_some]
    simp only [nm, wd_dp x.1]
    rw [hX1, f1, bt_shl1 (by omega), show nI (2 ^ n) - 1 = nI (2 ^ n - 1) from pk_sub (b := 1) p2n, l1, Option.bind_some, wd_dp xY.1]
  · rw [hA]; exact msS_sub g3.2.2 t
  · obtain ⟨s, hs, es⟩ := msS_on g3.2.2 hB
    subst es
    by_cases q : s = 0
    · subst q
      rw [msS_0]
      unfold BTR
      rw [cn_0, wt_0]
      intro z
      have cA : cnA A = pop t := by rw [hA]; exact cnA_pop g3.2.1 hf20 (by omega) ht
      have t0 : cnA A = 0 → A = 0 := by
        intro e
        rw [cA, (pop_mask ht (by omega)).1] at e
        have e2 := fb_ct_zero.mp e
        rw [hA]
        apply Nat.eq_of_testBit_eq
        intro b
        rw [Nat.zero_testBit]
        cases q : (msS f t n).testBit b with
        | false => rfl
        | true =>
          obtain ⟨k, k1, k2, -⟩ := (msS_bit f t b n).mp q
          have e3 : t.testBit k = false := e2 k k1
          rw [e3] at k2
          cases k2
      rcases z with z | ⟨z1, z2 | ⟨z2, z3⟩⟩
      · omega
      · omega
      · have := t0 z1.symm
        omega
    · exact p6 s (by omega) hs hBt
