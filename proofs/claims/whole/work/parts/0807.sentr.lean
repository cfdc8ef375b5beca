/-! stage III: what can be sent, the reference -/
def S78 (k s : Nat) : Bool := Nat.beq k 78
theorem S78_la : ∀ k s, S78 k s = true → la k s = false := by
  intro k s e
  unfold S78 at e
  simp only [Nat.beq_eq] at e
  subst e
  rfl
/-- what the reference has gathered -/
def GQ (h X : HP) (i n : Nat) (f : Nat → Nat) : Prop :=
  EX S78 h X ∧ (∀ k, k < n → gi X 78 0 k = nI (f k)) ∧ GTH (ms h) i n f ∧ ∀ j k, j < k → k < n → f j < f k
theorem f_gather {h : HP} (G : gR h.2.2) (W : MW (ms h)) (a : Int32) : ∃ r : Int32 × DP, loopN LF (B_X12_sentNow_4 0 a h) (0, 0, dp h) = some r ∧ ∃ X n f, r = (nI n, dp X) ∧ GQ h X (NB (ms h)) n f := by
  have hb := b_nb W
  refine loopI (fun i q => ∃ X n f, q = (nI n, nI i, dp X) ∧ GQ h X i n f) _ (NB (ms h)) (by omega) ⟨h, 0, fun _ => 0, rfl, EX.rfl' h, fun k hk => absurd hk (Nat.not_lt_zero k), GTH.zero _ _, fun j k _ hk => absurd hk (Nat.not_lt_zero k)⟩ ?_
  rintro i q hi ⟨X, n, f, rfl, x, g2, g3, g4⟩
  have hn10 : n ≤ 10 := by have := g3.1; omega
  have hwd : wd h (dp X) = X := wd_dp x.1
  have GX : gR X.2.2 := by rw [x.1]; exact G
  have eX : ms X = ms h := (x.sq S78_la).mq
  have WX : MW (ms X) := by rw [eX]; exact W
  have e8 : gi X 12 0 8 = nI (NB (ms h)) := by rw [m_12_8, eX]; exact v_nb W
  by_cases c : i < NB (ms h)
  · by_cases c2 : 10 ≤ n
    · right
      refine ⟨(nI n, dp X), ?_, X, n, f, rfl, x, g2, g3.full c2 (by omega), g4⟩
      unfold B_X12_sentNow_4
      simp only [nm, u3, hwd]
      rw [e8, if_neg (nI_ge c (by omega)), if_pos (show (10 : Int32) ≤ nI n from nI_le (a := 10) c2 (by omega))]
    · have st := f_stateOf GX WX (b := i) (by rw [eX]; exact c)
      rw [eX] at st
      by_cases c3 : stV (ms h) i = 3
      · have yd : ydV (ms h) i = true := decide_eq_true c3
        left
        refine ⟨(nI (n + 1), nI (i + 1), dp (si X 78 0 n (nI i))), c, ?_, _, n + 1, ins f n i, rfl, x.si 0 _ rfl, fun k hk => ?_, ?_, fun j k hjk hk => ?_⟩
        · unfold B_X12_sentNow_4
          simp only [nm, u3, hwd]
          rw [e8, if_neg (nI_ge c (by omega)), if_neg (show ¬ (10 : Int32) ≤ nI n from nI_ge (b := 10) (by omega) (by omega)), st, Option.bind_some, if_pos c3, rf_12_53 GX, Option.bind_some, sa_v (show n < 10 by omega) (by omega), Option.bind_some, nI_1, nI_1]
        · rw [gi_si]
          by_cases q : k = n
          · subst q; rw [if_pos ⟨rfl, rfl, rfl⟩, ins_at]
          · rw [if_neg (by omega), ins_lo f i (by omega)]; exact g2 k (by omega)
        · exact g3.add yd (by omega) (ins_inj g3.2.1 (Nat.le_refl n) (fun k hk e => by have := g3.lt hk; omega)) (ins_has (Nat.le_refl n))
        · by_cases q : k = n
          · subst q; rw [ins_at, ins_lo f i hjk]; exact g3.lt hjk
          · rw [ins_lo f i (by omega), ins_lo f i (by omega)]; exact g4 j k hjk (by omega)
      · left
        refine ⟨(nI n, nI (i + 1), dp X), c, ?_, X, n, f, rfl, x, g2, g3.skip (decide_eq_false c3), g4⟩
        unfold B_X12_sentNow_4
        simp only [nm, u3, hwd]
        rw [e8, if_neg (nI_ge c (by omega)), if_neg (show ¬ (10 : Int32) ≤ nI n from nI_ge (b := 10) (by omega) (by omega)), st, Option.bind_some, if_neg c3, nI_1]
  · right
    have : i = NB (ms h) := by omega
    subst this
    refine ⟨(nI n, dp X), ?_, X, n, f, rfl, x, g2, g3, g4⟩
    unfold B_X12_sentNow_4
    simp only [nm, u3, hwd]
    rw [e8, if_pos (nI_le (Nat.le_refl _) (by omega))]
/-- the heap behind the gathering -/
def RG (h X : HP) (n : Nat) (f : Nat → Nat) : Prop :=
  gR X.2.2 ∧ ms X = ms h ∧ MW (ms h) ∧ n ≤ 10 ∧ (∀ k, k < n → gi X 78 0 k = nI (f k) ∧ f k < NB (ms h)) ∧ INJ f n
theorem f_weightOf {h X : HP} {n : Nat} {f : Nat → Nat} (g : RG h X n f) {s : Nat} (hs : s < 2 ^ n) : F_X12_weightOf 0 (nI s) (nI n) X = some (nI (wtA (wN (ms h)) (msS f s n))) := by
  obtain ⟨G, eX, W, hn, hr, I⟩ := g
  have hb := b_nb W
  have h20 : ∀ k, k < n → f k < 20 := fun k hk => by
    have := (hr k hk).2
    omega
  have hs10 : s < 1024 := by
    have h : 2 ^ n ≤ 2 ^ 10 := Nat.pow_le_pow_right (by omega) hn
    omega
  have ew : preN f (wN (ms h)) s n = wtA (wN (ms h)) (msS f s n) := sm_set I (fun k hk => by have := (hr k hk).2; omega)
  have key : loopN LF (B_X12_weightOf_5 0 (nI s) (nI n) X) (nI (preN f (wN (ms h)) s 0), nI 0) = some (nI (preN f (wN (ms h)) s n)) := by
    refine loopS (fun k => (nI (preN f (wN (ms h)) s k), nI k)) n (by omega) (fun k hk => ?_) ?_
    · unfold B_X12_weightOf_5
      simp only [nm, u2]
      by_cases c : s.testBit k = true
      · rw [if_neg (nI_ge hk (by omega)), bt_test (by omega) (by omega), ite_b1, if_pos c, rf_12_10 G, Option.bind_some, rf_12_53 G, Option.bind_some, ga_v (show k < 10 by omega) (by omega), Option.bind_some, (hr k hk).1, ga_v (h20 k hk) (by omega), Option.bind_some, m_51, eX, (vw_w W (hr k hk).2).1, nI_add, nI_1]
        rw [preN_s, if_pos c]
      · rw [if_neg (nI_ge hk (by omega)), bt_test (by omega) (by omega), ite_b1, if_neg c, nI_1]
        rw [preN_s, if_neg c, Int32.add_zero]
        rfl
    · unfold B_X12_weightOf_5
      simp only [nm, u2]
      rw [if_pos (nI_le (Nat.le_refl _) (by omega))]
  unfold F_X12_weightOf
  rw [show loopN LF (B_X12_weightOf_5 0 (nI s) (nI n) X) (0, 0) = _ from key, ← ew]
  rfl
theorem f_intimeS {h X : HP} {n : Nat} {f : Nat → Nat} (g : RG h X n f) {s i : Nat} (hs : s < 2 ^ n) (hi : i < n) (x1 : Int32) :
    loopN LF (B_X12_inTime_17 0 (nI s) (nI n) x1 (nI i) X) (0, 0) = some (nI (fb_sm (fun k => if s.testBit k = true then (if uN (ms h) (f k) ≤ uN (ms h) (f i) then dN (ms h) (f k) else 0) else 0) n)) := by
  obtain ⟨G, eX, W, hn, hr, I⟩ := g
  have hb := b_nb W
  have h20 : ∀ k, k < n → f k < 20 := fun k hk => by
    have := (hr k hk).2
    omega
  have hs10 : s < 1024 := by
    have h : 2 ^ n ≤ 2 ^ 10 := Nat.pow_le_pow_right (by omega) hn
    omega
  refine loopS (fun k => (nI (fb_sm (fun k => if s.testBit k = true then (if uN (ms h) (f k) ≤ uN (ms h) (f i) then dN (ms h) (f k) else 0) else 0) k), nI k)) n (by omega) (fun k hk => ?_) ?_
  · have b1 := (vw_u W (hr k hk).2).2
    have b2 := (vw_u W (hr i hi).2).2
    unfold B_X12_inTime_17
    simp only [nm, u2]
    by_cases c : s.testBit k = true
    · have st := fb_sm_succ (fun k => if s.testBit k = true then (if uN (ms h) (f k) ≤ uN (ms h) (f i) then dN (ms h) (f k) else 0) else 0) k
      rw [if_neg (nI_ge hk (by omega)), bt_test (by omega) (by omega), ite_b1, if_pos c, rf_12_16 G, Option.bind_some, rf_12_53 G, Option.bind_some, ga_v (show k < 10 by omega) (by omega), Option.bind_some, (hr k hk).1, ga_v (h20 k hk) (by omega), Option.bind_some, Option.bind_some, Option.bind_some, ga_v (show i < 10 by omega) (by omega), Option.bind_some, (hr i hi).1, ga_v (h20 i hi) (by omega), Option.bind_some, m_57, m_57, eX, (vw_u W (hr k hk).2).1, (vw_u W (hr i hi).2).1]
      by_cases c2 : uN (ms h) (f k) ≤ uN (ms h) (f i)
      · rw [if_neg (nlt_not (show uN (ms h) (f k) ≤ uN (ms h) (f i) by omega) (by omega)), rf_12_15 G, Option.bind_some, Option.bind_some, ga_v (show k < 10 by omega) (by omega), Option.bind_some, (hr k hk).1, ga_v (h20 k hk) (by omega), Option.bind_some, m_56, eX, (vw_d W (hr k hk).2).1, nI_add, nI_1]
        rw [st, if_pos c, if_pos c2]
      · rw [if_pos (nI_lt (by omega) (by omega)), nI_1, Int32.add_zero, st, if_pos c, if_neg c2]
        rfl
    · have st := fb_sm_succ (fun k => if s.testBit k = true then (if uN (ms h) (f k) ≤ uN (ms h) (f i) then dN (ms h) (f k) else 0) else 0) k
      rw [if_neg (nI_ge hk (by omega)), bt_test (by omega) (by omega), ite_b1, if_neg c, nI_1, Int32.add_zero]
      rw [st, if_neg c]
      rfl
  · unfold B_X12_inTime_17
    simp only [nm, u2]
    rw [if_pos (nI_le (Nat.le_refl _) (by omega))]
theorem f_inTime {h X : HP} {n : Nat} {f : Nat → Nat} (g : RG h X n f) {s : Nat} (hs : s < 2 ^ n) :
    ∃ r : Int32, F_X12_inTime 0 (nI s) (nI n) X = some r ∧ ((r = 1 ∧ tmA (dN (ms h)) (uN (ms h)) (msS f s n)) ∨ (r = 0 ∧ ¬ tmA (dN (ms h)) (uN (ms h)) (msS f s n))) := by
  have g' := g
  obtain ⟨G, eX, W, hn, hr, I⟩ := g'
  have hb := b_nb W
  have h20 : ∀ k, k < n → f k < 20 := fun k hk => by
    have := (hr k hk).2
    omega
  have hs10 : s < 1024 := by
    have h : 2 ^ n ≤ 2 ^ 10 := Nat.pow_le_pow_right (by omega) hn
    omega
  have tp := tm_place (f := f) (d := dN (ms h)) (u := uN (ms h)) (n := n) (s := s) I (fun k hk => by have := (hr k hk).2; omega)
  -- the sum of days at place i
  generalize hZ : (fun i => fb_sm (fun k => if s.testBit k = true then (if uN (ms h) (f k) ≤ uN (ms h) (f i) then dN (ms h) (f k) else 0) else 0) n) = Z at tp
  have eZ : ∀ i, fb_sm (fun k => if s.testBit k = true then (if uN (ms h) (f k) ≤ uN (ms h) (f i) then dN (ms h) (f k) else 0) else 0) n = Z i := fun i => congrFun hZ i
  have bZ : ∀ i, Z i ≤ 990 := fun i => by
    rw [← eZ]
    have : fb_sm (fun k => if s.testBit k = true then (if uN (ms h) (f k) ≤ uN (ms h) (f i) then dN (ms h) (f k) else 0) else 0) n ≤ n * 99 := fb_sm_bound (fun k hk => by
      have := (vw_d W (hr k hk).2).2
      show (if s.testBit k = true then (if uN (ms h) (f k) ≤ uN (ms h) (f i) then dN (ms h) (f k) else 0) else 0) ≤ 99
      split
      · split <;> omega
      · omega)
    omega
  have tp' : tmA (dN (ms h)) (uN (ms h)) (msS f s n) ↔ ∀ i, i < n → s.testBit i = true → Z i ≤ uN (ms h) (f i) := by
    rw [tm_place (f := f) (d := dN (ms h)) (u := uN (ms h)) (n := n) (s := s) I (fun k hk => by have := (hr k hk).2; omega)]
    exact ⟨fun q i h1 h2 => by rw [← eZ]; exact q i h1 h2, fun q i h1 h2 => by rw [eZ]; exact q i h1 h2⟩
  have key : ∃ r, loopN LF (B_X12_inTime_5 0 (nI s) (nI n) X) (1, 0) = some r ∧ ((r = 1 ∧ tmA (dN (ms h)) (uN (ms h)) (msS f s n)) ∨ (r = 0 ∧ ¬ tmA (dN (ms h)) (uN (ms h)) (msS f s n))) := by
    refine loopI (fun i q => ∃ r : Int32, q = (r, nI i) ∧ i ≤ n ∧ ((r = 1 ∧ ∀ j, j < i → s.testBit j = true → Z j ≤ uN (ms h) (f j)) ∨ (r = 0 ∧ ¬ ∀ j, j < i → s.testBit j = true → Z j ≤ uN (ms h) (f j)))) _ n (by omega) ⟨1, rfl, Nat.zero_le _, Or.inl ⟨rfl, fun j hj => absurd hj (Nat.not_lt_zero j)⟩⟩ ?_
    rintro i q hi ⟨r, rfl, -, rr⟩
    by_cases c : i < n
    · left
      have ls := f_intimeS g hs c r
      rw [eZ] at ls
      rcases rr with ⟨rfl, ra⟩ | ⟨rfl, ra⟩
      · by_cases c2 : s.testBit i = true
        · have hu := (vw_u W (hr i c).2).2
          have hz := bZ i
          by_cases c3 : Z i ≤ uN (ms h) (f i)
          · refine ⟨(1, nI (i + 1)), c, ?_, 1, rfl, by omega, Or.inl ⟨rfl, fun j hj hbj => ?_⟩⟩
            · unfold B_X12_inTime_5
              simp only [nm, u2]
              rw [if_neg (nI_ge c (by omega)), ls, Option.bind_some, if_neg (show ¬ (1 : Int32) = 0 by decide), bt_test (by omega) (by omega), ite_b, if_pos c2, rf_12_16 G, Option.bind_some, rf_12_53 G, Option.bind_some, ga_v (show i < 10 by omega) (by omega), Option.bind_some, (hr i c).1, ga_v (h20 i c) (by omega), Option.bind_some, m_57, eX, (vw_u W (hr i c).2).1, if_neg (nlt_not (show Z i ≤ uN (ms h) (f i) by omega) (by omega)), nI_1]
            · by_cases z : j = i
              · subst z; exact c3
              · exact ra j (by omega) hbj
          · refine ⟨(0, nI (i + 1)), c, ?_, 0, rfl, by omega, Or.inr ⟨rfl, fun q => c3 (q i (by omega) c2)⟩⟩
            unfold B_X12_inTime_5
            simp only [nm, u2]
            rw [if_neg (nI_ge c (by omega)), ls, Option.bind_some, if_neg (show ¬ (1 : Int32) = 0 by decide), bt_test (by omega) (by omega), ite_b, if_pos c2, rf_12_16 G, Option.bind_some, rf_12_53 G, Option.bind_some, ga_v (show i < 10 by omega) (by omega), Option.bind_some, (hr i c).1, ga_v (h20 i c) (by omega), Option.bind_some, m_57, eX, (vw_u W (hr i c).2).1, if_pos (nI_lt (by omega) (by omega)), nI_1]
        · have c2' : s.testBit i = false := by cases e : s.testBit i with | false => rfl | true => exact absurd e c2
          refine ⟨(1, nI (i + 1)), c, ?_, 1, rfl, by omega, Or.inl ⟨rfl, fun j hj hbj => ?_⟩⟩
          · unfold B_X12_inTime_5
            simp only [nm, u2]
            rw [if_neg (nI_ge c (by omega)), ls, Option.bind_some, if_neg (show ¬ (1 : Int32) = 0 by decide), bt_test (by omega) (by omega), ite_b, if_neg c2, nI_1]
          · by_cases z : j = i
            · subst z; exact absurd hbj c2
            · exact ra j (by omega) hbj
      · refine ⟨(0, nI (i + 1)), c, ?_, 0, rfl, by omega, Or.inr ⟨rfl, fun q => ra (fun j hj hbj => q j (by omega) hbj)⟩⟩
        unfold B_X12_inTime_5
        simp only [nm, u2]
        rw [if_neg (nI_ge c (by omega)), ls, Option.bind_some, if_pos trivial, nI_1]
    · right
      have : i = n := by omega
      subst this
      refine ⟨r, ?_, ?_⟩
      · unfold B_X12_inTime_5
        simp only [nm, u2]
        rw [if_pos (nI_le (Nat.le_refl _) (by omega))]
      · rw [tp']; exact rr
  obtain ⟨r, k1, k2⟩ := key
  refine ⟨r, ?_, k2⟩
  unfold F_X12_inTime
  rw [k1, Option.bind_some]
  rcases k2 with ⟨rfl, -⟩ | ⟨rfl, -⟩ <;> rfl
theorem sub_lt0 {a b : Nat} (ha : a < 2 ^ 30) (hb : b < 2 ^ 30) : (0 < nI a - nI b) ↔ (b < a) := by
  rw [fa_lt, pk_sub_toInt ha hb]
  show (0 : Int) < _ ↔ _
  omega
theorem sub_eq0 {a b : Nat} (ha : a < 2 ^ 30) (hb : b < 2 ^ 30) : (nI a - nI b = 0) ↔ (a = b) := by
  rw [fa_eq, pk_sub_toInt ha hb]
  show _ = (0 : Int) ↔ _
  omega
theorem f_sendscan {h X : HP} {n : Nat} {f : Nat → Nat} (g : RG h X n f) (up : ∀ j k, j < k → k < n → f j < f k) (a : Int32) :
    ∃ r : Int32, loopN LF (B_X12_sentNow_48 0 a (nI n) X) (0, 1) = some r ∧ ∃ p, r = nI p ∧ p < 2 ^ n ∧ tmA (dN (ms h)) (uN (ms h)) (msS f p n) ∧ ∀ t, t < 2 ^ n → tmA (dN (ms h)) (uN (ms h)) (msS f t n) → ¬ BTR (wN (ms h)) (msS f t n) (msS f p n) := by
  have g' := g
  obtain ⟨G, eX, W, hn, hr, I⟩ := g'
  have hb := b_nb W
  have hf20 : ∀ k, k < n → f k < 20 := fun k hk => by have := (hr k hk).2; omega
  have p2n : 0 < 2 ^ n := Nat.pow_pos (by omega)
  have p2l : 2 ^ n ≤ 2 ^ 10 := Nat.pow_le_pow_right (by omega) hn
  have hwl : ∀ t, wtA (wN (ms h)) (msS f t n) ≤ 199980 := fun t => wtA_le (fun b _ hbit => by
    obtain ⟨k, k1, -, k3⟩ := (msS_bit f t b n).mp hbit
    rw [← k3]; exact (vw_w W (hr k k1).2).2)
  have hcn : ∀ t, t < 2 ^ n → cnA (msS f t n) = pop t := fun t ht => cnA_pop I hf20 (by omega) ht
  have hp32 : ∀ t, pop t ≤ 32 := fun t => fb_ct_le _ 32
  refine loopI (fun j q => ∃ p, q = (nI p, nI (1 + j)) ∧ p < 1 + j ∧ 1 + j ≤ 2 ^ n ∧ tmA (dN (ms h)) (uN (ms h)) (msS f p n) ∧ ∀ t, t < 1 + j → tmA (dN (ms h)) (uN (ms h)) (msS f t n) → ¬ BTR (wN (ms h)) (msS f t n) (msS f p n)) _ (2 ^ n - 1) (by omega) ⟨0, rfl, by omega, by omega, by rw [msS_0]; exact tm_0 _ _, fun t ht _ => by
    have : t = 0 := by omega
    subst this
    unfold BTR
    omega⟩ ?_
  rintro j q hj ⟨p, rfl, hp, hj2, tp, best⟩
  by_cases c : 1 + j < 2 ^ n
  · left
    have e0 : ¬ (1 <<< (nI n &&& 31) : Int32) ≤ nI (1 + j) := by rw [bt_shl1 (by omega)]; exact nI_ge c (by omega)
    have o1 := f_ones (n := 1 + j) (by omega)
    have o2 := f_ones (n := p) (by omega)
    have w1 := f_weightOf g c
    have w2 := f_weightOf g (s := p) (by omega)
    have c1 := hcn (1 + j) c
    have c2 := hcn p (by omega)
    have b1 := hp32 (1 + j)
    have b2 := hp32 p
    have l1 := hwl (1 + j)
    have l2 := hwl p
    obtain ⟨r, ti, tr⟩ := f_inTime g c
    have keep : ¬ (tmA (dN (ms h)) (uN (ms h)) (msS f (1 + j) n) ∧ (pop p < pop (1 + j) ∨ (pop (1 + j) = pop p ∧ wtA (wN (ms h)) (msS f p n) < wtA (wN (ms h)) (msS f (1 + j) n)))) → ∀ t, t < 1 + (j + 1) → tmA (dN (ms h)) (uN (ms h)) (msS f t n) → ¬ BTR (wN (ms h)) (msS f t n) (msS f p n) := by
      intro z t ht htm
      by_cases q : t = 1 + j
      · subst q
        have := msS_up up (s := p) (t := 1 + j) (by omega) c hp
        intro bt
        apply z
        unfold BTR at bt
        refine ⟨htm, ?_⟩
        omega
      · exact best t (by omega) htm
    have J : J_X12_sentNow_94 0 a (nI n) (nI p) (nI (1 + j)) X = if r = 0 then some (.inl (nI p, nI (1 + (j + 1)))) else some (.inl (nI (1 + j), nI (1 + (j + 1)))) := by
      unfold J_X12_sentNow_94
      rw [ti, Option.bind_some]
      simp only [nm]
      rw [nI_1]
      rfl
    have take : pop p < pop (1 + j) ∨ (pop (1 + j) = pop p ∧ wtA (wN (ms h)) (msS f p n) < wtA (wN (ms h)) (msS f (1 + j) n)) → B_X12_sentNow_48 0 a (nI n) X (nI p, nI (1 + j)) = J_X12_sentNow_94 0 a (nI n) (nI p) (nI (1 + j)) X := by
      intro z
      unfold B_X12_sentNow_48
      simp only [nm, u2]
      rw [if_neg e0, o1, Option.bind_some, o2, Option.bind_some]
      by_cases q : pop p < pop (1 + j)
      · rw [if_pos ((sub_lt0 (by omega) (by omega)).mpr q)]
      · rw [if_neg (fun v => q ((sub_lt0 (by omega) (by omega)).mp v)), if_pos ((sub_eq0 (by omega) (by omega)).mpr (show pop (1 + j) = pop p by omega)), w1, Option.bind_some, w2, Option.bind_some, if_neg (nI_ge (show wtA (wN (ms h)) (msS f p n) < wtA (wN (ms h)) (msS f (1 + j) n) by omega) (by omega))]
    have leave : ¬ (pop p < pop (1 + j) ∨ (pop (1 + j) = pop p ∧ wtA (wN (ms h)) (msS f p n) < wtA (wN (ms h)) (msS f (1 + j) n))) → B_X12_sentNow_48 0 a (nI n) X (nI p, nI (1 + j)) = some (.inl (nI p, nI (1 + (j + 1)))) := by
      intro z
      unfold B_X12_sentNow_48
      simp only [nm, u2]
      rw [if_neg e0, o1, Option.bind_some, o2, Option.bind_some, if_neg (fun v => z (Or.inl ((sub_lt0 (by omega) (by omega)).mp v)))]
      by_cases q : pop (1 + j) = pop p
      · rw [if_pos ((sub_eq0 (by omega) (by omega)).mpr q), w1, Option.bind_some, w2, Option.bind_some, if_pos (nI_le (show wtA (wN (ms h)) (msS f (1 + j) n) ≤ wtA (wN (ms h)) (msS f p n) by omega) (by omega)), nI_1]
        rfl
      · rw [if_neg (fun v => q ((sub_eq0 (by omega) (by omega)).mp v)), nI_1]
        rfl
    by_cases z : pop p < pop (1 + j) ∨ (pop (1 + j) = pop p ∧ wtA (wN (ms h)) (msS f p n) < wtA (wN (ms h)) (msS f (1 + j) n))
    · rcases tr with ⟨rfl, tm⟩ | ⟨rfl, tm⟩
      · refine ⟨_, by omega, (by rw [take z, J, if_neg (by decide)]), 1 + j, rfl, by omega, by omega, tm, fun t ht htm => ?_⟩
        by_cases q : t = 1 + j
        · subst q; unfold BTR; omega
        · have := best t (by omega) htm
          unfold BTR at this ⊢
          omega
      · exact ⟨_, by omega, (by rw [take z, J, if_pos rfl]), p, rfl, by omega, by omega, tp, keep (fun q => tm q.1)⟩
    · exact ⟨_, by omega, leave z, p, rfl, by omega, by omega, tp, keep (fun q => z q.2)⟩
  · right
    refine ⟨nI p, ?_, p, rfl, by omega, tp, fun t ht htm => best t (by omega) htm⟩
    unfold B_X12_sentNow_48
    simp only [nm, u2]
    rw [bt_shl1 (by omega), if_pos (nI_le (by omega) (by omega))]
/-- what is sent: the bells, how many, how heavy -/
theorem f_sentNow {h : HP} (G : gR h.2.2) (W : MW (ms h)) (a : Int32) : ∃ X A, EX S78 h X ∧ BSS (wN (ms h)) (dN (ms h)) (uN (ms h)) (YD (ms h) (NB (ms h))) A ∧ F_X12_sentNow 0 a h = some (if a = 0 then nI A else if a = 1 then nI (cnA A) else nI (wtA (wN (ms h)) A), dp X) := by
  have hb := b_nb W
  obtain ⟨r, ga, X, n, f, rfl, x, g2, g3, g4⟩ := f_gather G W a
  have hn10 : n ≤ 10 := by have := g3.1; omega
  have eX : ms X = ms h := (x.sq S78_la).mq
  have g : RG h X n f := ⟨by rw [x.1]; exact G, eX, W, hn10, fun k hk => ⟨g2 k hk, g3.lt hk⟩, g3.2.1⟩
  have hf20 : ∀ k, k < n → f k < 20 := fun k hk => by have := g3.lt hk; omega
  have p2l : 2 ^ n ≤ 2 ^ 10 := Nat.pow_le_pow_right (by omega) hn10
  obtain ⟨r, sc, p, rfl, hp, tm, best⟩ := f_sendscan g g4 a
  have bits : loopN LF (B_X12_sentNow_119 0 a (nI n) (nI p) X) (nI (msS f p 0), nI 0) = some (nI (msS f p n)) := by
    refine loopS (fun k => (nI (msS f p k), nI k)) n (by omega) (fun k hk => ?_) ?_
    · unfold B_X12_sentNow_119
      simp only [nm, u2]
      by_cases c : p.testBit k = true
      · rw [if_neg (nI_ge hk (by omega)), bt_test (by omega) (by omega), ite_b1, if_pos c, rf_12_53 g.1, Option.bind_some, ga_v (show k < 10 by omega) (by omega), Option.bind_some, g2 k hk, bt_or (Nat.lt_trans (hf20 k hk) (by omega)), nI_1]
        rw [msS_s, if_pos c]
      · rw [if_neg (nI_ge hk (by omega)), bt_test (by omega) (by omega), ite_b1, if_neg c, bt_or0, nI_1]
        rw [msS_s, if_neg c]
    · unfold B_X12_sentNow_119
      simp only [nm, u2]
      rw [if_pos (nI_le (Nat.le_refl _) (by omega))]
  refine ⟨X, msS f p n, x, ⟨⟨msS_sub g3.2.2 p, tm⟩, fun B hB hBt => ?_⟩, ?_⟩
  · obtain ⟨s, hs, es⟩ := msS_on g3.2.2 hB
    subst es
    exact best s hs hBt
  · unfold F_X12_sentNow
    rw [ga, Option.bind_some]
    simp only [u2, nm, wd_dp x.1]
    rw [sc, Option.bind_some, show loopN LF (B_X12_sentNow_119 0 a (nI n) (nI p) X) (0, 0) = _ from bits, Option.bind_some, cnA_pop g3.2.1 hf20 (by omega) hp]
    by_cases c0 : a = 0
    · rw [if_pos c0, if_pos c0]
    · by_cases c1 : a = 1
      · rw [if_neg c0, if_neg c0, if_pos c1, if_pos c1, f_ones (by omega), Option.bind_some]
      · rw [if_neg c0, if_neg c0, if_neg c1, if_neg c1, f_weightOf g hp, Option.bind_some]
theorem p_sent : CP_sent RQ := by
  intro h R a
  by_cases c : 0 ≤ a ∧ a ≤ 2
  · obtain ⟨X, A, pl, xX, bs, lA, lw, e2, e3, e4⟩ := e_sendplan R
    have RX : RQ X := (xX.sq S8_la).rl R
    have eX : ms X = ms h := (xX.sq S8_la).mq
    obtain ⟨Y, B, xY, bs2, fs⟩ := f_sentNow RX.1 RX.m a
    rw [eX] at bs2 fs
    have := bs.eq bs2
    subst this
    refine ⟨if a = 0 then nI A else if a = 1 then nI (cnA A) else nI (wtA (wN (ms h)) A), dp X, dp Y, ?_, ?_, ?_⟩
    · unfold F_X11_sent
      simp only [nm]
      rw [e_from, Option.bind_some, ite_b, if_pos c, rf_11_12 R.1, Option.bind_some, rf_11_3 R.1, Option.bind_some, pl, Option.bind_some, wd_dp xX.1, rf_11_12 RX.1, Option.bind_some, Option.bind_some, Option.bind_some, e2, e3, e4]
      split
      · rfl
      · split <;> rfl
    · rw [wd_dp xX.1]
      unfold F_X12_sent
      simp only [nm, u2]
      rw [e_in_0_2, Option.bind_some, ite_b, if_pos c, fs, Option.bind_some]
      rw [wd_dp xY.1]
    · rw [wd_dp xX.1, wd_dp xY.1]
      exact (xY.sq S78_la).rl RX
  · refine ⟨-2, dp h, dp h, ?_, ?_, R⟩
    · unfold F_X11_sent
      rw [e_from, Option.bind_some, ite_b, if_neg c]
    · unfold F_X12_sent
      simp only [wd_self]
      rw [e_in_0_2, Option.bind_some, ite_b, if_neg c]
