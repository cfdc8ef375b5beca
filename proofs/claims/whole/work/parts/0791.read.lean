/-! stage III: some bells more -/
/-- the class's heap with n bells more -/
def CBn (h hc : HP) (N n : Nat) (val : Nat → Nat → Int32) : Prop :=
  (∀ k i s, ¬ ((k = 1 ∨ k = 20 ∨ k = 21 ∨ k = 22) ∧ N ≤ i) → ¬ (k = 2 ∧ i = 0 ∧ s = 1) → gi hc k i s = gi h k i s) ∧ gi hc 2 0 1 = nI (N + n) ∧ N4 hc (N + n) ∧
  (∀ k, k ≠ 1 → k ≠ 20 → k ≠ 21 → k ≠ 22 → gn hc k = gn h k) ∧ (∀ k i s, k ≠ 1 → k ≠ 20 → k ≠ 21 → k ≠ 22 → k ≠ 23 → gr hc k i s = gr h k i s) ∧
  (∀ b, b < N + n → gr hc 23 0 b = some b ∧ gr hc 1 b 4 = some b ∧ gr hc 1 b 5 = some b ∧ gr hc 1 b 6 = some b) ∧
  (∀ j, j < n → (gi hc 1 (N + j) 0 = val j 0 ∧ gi hc 1 (N + j) 1 = val j 1 ∧ gi hc 1 (N + j) 2 = val j 2 ∧ gi hc 1 (N + j) 3 = val j 3 ∧ gi hc 1 (N + j) 7 = 0 ∧ gi hc 1 (N + j) 8 = -1 ∧ gi hc 1 (N + j) 9 = 5 ∧ gi hc 1 (N + j) 10 = 999) ∧ ∀ t, t < 5 → gi hc 20 (N + j) t = -1)
theorem CBn.zero {h : HP} (R : RQ h) (val : Nat → Nat → Int32) : CBn h h (NB (ms h)) 0 val := by
  obtain ⟨a, b, c, d, e⟩ := R.b
  refine ⟨fun _ _ _ _ _ => rfl, (cw_nb R).trans (v_nb R.m), ⟨c.1, c.2.1, c.2.2.1, c.2.2.2⟩, fun _ _ _ _ _ => rfl, fun _ _ _ _ _ _ _ _ => rfl, fun b hb => (d b hb).1, fun j hj => absurd hj (Nat.not_lt_zero j)⟩
theorem CBn.step {h hc : HP} {N n : Nat} {val : Nat → Nat → Int32} (C : CBn h hc N n val) : CBn h (cadd hc (N + n) (val n 0) (val n 1) (val n 2) (val n 3)) N (n + 1) val := by
  obtain ⟨c1, c2, c3, c4, c5, c6, c7⟩ := C
  have cb := gi_cb hc c3 (val n 0) (val n 1) (val n 2) (val n 3)
  have cr := gr_cb hc c3 (val n 0) (val n 1) (val n 2) (val n 3)
  refine ⟨fun k i s q1 q2 => ?_, gi_cn _ _ _ _ _ _, ⟨?_, ?_, ?_, ?_⟩, fun k q1 q2 q3 q4 => ?_, fun k i s q1 q2 q3 q4 q5 => ?_, fun b hb => ?_, fun j hj => ?_⟩
  · rw [gi_ca hc c3 _ _ _ _ _ _ _ (by omega) q2]; exact c1 k i s q1 q2
  · rw [gn_ca, if_pos (by omega), c3.1, Nat.add_assoc]
  · rw [gn_ca, if_pos (by omega), c3.2.1, Nat.add_assoc]
  · rw [gn_ca, if_pos (by omega), c3.2.2.1, Nat.add_assoc]
  · rw [gn_ca, if_pos (by omega), c3.2.2.2, Nat.add_assoc]
  · rw [gn_ca, if_neg (by omega)]; exact c4 k q1 q2 q3 q4
  · rw [gr_ca hc c3 _ _ _ _ _ _ _ (by omega), if_neg (by omega)]; exact c5 k i s q1 q2 q3 q4 q5
  · by_cases e : b = N + n
    · subst e
      exact ⟨by rw [gr_ca hc c3 _ _ _ _ _ _ _ (by omega), if_pos ⟨rfl, rfl, rfl⟩], cr⟩
    · have o := c6 b (by omega)
      exact ⟨by rw [gr_ca hc c3 _ _ _ _ _ _ _ (by omega), if_neg (by omega)]; exact o.1, by rw [gr_ca hc c3 _ _ _ _ _ _ _ (by omega), if_neg (by omega)]; exact o.2.1, by rw [gr_ca hc c3 _ _ _ _ _ _ _ (by omega), if_neg (by omega)]; exact o.2.2.1, by rw [gr_ca hc c3 _ _ _ _ _ _ _ (by omega), if_neg (by omega)]; exact o.2.2.2⟩
  · by_cases e : j = n
    · subst e
      exact ⟨cb, fun t ht => gi_ct hc c3 _ _ _ _ ht⟩
    · obtain ⟨o1, o2⟩ := c7 j (by omega)
      have g : ∀ s, gi (cadd hc (N + n) (val n 0) (val n 1) (val n 2) (val n 3)) 1 (N + j) s = gi hc 1 (N + j) s := fun s => gi_ca hc c3 _ _ _ _ _ _ _ (by omega) (by omega)
      simp only [g]
      exact ⟨o1, fun t ht => by rw [gi_ca hc c3 _ _ _ _ _ _ _ (by omega) (by omega)]; exact o2 t ht⟩
/-- the reference's heap with n bells more -/
def RBn (h hr : HP) (N n : Nat) (val : Nat → Nat → Int32) : Prop :=
  hr.2.2 = h.2.2 ∧ (∀ k i s, ¬ (i = 0 ∧ N ≤ s ∧ 50 ≤ k ∧ k ≤ 57 ∧ k ≠ 54) → ¬ (k = 54 ∧ i = 0 ∧ 5 * N ≤ s) → ¬ (k = 12 ∧ i = 0 ∧ s = 8) → gi hr k i s = gi h k i s) ∧ gi hr 12 0 8 = nI (N + n) ∧
  (∀ j, j < n → (gi hr 50 0 (N + j) = val j 0 ∧ gi hr 51 0 (N + j) = val j 1 ∧ gi hr 52 0 (N + j) = val j 2 ∧ gi hr 53 0 (N + j) = val j 3 ∧ gi hr 55 0 (N + j) = -1 ∧ gi hr 56 0 (N + j) = 5 ∧ gi hr 57 0 (N + j) = 999) ∧ ∀ t, t < 5 → gi hr 54 0 (5 * (N + j) + t) = -1)
theorem RBn.zero {h : HP} {N : Nat} (e : gi h 12 0 8 = nI N) (val : Nat → Nat → Int32) : RBn h h N 0 val :=
  ⟨rfl, fun _ _ _ _ _ _ => rfl, e, fun j hj => absurd hj (Nat.not_lt_zero j)⟩
theorem RBn.step {h hr : HP} {N n : Nat} {val : Nat → Nat → Int32} (C : RBn h hr N n val) : RBn h (radd hr (N + n) (val n 0) (val n 1) (val n 2) (val n 3)) N (n + 1) val := by
  obtain ⟨c0, c1, c2, c3⟩ := C
  have rn := gi_rn hr (N + n) (val n 0) (val n 1) (val n 2) (val n 3)
  refine ⟨(radd_22 _ _ _ _ _ _).trans c0, fun k i s q1 q2 q3 => ?_, rn.1, fun j hj => ?_⟩
  · rw [gi_ra hr _ _ _ _ _ _ _ _ (by omega) (by omega) q3]; exact c1 k i s q1 q2 q3
  · by_cases e : j = n
    · subst e
      exact ⟨⟨rn.2.1, rn.2.2.1, rn.2.2.2.1, rn.2.2.2.2.1, rn.2.2.2.2.2.1, rn.2.2.2.2.2.2.1, rn.2.2.2.2.2.2.2.1⟩, rn.2.2.2.2.2.2.2.2⟩
    · obtain ⟨o1, o2⟩ := c3 j (by omega)
      have g : ∀ k, k ≠ 12 → k ≠ 54 → gi (radd hr (N + n) (val n 0) (val n 1) (val n 2) (val n 3)) k 0 (N + j) = gi hr k 0 (N + j) := fun k h1 h2 => gi_ra hr _ _ _ _ _ _ _ _ (by omega) (by omega) (by omega)
      rw [g 50 (by omega) (by omega), g 51 (by omega) (by omega), g 52 (by omega) (by omega), g 53 (by omega) (by omega), g 55 (by omega) (by omega), g 56 (by omega) (by omega), g 57 (by omega) (by omega)]
      exact ⟨o1, fun t ht => by rw [gi_ra hr _ _ _ _ _ _ _ _ (by omega) (by omega) (by omega)]; exact o2 t ht⟩
theorem le_0 {a x : Int32} (h : a ≤ x) (ha : 0 ≤ a) : 0 ≤ x := by
  rw [fa_le] at h ha ⊢
  omega
def XBB (k : Nat) : Bool := Nat.beq k 1 || (Nat.beq k 20 || (Nat.beq k 21 || (Nat.beq k 22 || Nat.beq k 23)))
def SBB (k s : Nat) : Bool := Nat.beq k 1 || (Nat.beq k 20 || (Nat.beq k 21 || (Nat.beq k 22 || ((Nat.beq k 2 && Nat.beq s 1) || ((Nat.beq k 12 && Nat.beq s 8) || (Nat.beq k 50 || (Nat.beq k 51 || (Nat.beq k 52 || (Nat.beq k 53 || (Nat.beq k 54 || (Nat.beq k 55 || (Nat.beq k 56 || Nat.beq k 57))))))))))))
theorem rfx_cb {h hc : HP} {N n : Nat} {val : Nat → Nat → Int32} (C : CBn h hc N n val) : RFX XBB h.2.2 hc.2.2 := by
  refine ⟨fun k i s e => ?_, fun k e => ?_⟩
  · unfold XBB at e
    simp only [Bool.or_eq_false_iff, nbf] at e
    exact C.2.2.2.2.1 k i s e.1 e.2.1 e.2.2.1 e.2.2.2.1 e.2.2.2.2
  · unfold XBB at e
    simp only [Bool.or_eq_false_iff, nbf] at e
    exact C.2.2.2.1 k e.1 e.2.1 e.2.2.1 e.2.2.2.1
theorem ms_cb {h hc : HP} {N n : Nat} {val : Nat → Nat → Int32} (C : CBn h hc N n val) : ms hc = ms h := by
  funext k s
  unfold ms
  by_cases e : mk k s = true
  · rw [if_pos e, if_pos e]
    by_cases c : (k = 1 ∨ k = 20 ∨ k = 21 ∨ k = 22) ∨ (k = 2 ∧ s = 1)
    · exfalso
      rcases c with (rfl | rfl | rfl | rfl) | ⟨rfl, rfl⟩ <;> cases e
    · exact C.1 k 0 s (by omega) (by omega)
  · rw [if_neg e, if_neg e]
theorem RQ_bells {h hc hr : HP} {n : Nat} {val : Nat → Nat → Int32} (R : RQ h) (C : CBn h hc (NB (ms h)) n val) (B : RBn hc hr (NB (ms h)) n val) (hn : NB (ms h) + n ≤ 20) (ok : ∀ j, j < n → okV (ms h 12 6) (val j 0) (val j 1) (val j 2) (val j 3)) : RQ hr := by
  have hb := b_nb R.m
  have hk6 := b_nk R.m
  have xf := rfx_cb C
  have EH : EI SBB h hr := by
    intro k i s e
    unfold SBB at e
    simp only [Bool.or_eq_false_iff, Bool.and_eq_false_iff, nbf] at e
    rw [B.2.1 k i s (by omega) (by omega) (by omega), C.1 k i s (by omega) (by omega)]
  have e8 : gi hr 12 0 8 = nI (NB (ms h) + n) := B.2.2.1
  have nb8 : (gi hr 12 0 8).toNatClampNeg = NB (ms h) + n := by rw [e8, nI_clamp (by omega)]
  -- a number of the class, in the end
  have gc : ∀ k i s, ¬ (50 ≤ k ∧ k ≤ 57) → ¬ (k = 12 ∧ i = 0 ∧ s = 8) → gi hr k i s = gi hc k i s := fun k i s q1 q2 => B.2.1 k i s (by omega) (by omega) q2
  -- a number of the reference, of the bells there were
  have go : ∀ k s, 50 ≤ k → s < NB (ms h) → k ≠ 54 → gi hr k 0 s = gi h k 0 s := fun k s q1 q2 q3 => by
    rw [B.2.1 k 0 s (by omega) (by omega) (by omega), C.1 k 0 s (by omega) (by omega)]
  have gl : ∀ k s, 58 ≤ k → gi hr k 0 s = gi h k 0 s := fun k s q1 => by
    rw [B.2.1 k 0 s (by omega) (by omega) (by omega), C.1 k 0 s (by omega) (by omega)]
  refine RQ.mk R (by rw [B.1]; exact gR_rf xf (by decide) R.1) ?_ ?_ ?_ ?_ ?_ ?_ ?_ ?_ ?_ ?_
  · rw [vw_ei EH (by intro k s e; unfold dW at e; simp only [Bool.or_eq_true, Bool.and_eq_true, Nat.beq_eq] at e; rcases e with ⟨rfl, rfl⟩ | ⟨rfl, rfl⟩ <;> rfl)]; exact R.w
  · rw [vw_ei EH (by intro k s e; unfold dP at e; simp only [Bool.or_eq_true, Bool.and_eq_true, Nat.beq_eq] at e; rcases e with ⟨rfl, rfl⟩ | ⟨rfl, rfl⟩ | rfl | rfl <;> rfl)]; exact R.p
  · show gi hr 2 0 1 = gi hr 12 0 8 ∧ cn (gi hr 12 0 8) 20 ∧ (gn hr 1 = (gi hr 12 0 8).toNatClampNeg ∧ gn hr 20 = (gi hr 12 0 8).toNatClampNeg ∧ gn hr 21 = (gi hr 12 0 8).toNatClampNeg ∧ gn hr 22 = (gi hr 12 0 8).toNatClampNeg) ∧
      (∀ b, b < (gi hr 12 0 8).toNatClampNeg → (gr hr 23 0 b = some b ∧ gr hr 1 b 4 = some b ∧ gr hr 1 b 5 = some b ∧ gr hr 1 b 6 = some b) ∧ bE (vw dB hr) b) ∧
      (∀ b, (gi hr 12 0 8).toNatClampNeg ≤ b → b < 20 → gi hr 58 0 b = 0)
    rw [nb8, gn_22 B.1, gr_22 B.1]
    refine ⟨?_, by rw [e8]; exact cn_of hn (by omega), C.2.2.1, fun b hbn => ⟨C.2.2.2.2.2.1 b hbn, ?_⟩, fun b h1 h2 => ?_⟩
    · rw [e8, gc _ _ _ (by omega) (by omega)]; exact C.2.1
    · by_cases c : b < NB (ms h)
      · -- a bell there was
        have old := (R.b.2.2.2.1 b c).2
        have cc : ∀ k s, k = 1 ∨ k = 20 ∨ k = 21 ∨ k = 22 → gi hr k b s = gi h k b s := fun k s q => by
          rw [gc _ _ _ (by omega) (by omega), C.1 _ _ _ (by omega) (by omega)]
        have c54 : ∀ t, t < 5 → gi hr 54 0 (5 * b + t) = gi h 54 0 (5 * b + t) := fun t ht => by
          rw [B.2.1 _ _ _ (by omega) (by omega) (by omega), C.1 _ _ _ (by omega) (by omega)]
        have c125 : gi hr 12 0 5 = gi h 12 0 5 := by rw [gc _ _ _ (by omega) (by omega), C.1 _ _ _ (by omega) (by omega)]
        obtain ⟨⟨p0, p1, p2, p3, p7, p8, p9, p10⟩, q, ⟨r1, r2⟩, s1⟩ := old
        show (gi hr 1 b 0 = gi hr 50 0 b ∧ gi hr 1 b 1 = gi hr 51 0 b ∧ gi hr 1 b 2 = gi hr 52 0 b ∧ gi hr 1 b 3 = gi hr 53 0 b ∧ gi hr 1 b 7 = gi hr 58 0 b ∧ gi hr 1 b 8 = gi hr 55 0 b ∧ gi hr 1 b 9 = gi hr 56 0 b ∧ gi hr 1 b 10 = gi hr 57 0 b) ∧
          (∀ t, t < 5 → gi hr 20 b t = gi hr 54 0 (5 * b + t) ∧ tn (gi hr 54 0 (5 * b + t))) ∧
          (cn (gi hr 58 0 b) 16 ∧ ∀ k, k < (gi hr 58 0 b).toNatClampNeg → gi hr 21 b k = gi hr 60 0 (16 * b + k) ∧ gi hr 22 b k = gi hr 59 0 (16 * b + k) ∧ gi hr 60 0 (16 * b + k) ≤ gi hr 12 0 5) ∧
          (cn (gi hr 51 0 b) 9999 ∧ cn (gi hr 53 0 b) 30 ∧ cn (gi hr 56 0 b) 99 ∧ cn (gi hr 57 0 b) 999 ∧ cn (gi hr 52 0 b) 1939)
        rw [cc 1 0 (by omega), cc 1 1 (by omega), cc 1 2 (by omega), cc 1 3 (by omega), cc 1 7 (by omega), cc 1 8 (by omega), cc 1 9 (by omega), cc 1 10 (by omega), go 50 b (by omega) c (by omega), go 51 b (by omega) c (by omega), go 52 b (by omega) c (by omega), go 53 b (by omega) c (by omega), go 58 b (by omega) c (by omega), go 55 b (by omega) c (by omega), go 56 b (by omega) c (by omega), go 57 b (by omega) c (by omega)]
        refine ⟨⟨p0, p1, p2, p3, p7, p8, p9, p10⟩, fun t ht => ?_, ⟨r1, fun k hk => ?_⟩, s1⟩
        · rw [cc 20 t (by omega), c54 t ht]; exact q t ht
        · rw [cc 21 k (by omega), cc 22 k (by omega), gl 60 _ (by omega), gl 59 _ (by omega), c125]; exact r2 k hk
      · -- a new one
        obtain ⟨j, rfl⟩ : ∃ j, b = NB (ms h) + j := ⟨b - NB (ms h), by omega⟩
        have hj : j < n := by omega
        obtain ⟨⟨p0, p1, p2, p3, p7, p8, p9, p10⟩, pt⟩ := C.2.2.2.2.2.2 j hj
        obtain ⟨⟨q0, q1, q2, q3, q5, q6, q7⟩, qt⟩ := B.2.2.2 j hj
        obtain ⟨o1, o2, o3, o4⟩ := ok j hj
        have e58 : gi hr 58 0 (NB (ms h) + j) = 0 := by rw [gl 58 _ (by omega), m_58]; exact v_58 R.m (by omega) (by omega)
        show (gi hr 1 (NB (ms h) + j) 0 = gi hr 50 0 (NB (ms h) + j) ∧ gi hr 1 (NB (ms h) + j) 1 = gi hr 51 0 (NB (ms h) + j) ∧ gi hr 1 (NB (ms h) + j) 2 = gi hr 52 0 (NB (ms h) + j) ∧ gi hr 1 (NB (ms h) + j) 3 = gi hr 53 0 (NB (ms h) + j) ∧ gi hr 1 (NB (ms h) + j) 7 = gi hr 58 0 (NB (ms h) + j) ∧ gi hr 1 (NB (ms h) + j) 8 = gi hr 55 0 (NB (ms h) + j) ∧ gi hr 1 (NB (ms h) + j) 9 = gi hr 56 0 (NB (ms h) + j) ∧ gi hr 1 (NB (ms h) + j) 10 = gi hr 57 0 (NB (ms h) + j)) ∧
          (∀ t, t < 5 → gi hr 20 (NB (ms h) + j) t = gi hr 54 0 (5 * (NB (ms h) + j) + t) ∧ tn (gi hr 54 0 (5 * (NB (ms h) + j) + t))) ∧
          (cn (gi hr 58 0 (NB (ms h) + j)) 16 ∧ ∀ k, k < (gi hr 58 0 (NB (ms h) + j)).toNatClampNeg → gi hr 21 (NB (ms h) + j) k = gi hr 60 0 (16 * (NB (ms h) + j) + k) ∧ gi hr 22 (NB (ms h) + j) k = gi hr 59 0 (16 * (NB (ms h) + j) + k) ∧ gi hr 60 0 (16 * (NB (ms h) + j) + k) ≤ gi hr 12 0 5) ∧
          (cn (gi hr 51 0 (NB (ms h) + j)) 9999 ∧ cn (gi hr 53 0 (NB (ms h) + j)) 30 ∧ cn (gi hr 56 0 (NB (ms h) + j)) 99 ∧ cn (gi hr 57 0 (NB (ms h) + j)) 999 ∧ cn (gi hr 52 0 (NB (ms h) + j)) 1939)
        have cc : ∀ k s, k = 1 ∨ k = 20 → gi hr k (NB (ms h) + j) s = gi hc k (NB (ms h) + j) s := fun k s q => gc _ _ _ (by omega) (by omega)
        rw [cc 1 0 (by omega), cc 1 1 (by omega), cc 1 2 (by omega), cc 1 3 (by omega), cc 1 7 (by omega), cc 1 8 (by omega), cc 1 9 (by omega), cc 1 10 (by omega), p0, p1, p2, p3, p7, p8, p9, p10, q0, q1, q2, q3, q5, q6, q7, e58]
        refine ⟨⟨rfl, rfl, rfl, rfl, rfl, rfl, rfl, rfl⟩, fun t ht => ?_, ⟨cn_of (n := 0) (by omega) (by omega), fun k hk => absurd hk (Nat.not_lt_zero k)⟩, cn_in 9999 (le_0 o2.1 (by decide)) o2.2, cn_in 30 o4.1 o4.2, cn_of (n := 5) (by omega) (by omega), cn_of (n := 999) (by omega) (by omega), cn_in 1939 (le_0 o3.1 (by decide)) o3.2⟩
        rw [cc 20 t (by omega), pt t ht, qt t ht]
        exact ⟨rfl, Or.inl rfl⟩
    · rw [gl 58 _ (by omega), m_58]; exact v_58 R.m (by omega) h2
  · rw [vw_ei EH (by intro k s e; unfold dL at e; simp only [Bool.or_eq_true, Bool.and_eq_true, Nat.beq_eq] at e; rcases e with ⟨rfl, rfl | rfl | rfl⟩ | ⟨rfl, rfl⟩ | rfl | rfl | rfl | rfl | rfl | rfl <;> rfl)]; exact R.l
  · rw [vw_ei EH (by intro k s e; unfold dU at e; simp only [Bool.or_eq_true, Bool.and_eq_true, Nat.beq_eq] at e; rcases e with ⟨rfl, rfl | rfl | rfl⟩ | ⟨rfl, rfl⟩ | ⟨rfl, rfl⟩ | rfl | rfl | rfl | rfl | rfl <;> rfl), B.1]; exact gU_rf xf (by decide) R.u
  · rw [vw_ei EH (by intro k s e; unfold dT at e; simp only [Bool.or_eq_true, Bool.and_eq_true, Nat.beq_eq] at e; rcases e with ⟨rfl, rfl | rfl⟩ | ⟨rfl, rfl | rfl⟩ <;> rfl)]; exact R.t
  · -- the batches
    have c39 : gi hr 12 0 39 = gi h 12 0 39 := by rw [gc _ _ _ (by omega) (by omega), C.1 _ _ _ (by omega) (by omega)]
    have n39 : (gi hr 12 0 39).toNatClampNeg = NK (ms h) := by rw [c39, m_12_39]; rfl
    show gi hr 11 0 10 = gi hr 12 0 39 ∧ cn (gi hr 12 0 39) 6 ∧ gn hr 0 = (gi hr 12 0 39).toNatClampNeg ∧
      ∀ k, k < (gi hr 12 0 39).toNatClampNeg → gr hr 43 0 k = some k ∧
        (gi hr 0 k 4 = nI (bl (fun s => gi hr 51 0 s) (fun s => gi hr 53 0 s) (gi hr 72 0 k) (gi hr 73 0 k) (gi hr 74 0 k) (gi hr 75 0 k) (gi hr 76 0 k).toNatClampNeg).length ∧
         gi hr 0 k 5 = hdI (bl (fun s => gi hr 51 0 s) (fun s => gi hr 53 0 s) (gi hr 72 0 k) (gi hr 73 0 k) (gi hr 74 0 k) (gi hr 75 0 k) (gi hr 76 0 k).toNatClampNeg) ∧
         gi hr 0 k 6 = nI (andL (bl (fun s => gi hr 51 0 s) (fun s => gi hr 53 0 s) (gi hr 72 0 k) (gi hr 73 0 k) (gi hr 74 0 k) (gi hr 75 0 k) (gi hr 76 0 k).toNatClampNeg)) ∧
         gi hr 0 k 7 = nI (orL (bl (fun s => gi hr 51 0 s) (fun s => gi hr 53 0 s) (gi hr 72 0 k) (gi hr 73 0 k) (gi hr 74 0 k) (gi hr 75 0 k) (gi hr 76 0 k).toNatClampNeg))) ∧
        (gi hr 76 0 k = nI (gi hr 76 0 k).toNatClampNeg ∧ (gi hr 76 0 k).toNatClampNeg < 2 ^ (gi hr 12 0 8).toNatClampNeg ∧ fb_ct (fun i => (gi hr 76 0 k).toNatClampNeg.testBit i) 20 ≤ 12) ∧ (cn (gi hr 72 0 k) 99999 ∧ cn (gi hr 73 0 k) 9999 ∧ cn (gi hr 74 0 k) 100 ∧ cn (gi hr 75 0 k) 100)
    rw [n39, nb8, c39, gn_22 B.1, gr_22 B.1]
    refine ⟨?_, R.k.2.1, ?_, fun k hk => ?_⟩
    · rw [gc _ _ _ (by omega) (by omega), C.1 _ _ _ (by omega) (by omega)]; exact R.k.1
    · rw [C.2.2.2.1 0 (by omega) (by omega) (by omega) (by omega)]; exact R.k.2.2.1
    · obtain ⟨o1, o2, o3, o4⟩ := R.k.2.2.2 k hk
      have c0 : ∀ s, gi hr 0 k s = gi h 0 k s := fun s => by rw [gc _ _ _ (by omega) (by omega), C.1 _ _ _ (by omega) (by omega)]
      obtain ⟨m1, m2, m3⟩ := n_76 R.m hk
      have eb : bl (fun s => gi hr 51 0 s) (fun s => gi hr 53 0 s) (gi h 72 0 k) (gi h 73 0 k) (gi h 74 0 k) (gi h 75 0 k) (gi h 76 0 k).toNatClampNeg = blK (ms h) k := by
        refine bl_cong (fun b hb hbit => ?_)
        have hlt : b < NB (ms h) := bit_lt m2 hbit
        exact ⟨by rw [go 51 b (by omega) hlt (by omega)]; rfl, by rw [go 53 b (by omega) hlt (by omega)]; rfl⟩
      rw [c0 4, c0 5, c0 6, c0 7, gl 72 k (by omega), gl 73 k (by omega), gl 74 k (by omega), gl 75 k (by omega), gl 76 k (by omega), eb]
      refine ⟨?_, o2, ⟨o3.1, Nat.lt_of_lt_of_le o3.2.1 (Nat.pow_le_pow_right (by decide) (by show NB (ms h) ≤ _; omega)), o3.2.2⟩, o4⟩
      rw [C.2.2.2.2.1 43 0 k (by omega) (by omega) (by omega) (by omega) (by omega)]
      exact o1
  · rw [vw_ei EH (by intro k s e; unfold dC at e; simp only [Bool.or_eq_true, Bool.and_eq_true, Nat.beq_eq] at e; rcases e with ⟨rfl, rfl⟩ | ⟨rfl, rfl⟩ | rfl | rfl | rfl | rfl | rfl | rfl | rfl | rfl | rfl | rfl <;> rfl)]; exact R.c
  · rw [vw_ei EH (by intro k s e; unfold dS at e; simp only [Bool.or_eq_true, Bool.and_eq_true, Nat.beq_eq] at e; rcases e with ⟨rfl, rfl | rfl | rfl⟩ | rfl | rfl | rfl | rfl <;> rfl), B.1]; exact gS_rf xf (by decide) R.s
  · rw [vw_ei EH (by intro k s e; unfold dF at e; simp only [Bool.or_eq_true, Bool.and_eq_true, Nat.beq_eq] at e; rcases e with ⟨rfl, rfl⟩ | ⟨rfl, rfl⟩ <;> rfl)]; exact R.f
theorem p_bell : CP_bell RQ := by
  intro h R a1 a2 a3 a4
  have hb := b_nb R.m
  have C0 := CBn.zero R (fun _ t => if t = 0 then a1 else if t = 1 then a2 else if t = 2 then a3 else a4)
  have e1 := e_bellC R.1 (b := NB (ms h)) C0.2.2.1 hb ((cw_nb R).trans (v_nb R.m)) a1 a2 a3 a4
  rw [cw_np R] at e1
  by_cases ok : okV (ms h 12 6) a1 a2 a3 a4
  · rw [if_pos ok] at e1
    by_cases c : NB (ms h) < 20
    · rw [if_pos c] at e1
      have C1 := C0.step
      have Gd : gR (cadd h (NB (ms h)) a1 a2 a3 a4).2.2 := gR_rf (rfx_cb C1) (by decide) R.1
      have emd := ms_cb C1
      have e8 : gi (cadd h (NB (ms h)) a1 a2 a3 a4) 12 0 8 = nI (NB (ms h)) := by
        have : ms (cadd h (NB (ms h)) a1 a2 a3 a4) = ms h := emd
        rw [m_12_8, this]
        exact v_nb R.m
      have e2 := f_bellR (X := cadd h (NB (ms h)) a1 a2 a3 a4) Gd hb e8 a1 a2 a3 a4
      rw [show ms (cadd h (NB (ms h)) a1 a2 a3 a4) = ms h from emd, if_pos ok, if_pos c] at e2
      have B1 := (RBn.zero (N := NB (ms h)) (h := cadd h (NB (ms h)) a1 a2 a3 a4) e8 (fun _ t => if t = 0 then a1 else if t = 1 then a2 else if t = 2 then a3 else a4)).step
      refine ⟨_, _, _, e1, by rw [rn_11 Gd]; omega, by rw [rn_12 Gd]; omega, e2, ?_⟩
      rw [wd_dp (radd_22 _ _ _ _ _ _)]
      exact RQ_bells R C1 B1 (by omega) (fun j _ => ok)
    · rw [if_neg c] at e1
      have e2 := f_bellR (X := h) R.1 hb (v_nb R.m) a1 a2 a3 a4
      rw [if_pos ok, if_neg c] at e2
      exact ⟨_, _, _, e1, by rw [rn_11 R.1]; omega, by rw [rn_12 R.1]; omega, e2, R⟩
  · rw [if_neg ok] at e1
    have e2 := f_bellR (X := h) R.1 hb (v_nb R.m) a1 a2 a3 a4
    rw [if_neg ok] at e2
    exact ⟨_, _, _, e1, by rw [rn_11 R.1]; omega, by rw [rn_12 R.1]; omega, e2, R⟩
def vaS (m : Nat → Nat → Int32) (s : Nat) (j t : Nat) : Int32 := m 47 (60 * s + (4 * j + t))
theorem p_read : CP_read RQ := by
  intro h R a
  have hb := b_nb R.m
  by_cases c1 : 0 ≤ a ∧ a ≤ 3
  · obtain ⟨s, hs, rfl⟩ := in_lit (n := 3) (by omega) c1
    rcases sh_cases R (s := s) (by omega) with ⟨l1, l2⟩ | ⟨l1, f, n, hf, hn, e1, e2, e3, e4, e5⟩
    · obtain ⟨w1, w2⟩ := find2 R 1
      refine ⟨-11, si h 11 0 15 1, dp (si (si h 11 0 15 1) 12 0 4 1), ?_, ?_, ?_, ?_, ?_⟩
      · unfold F_X11_read
        simp only [nm, u2]
        rw [e_isSheet, Option.bind_some, ite_b, if_pos c1, rf_11_14 R.1, Option.bind_some, gar_v (by omega) (by omega), rs_44 R (by omega), Option.bind_some, l1, if_neg (show ¬ (1 : Int32) = 0 by decide), e_finding, Option.bind_some]
        simp only [wd_si, wd_self]
        rfl
      · show 0 < gn h 11
        rw [rn_11 R.1]; omega
      · show 0 < gn h 12
        rw [rn_12 R.1]; omega
      · unfold F_X12_read
        simp only [nm, u2]
        rw [f_isSheet, Option.bind_some, ite_b, if_pos c1, rf_12_0 (h := si h 11 0 15 1) R.1, Option.bind_some, ga_v (by omega) (by omega), Option.bind_some, m_45, ms_15, l2, if_neg (show ¬ (0 : Int32) ≤ -1 by decide), f_met, Option.bind_some]
        simp only [wd_si, wd_osi, wd_self]
        rfl
      · rw [w1] at w2; exact w2
    · -- the class
      have hc : ∃ r : Int32 × HP, loopN 16 (B_X11_read_43 0 s (nI (n / 4))) (0, 0, h) = some r ∧ ∃ k hc, r = (nI k, hc) ∧ CBn h hc (NB (ms h)) k (vaS (ms h) s) ∧ NB (ms h) + k ≤ 20 ∧ k ≤ n / 4 ∧ (∀ j, j < k → okV (ms h 12 6) (vaS (ms h) s j 0) (vaS (ms h) s j 1) (vaS (ms h) s j 2) (vaS (ms h) s j 3)) ∧ (k = n / 4 ∨ NB (ms h) + k = 20 ∨ ¬ okV (ms h 12 6) (vaS (ms h) s k 0) (vaS (ms h) s k 1) (vaS (ms h) s k 2) (vaS (ms h) s k 3)) := by
        refine loop_igo (fun i q => ∃ hc, q = (nI i, nI i, hc) ∧ CBn h hc (NB (ms h)) i (vaS (ms h) s) ∧ NB (ms h) + i ≤ 20 ∧ i ≤ n / 4 ∧ (∀ j, j < i → okV (ms h 12 6) (vaS (ms h) s j 0) (vaS (ms h) s j 1) (vaS (ms h) s j 2) (vaS (ms h) s j 3))) _ 15 ?_ 15 0 16 _ (by omega) (by omega) ⟨h, rfl, CBn.zero R _, by omega, by omega, fun j hj => absurd hj (Nat.not_lt_zero j)⟩
        intro i q hi ⟨hc, hq, C, i1, i2, i3⟩
        subst hq
        by_cases c2 : i < n / 4
        · have G : gR hc.2.2 := gR_rf (rfx_cb C) (by decide) R.1
          have r9 : gr hc 9 s 3 = some s := by rw [C.2.2.2.2.1 9 s 3 (by omega) (by omega) (by omega) (by omega) (by omega)]; exact rs_9 R (by omega)
          have g39 : ∀ t, t < 4 → gi hc 39 s (4 * i + t) = vaS (ms h) s i t := fun t ht => by rw [C.1 _ _ _ (by omega) (by omega)]; exact e5 _ (by omega)
          have g112 : gi hc 11 0 2 = ms h 12 6 := by rw [C.1 _ _ _ (by omega) (by omega)]; exact cw_np R
          have bell := e_bellC G (b := NB (ms h) + i) C.2.2.1 i1 C.2.1 (vaS (ms h) s i 0) (vaS (ms h) s i 1) (vaS (ms h) s i 2) (vaS (ms h) s i 3)
          rw [g112] at bell
          have t0 : nI i * (4 : Int32) = nI (4 * i + 0) := by
            show nI i * nI 4 = _
            rw [pk_mul, Nat.mul_comm i 4]
            rfl
          have t1 : nI (4 * i + 0) + 1 = nI (4 * i + 1) := nI_add _ 1
          have t2 : nI (4 * i + 0) + 2 = nI (4 * i + 2) := nI_add _ 2
          have t3 : nI (4 * i + 0) + 3 = nI (4 * i + 3) := nI_add _ 3
          have body : B_X11_read_43 0 s (nI (n / 4)) (nI i, nI i, hc) = (F_X11_bell 0 (vaS (ms h) s i 0) (vaS (ms h) s i 1) (vaS (ms h) s i 2) (vaS (ms h) s i 3) hc).bind fun q45 => if 0 ≤ q45.1 then some (.inl (nI i + 1, nI i + 1, q45.2)) else some (.inr (nI i, q45.2)) := by
            unfold B_X11_read_43
            simp only [nm, u3, u2]
            rw [if_neg (nI_ge c2 (by omega)), t0, t1, t2, t3]
            rw [r9, Option.bind_some, ga_v (show 4 * i + 0 < 60 by omega) (by omega), Option.bind_some, g39 0 (by omega)]
            rw [Option.bind_some, ga_v (show 4 * i + 1 < 60 by omega) (by omega), Option.bind_some, g39 1 (by omega)]
            rw [Option.bind_some, ga_v (show 4 * i + 2 < 60 by omega) (by omega), Option.bind_some, g39 2 (by omega)]
            rw [Option.bind_some, ga_v (show 4 * i + 3 < 60 by omega) (by omega), Option.bind_some, g39 3 (by omega)]
          rw [body, bell]
          by_cases ok : okV (ms h 12 6) (vaS (ms h) s i 0) (vaS (ms h) s i 1) (vaS (ms h) s i 2) (vaS (ms h) s i 3)
          · rw [if_pos ok]
            by_cases c3 : NB (ms h) + i < 20
            · left
              rw [if_pos c3]
              refine ⟨_, by omega, by rw [Option.bind_some, if_pos (nI_pos' (show NB (ms h) + i < 2147483648 by omega)), nI_1], _, rfl, C.step, by omega, by omega, fun j hj => ?_⟩
              by_cases e : j = i
              · rw [e]; exact ok
              · exact i3 j (by omega)
            · right
              rw [if_neg c3]
              exact ⟨_, rfl, i, hc, rfl, C, i1, i2, i3, Or.inr (Or.inl (by omega))⟩
          · right
            rw [if_neg ok]
            exact ⟨_, rfl, i, hc, rfl, C, i1, i2, i3, Or.inr (Or.inr ok)⟩
        · right
          refine ⟨(nI i, hc), ?_, i, hc, rfl, C, i1, i2, i3, Or.inl (by omega)⟩
          unfold B_X11_read_43
          simp only [u3]
          rw [if_pos (nI_le (by omega) (by omega))]
      obtain ⟨r, l1', k, d, rfl, C, k1, k2, k3, k4⟩ := hc
      have Gd : gR d.2.2 := gR_rf (rfx_cb C) (by decide) R.1
      have emd := ms_cb C
      have e8 : gi d 12 0 8 = nI (NB (ms h)) := by rw [m_12_8, emd]; exact v_nb R.m
      -- the reference
      have hr : ∃ r : Int32 × DP, loopN LF (B_X12_read_29 0 (nI s) d) (0, 1, dp d) = some r ∧ ∃ hr, r = (nI k, dp hr) ∧ RBn d hr (NB (ms h)) k (vaS (ms h) s) := by
        refine loopI (fun i q => (i ≤ k ∧ ∃ hr, q = (nI i, 1, dp hr) ∧ RBn d hr (NB (ms h)) i (vaS (ms h) s)) ∨ (i = k + 1 ∧ ∃ hr, q = (nI k, 0, dp hr) ∧ RBn d hr (NB (ms h)) k (vaS (ms h) s))) _ (k + 1) (by omega) (Or.inl ⟨by omega, d, rfl, RBn.zero e8 _⟩) ?_
        intro i q hi I
        rcases I with ⟨ik, hr, hq, B⟩ | ⟨ik, hr, hq, B⟩
        · subst hq
          have hwd : wd d (dp hr) = hr := wd_dp B.1
          have G : gR hr.2.2 := by rw [B.1]; exact Gd
          have m46 : gi hr 46 0 s = nI n := by rw [B.2.1 _ _ _ (by omega) (by omega) (by omega), m_46, emd]; exact e2
          have g47 : ∀ t, gi hr 47 0 (60 * s + (4 * i + t)) = vaS (ms h) s i t := fun t => by rw [B.2.1 _ _ _ (by omega) (by omega) (by omega), m_47, emd]; rfl
          have t4 : 4 * nI i + 4 = nI (4 * i + 4) := by
            show nI 4 * nI i + nI 4 = _
            rw [pk_mul, nI_add]
          by_cases c2 : i < n / 4
          · have t0 : 60 * nI s + 4 * nI i = nI (60 * s + (4 * i + 0)) := by
              show nI 60 * nI s + nI 4 * nI i = _
              rw [pk_mul, pk_mul, nI_add]
              rfl
            have t1 : nI (60 * s + (4 * i + 0)) + 1 = nI (60 * s + (4 * i + 1)) := nI_add _ 1
            have t2 : nI (60 * s + (4 * i + 0)) + 2 = nI (60 * s + (4 * i + 2)) := nI_add _ 2
            have t3 : nI (60 * s + (4 * i + 0)) + 3 = nI (60 * s + (4 * i + 3)) := nI_add _ 3
            have g126 : ms hr 12 6 = ms h 12 6 := by
              rw [← m_12_6, B.2.1 _ _ _ (by omega) (by omega) (by omega), m_12_6, emd]
            have bell := f_bellR G (b := NB (ms h) + i) (by omega) B.2.2.1 (vaS (ms h) s i 0) (vaS (ms h) s i 1) (vaS (ms h) s i 2) (vaS (ms h) s i 3)
            rw [g126] at bell
            have j103 : ∀ (t : Int32) (H : HP), J_X12_read_103 0 (nI s) (nI i) t H = some (.inl (if t = 0 then nI i else nI (i + 1), t, dp H)) := by
              intro t H
              unfold J_X12_read_103
              simp only [nm]
              by_cases z : t = 0
              · rw [if_pos z, if_pos z, Int32.add_zero]
              · rw [if_neg z, if_neg z, nI_1]
            have body : B_X12_read_29 0 (nI s) d (nI i, 1, dp hr) = (F_X12_bell 0 (vaS (ms h) s i 0) (vaS (ms h) s i 1) (vaS (ms h) s i 2) (vaS (ms h) s i 3) hr).bind fun q => if q.1 < 0 then some (.inl (nI i, 0, dp (wd hr q.2))) else some (.inl (nI (i + 1), 1, dp (wd hr q.2))) := by
              unfold B_X12_read_29
              simp only [nm, u3, u2]
              rw [hwd, if_neg (show ¬ (1 : Int32) = 0 by decide), rf_12_1 G, Option.bind_some, ga_v (show s < 4 by omega) (by omega), Option.bind_some, m46, t4, if_neg (show ¬ nI n < nI (4 * i + 4) from nI_nlt (by omega) (by omega)), t0, t1, t2, t3]
              rw [rf_12_2 G, Option.bind_some, ga_v (show 60 * s + (4 * i + 0) < 240 by omega) (by omega), Option.bind_some, g47 0]
              rw [Option.bind_some, ga_v (show 60 * s + (4 * i + 1) < 240 by omega) (by omega), Option.bind_some, g47 1]
              rw [Option.bind_some, ga_v (show 60 * s + (4 * i + 2) < 240 by omega) (by omega), Option.bind_some, g47 2]
              rw [Option.bind_some, ga_v (show 60 * s + (4 * i + 3) < 240 by omega) (by omega), Option.bind_some, g47 3]
              simp only [j103, if_true, if_neg (show ¬ (1 : Int32) = 0 by decide)]
            by_cases c3 : i < k
            · left
              have ok := k3 i c3
              rw [if_pos ok, if_pos (show NB (ms h) + i < 20 by omega)] at bell
              refine ⟨(nI (i + 1), 1, dp (radd hr (NB (ms h) + i) (vaS (ms h) s i 0) (vaS (ms h) s i 1) (vaS (ms h) s i 2) (vaS (ms h) s i 3))), by omega, ?_, Or.inl ⟨by omega, _, rfl, B.step⟩⟩
              rw [body, bell, Option.bind_some, if_neg (nI_pos (show NB (ms h) + i < 2147483648 by omega))]
              rw [wd_dp (radd_22 _ _ _ _ _ _)]
            · left
              have e : i = k := by omega
              subst e
              refine ⟨(nI i, 0, dp hr), by omega, ?_, Or.inr ⟨rfl, hr, rfl, B⟩⟩
              rw [body, bell]
              by_cases ok : okV (ms h 12 6) (vaS (ms h) s i 0) (vaS (ms h) s i 1) (vaS (ms h) s i 2) (vaS (ms h) s i 3)
              · rw [if_pos ok]
                by_cases c5 : NB (ms h) + i < 20
                · exfalso
                  rcases k4 with q | q | q
                  · omega
                  · omega
                  · exact q ok
                · rw [if_neg c5]
                  rfl
              · rw [if_neg ok]
                rfl
          · right
            have e : i = k := by omega
            subst e
            refine ⟨(nI i, dp hr), ?_, hr, rfl, B⟩
            unfold B_X12_read_29
            simp only [nm, u3, u2]
            rw [hwd, if_neg (show ¬ (1 : Int32) = 0 by decide), rf_12_1 G, Option.bind_some, ga_v (show s < 4 by omega) (by omega), Option.bind_some, m46, t4, if_pos (show nI n < nI (4 * i + 4) from nI_lt (by omega) (by omega))]
        · right
          subst hq
          have hwd : wd d (dp hr) = hr := wd_dp B.1
          refine ⟨(nI k, dp hr), ?_, hr, rfl, B⟩
          unfold B_X12_read_29
          simp only [nm, u3, u2, hwd, if_true]
      obtain ⟨r, l2', hr, rfl, B⟩ := hr
      refine ⟨nI k, d, dp hr, ?_, by rw [rn_11 Gd]; omega, by rw [rn_12 Gd]; omega, ?_, ?_⟩
      · have d4 : dz (nI n) 4 = some (nI (n / 4)) := by
          unfold dz
          rw [if_neg (show ¬ (4 : Int32) = 0 by decide)]
          show some (nI n / nI 4) = _
          rw [pk_div (by omega) (by omega) (by omega)]
        unfold F_X11_read
        simp only [nm, u2]
        rw [e_isSheet, Option.bind_some, ite_b, if_pos c1, rf_11_14 R.1, Option.bind_some, gar_v (by omega) (by omega), rs_44 R (by omega), Option.bind_some, l1, if_pos rfl, e4, d4, Option.bind_some, l1', Option.bind_some]
      · unfold F_X12_read
        simp only [nm, u2]
        rw [f_isSheet, Option.bind_some, ite_b, if_pos c1, rf_12_0 Gd, Option.bind_some, ga_v (by omega) (by omega), Option.bind_some, m_45, emd, e1, if_pos (nI_pos' (by omega)), l2', Option.bind_some, wd_dp B.1]
      · rw [wd_dp B.1]
        exact RQ_bells R C B k1 k3
  · refine ⟨-2, h, dp h, ?_, by rw [rn_11 R.1]; omega, by rw [rn_12 R.1]; omega, ?_, R⟩
    · unfold F_X11_read
      rw [e_isSheet, Option.bind_some, ite_b, if_neg c1]
    · unfold F_X12_read
      rw [f_isSheet, Option.bind_some, ite_b, if_neg c1]
