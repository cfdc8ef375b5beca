/-! stage III: type, wipe, fault; letters; kept, gained, write -/
theorem char_b {b : Nat} (hb : b ≤ 255) : vp_nar .char (((nI b).toUInt32 % 65536).toInt32) = nI b := by
  unfold vp_nar
  rw [pk_char, pk_tn (by omega), show b % 65536 = b by omega, (pk_charN (by omega)).1]
/-! what the parts of a text are -/
def okX (x : PT) : Prop := cn x.1 3 ∧ (x.1 = 3 → cn x.2.2.1 9)
theorem kdS_ok {c : Int32} (h : ¬ kdS c = -1) : cn (kdS c) 3 := by
  unfold kdS at *
  by_cases e : c = 107
  · rw [if_pos e]; exact cn_of (n := 3) (by omega) (by omega)
  · rw [if_neg e] at *
    by_cases e2 : 97 ≤ c ∧ c ≤ 99
    · rw [if_pos e2]
      obtain ⟨m, m1, m2, rfl⟩ := in_litl (l := 97) (n := 99) (by omega) (by omega) e2
      have : m = 97 ∨ m = 98 ∨ m = 99 := by omega
      rcases this with rfl | rfl | rfl
      · exact cn_of (n := 0) (by omega) (by omega)
      · exact cn_of (n := 1) (by omega) (by omega)
      · exact cn_of (n := 2) (by omega) (by omega)
    · rw [if_neg e2] at h; exact absurd rfl h
theorem ptl_x {t : Nat → Int32} {n : Nat} {c y a : Int32} {p : Nat} (h : (ptl t n c y a p).1 = true) : (ptl t n c y a p).2.2.1 = c ∧ (ptl t n c y a p).2.2.2.2.1 = a := by
  unfold ptl at *
  by_cases c1 : sg t n p = 64
  · rw [if_pos c1] at *
    by_cases c2 : (pnum t n 1 3 0 199 (p + 1)).1 = true
    · rw [if_pos c2]; exact ⟨rfl, rfl⟩
    · rw [if_neg c2] at h; cases h
  · rw [if_neg c1]; exact ⟨rfl, rfl⟩
theorem pp_x {t : Nat → Int32} {n p : Nat} (hp : p ≤ n) (h : (pprt t n p).1 = true) : okX (pprt t n p).2.2 := by
  unfold pprt at *
  by_cases c0 : kdS (sg t n p) = -1
  · rw [if_pos c0] at h; cases h
  · rw [if_neg c0] at *
    by_cases c1 : sg t n (p + 1) = 61
    · have hpn : p + 1 < n := by
        rcases Nat.lt_or_ge (p + 1) n with q | q
        · exact q
        · rw [sg_out q] at c1; exact absurd c1 (by decide)
      rw [if_pos c1] at *
      by_cases c2 : kdS (sg t n p) = 3
      · rw [if_pos c2] at *
        unfold pk3 at *
        by_cases c3 : (pnum t n 1 1 0 9 (p + 2)).1 = true
        · rw [if_pos c3] at *
          obtain ⟨a1, a2⟩ := ptl_x h
          have q := pn_ok (by omega) c3
          unfold okX
          rw [a1, a2]
          exact ⟨cn_of (n := 3) (by omega) (by omega), fun _ => cn_in 9 q.2.2.1 q.2.2.2⟩
        · rw [if_neg c3] at h; cases h
      · rw [if_neg c2] at *
        unfold pk1 at *
        by_cases c3 : (pnum t n 4 4 1000 1939 (p + 2)).1 = true
        · rw [if_pos c3] at *
          by_cases c4 : sg t n (pnum t n 4 4 1000 1939 (p + 2)).2.2 = 44
          · rw [if_pos c4] at *
            unfold pk2 at *
            by_cases c5 : (pnum t n 1 4 1 9999 ((pnum t n 4 4 1000 1939 (p + 2)).2.2 + 1)).1 = true
            · rw [if_pos c5] at *
              obtain ⟨a1, a2⟩ := ptl_x h
              unfold okX
              rw [a1]
              exact ⟨kdS_ok c0, fun q => absurd q c2⟩
            · rw [if_neg c5] at h; cases h
          · rw [if_neg c4] at h; cases h
        · rw [if_neg c3] at h; cases h
    · rw [if_neg c1] at h; cases h
theorem pall_x {t : Nat → Int32} {n : Nat} (hn : n ≤ 100) : ∀ (k p : Nat) (L : List PT), p ≤ n → 4 * L.length ≤ p → (∀ x, x ∈ L → okX x) → (pall t n k p L).2.length ≤ 26 ∧ ∀ x, x ∈ (pall t n k p L).2 → okX x := by
  intro k
  induction k with
  | zero =>
    intro p L _ _ _
    exact ⟨by show ([] : List PT).length ≤ 26; simp, fun x hx => by cases hx⟩
  | succ k ih =>
    intro p L hp hL hx
    rw [pall_s]
    by_cases c1 : (pprt t n p).1 = true
    · rw [if_pos c1]
      have q := pp_ok c1
      have hx2 : ∀ x, x ∈ L ++ [(pprt t n p).2.2] → okX x := by
        intro x h2
        rcases List.mem_append.mp h2 with h3 | h3
        · exact hx x h3
        · rw [List.mem_singleton.mp h3]; exact pp_x hp c1
      unfold paft
      by_cases c2 : (pprt t n p).2.1 < n
      · rw [if_pos c2]
        by_cases c3 : t (pprt t n p).2.1 = 59
        · rw [if_pos c3]
          exact ih _ _ (by omega) (by rw [List.length_append]; show 4 * (L.length + 1) ≤ _; omega) hx2
        · rw [if_neg c3]
          exact ⟨by show ([] : List PT).length ≤ 26; simp, fun x hx => by cases hx⟩
      · rw [if_neg c2]
        exact ⟨by rw [List.length_append]; show L.length + 1 ≤ 26; omega, hx2⟩
    · rw [if_neg c1]
      exact ⟨by show ([] : List PT).length ≤ 26; simp, fun x hx => by cases hx⟩
theorem lw_x {t : Nat → Int32} {n : Nat} (hn : n ≤ 100) : (lw t n).2.length ≤ 26 ∧ ∀ x, x ∈ (lw t n).2 → okX x := by
  unfold lw
  by_cases c : n = 0
  · rw [if_pos c]
    exact ⟨by show ([] : List PT).length ≤ 26; simp, fun x hx => by cases hx⟩
  · rw [if_neg c]
    exact pall_x hn 101 0 [] (by omega) (by simp) (fun x hx => by cases hx)
def LW (m : Nat → Nat → Int32) : List PT := (lw (m 61) (NT m)).2
def LF1 (m : Nat → Nat → Int32) : Int32 := (lw (m 61) (NT m)).1
theorem LW_len {m : Nat → Nat → Int32} (W : MW m) : (LW m).length ≤ 26 := (lw_x (b_nt W)).1
theorem LW_ok {m : Nat → Nat → Int32} (W : MW m) {p : Nat} {x : PT} (h : (LW m)[p]? = some x) : okX x := (lw_x (b_nt W)).2 x (List.mem_of_getElem? h)
/-- the class's parts, and the reference's behind its reading -/
theorem c_fault {h : HP} (R : RQ h) : gi h 4 0 2 = LF1 (ms h) := R.l.2.2.2.1
theorem c_PL {h : HP} (R : RQ h) : PL h (LW (ms h)) := ⟨R.l.2.2.2.2.1, R.l.2.2.2.2.2⟩
theorem c_PC {h : HP} (R : RQ h) : PC (ms h 61) (NT (ms h)) h := ⟨R.1, (cw_nt R).trans (v_nt R.m), fun i hi => (R.l.2.2.1 i hi).1⟩
theorem r_PQ {h : HP} (G : gR h.2.2) (W : MW (ms h)) : PQ (ms h 61) (NT (ms h)) h := ⟨G, by rw [m_12_21]; exact v_nt W, fun i _ => m_61 h i⟩
theorem TP_la : ∀ k s, TP k s = true → la k s = false := by
  intro k s e
  unfold TP at e
  simp only [Bool.or_eq_true, Bool.and_eq_true, Nat.beq_eq] at e
  rcases e with ⟨rfl, rfl | rfl⟩ | rfl | rfl | rfl | rfl <;> rfl
theorem f_readsM {h : HP} (G : gR h.2.2) (W : MW (ms h)) : ∃ h', F_X12_reads 0 h = some (LF1 (ms h), dp h') ∧ EX TP h h' ∧ SQ h h' ∧ PM h' (LW (ms h)) := by
  obtain ⟨h', r, x, pm⟩ := f_reads (r_PQ G W) (b_nt W)
  exact ⟨h', r, x, x.sq TP_la, pm⟩
/-- a query that changes scratch alone on the reference's side -/
theorem p_fault : CP_fault RQ := by
  intro h R
  obtain ⟨h', r, x, q, pm⟩ := f_readsM R.1 R.m
  refine ⟨LF1 (ms h), dp h', ?_, ?_, ?_⟩
  · unfold F_X11_fault
    rw [rf_11_4 R.1, Option.bind_some, c_fault R]
  · unfold F_X12_fault
    simp only [nm, u2]
    rw [r, Option.bind_some]
    simp only [wd_dp x.1]
  · rw [wd_dp x.1]
    exact q.rl R
/-! type, wipe -/
/-- the relation behind a new text -/
theorem RQ_text {h : HP} (R : RQ h) (t : Nat → Int32) (n : Nat) (hn : n ≤ 100) {h1 h2 h3 : HP} (x1 : EX (fun k s => Nat.beq k 29 || (Nat.beq k 4 && Nat.beq s 1)) h h1) (P1 : PC t n h1) (x2 : EX SP h1 h2) (L2 : PL h2 (lw t n).2) (g2 : gi h2 4 0 2 = (lw t n).1) (x3 : EX (fun k s => Nat.beq k 61 || (Nat.beq k 12 && Nat.beq s 21)) h2 h3) (g61 : ∀ i, gi h3 61 0 i = t i) (g21 : gi h3 12 0 21 = nI n) (hr : ∀ i, i < n → cn (t i) 255) : RQ h3 := by
  have hq : h3.2.2 = h.2.2 := x3.1.trans (x2.1.trans x1.1)
  have ex : EX (fun k s => (Nat.beq k 29 || (Nat.beq k 4 && (Nat.beq s 1 || (Nat.beq s 2 || (Nat.beq s 7 || (Nat.beq s 9 || Nat.beq s 10)))))) || ((Nat.beq k 30 || (Nat.beq k 31 || (Nat.beq k 32 || Nat.beq k 33))) || (Nat.beq k 61 || (Nat.beq k 12 && Nat.beq s 21)))) h h3 := by
    have mono : ∀ {S T : Nat → Nat → Bool}, (∀ k s, S k s = true → T k s = true) → ∀ k s, T k s = false → S k s = false := by
      intro S T hST k s e
      cases hS : S k s with
      | false => rfl
      | true => rw [hST k s hS] at e; cases e
    refine EX.trans (EX.trans (x1.mono (mono ?_)) (x2.mono (mono ?_))) (x3.mono (mono ?_))
    · intro k s e
      simp only [Bool.or_eq_true, Bool.and_eq_true, Nat.beq_eq] at e
      rcases e with rfl | ⟨rfl, rfl⟩ <;> rfl
    · intro k s e
      unfold SP at e
      simp only [Bool.or_eq_true, Bool.and_eq_true, Nat.beq_eq] at e
      rcases e with ⟨rfl, rfl | rfl | rfl | rfl⟩ | rfl | rfl | rfl | rfl <;> rfl
    · intro k s e
      simp only [Bool.or_eq_true, Bool.and_eq_true, Nat.beq_eq] at e
      rcases e with rfl | ⟨rfl, rfl⟩ <;> rfl
  have qr : gR h3.2.2 := by rw [hq]; exact R.1
  refine RQ.mk R qr ?_ ?_ ?_ ?_ ?_ ?_ ?_ ?_ ?_ ?_
  · rw [vw_ex ex (by intro k s e; unfold dW at e; simp only [Bool.or_eq_true, Bool.and_eq_true, Nat.beq_eq] at e; rcases e with ⟨rfl, rfl⟩ | ⟨rfl, rfl⟩ <;> rfl), hq]; exact R.w
  · rw [vw_ex ex (by intro k s e; unfold dP at e; simp only [Bool.or_eq_true, Bool.and_eq_true, Nat.beq_eq] at e; rcases e with ⟨rfl, rfl⟩ | ⟨rfl, rfl⟩ | rfl | rfl <;> rfl), hq]; exact R.p
  · rw [vw_ex ex (by intro k s e; unfold dB at e; simp only [Bool.or_eq_true, Bool.and_eq_true, Nat.beq_eq] at e; rcases e with ⟨rfl, rfl | rfl | rfl | rfl | rfl | rfl | rfl | rfl⟩ | ⟨rfl, rfl⟩ | ⟨rfl, rfl | rfl⟩ | rfl | rfl | rfl | rfl | rfl | rfl | rfl | rfl | rfl | rfl | rfl | rfl | rfl | rfl <;> rfl), hq]; exact R.b
  · have P2 := P1.ex x2
    have e61 : vw dL h3 61 0 = t := by funext i; exact g61 i
    have e21 : (vw dL h3 12 0 21).toNatClampNeg = n := by show (gi h3 12 0 21).toNatClampNeg = n; rw [g21, nI_clamp (by omega)]
    unfold gL
    rw [e61, e21]
    refine ⟨?_, ?_, fun i hi => ⟨?_, hr i hi⟩, ?_, ?_, fun p x hx => ?_⟩
    · show gi h3 4 0 1 = gi h3 12 0 21
      rw [x3.2.1 4 0 1 rfl, P2.2.1, g21]
    · show cn (gi h3 12 0 21) 100
      rw [g21]
      exact cn_of hn (by omega)
    · show gi h3 29 0 i = t i
      rw [x3.2.1 29 0 i rfl]
      exact P2.2.2 i hi
    · show gi h3 4 0 2 = _
      rw [x3.2.1 4 0 2 rfl, g2]
    · show gi h3 4 0 7 = _
      rw [x3.2.1 4 0 7 rfl, L2.1]
    · show gi h3 30 0 p = _ ∧ gi h3 31 0 p = _ ∧ gi h3 32 0 p = _ ∧ gi h3 33 0 p = _
      rw [x3.2.1 30 0 p rfl, x3.2.1 31 0 p rfl, x3.2.1 32 0 p rfl, x3.2.1 33 0 p rfl]
      exact L2.2 p x hx
  · rw [vw_ex ex (by intro k s e; unfold dU at e; simp only [Bool.or_eq_true, Bool.and_eq_true, Nat.beq_eq] at e; rcases e with ⟨rfl, rfl | rfl | rfl⟩ | ⟨rfl, rfl⟩ | ⟨rfl, rfl⟩ | rfl | rfl | rfl | rfl | rfl <;> rfl), hq]; exact R.u
  · rw [vw_ex ex (by intro k s e; unfold dT at e; simp only [Bool.or_eq_true, Bool.and_eq_true, Nat.beq_eq] at e; rcases e with ⟨rfl, rfl | rfl⟩ | ⟨rfl, rfl | rfl⟩ <;> rfl), hq]; exact R.t
  · rw [vw_ex ex (by intro k s e; unfold dK at e; simp only [Bool.or_eq_true, Bool.and_eq_true, Nat.beq_eq] at e; rcases e with rfl | ⟨rfl, rfl⟩ | ⟨rfl, rfl | rfl⟩ | rfl | rfl | rfl | rfl | rfl | rfl | rfl <;> rfl), hq]; exact R.k
  · rw [vw_ex ex (by intro k s e; unfold dC at e; simp only [Bool.or_eq_true, Bool.and_eq_true, Nat.beq_eq] at e; rcases e with ⟨rfl, rfl⟩ | ⟨rfl, rfl⟩ | rfl | rfl | rfl | rfl | rfl | rfl | rfl | rfl | rfl | rfl <;> rfl), hq]; exact R.c
  · rw [vw_ex ex (by intro k s e; unfold dS at e; simp only [Bool.or_eq_true, Bool.and_eq_true, Nat.beq_eq] at e; rcases e with ⟨rfl, rfl | rfl | rfl⟩ | rfl | rfl | rfl | rfl <;> rfl), hq]; exact R.s
  · rw [vw_ex ex (by intro k s e; unfold dF at e; simp only [Bool.or_eq_true, Bool.and_eq_true, Nat.beq_eq] at e; rcases e with ⟨rfl, rfl⟩ | ⟨rfl, rfl⟩ <;> rfl), hq]; exact R.f
theorem p_type : CP_type RQ := by
  intro h R b
  have hb := b_nt R.m
  by_cases c1 : 0 ≤ b ∧ b ≤ 255
  · by_cases c2 : NT (ms h) = 100
    · refine ⟨-4, dp h, dp h, ?_, ?_, R⟩
      · unfold F_X11_type
        rw [e_from, Option.bind_some, ite_b, if_pos c1, rf_11_4 R.1, Option.bind_some, cw_nt R, v_nt R.m, c2, if_neg (show ¬ nI 100 < 100 by decide)]
      · unfold F_X12_type
        rw [wd_self, e_in_0_255, Option.bind_some, ite_b, if_pos c1, m_12_21, v_nt R.m, c2, if_pos (show nI 100 = 100 from rfl)]
    · have hv := v_nt R.m
      have hc := cw_nt R
      have hpc := c_PC R
      generalize hnn : NT (ms h) = n at *
      obtain ⟨b, hbb, rfl⟩ := in_lit (n := 255) (by omega) c1
      have x1 : EX (fun k s => Nat.beq k 29 || (Nat.beq k 4 && Nat.beq s 1)) h (si (si h 29 0 n (nI b)) 4 0 1 (nI (n + 1))) := EX.si (EX.si (EX.rfl' h) _ _ rfl) _ _ rfl
      have P1 : PC (fun i => if i = n then nI b else ms h 61 i) (n + 1) (si (si h 29 0 n (nI b)) 4 0 1 (nI (n + 1))) := by
        refine ⟨R.1, by rw [gi_si, if_pos ⟨rfl, rfl, rfl⟩], fun i hi => ?_⟩
        simp only [gi_si, Nat.reduceEqDiff, false_and, if_false, true_and]
        by_cases e : i = n
        · rw [if_pos e, if_pos e]
        · rw [if_neg e, if_neg e]
          exact hpc.2.2 i (by omega)
      obtain ⟨h2, r2, x2, L2, g2⟩ := e_readAll P1 (by omega)
      have hq : h2.2.2 = h.2.2 := x2.1.trans x1.1
      have hm21 : gi h2 12 0 21 = nI n := by rw [x2.2.1 12 0 21 rfl, x1.2.1 12 0 21 rfl, m_12_21, hv]
      refine ⟨nI (n + 1), dp h2, dp (si (si h2 61 0 n (nI b)) 12 0 21 (nI (n + 1))), ?_, ?_, ?_⟩
      · unfold F_X11_type
        simp only [nm]
        rw [e_from, Option.bind_some, ite_b, if_pos c1, rf_11_4 R.1, Option.bind_some, hc, hv, if_pos (show nI n < 100 from nI_lt (b := 100) (by omega) (by omega)), Option.bind_some]
        unfold F_X4_append
        simp only [nm]
        rw [hc, hv, if_neg (show ¬ 100 ≤ nI n from nI_ge (b := 100) (by omega) (by omega)), rf_4_0 R.1, Option.bind_some, char_b (by omega), sa_v (by omega) (by omega), Option.bind_some, gi_si, if_neg (show ¬ (4 = 29 ∧ 0 = 0 ∧ 1 = n) by omega), hc, hv, nI_1, r2, Option.bind_some, Option.bind_some]
        have w1 : wd (si (si h 29 0 n (nI b)) 4 0 1 (nI (n + 1))) (dp h2) = h2 := wd_dp x2.1
        rw [w1, wd_dp hq, gr_22 hq]
        rw [rf_11_4 R.1, Option.bind_some]
        rw [x2.2.1 4 0 1 rfl, P1.2.1]
      · rw [wd_dp hq]
        have G2 : gR h2.2.2 := by rw [hq]; exact R.1
        unfold F_X12_type
        simp only [nm]
        rw [e_in_0_255, Option.bind_some, ite_b, if_pos c1, hm21, if_neg (show ¬ nI n = 100 from fun q => c2 ((nI_eq (b := 100) (by omega) (by omega)).mp q)), rf_12_20 G2, Option.bind_some, sa_v (by omega) (by omega), Option.bind_some]
        simp only [gi_si, Nat.reduceEqDiff, false_and, if_false, and_self, if_true, hm21, nI_1]
      · rw [wd_dp hq, wd_si, wd_si, wd_self]
        refine RQ_text R (fun i => if i = n then nI b else ms h 61 i) (n + 1) (by omega) x1 P1 x2 L2 g2 (EX.si (EX.si (EX.rfl' h2) _ _ rfl) _ _ rfl) ?_ (by rw [gi_si, if_pos ⟨rfl, rfl, rfl⟩]) ?_
        · intro i
          simp only [gi_si, Nat.reduceEqDiff, false_and, if_false, true_and]
          by_cases e : i = n
          · rw [if_pos e, if_pos e]
          · rw [if_neg e, if_neg e, x2.2.1 61 0 i rfl, x1.2.1 61 0 i rfl, m_61]
        · intro i hi
          show cn (if i = n then nI b else ms h 61 i) 255
          by_cases e : i = n
          · rw [if_pos e]; exact cn_of hbb (by omega)
          · rw [if_neg e]
            have hi2 : i < NT (ms h) := by omega
            exact (R.l.2.2.1 i hi2).2
  · refine ⟨-2, dp h, dp h, ?_, ?_, R⟩
    · unfold F_X11_type
      rw [e_from, Option.bind_some, ite_b, if_neg c1]
    · unfold F_X12_type
      rw [wd_self, e_in_0_255, Option.bind_some, ite_b, if_neg c1]
theorem p_wipe : CP_wipe RQ := by
  intro h R
  have x1 : EX (fun k s => Nat.beq k 29 || (Nat.beq k 4 && Nat.beq s 1)) h (si h 4 0 1 0) := EX.si (EX.rfl' h) _ _ rfl
  have P1 : PC (ms h 61) 0 (si h 4 0 1 0) := ⟨R.1, by rw [gi_si, if_pos ⟨rfl, rfl, rfl⟩]; rfl, fun i hi => by omega⟩
  obtain ⟨h2, r2, x2, L2, g2⟩ := e_readAll P1 (by omega)
  have hq : h2.2.2 = h.2.2 := x2.1.trans x1.1
  refine ⟨ms h 12 21, dp h2, dp (si h2 12 0 21 0), ?_, ?_, ?_⟩
  · unfold F_X11_wipe
    simp only [nm]
    rw [rf_11_4 R.1, Option.bind_some, Option.bind_some]
    unfold F_X4_clear
    simp only [nm]
    rw [r2, Option.bind_some, Option.bind_some]
    have w1 : wd (si h 4 0 1 0) (dp h2) = h2 := wd_dp x2.1
    rw [w1, wd_dp hq, cw_nt R]
  · rw [wd_dp hq]
    unfold F_X12_wipe
    simp only [nm]
    rw [x2.2.1 12 0 21 rfl, x1.2.1 12 0 21 rfl, m_12_21]
  · rw [wd_dp hq, wd_si, wd_self]
    refine RQ_text R (ms h 61) 0 (by omega) x1 P1 x2 L2 g2 (EX.si (EX.rfl' h2) _ _ rfl) ?_ (by rw [gi_si, if_pos ⟨rfl, rfl, rfl⟩]; rfl) (fun i hi => by omega)
    intro i
    rw [gi_si, if_neg (by omega), x2.2.1 61 0 i rfl, x1.2.1 61 0 i rfl, m_61]
/-! letters -/
def lastK (L : List PT) (w k : Int32) : Nat → Int32
  | 0 => -1
  | p + 1 => match L[p]? with
    | some x => if x.1 = k ∧ x.2.2.2 ≤ w then nI p else lastK L w k p
    | none => lastK L w k p
def lastL (L : List PT) (w k : Int32) : Int32 := lastK L w k L.length
theorem lastK_r (L : List PT) (w k : Int32) : ∀ n, n ≤ L.length → lastK L w k n = -1 ∨ ∃ p x, p < n ∧ L[p]? = some x ∧ x.1 = k ∧ lastK L w k n = nI p := by
  intro n
  induction n with
  | zero => intro _; exact Or.inl rfl
  | succ n ih =>
    intro hn
    have hx : L[n]? = some L[n] := List.getElem?_eq_getElem (by omega)
    have st : lastK L w k (n + 1) = if L[n].1 = k ∧ L[n].2.2.2 ≤ w then nI n else lastK L w k n := by
      show (match L[n]? with | some x => if x.1 = k ∧ x.2.2.2 ≤ w then nI n else lastK L w k n | none => lastK L w k n) = _
      rw [hx]
    rw [st]
    by_cases c : L[n].1 = k ∧ L[n].2.2.2 ≤ w
    · rw [if_pos c]
      exact Or.inr ⟨n, L[n], by omega, hx, c.1, rfl⟩
    · rw [if_neg c]
      rcases ih (by omega) with q | ⟨p, x, q1, q2, q3, q4⟩
      · exact Or.inl q
      · exact Or.inr ⟨p, x, by omega, q2, q3, q4⟩
/-- the part by which a bell of the year y and the weight a has the letter k -/
def okL (L : List PT) (y a q : Int32) : Bool := match L[q.toNatClampNeg]? with
  | some x => decide (¬ q = -1) && (decide (x.2.1 ≤ y) && decide (x.2.2.1 ≤ a))
  | none => false
def whyV (L : List PT) (w y a : Int32) : Int32 := if okL L y a (lastL L w 0) = true then lastL L w 0 else if okL L y a (lastL L w 1) = true then lastL L w 1 else if okL L y a (lastL L w 2) = true then lastL L w 2 else -1
def letV (L : List PT) (w y a : Int32) : Int32 := if whyV L w y a = -1 then 3 else match L[(whyV L w y a).toNatClampNeg]? with
  | some x => x.1
  | none => 3
theorem whyV_r (L : List PT) (w y a : Int32) : whyV L w y a = -1 ∨ ∃ p x, L[p]? = some x ∧ whyV L w y a = nI p := by
  have key : ∀ k, lastL L w k = -1 ∨ ∃ p x, L[p]? = some x ∧ lastL L w k = nI p := by
    intro k
    rcases lastK_r L w k L.length (Nat.le_refl _) with q | ⟨p, x, _, q2, _, q4⟩
    · exact Or.inl q
    · exact Or.inr ⟨p, x, q2, q4⟩
  unfold whyV
  split
  · exact key 0
  · split
    · exact key 1
    · split
      · exact key 2
      · exact Or.inl rfl
def mB (m : Nat → Nat → Int32) (b : Nat) (w : Int32) : Int32 := letV (LW m) w (m 52 b) (m 51 b)
def S34 (k s : Nat) : Bool := Nat.beq k 34
theorem S34_la : ∀ k s, S34 k s = true → la k s = false := by
  intro k s e
  unfold S34 at e
  rw [Nat.beq_eq] at e
  subst e
  rfl
/-- what is in force in a week, in the class's row -/
def IF (h : HP) (w : Int32) : Prop := ∀ k, k < 4 → gi h 34 0 k = lastL (LW (ms h)) w (nI k)
theorem e_inForce {h : HP} (R : RQ h) (w : Int32) : ∃ h', F_X4_inForceIn 0 w h = some (0, dp h') ∧ EX S34 h h' ∧ IF h' w := by
  have hlen := LW_len R.m
  have hPL := c_PL R
  have hl : ∃ r : DP, loopN LF (B_X4_inForceIn_10 0 w (srow h 34 0 (fun j => if j < 4 then -1 else gi h 34 0 j))) (0, dp (srow h 34 0 (fun j => if j < 4 then -1 else gi h 34 0 j))) = some r ∧ ∃ h', r = dp h' ∧ EX S34 h h' ∧ ∀ k, k < 4 → gi h' 34 0 k = lastK (LW (ms h)) w (nI k) (LW (ms h)).length := by
    refine loopI (fun p s => ∃ h', s = (nI p, dp h') ∧ EX S34 h h' ∧ ∀ k, k < 4 → gi h' 34 0 k = lastK (LW (ms h)) w (nI k) p) _ (LW (ms h)).length (by omega) ⟨_, rfl, EX.srow (EX.rfl' h) _ _ (fun _ => rfl), fun k hk => ?_⟩ ?_
    · rw [gi_srow, if_pos ⟨rfl, rfl⟩, if_pos hk]
      rfl
    · intro p s hp ⟨h1, hs, x1, g1⟩
      subst hs
      have hq : wd (srow h 34 0 (fun j => if j < 4 then -1 else gi h 34 0 j)) (dp h1) = h1 := wd_dp (by rw [x1.1]; rfl)
      have G1 : gR h1.2.2 := by rw [x1.1]; exact R.1
      have g7 : gi h1 4 0 7 = nI (LW (ms h)).length := by rw [x1.2.1 4 0 7 rfl, hPL.1]
      by_cases c : p < (LW (ms h)).length
      · left
        have hx : (LW (ms h))[p]? = some (LW (ms h))[p] := List.getElem?_eq_getElem c
        obtain ⟨y1, y2, y3, y4⟩ := hPL.2 p _ hx
        obtain ⟨kk, hk3, ek⟩ := cn_ex (LW_ok R.m hx).1
        have step : ∀ k, k < 4 → lastK (LW (ms h)) w (nI k) (p + 1) = if (LW (ms h))[p].1 = nI k ∧ (LW (ms h))[p].2.2.2 ≤ w then nI p else lastK (LW (ms h)) w (nI k) p := by
          intro k _
          show (match (LW (ms h))[p]? with | some x => if x.1 = nI k ∧ x.2.2.2 ≤ w then nI p else lastK (LW (ms h)) w (nI k) p | none => lastK (LW (ms h)) w (nI k) p) = _
          rw [hx]
        by_cases c2 : w < (LW (ms h))[p].2.2.2
        · refine ⟨(nI (p + 1), dp h1), c, ?_, h1, rfl, x1, fun k hk => ?_⟩
          · unfold B_X4_inForceIn_10
            simp only [nm, u2, hq]
            rw [g7, if_neg (nI_ge c (by omega)), rf_4_6 G1, Option.bind_some, ga_v (by omega) (by omega), Option.bind_some, x1.2.1 33 0 p rfl, y4, if_pos c2, nI_1]
          · rw [g1 k hk, step k hk, if_neg (fun q => (fa_of_lt c2).2.1 q.2)]
        · refine ⟨(nI (p + 1), dp (si h1 34 0 kk (nI p))), c, ?_, _, rfl, EX.si x1 _ _ rfl, fun k hk => ?_⟩
          · unfold B_X4_inForceIn_10
            simp only [nm, u2, hq]
            rw [g7, if_neg (nI_ge c (by omega)), rf_4_6 G1, Option.bind_some, ga_v (by omega) (by omega), Option.bind_some, x1.2.1 33 0 p rfl, y4, if_neg c2, rf_4_8 G1, Option.bind_some, rf_4_3 G1, Option.bind_some, ga_v (by omega) (by omega), Option.bind_some, x1.2.1 30 0 p rfl, y1, ek, sa_v (by omega) (by omega), Option.bind_some, nI_1]
          · rw [step k hk, gi_si, ek]
            by_cases e : k = kk
            · rw [if_pos ⟨rfl, rfl, e⟩, if_pos ⟨by rw [e], fa_of_nlt c2⟩]
            · rw [if_neg (fun q => e q.2.2), if_neg (fun q => e ((nI_eq (by omega) (by omega)).mp q.1).symm), g1 k hk]
      · right
        have e : p = (LW (ms h)).length := by omega
        refine ⟨dp h1, ?_, h1, rfl, x1, fun k hk => by rw [← e]; exact g1 k hk⟩
        unfold B_X4_inForceIn_10
        simp only [nm, u2, hq]
        rw [g7, if_pos (nI_le (by omega) (by omega))]
  obtain ⟨r, hr, h', rfl, x, g⟩ := hl
  refine ⟨h', ?_, x, fun k hk => ?_⟩
  · unfold F_X4_inForceIn
    simp only [nm, u2]
    rw [rf_4_8 R.1, Option.bind_some, e_fill34, Option.bind_some]
    simp only [wd_srow, wd_self]
    rw [hr, Option.bind_some]
    have hq : wd (srow h 34 0 (fun j => if j < 4 then -1 else gi h 34 0 j)) (dp h') = h' := wd_dp (by rw [x.1]; rfl)
    have G' : gR h'.2.2 := by rw [x.1]; exact R.1
    rw [hq]
    rw [rf_4_8 G', Option.bind_some]
  · rw [g k hk, (x.sq S34_la).mq]
    rfl
theorem okL_c {L : List PT} {y a : Int32} {p : Nat} {x : PT} (hx : L[p]? = some x) (hp : p < 2147483648) : okL L y a (nI p) = (decide (x.2.1 ≤ y) && decide (x.2.2.1 ≤ a)) := by
  unfold okL
  rw [nI_clamp hp, hx]
  simp only [nI_m1 hp, not_false_eq_true, decide_true, Bool.true_and]
theorem okL_m1 (L : List PT) (y a : Int32) : okL L y a (-1) = false := by
  unfold okL
  split <;> simp
theorem e_partFor {h : HP} (R : RQ h) {w : Int32} (I : IF h w) {b : Nat} (hb : b < NB (ms h)) : F_X4_partFor 0 b 0 h = some (whyV (LW (ms h)) w (ms h 52 b) (ms h 51 b)) := by
  have hlen := LW_len R.m
  have hPL := c_PL R
  -- a turn of the loop
  have turn : ∀ k, k < 3 → B_X4_partFor_2 0 b 0 h (nI k) = if okL (LW (ms h)) (ms h 52 b) (ms h 51 b) (lastL (LW (ms h)) w (nI k)) = true then some (.inr (.inl (lastL (LW (ms h)) w (nI k)))) else some (.inl (nI (k + 1))) := by
    intro k hk
    unfold B_X4_partFor_2
    simp only [nm]
    rw [if_neg (show ¬ 3 ≤ nI k from nI_ge (b := 3) hk (by omega)), ga_v (by omega) (by omega), Option.bind_some, I k (by omega), nI_1]
    rcases lastK_r (LW (ms h)) w (nI k) _ (Nat.le_refl _) with q | ⟨p, x, q1, q2, q3, q4⟩
    · have q' : lastL (LW (ms h)) w (nI k) = -1 := q
      rw [q', okL_m1, if_pos rfl, if_neg (by decide)]
    · have q' : lastL (LW (ms h)) w (nI k) = nI p := q4
      obtain ⟨y1, y2, y3, y4⟩ := hPL.2 p x q2
      rw [q', okL_c q2 (by omega), if_neg (nI_m1 (by omega))]
      rw [rf_4_4 R.1, Option.bind_some, ga_v (by omega) (by omega), Option.bind_some, y2, cb_2 R hb, rf_4_5 R.1, Option.bind_some, ga_v (by omega) (by omega), Option.bind_some, y3, cb_1 R hb]
      by_cases c1 : ms h 52 b < x.2.1
      · rw [if_pos c1, if_neg]
        simp only [Bool.and_eq_true, decide_eq_true_eq]
        intro w'
        exact (fa_of_lt c1).2.1 w'.1
      · rw [if_neg c1]
        by_cases c2 : ms h 51 b < x.2.2.1
        · rw [if_pos c2, if_neg]
          simp only [Bool.and_eq_true, decide_eq_true_eq]
          intro w'
          exact (fa_of_lt c2).2.1 w'.2
        · rw [if_neg c2, if_pos]
          simp only [Bool.and_eq_true, decide_eq_true_eq]
          exact ⟨fa_of_nlt c1, fa_of_nlt c2⟩
  have t0 : B_X4_partFor_2 0 b 0 h 0 = _ := turn 0 (by omega)
  have t1 := turn 1 (by omega)
  have t2 := turn 2 (by omega)
  have t3 : B_X4_partFor_2 0 b 0 h (nI 3) = some (.inr (.inr ())) := by
    unfold B_X4_partFor_2
    rw [if_pos (by decide)]
  have hl : ∃ o, loopN LF (B_X4_partFor_2 0 b 0 h) 0 = some o ∧ (match o with | .inl q => some q | .inr _ => some (-1 : Int32)) = some (whyV (LW (ms h)) w (ms h 52 b) (ms h 51 b)) := by
    unfold whyV
    show ∃ o, loopN (999996 + 4) _ _ = _ ∧ _
    by_cases c0 : okL (LW (ms h)) (ms h 52 b) (ms h 51 b) (lastL (LW (ms h)) w 0) = true
    · rw [if_pos c0]
      refine ⟨.inl (lastL (LW (ms h)) w 0), ?_, rfl⟩
      unfold loopN
      rw [t0, show nI 0 = 0 from rfl, if_pos c0]
    · rw [if_neg c0]
      by_cases c1 : okL (LW (ms h)) (ms h 52 b) (ms h 51 b) (lastL (LW (ms h)) w 1) = true
      · rw [if_pos c1]
        refine ⟨.inl (lastL (LW (ms h)) w 1), ?_, rfl⟩
        unfold loopN
        rw [t0, show nI 0 = 0 from rfl, if_neg c0]
        show loopN (999996 + 3) _ (nI 1) = _
        unfold loopN
        rw [t1, show lastL (LW (ms h)) w (nI 1) = lastL (LW (ms h)) w 1 from rfl, if_pos c1]
      · rw [if_neg c1]
        by_cases c2 : okL (LW (ms h)) (ms h 52 b) (ms h 51 b) (lastL (LW (ms h)) w 2) = true
        · rw [if_pos c2]
          refine ⟨.inl (lastL (LW (ms h)) w 2), ?_, rfl⟩
          unfold loopN
          rw [t0, show nI 0 = 0 from rfl, if_neg c0]
          show loopN (999996 + 3) _ (nI 1) = _
          unfold loopN
          rw [t1, show lastL (LW (ms h)) w (nI 1) = lastL (LW (ms h)) w 1 from rfl, if_neg c1]
          show loopN (999996 + 2) _ (nI 2) = _
          unfold loopN
          rw [t2, show lastL (LW (ms h)) w (nI 2) = lastL (LW (ms h)) w 2 from rfl, if_pos c2]
        · rw [if_neg c2]
          refine ⟨.inr (), ?_, rfl⟩
          unfold loopN
          rw [t0, show nI 0 = 0 from rfl, if_neg c0]
          show loopN (999996 + 3) _ (nI 1) = _
          unfold loopN
          rw [t1, show lastL (LW (ms h)) w (nI 1) = lastL (LW (ms h)) w 1 from rfl, if_neg c1]
          show loopN (999996 + 2) _ (nI 2) = _
          unfold loopN
          rw [t2, show lastL (LW (ms h)) w (nI 2) = lastL (LW (ms h)) w 2 from rfl, if_neg c2]
          show loopN (999996 + 1) _ (nI 3) = _
          unfold loopN
          rw [t3]
  obtain ⟨o, h1, h2⟩ := hl
  unfold F_X4_partFor
  rw [h1, Option.bind_some]
  cases o <;> exact h2
theorem e_letterOf {h : HP} (R : RQ h) {w : Int32} (I : IF h w) {b : Nat} (hb : b < NB (ms h)) : F_X4_letterOf 0 b 0 h = some (mB (ms h) b w) := by
  have hlen := LW_len R.m
  unfold F_X4_letterOf mB letV
  rw [e_partFor R I hb, Option.bind_some]
  rcases whyV_r (LW (ms h)) w (ms h 52 b) (ms h 51 b) with q | ⟨p, x, q1, q2⟩
  · rw [q, if_pos rfl, if_pos rfl]
  · have hp : p < (LW (ms h)).length := (List.getElem?_eq_some_iff.mp q1).1
    rw [q2, if_neg (nI_m1 (by omega)), if_neg (nI_m1 (by omega)), nI_clamp (by omega), q1]
    rw [rf_4_3 R.1, Option.bind_some, ga_v (by omega) (by omega), Option.bind_some, ((c_PL R).2 p x q1).1]
/-! the reference's letters -/
theorem f_partIn {h : HP} (G : gR h.2.2) {L : List PT} (P : PM h L) (hlen : L.length ≤ 26) (k w : Int32) : F_X12_partIn 0 k w h = some (lastL L w k) := by
  have key : loopN LF (B_X12_partIn_5 0 k w h) (-1, 0) = some (lastL L w k) := by
    refine loopS (fun p => (lastK L w k p, nI p)) L.length (by omega) ?_ ?_
    · intro p hp
      have hx : L[p]? = some L[p] := List.getElem?_eq_getElem hp
      obtain ⟨y1, y2, y3, y4⟩ := P.2 p _ hx
      have step : lastK L w k (p + 1) = if L[p].1 = k ∧ L[p].2.2.2 ≤ w then nI p else lastK L w k p := by
        show (match L[p]? with | some x => if x.1 = k ∧ x.2.2.2 ≤ w then nI p else lastK L w k p | none => lastK L w k p) = _
        rw [hx]
      unfold B_X12_partIn_5
      simp only [nm, u2]
      rw [P.1, if_neg (nI_ge hp (by omega)), rf_12_24 G, Option.bind_some, ga_v (by omega) (by omega), Option.bind_some, y1, rf_12_27 G, Option.bind_some, ga_v (by omega) (by omega), Option.bind_some, y4, nI_1, step]
      by_cases c1 : L[p].1 = k
      · rw [if_pos c1]
        by_cases c2 : w < L[p].2.2.2
        · rw [if_pos c2, if_neg (fun q => (fa_of_lt c2).2.1 q.2)]
        · rw [if_neg c2, if_pos ⟨c1, fa_of_nlt c2⟩]
      · rw [if_neg c1, if_neg (fun q => c1 q.1)]
    · unfold B_X12_partIn_5
      simp only [u2]
      rw [P.1, if_pos (nI_le (Nat.le_refl _) (by omega))]
      rfl
  unfold F_X12_partIn
  rw [key]
  rfl
theorem f_whyOf {h : HP} (G : gR h.2.2) {L : List PT} (P : PM h L) (hlen : L.length ≤ 26) (w : Int32) {b : Nat} (hb : b < 20) : F_X12_whyOf 0 (nI b) w h = some (whyV L w (ms h 52 b) (ms h 51 b)) := by
  have turn : ∀ k, k < 3 → B_X12_whyOf_2 0 (nI b) w h (nI k) = if okL L (ms h 52 b) (ms h 51 b) (lastL L w (nI k)) = true then some (.inr (.inl (lastL L w (nI k)))) else some (.inl (nI (k + 1))) := by
    intro k hk
    unfold B_X12_whyOf_2
    simp only [nm]
    rw [if_neg (show ¬ 3 ≤ nI k from nI_ge (b := 3) hk (by omega)), f_partIn G P hlen, Option.bind_some, nI_1]
    rcases lastK_r L w (nI k) _ (Nat.le_refl _) with q | ⟨p, x, q1, q2, q3, q4⟩
    · have q' : lastL L w (nI k) = -1 := q
      rw [q', okL_m1, if_pos rfl, if_neg (by decide)]
    · have q' : lastL L w (nI k) = nI p := q4
      obtain ⟨y1, y2, y3, y4⟩ := P.2 p x q2
      have n3 : ¬ x.1 = 3 := by rw [q3]; exact fun e => by have := (nI_eq (b := 3) (by omega) (by omega)).mp e; omega
      rw [if_neg n3] at y2 y3
      rw [q', okL_c q2 (by omega), if_neg (nI_m1 (by omega))]
      rw [rf_12_11 G, Option.bind_some, ga_v (by omega) (by omega), Option.bind_some, m_52, rf_12_25 G, Option.bind_some, ga_v (by omega) (by omega), Option.bind_some, y2, rf_12_10 G, Option.bind_some, ga_v (by omega) (by omega), Option.bind_some, m_51, rf_12_26 G, Option.bind_some, ga_v (by omega) (by omega), Option.bind_some, y3]
      by_cases c1 : ms h 52 b < x.2.1
      · rw [if_pos c1, if_neg]
        simp only [Bool.and_eq_true, decide_eq_true_eq]
        intro w'
        exact (fa_of_lt c1).2.1 w'.1
      · rw [if_neg c1]
        by_cases c2 : ms h 51 b < x.2.2.1
        · rw [if_pos c2, if_neg]
          simp only [Bool.and_eq_true, decide_eq_true_eq]
          intro w'
          exact (fa_of_lt c2).2.1 w'.2
        · rw [if_neg c2, if_pos]
          simp only [Bool.and_eq_true, decide_eq_true_eq]
          exact ⟨fa_of_nlt c1, fa_of_nlt c2⟩
  have t0 : B_X12_whyOf_2 0 (nI b) w h 0 = _ := turn 0 (by omega)
  have t1 := turn 1 (by omega)
  have t2 := turn 2 (by omega)
  have t3 : B_X12_whyOf_2 0 (nI b) w h (nI 3) = some (.inr (.inr ())) := by
    unfold B_X12_whyOf_2
    rw [if_pos (by decide)]
  have hl : ∃ o, loopN LF (B_X12_whyOf_2 0 (nI b) w h) 0 = some o ∧ (match o with | .inl q => some q | .inr _ => some (-1 : Int32)) = some (whyV L w (ms h 52 b) (ms h 51 b)) := by
    unfold whyV
    show ∃ o, loopN (999996 + 4) _ _ = _ ∧ _
    by_cases c0 : okL L (ms h 52 b) (ms h 51 b) (lastL L w 0) = true
    · rw [if_pos c0]
      refine ⟨.inl (lastL L w 0), ?_, rfl⟩
      unfold loopN
      rw [t0, show nI 0 = 0 from rfl, if_pos c0]
    · rw [if_neg c0]
      by_cases c1 : okL L (ms h 52 b) (ms h 51 b) (lastL L w 1) = true
      · rw [if_pos c1]
        refine ⟨.inl (lastL L w 1), ?_, rfl⟩
        unfold loopN
        rw [t0, show nI 0 = 0 from rfl, if_neg c0]
        show loopN (999996 + 3) _ (nI 1) = _
        unfold loopN
        rw [t1, show lastL L w (nI 1) = lastL L w 1 from rfl, if_pos c1]
      · rw [if_neg c1]
        by_cases c2 : okL L (ms h 52 b) (ms h 51 b) (lastL L w 2) = true
        · rw [if_pos c2]
          refine ⟨.inl (lastL L w 2), ?_, rfl⟩
          unfold loopN
          rw [t0, show nI 0 = 0 from rfl, if_neg c0]
          show loopN (999996 + 3) _ (nI 1) = _
          unfold loopN
          rw [t1, show lastL L w (nI 1) = lastL L w 1 from rfl, if_neg c1]
          show loopN (999996 + 2) _ (nI 2) = _
          unfold loopN
          rw [t2, show lastL L w (nI 2) = lastL L w 2 from rfl, if_pos c2]
        · rw [if_neg c2]
          refine ⟨.inr (), ?_, rfl⟩
          unfold loopN
          rw [t0, show nI 0 = 0 from rfl, if_neg c0]
          show loopN (999996 + 3) _ (nI 1) = _
          unfold loopN
          rw [t1, show lastL L w (nI 1) = lastL L w 1 from rfl, if_neg c1]
          show loopN (999996 + 2) _ (nI 2) = _
          unfold loopN
          rw [t2, show lastL L w (nI 2) = lastL L w 2 from rfl, if_neg c2]
          show loopN (999996 + 1) _ (nI 3) = _
          unfold loopN
          rw [t3]
  obtain ⟨o, h1, h2⟩ := hl
  unfold F_X12_whyOf
  rw [h1, Option.bind_some]
  cases o <;> exact h2
theorem f_letterOf {h : HP} (G : gR h.2.2) (W : MW (ms h)) (P : PM h (LW (ms h))) (w : Int32) {b : Nat} (hb : b < 20) : F_X12_letterOf 0 (nI b) w h = some (mB (ms h) b w) := by
  have hlen := LW_len W
  unfold F_X12_letterOf mB letV
  rw [f_whyOf G P hlen w hb, Option.bind_some]
  rcases whyV_r (LW (ms h)) w (ms h 52 b) (ms h 51 b) with q | ⟨p, x, q1, q2⟩
  · rw [q, if_pos rfl, if_pos rfl]
  · have hp : p < (LW (ms h)).length := (List.getElem?_eq_some_iff.mp q1).1
    rw [q2, if_neg (nI_m1 (by omega)), if_neg (nI_m1 (by omega)), nI_clamp (by omega), q1]
    rw [rf_12_24 G, Option.bind_some, ga_v (by omega) (by omega), Option.bind_some, (P.2 p x q1).1]
