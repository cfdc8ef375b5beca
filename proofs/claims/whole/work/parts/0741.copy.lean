/-! copy -/
theorem e_hasItems {h : HP} {s n : Nat} (e : gi h 9 s 2 = nI n) (hn : n ≤ 60) (i j : Int32) : ∃ r : Int32, F_X9_hasItems s i j h = some r ∧ (r = 0 ∨ r = 1) ∧ ((¬ r = 0) ↔ (0 ≤ i ∧ 0 ≤ j ∧ i.toInt + j.toInt ≤ n)) := by
  unfold F_X9_hasItems
  rw [e]
  have e0 : (0 : Int32).toInt = 0 := by decide
  by_cases c1 : i < 0
  · refine ⟨0, by rw [if_pos c1], Or.inl rfl, ?_⟩
    constructor
    · intro q; exact absurd rfl q
    · intro q; exact absurd q.1 (fa_of_lt c1).2.1
  · by_cases c2 : j < 0
    · refine ⟨0, by rw [if_neg c1, if_pos c2], Or.inl rfl, ?_⟩
      constructor
      · intro q; exact absurd rfl q
      · intro q; exact absurd q.2.1 (fa_of_lt c2).2.1
    · obtain ⟨x, hx, rfl⟩ := nI_of c1
      obtain ⟨y, hy, rfl⟩ := nI_of c2
      have hs : (nI n - nI x).toInt = (n : Int) - x := by
        rw [Int32.toInt_sub, nI_toInt (by omega), nI_toInt (by omega), fb_bmod (by omega) (by omega)]
      have hc : (nI n - nI x < nI y) ↔ ((n : Int) - x < y) := by rw [fa_lt, hs, nI_toInt hy]
      rw [nI_toInt hx, nI_toInt hy]
      by_cases c3 : (n : Int) - x < y
      · refine ⟨0, by rw [if_neg c1, if_neg c2, if_pos (hc.mpr c3)], Or.inl rfl, ?_⟩
        constructor
        · intro q; exact absurd rfl q
        · intro q; omega
      · refine ⟨1, by rw [if_neg c1, if_neg c2, if_neg (fun q => c3 (hc.mp q))], Or.inr rfl, ?_⟩
        constructor
        · intro _; exact ⟨fa_of_nlt c1, fa_of_nlt c2, by omega⟩
        · intro _ q; exact absurd q (by decide)
theorem p_copy : CP_copy RQ := by
  intro h R a i b j n
  by_cases c1 : 0 ≤ a ∧ a ≤ 3
  · by_cases c2 : 0 ≤ b ∧ b ≤ 3
    · obtain ⟨s, hs, rfl⟩ := in_lit (n := 3) (by omega) c1
      obtain ⟨t, ht, rfl⟩ := in_lit (n := 3) (by omega) c2
      -- a finding on both sides
      have fin : ∀ x : Int32, F_X11_copy 0 (nI s) i (nI t) j n h = some (-10 - x, dp (si h 11 0 15 x)) → F_X12_copy 0 (nI s) i (nI t) j n (si h 11 0 15 x) = some (-10 - x, dp (si (si h 11 0 15 x) 12 0 4 x)) → ∃ (r : Int32) (d : DP) (d2 : DP), F_X11_copy 0 (nI s) i (nI t) j n h = some (r, d) ∧ F_X12_copy 0 (nI s) i (nI t) j n (wd h d) = some (r, d2) ∧ RQ (wd (wd h d) d2) := by
        intro x h1 h2
        obtain ⟨w1, w2⟩ := find2 R x
        exact ⟨-10 - x, dp (si h 11 0 15 x), dp (si (si h 11 0 15 x) 12 0 4 x), h1, by rw [w1]; exact h2, w2⟩
      have K1 : ∀ q : Int32, J_X11_copy_49 0 h = some (-10 - 1, dp (si h 11 0 15 1)) := by
        intro _
        unfold J_X11_copy_49
        simp only [nm, u2]
        rw [e_finding, Option.bind_some]
        simp only [wd_si, wd_self]
      have K2 : ∀ X : HP, J_X12_copy_35 0 X = some (-10 - 1, dp (si X 12 0 4 1)) := by
        intro X
        unfold J_X12_copy_35
        simp only [nm, u2]
        rw [f_met, Option.bind_some]
        simp only [wd_si, wd_self]
      have G1 : gR (si h 11 0 15 1).2.2 := R.1
      rcases sh_cases R (s := s) (by omega) with ⟨l1, l2⟩ | ⟨l1, f, x, hf, hx, e1, e2, e3, e4, e5⟩
      · refine fin 1 ?_ ?_
        · unfold F_X11_copy
          rw [e_isSheet, Option.bind_some, ite_b, if_pos c1, e_isSheet, Option.bind_some, ite_b, if_pos c2, rf_11_14 R.1, Option.bind_some, gar_v (by omega) (by omega), rs_44 R (by omega), Option.bind_some, Option.bind_some, gar_v (by omega) (by omega), rs_44 R (by omega), Option.bind_some, l1, if_neg (show ¬ (1 : Int32) = 0 by decide), K1 0]
        · unfold F_X12_copy
          rw [f_isSheet, Option.bind_some, ite_b, if_pos c1, f_isSheet, Option.bind_some, ite_b, if_pos c2, xr_si, rf_12_0 R.1, Option.bind_some, ga_v (by omega) (by omega), Option.bind_some, m_45, ms_15, l2, if_pos (show (-1 : Int32) < 0 by decide), K2]
      · rcases sh_cases R (s := t) (by omega) with ⟨k1, k2⟩ | ⟨k1, g, y, hg, hy, g1, g2, g3, g4, g5⟩
        · refine fin 1 ?_ ?_
          · unfold F_X11_copy
            rw [e_isSheet, Option.bind_some, ite_b, if_pos c1, e_isSheet, Option.bind_some, ite_b, if_pos c2, rf_11_14 R.1, Option.bind_some, gar_v (by omega) (by omega), rs_44 R (by omega), Option.bind_some, Option.bind_some, gar_v (by omega) (by omega), rs_44 R (by omega), Option.bind_some, l1, if_pos rfl, k1, if_neg (show ¬ (1 : Int32) = 0 by decide), K1 0]
          · unfold F_X12_copy
            rw [f_isSheet, Option.bind_some, ite_b, if_pos c1, f_isSheet, Option.bind_some, ite_b, if_pos c2, xr_si, rf_12_0 R.1, Option.bind_some, ga_v (by omega) (by omega), Option.bind_some, m_45, ms_15, e1, if_neg (nI_pos (by omega)), Option.bind_some, ga_v (by omega) (by omega), Option.bind_some, m_45, ms_15, k2, if_neg (show ¬ (0 : Int32) ≤ -1 by decide), K2]
        · -- both stand
          have cls : F_X11_copy 0 (nI s) i (nI t) j n h = (if nI f = nI g then (F_X9_hasItems s i n h).bind (fun x34 => if x34 = 0 then J_X11_copy_97 0 h else (F_X9_hasItems t j n h).bind (fun x36 => if x36 = 0 then J_X11_copy_97 0 h else (acp h 39 s 60 i 39 t 60 j n).bind fun h43 => some (1, dp h43))) else some (-10 - 4, dp (si h 11 0 15 4))) := by
            unfold F_X11_copy
            simp only [nm, u2, e_finding, Option.bind_some]
            rw [e_isSheet, Option.bind_some, ite_b, if_pos c1, e_isSheet, Option.bind_some, ite_b, if_pos c2, rf_11_14 R.1, Option.bind_some, gar_v (by omega) (by omega), rs_44 R (by omega), Option.bind_some, Option.bind_some, gar_v (by omega) (by omega), rs_44 R (by omega), Option.bind_some, l1, if_pos rfl, k1, if_pos rfl, e3, g3]
            simp only [rs_9 R (s := s) (by omega), rs_9 R (s := t) (by omega), Option.bind_some, wd_si, wd_self]
          have ref : ∀ X : HP, ms X = ms h → X.2.2 = h.2.2 → F_X12_copy 0 (nI s) i (nI t) j n X = (if nI f = nI g then (if i < 0 then J_X12_copy_111 0 X else if j < 0 then J_X12_copy_111 0 X else if n < 0 then J_X12_copy_111 0 X else if (nI x).toInt64 < i.toInt64 + n.toInt64 then J_X12_copy_111 0 X else if j.toInt64 + n.toInt64 ≤ (nI y).toInt64 then ((loopN LF (B_X12_copy_120 0 (nI s) i (nI t) j n X) (0, dp X)).bind fun d78 => (loopN LF (B_X12_copy_157 0 (nI t) j n (wd X d78)) (0, dp (wd X d78))).bind fun d104 => some (1, dp (wd (wd X d78) d104))) else J_X12_copy_111 0 X) else some (-10 - 4, dp (si X 12 0 4 4))) := by
            intro X q1 q2
            have G' : gR X.2.2 := by rw [q2]; exact R.1
            unfold F_X12_copy
            simp only [nm, u2, f_met, Option.bind_some]
            rw [f_isSheet, Option.bind_some, ite_b, if_pos c1, f_isSheet, Option.bind_some, ite_b, if_pos c2, rf_12_0 G', Option.bind_some, ga_v (by omega) (by omega), Option.bind_some, m_45, q1, e1, if_neg (nI_pos (by omega)), Option.bind_some, ga_v (by omega) (by omega), Option.bind_some, m_45, q1, g1, if_pos (nI_pos' (by omega))]
            simp (disch := first | assumption | decide | omega) only [ga_v, m_45, m_46, q1, e1, g1, e2, g2, rf_12_1 G', Option.bind_some, lg_cmp_gt, lg_cmp_le, wd_si, wd_self]
          by_cases cf : nI f = nI g
          · have K3 : J_X11_copy_97 0 h = some (-10 - 2, dp (si h 11 0 15 2)) := by
              unfold J_X11_copy_97
              simp only [nm, u2]
              rw [e_finding, Option.bind_some]
              simp only [wd_si, wd_self]
            have K4 : ∀ X : HP, J_X12_copy_111 0 X = some (-10 - 2, dp (si X 12 0 4 2)) := by
              intro X
              unfold J_X12_copy_111
              simp only [nm, u2]
              rw [f_met, Option.bind_some]
              simp only [wd_si, wd_self]
            have sums : ∀ u z : Int32, ¬ u < 0 → ¬ z < 0 → (u.toInt64 + z.toInt64).toInt = u.toInt + z.toInt := by
              intro u z hu hz
              have h1 := fb_rng u
              have h2 := fb_rng z
              rw [fb_addL (by rw [Int32.toInt_toInt64, Int32.toInt_toInt64]; omega) (by rw [Int32.toInt_toInt64, Int32.toInt_toInt64]; omega), Int32.toInt_toInt64, Int32.toInt_toInt64]
            by_cases ok : (0 ≤ i ∧ 0 ≤ n ∧ i.toInt + n.toInt ≤ x) ∧ (0 ≤ j ∧ 0 ≤ n ∧ j.toInt + n.toInt ≤ y)
            · obtain ⟨⟨a1, a2, a3⟩, ⟨b1, -, b3⟩⟩ := ok
              obtain ⟨i, hi, rfl⟩ := nI_of (x := i) (fun q => (fa_of_lt q).2.1 a1)
              obtain ⟨j, hj, rfl⟩ := nI_of (x := j) (fun q => (fa_of_lt q).2.1 b1)
              obtain ⟨n, hn, rfl⟩ := nI_of (x := n) (fun q => (fa_of_lt q).2.1 a2)
              rw [nI_toInt hi, nI_toInt hn] at a3
              rw [nI_toInt hj, nI_toInt hn] at b3
              have hin : i + n ≤ x := by omega
              have hjn : j + n ≤ y := by omega
              obtain ⟨r1, h1, -, h3⟩ := e_hasItems e4 hx (nI i) (nI n)
              obtain ⟨r2, h4, -, h6⟩ := e_hasItems g4 hy (nI j) (nI n)
              have z1 : ¬ r1 = 0 := h3.mpr ⟨a1, a2, by rw [nI_toInt hi, nI_toInt hn]; omega⟩
              have z2 : ¬ r2 = 0 := h6.mpr ⟨b1, a2, by rw [nI_toInt hj, nI_toInt hn]; omega⟩
              have hac : acp h 39 s 60 (nI i) 39 t 60 (nI j) (nI n) = some (srow h 39 t (va_cpy (gi h 39 s) (gi h 39 t) i j n)) := by
                unfold acp
                rw [if_pos, nI_clamp hi, nI_clamp hj, nI_clamp hn]
                unfold acpB
                rw [nI_clamp hi, nI_clamp hj, nI_clamp hn]
                simp only [Bool.and_eq_true, decide_eq_true_eq]
                exact ⟨⟨⟨⟨nI_pos hi, nI_pos hj⟩, nI_pos hn⟩, by omega⟩, by omega⟩
              refine ⟨1, dp (srow h 39 t (va_cpy (gi h 39 s) (gi h 39 t) i j n)), dp (srow (srow (srow h 39 t (va_cpy (gi h 39 s) (gi h 39 t) i j n)) 48 0 (fun k => if k < n then gi h 47 0 (60 * s + i + k) else gi h 48 0 k)) 47 0 (fun q => if 60 * t + j ≤ q ∧ q < 60 * t + j + n then gi h 47 0 (60 * s + i + (q - (60 * t + j))) else gi h 47 0 q)), ?_, ?_, ?_⟩
              · rw [cls, if_pos cf, h1, Option.bind_some, if_neg z1, h4, Option.bind_some, if_neg z2, hac, Option.bind_some]
              · simp only [wd_srow, wd_self]
                have hX : ms (srow h 39 t (va_cpy (gi h 39 s) (gi h 39 t) i j n)) = ms h := by
                  funext k q
                  unfold ms
                  by_cases w : mk k q = true
                  · rw [if_pos w, if_pos w, gi_srow, if_neg]
                    rintro ⟨rfl, -⟩
                    cases w
                  · rw [if_neg w, if_neg w]
                have hX2 : (srow h 39 t (va_cpy (gi h 39 s) (gi h 39 t) i j n)).2.2 = h.2.2 := rfl
                have q47 : ∀ q, gi (srow h 39 t (va_cpy (gi h 39 s) (gi h 39 t) i j n)) 47 0 q = gi h 47 0 q := fun q => by simp only [gi_srow, Nat.reduceEqDiff, false_and, if_false]
                have q48 : ∀ q, gi (srow h 39 t (va_cpy (gi h 39 s) (gi h 39 t) i j n)) 48 0 q = gi h 48 0 q := fun q => by simp only [gi_srow, Nat.reduceEqDiff, false_and, if_false]
                rw [ref _ hX hX2, if_pos cf, if_neg (nI_pos hi), if_neg (nI_pos hj), if_neg (nI_pos hn)]
                have t1 : ¬ (nI x).toInt64 < (nI i).toInt64 + (nI n).toInt64 := by
                  rw [fa_lt64, sums _ _ (nI_pos hi) (nI_pos hn), Int32.toInt_toInt64, nI_toInt hi, nI_toInt hn, nI_toInt (by omega)]
                  omega
                have t2 : (nI j).toInt64 + (nI n).toInt64 ≤ (nI y).toInt64 := by
                  rw [fa_le64, sums _ _ (nI_pos hj) (nI_pos hn), Int32.toInt_toInt64, nI_toInt hj, nI_toInt hn, nI_toInt (by omega)]
                  omega
                rw [if_neg t1, if_pos t2]
                generalize srow h 39 t (va_cpy (gi h 39 s) (gi h 39 t) i j n) = X at hX2 q47 q48
                have G' : gR X.2.2 := by rw [hX2]; exact R.1
                have l48 : loopN LF (B_X12_copy_120 0 (nI s) (nI i) (nI t) (nI j) (nI n) X) (0, dp X) = some (dp (srow X 48 0 (fun k => if k < n then gi h 47 0 (60 * s + i + k) else gi h 48 0 k))) := by
                  have := loopS (B := B_X12_copy_120 0 (nI s) (nI i) (nI t) (nI j) (nI n) X) (fun m => (nI m, dp (srow X 48 0 (fun k => if k < m then gi h 47 0 (60 * s + i + k) else gi h 48 0 k)))) (r := dp (srow X 48 0 (fun k => if k < n then gi h 47 0 (60 * s + i + k) else gi h 48 0 k))) n (by omega) (fun m hm => by
                    unfold B_X12_copy_120
                    simp only [nm, u2, wd_srow, wd_self]
                    rw [if_neg (nI_ge hm (by omega)), xr_srow, rf_12_3 G', Option.bind_some, rf_12_2 G', Option.bind_some, ix60, nI_add, ga_v (by omega) (by omega), Option.bind_some, sa_v (by omega) (by omega), Option.bind_some, si_srow, nI_1, gi_srow, if_neg (show ¬ (47 = 48 ∧ 0 = 0) by decide), q47]
                    rw [srow_ext X 48 0 (g := fun k => if k < m + 1 then gi h 47 0 (60 * s + i + k) else gi h 48 0 k) (fun k => by
                      unfold va_up
                      by_cases e : k = m
                      · rw [if_pos e, if_pos (by omega), e]
                      · rw [if_neg e]
                        show (if k < m then gi h 47 0 (60 * s + i + k) else gi h 48 0 k) = _
                        by_cases e2 : k < m
                        · rw [if_pos e2, if_pos (by omega)]
                        · rw [if_neg e2, if_neg (by omega)])]) (by
                    unfold B_X12_copy_120
                    simp only [nm, u2, wd_srow, wd_self]
                    rw [if_pos (nI_le (Nat.le_refl _) (by omega))])
                  rw [srow_self X 48 0 _ (fun k => by rw [if_neg (by omega), q48])] at this
                  exact this
                rw [l48, Option.bind_some]
                simp only [wd_srow, wd_self]
                have p47 : ∀ q, gi (srow X 48 0 (fun k => if k < n then gi h 47 0 (60 * s + i + k) else gi h 48 0 k)) 47 0 q = gi h 47 0 q := fun q => by rw [gi_srow, if_neg (by decide), q47]
                have p48 : ∀ q, q < n → gi (srow X 48 0 (fun k => if k < n then gi h 47 0 (60 * s + i + k) else gi h 48 0 k)) 48 0 q = gi h 47 0 (60 * s + i + q) := fun q hq => by rw [gi_srow, if_pos ⟨rfl, rfl⟩, if_pos hq]
                have G'' : gR (srow X 48 0 (fun k => if k < n then gi h 47 0 (60 * s + i + k) else gi h 48 0 k)).2.2 := G'
                generalize srow X 48 0 (fun k => if k < n then gi h 47 0 (60 * s + i + k) else gi h 48 0 k) = Y at p47 p48 G''
                have l47 : loopN LF (B_X12_copy_157 0 (nI t) (nI j) (nI n) Y) (0, dp Y) = some (dp (srow Y 47 0 (fun q => if 60 * t + j ≤ q ∧ q < 60 * t + j + n then gi h 47 0 (60 * s + i + (q - (60 * t + j))) else gi h 47 0 q))) := by
                  have := loopS (B := B_X12_copy_157 0 (nI t) (nI j) (nI n) Y) (fun m => (nI m, dp (srow Y 47 0 (fun q => if 60 * t + j ≤ q ∧ q < 60 * t + j + m then gi h 47 0 (60 * s + i + (q - (60 * t + j))) else gi h 47 0 q)))) (r := dp (srow Y 47 0 (fun q => if 60 * t + j ≤ q ∧ q < 60 * t + j + n then gi h 47 0 (60 * s + i + (q - (60 * t + j))) else gi h 47 0 q))) n (by omega) (fun m hm => by
                    unfold B_X12_copy_157
                    simp only [nm, u2, wd_srow, wd_self]
                    rw [if_neg (nI_ge hm (by omega)), xr_srow, rf_12_2 G'', Option.bind_some, rf_12_3 G'', Option.bind_some, ga_v (by omega) (by omega), Option.bind_some, ix60, nI_add, sa_v (by omega) (by omega), Option.bind_some, si_srow, nI_1, gi_srow, if_neg (show ¬ (48 = 47 ∧ 0 = 0) by decide), p48 m hm]
                    rw [srow_ext Y 47 0 (g := fun q => if 60 * t + j ≤ q ∧ q < 60 * t + j + (m + 1) then gi h 47 0 (60 * s + i + (q - (60 * t + j))) else gi h 47 0 q) (fun q => by
                      unfold va_up
                      by_cases e : q = 60 * t + j + m
                      · rw [if_pos e, if_pos (by omega), e]
                        congr 2
                        omega
                      · rw [if_neg e]
                        show (if 60 * t + j ≤ q ∧ q < 60 * t + j + m then gi h 47 0 (60 * s + i + (q - (60 * t + j))) else gi h 47 0 q) = _
                        by_cases e2 : 60 * t + j ≤ q ∧ q < 60 * t + j + m
                        · rw [if_pos e2, if_pos (by omega)]
                        · rw [if_neg e2, if_neg (by omega)])]) (by
                    unfold B_X12_copy_157
                    simp only [nm, u2, wd_srow, wd_self]
                    rw [if_pos (nI_le (Nat.le_refl _) (by omega))])
                  rw [srow_self Y 47 0 _ (fun k => by rw [if_neg (by omega), p47])] at this
                  exact this
                rw [l47, Option.bind_some]
                simp only [wd_srow, wd_self]
              · simp only [wd_srow, wd_osr, wd_self]
                generalize hX : srow (srow (srow h 39 t (va_cpy (gi h 39 s) (gi h 39 t) i j n)) 48 0 (fun k => if k < n then gi h 47 0 (60 * s + i + k) else gi h 48 0 k)) 47 0 (fun q => if 60 * t + j ≤ q ∧ q < 60 * t + j + n then gi h 47 0 (60 * s + i + (q - (60 * t + j))) else gi h 47 0 q) = X
                have ex : EX (fun k _ => Nat.beq k 39 || (Nat.beq k 48 || Nat.beq k 47)) h X := by
                  rw [← hX]
                  exact EX.srow (EX.srow (EX.srow (EX.rfl' h) _ _ (fun _ => rfl)) _ _ (fun _ => rfl)) _ _ (fun _ => rfl)
                have hq : X.2.2 = h.2.2 := ex.1
                have qr : gR X.2.2 := by rw [hq]; exact R.1
                refine RQ.mk R qr ?_ ?_ ?_ ?_ ?_ ?_ ?_ ?_ (fun s' hs' => ⟨by rw [hq]; exact (R.s s' hs').1, ?_⟩) ?_
                · rw [vw_ex ex (by intro k s e; unfold dW at e; simp only [Bool.or_eq_true, Bool.and_eq_true, Nat.beq_eq] at e; rcases e with ⟨rfl, rfl⟩ | ⟨rfl, rfl⟩ <;> rfl), hq]; exact R.w
                · rw [vw_ex ex (by intro k s e; unfold dP at e; simp only [Bool.or_eq_true, Bool.and_eq_true, Nat.beq_eq] at e; rcases e with ⟨rfl, rfl⟩ | ⟨rfl, rfl⟩ | rfl | rfl <;> rfl), hq]; exact R.p
                · rw [vw_ex ex (by intro k s e; unfold dB at e; simp only [Bool.or_eq_true, Bool.and_eq_true, Nat.beq_eq] at e; rcases e with ⟨rfl, rfl | rfl | rfl | rfl | rfl | rfl | rfl | rfl⟩ | ⟨rfl, rfl⟩ | ⟨rfl, rfl | rfl⟩ | rfl | rfl | rfl | rfl | rfl | rfl | rfl | rfl | rfl | rfl | rfl | rfl | rfl | rfl <;> rfl), hq]; exact R.b
                · rw [vw_ex ex (by intro k s e; unfold dL at e; simp only [Bool.or_eq_true, Bool.and_eq_true, Nat.beq_eq] at e; rcases e with ⟨rfl, rfl | rfl | rfl⟩ | ⟨rfl, rfl⟩ | rfl | rfl | rfl | rfl | rfl | rfl <;> rfl), hq]; exact R.l
                · rw [vw_ex ex (by intro k s e; unfold dU at e; simp only [Bool.or_eq_true, Bool.and_eq_true, Nat.beq_eq] at e; rcases e with ⟨rfl, rfl | rfl | rfl⟩ | ⟨rfl, rfl⟩ | ⟨rfl, rfl⟩ | rfl | rfl | rfl | rfl | rfl <;> rfl), hq]; exact R.u
                · rw [vw_ex ex (by intro k s e; unfold dT at e; simp only [Bool.or_eq_true, Bool.and_eq_true, Nat.beq_eq] at e; rcases e with ⟨rfl, rfl | rfl⟩ | ⟨rfl, rfl | rfl⟩ <;> rfl), hq]; exact R.t
                · rw [vw_ex ex (by intro k s e; unfold dK at e; simp only [Bool.or_eq_true, Bool.and_eq_true, Nat.beq_eq] at e; rcases e with rfl | ⟨rfl, rfl⟩ | ⟨rfl, rfl | rfl⟩ | rfl | rfl | rfl | rfl | rfl | rfl | rfl <;> rfl), hq]; exact R.k
                · rw [vw_ex ex (by intro k s e; unfold dC at e; simp only [Bool.or_eq_true, Bool.and_eq_true, Nat.beq_eq] at e; rcases e with ⟨rfl, rfl⟩ | ⟨rfl, rfl⟩ | rfl | rfl | rfl | rfl | rfl | rfl | rfl | rfl | rfl | rfl <;> rfl), hq]; exact R.c
                · show (gi X 9 s' 0 = 1 ∧ gi X 45 0 s' = -1) ∨ (gi X 9 s' 0 = 0 ∧ gi X 9 s' 1 = gi X 45 0 s' ∧ cn (gi X 45 0 s') 2 ∧ gi X 9 s' 2 = gi X 46 0 s' ∧ cn (gi X 46 0 s') 60 ∧ ∀ i, i < (gi X 46 0 s').toNatClampNeg → gi X 39 s' i = gi X 47 0 (60 * s' + i))
                  rw [← hX]
                  simp only [gi_srow, Nat.reduceEqDiff, false_and, if_false, true_and, and_false, if_true]
                  rcases (R.s s' hs').2 with w | ⟨w1, w2, w3, w4, w5, w6⟩
                  · exact Or.inl w
                  · refine Or.inr ⟨w1, w2, w3, w4, w5, fun k hk => ?_⟩
                    have hk2 : k < (gi h 46 0 s').toNatClampNeg := hk
                    have hk3 : (gi h 46 0 s').toNatClampNeg ≤ 60 := w5.2
                    by_cases e : s' = t
                    · subst e
                      rw [if_pos rfl]
                      unfold va_cpy
                      by_cases e2 : j ≤ k ∧ k < j + n
                      · rw [if_pos e2, if_pos (show 60 * s' + j ≤ 60 * s' + k ∧ 60 * s' + k < 60 * s' + j + n from by omega)]
                        rw [e5 (i + (k - j)) (by omega), ← m_47]
                        congr 1
                        omega
                      · rw [if_neg e2, if_neg (show ¬ (60 * s' + j ≤ 60 * s' + k ∧ 60 * s' + k < 60 * s' + j + n) from by omega)]
                        exact w6 k hk
                    · rw [if_neg e, if_neg (show ¬ (60 * t + j ≤ 60 * s' + k ∧ 60 * s' + k < 60 * t + j + n) from by omega)]
                      exact w6 k hk
                · rw [vw_ex ex (by intro k s e; unfold dF at e; simp only [Bool.or_eq_true, Bool.and_eq_true, Nat.beq_eq] at e; rcases e with ⟨rfl, rfl⟩ | ⟨rfl, rfl⟩ <;> rfl), hq]; exact R.f
            · -- INDEX
              refine fin 2 ?_ ?_
              · obtain ⟨r1, h1, -, h3⟩ := e_hasItems e4 hx i n
                obtain ⟨r2, h4, -, h6⟩ := e_hasItems g4 hy j n
                rw [cls, if_pos cf, h1, Option.bind_some]
                by_cases z1 : r1 = 0
                · rw [if_pos z1, K3]
                · rw [if_neg z1, h4, Option.bind_some]
                  have z2 : r2 = 0 := by
                    by_cases z2 : r2 = 0
                    · exact z2
                    · exact absurd ⟨h3.mp z1, h6.mp z2⟩ ok
                  rw [if_pos z2, K3]
              · rw [ref _ (ms_15 _ _) rfl, if_pos cf, K4]
                by_cases d1 : i < 0
                · rw [if_pos d1]
                · by_cases d2 : j < 0
                  · rw [if_neg d1, if_pos d2]
                  · by_cases d3 : n < 0
                    · rw [if_neg d1, if_neg d2, if_pos d3]
                    · rw [if_neg d1, if_neg d2, if_neg d3]
                      by_cases d4 : (nI x).toInt64 < i.toInt64 + n.toInt64
                      · rw [if_pos d4]
                      · rw [if_neg d4, if_neg]
                        intro d5
                        apply ok
                        rw [fa_lt64, sums _ _ d1 d3, Int32.toInt_toInt64, nI_toInt (by omega)] at d4
                        rw [fa_le64, sums _ _ d2 d3, Int32.toInt_toInt64, nI_toInt (by omega)] at d5
                        exact ⟨⟨fa_of_nlt d1, fa_of_nlt d3, by omega⟩, ⟨fa_of_nlt d2, fa_of_nlt d3, by omega⟩⟩
          · refine fin 4 ?_ ?_
            · rw [cls, if_neg cf]
            · rw [ref _ (ms_15 _ _) rfl, if_neg cf]
    · refine ⟨-2, dp h, dp h, ?_, ?_, R⟩
      · unfold F_X11_copy
        rw [e_isSheet, Option.bind_some, ite_b, if_pos c1, e_isSheet, Option.bind_some, ite_b, if_neg c2]
      · unfold F_X12_copy
        rw [wd_self, f_isSheet, Option.bind_some, ite_b, if_pos c1, f_isSheet, Option.bind_some, ite_b, if_neg c2]
  · refine ⟨-2, dp h, dp h, ?_, ?_, R⟩
    · unfold F_X11_copy
      rw [e_isSheet, Option.bind_some, ite_b, if_neg c1]
    · unfold F_X12_copy
      rw [wd_self, f_isSheet, Option.bind_some, ite_b, if_neg c1]
theorem p_forget : CP_forget RQ := by
  intro h R
  refine ⟨ms h 12 28, dp (si h 11 0 6 0), dp (si (si h 11 0 6 0) 12 0 28 0), ?_, ?_, ?_⟩
  · unfold F_X11_forget
    simp only [nm]
    rw [cw_nu R]
  · unfold F_X12_forget
    simp only [nm, wd_si, wd_self, m_12_28]
    rw [ms_si _ _ (by decide)]
  · simp only [wd_si, wd_osi, wd_self]
    refine RQ.mk R R.1 (by simp (disch := decide) only [gW_si, gW_sik]; exact R.w) (by simp (disch := decide) only [gP_si, gP_sik]; exact R.p) (by simp (disch := decide) only [gB_si, gB_sik]; exact R.b) (by simp (disch := decide) only [gL_si, gL_sik]; exact R.l) ⟨rfl, cn_of (n := 0) (by omega) (by omega), R.u.2.2.1, fun u hu => ?_⟩ (by simp (disch := decide) only [gT_si, gT_sik]; exact R.t) (by simp (disch := decide) only [gK_si, gK_sik]; exact R.k) (by simp (disch := decide) only [gC_si, gC_sik]; exact R.c) (by simp (disch := decide) only [gS_si, gS_sik]; exact R.s) (by simp (disch := decide) only [gF_si, gF_sik]; exact R.f)
    exact absurd hu (Nat.not_lt_zero u)
theorem p_tune : CP_tune RQ := by
  intro h R a v
  by_cases x0 : a = 0
  · subst x0
    have ca : (0 : Int32) ≤ 0 ∧ (0 : Int32) ≤ 1 := ⟨by decide, by decide⟩
    by_cases c2 : 0 ≤ v ∧ v ≤ 49
    · refine ⟨ms h 12 37, dp (si h 7 0 0 v), dp (si (si h 7 0 0 v) 12 0 37 v), ?_, ?_, ?_⟩
      · unfold F_X11_tune
        simp only [nm]
        rw [if_pos trivial, e_from, Option.bind_some, ite_b, if_pos c2, rf_11_8 R.1, Option.bind_some, Option.bind_some, cw_t0 R]
      · unfold F_X12_tune J_X12_tune_26 J_X12_tune_50
        simp only [nm, wd_si, wd_self]
        rw [e_in_0_1, Option.bind_some, ite_b, if_pos ca, if_pos trivial, e_in_0_49, Option.bind_some, ite_b, if_pos c2, if_pos trivial, if_pos trivial, m_12_37, ms_si _ _ (by decide)]
      · simp only [wd_si, wd_osi, wd_self]
        exact RQ.mk R R.1 (by simp (disch := decide) only [gW_si, gW_sik]; exact R.w) (by simp (disch := decide) only [gP_si, gP_sik]; exact R.p) (by simp (disch := decide) only [gB_si, gB_sik]; exact R.b) (by simp (disch := decide) only [gL_si, gL_sik]; exact R.l) (by simp (disch := decide) only [gU_si, gU_sik]; exact R.u) ⟨rfl, R.t.2.1, cn_in 49 c2.1 c2.2, R.t.2.2.2⟩ (by simp (disch := decide) only [gK_si, gK_sik]; exact R.k) (by simp (disch := decide) only [gC_si, gC_sik]; exact R.c) (by simp (disch := decide) only [gS_si, gS_sik]; exact R.s) (by simp (disch := decide) only [gF_si, gF_sik]; exact R.f)
    · refine ⟨-2, dp h, dp h, ?_, ?_, R⟩
      · unfold F_X11_tune
        rw [if_pos rfl, e_from, Option.bind_some, ite_b, if_neg c2]
        rfl
      · unfold F_X12_tune J_X12_tune_26
        rw [wd_self, e_in_0_1, Option.bind_some, ite_b, if_pos ca, if_pos rfl, e_in_0_49, Option.bind_some, ite_b, if_neg c2]
  · by_cases x1 : a = 1
    · subst x1
      have ca : (0 : Int32) ≤ 1 ∧ (1 : Int32) ≤ 1 := ⟨by decide, by decide⟩
      by_cases c2 : 0 ≤ v ∧ v ≤ 4095
      · refine ⟨ms h 12 38, dp (si h 7 0 1 v), dp (si (si h 7 0 1 v) 12 0 38 v), ?_, ?_, ?_⟩
        · unfold F_X11_tune J_X11_tune_32
          simp only [nm]
          rw [if_neg x0, if_pos trivial, e_from, Option.bind_some, ite_b, if_pos c2, rf_11_8 R.1, Option.bind_some, Option.bind_some, cw_t1 R]
        · unfold F_X12_tune J_X12_tune_26 J_X12_tune_50
          simp only [nm, wd_si, wd_self]
          rw [e_in_0_1, Option.bind_some, ite_b, if_pos ca, if_neg x0, e_in_0_4095, Option.bind_some, ite_b, if_pos c2, if_neg x0, if_neg x0, m_12_38, ms_si _ _ (by decide)]
        · simp only [wd_si, wd_osi, wd_self]
          exact RQ.mk R R.1 (by simp (disch := decide) only [gW_si, gW_sik]; exact R.w) (by simp (disch := decide) only [gP_si, gP_sik]; exact R.p) (by simp (disch := decide) only [gB_si, gB_sik]; exact R.b) (by simp (disch := decide) only [gL_si, gL_sik]; exact R.l) (by simp (disch := decide) only [gU_si, gU_sik]; exact R.u) ⟨R.t.1, rfl, R.t.2.2.1, cn_in 4095 c2.1 c2.2⟩ (by simp (disch := decide) only [gK_si, gK_sik]; exact R.k) (by simp (disch := decide) only [gC_si, gC_sik]; exact R.c) (by simp (disch := decide) only [gS_si, gS_sik]; exact R.s) (by simp (disch := decide) only [gF_si, gF_sik]; exact R.f)
      · refine ⟨-2, dp h, dp h, ?_, ?_, R⟩
        · unfold F_X11_tune J_X11_tune_32
          rw [if_neg x0, if_pos rfl, e_from, Option.bind_some, ite_b, if_neg c2]
        · unfold F_X12_tune J_X12_tune_26
          rw [wd_self, e_in_0_1, Option.bind_some, ite_b, if_pos ca, if_neg x0, e_in_0_4095, Option.bind_some, ite_b, if_neg c2]
    · have c2 : ¬ (0 ≤ a ∧ a ≤ 1) := by
        intro q
        obtain ⟨n, hn, rfl⟩ := in_lit (n := 1) (by omega) q
        have : n = 0 ∨ n = 1 := by omega
        rcases this with rfl | rfl
        · exact x0 rfl
        · exact x1 rfl
      refine ⟨-2, dp h, dp h, ?_, ?_, R⟩
      · unfold F_X11_tune J_X11_tune_32
        rw [if_neg x0, if_neg x1]
      · unfold F_X12_tune
        rw [wd_self, e_in_0_1, Option.bind_some, ite_b, if_neg c2]
