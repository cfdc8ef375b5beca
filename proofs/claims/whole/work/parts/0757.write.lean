/-! stage III: write -/
theorem ga_same {h h' : HP} {k i n : Nat} {j : Int32} (e : ∀ s, gi h' k i s = gi h k i s) : ga h' k i n j = ga h k i n j := by
  unfold ga
  rw [e]
/-- letters don't look at sheets -/
theorem letter_sheets {h h' : HP} (e2 : h'.2.2 = h.2.2) (e : ∀ k i s, k ≠ 39 → gi h' k i s = gi h k i s) (i0 i1 i2 : Nat) : F_X4_letterOf i0 i1 i2 h' = F_X4_letterOf i0 i1 i2 h := by
  have er := gr_22 e2
  have hB : B_X4_partFor_2 i0 i1 i2 h' = B_X4_partFor_2 i0 i1 i2 h := by
    funext x
    unfold B_X4_partFor_2
    rw [er, ga_same (h := h) (fun s => e 34 _ s (by decide))]
    have g31 : ∀ (o : Nat) (j : Int32), ga h' 31 o 26 j = ga h 31 o 26 j := fun o j => ga_same (fun s => e 31 _ s (by decide))
    have g32 : ∀ (o : Nat) (j : Int32), ga h' 32 o 26 j = ga h 32 o 26 j := fun o j => ga_same (fun s => e 32 _ s (by decide))
    have g1 : ∀ s, gi h' 1 i1 s = gi h 1 i1 s := fun s => e 1 _ s (by decide)
    simp only [g31, g32, g1]
  have g30 : ∀ (o : Nat) (j : Int32), ga h' 30 o 26 j = ga h 30 o 26 j := fun o j => ga_same (fun s => e 30 _ s (by decide))
  unfold F_X4_letterOf F_X4_partFor
  rw [hB, er]
  simp only [g30]
theorem f_letterL {h : HP} (G : gR h.2.2) {L : List PT} (P : PM h L) (hlen : L.length ≤ 26) (w : Int32) {b : Nat} (hb : b < 20) : F_X12_letterOf 0 (nI b) w h = some (letV L w (ms h 52 b) (ms h 51 b)) := by
  unfold F_X12_letterOf letV
  rw [f_whyOf G P hlen w hb, Option.bind_some]
  rcases whyV_r L w (ms h 52 b) (ms h 51 b) with q | ⟨p, x, q1, q2⟩
  · rw [q, if_pos rfl, if_pos rfl]
  · have hp : p < L.length := (List.getElem?_eq_some_iff.mp q1).1
    rw [q2, if_neg (nI_m1 (by omega)), if_neg (nI_m1 (by omega)), nI_clamp (by omega), q1]
    rw [rf_12_24 G, Option.bind_some, ga_v (by omega) (by omega), Option.bind_some, (P.2 p x q1).1]
theorem e_min (a b : Nat) (ha : a < 2147483648) (hb : b < 2147483648) : F_J_min (nI a) (nI b) = some (nI (if b < a then b else a)) := by
  unfold F_J_min
  by_cases c : b < a
  · rw [if_pos (nI_lt c (by omega)), if_pos c]
  · rw [if_neg (nI_nlt (by omega) (by omega)), if_neg c]
theorem p_write : CP_write RQ := by
  intro h R a w
  have h3 := b_nb R.m
  by_cases c1 : 0 ≤ a ∧ a ≤ 3
  · by_cases c2 : 0 ≤ w ∧ w ≤ 199
    · obtain ⟨s, hs, rfl⟩ := in_lit (n := 3) (by omega) c1
      rcases sh_cases R (s := s) (by omega) with ⟨l1, l2⟩ | ⟨l1, f, n, hf, hn, e1, e2, e3, e4, e5⟩
      · obtain ⟨w1, w2⟩ := find2 R 1
        refine ⟨-11, dp (si h 11 0 15 1), dp (si (si h 11 0 15 1) 12 0 4 1), ?_, ?_, w2⟩
        · unfold F_X11_write
          simp only [nm, u2]
          rw [e_isSheet, Option.bind_some, ite_b, if_pos c1, e_isWeek, Option.bind_some, ite_b, if_pos c2, rf_11_14 R.1, Option.bind_some, gar_v (by omega) (by omega), rs_44 R (by omega), Option.bind_some, l1, if_neg (show ¬ (1 : Int32) = 0 by decide), e_finding, Option.bind_some]
          rfl
        · rw [w1]
          unfold F_X12_write
          simp only [nm, u2]
          rw [f_isSheet, Option.bind_some, ite_b, if_pos c1, f_isWeek, Option.bind_some, ite_b, if_pos c2, xr_si, rf_12_0 R.1, Option.bind_some, ga_v (by omega) (by omega), Option.bind_some, m_45, ms_15, l2, if_neg (show ¬ (0 : Int32) ≤ -1 by decide), f_met, Option.bind_some]
          rfl
      · -- how many
        obtain ⟨q, hq⟩ : ∃ q, q = if n < NB (ms h) then n else NB (ms h) := ⟨_, rfl⟩
        have hq1 : q ≤ n := by rw [hq]; split <;> omega
        have hq2 : q ≤ NB (ms h) := by rw [hq]; split <;> omega
        obtain ⟨h1, r1, x1, i1⟩ := e_inForce R w
        have s1 := x1.sq S34_la
        have R1 := s1.rl R
        have em := s1.mq
        have em2 : NB (ms h1) = NB (ms h) := by rw [em]
        -- the class's loop
        have hX : ∀ j, EX (fun k _ => Nat.beq k 39) h1 (srow h1 39 s (fun i => if i < j then cutV (nI f) (mB (ms h) i w) else gi h1 39 s i)) := fun j => EX.srow (EX.rfl' h1) _ _ (fun _ => rfl)
        have hl : loopN LF (B_X11_write_66 0 s 0 (nI q) h1) (0, dp h1) = some (dp (srow h1 39 s (fun i => if i < q then cutV (nI f) (mB (ms h) i w) else gi h1 39 s i))) := by
          have := loopS (B := B_X11_write_66 0 s 0 (nI q) h1) (fun j => (nI j, dp (srow h1 39 s (fun i => if i < j then cutV (nI f) (mB (ms h) i w) else gi h1 39 s i)))) (r := dp (srow h1 39 s (fun i => if i < q then cutV (nI f) (mB (ms h) i w) else gi h1 39 s i))) q (by omega) (fun j hj => by
            have lt := letter_sheets (h := h1) (h' := srow h1 39 s (fun i => if i < j then cutV (nI f) (mB (ms h) i w) else gi h1 39 s i)) rfl (fun k i t hk => by rw [gi_srow, if_neg (fun q => hk q.1)]) 0 j 0
            rw [e_letterOf R1 i1 (show j < NB (ms h1) by rw [em]; omega), em] at lt
            unfold B_X11_write_66
            simp only [nm, u2, wd_srow, wd_self]
            rw [if_neg (nI_ge hj (by omega)), xr_srow, rf_11_4 R1.1, Option.bind_some, rf_11_3 R1.1, Option.bind_some, rf_2_0 R1.1, Option.bind_some, gar_v (by omega) (by omega), xr_srow, rb_23 R1 (show j < NB (ms h1) by omega), Option.bind_some, lt, Option.bind_some]
            unfold F_X9_store J_X9_store_31
            have g91 : gi (srow h1 39 s (fun i => if i < j then cutV (nI f) (mB (ms h) i w) else gi h1 39 s i)) 9 s 1 = nI f := by rw [gi_srow, if_neg (by omega), x1.2.1 9 s 1 rfl, e3]
            simp (disch := first | assumption | decide | omega) only [xr_srow, rs_9 R1 (s := s) (by omega), Option.bind_some, sa_v, si_srow, g91, nI_1]
            have sx : srow h1 39 s (va_up (fun i => if i < j then cutV (nI f) (mB (ms h) i w) else gi h1 39 s i) j (cutV (nI f) (mB (ms h) j w))) = srow h1 39 s (fun i => if i < j + 1 then cutV (nI f) (mB (ms h) i w) else gi h1 39 s i) := srow_ext h1 39 s (fun i => by
              unfold va_up
              by_cases e : i = j
              · rw [if_pos e, if_pos (by omega), e]
              · rw [if_neg e]
                show (if i < j then cutV (nI f) (mB (ms h) i w) else gi h1 39 s i) = _
                by_cases e2 : i < j
                · rw [if_pos e2, if_pos (by omega)]
                · rw [if_neg e2, if_neg (by omega)])
            rw [← sx]
            unfold cutV
            by_cases f0 : nI f = 0
            · simp only [f0, if_true, Option.bind_some, wd_srow, wd_osr, wd_self]
            · by_cases f1 : nI f = 1
              · simp only [f1, show ((1 : Int32) = 0) = False from by decide, if_false, if_true, Option.bind_some, wd_srow, wd_osr, wd_self]
              · simp only [f0, f1, if_false, Option.bind_some, wd_srow, wd_osr, wd_self]) (by
            unfold B_X11_write_66
            simp only [nm, u2, wd_srow, wd_self]
            rw [if_pos (nI_le (Nat.le_refl _) (by omega))])
          rw [srow_self h1 39 s _ (fun i => by rw [if_neg (by omega)])] at this
          exact this
        -- the reference's run on any heap that says the same of its part
        have ref : ∀ X : HP, gR X.2.2 → ms X = ms h → ∃ h2, F_X12_write 0 (nI s) w X = some (nI q, dp h2) ∧ EX (fun k t => TP k t || Nat.beq k 47) X h2 ∧ ∀ j, gi h2 47 0 j = if 60 * s ≤ j ∧ j < 60 * s + q then cutV (nI f) (mB (ms h) (j - 60 * s) w) else gi X 47 0 j := by
          intro X GX eX
          have WX : MW (ms X) := by rw [eX]; exact R.m
          obtain ⟨h2, r2, x2, s2, pm⟩ := f_readsM GX WX
          rw [eX] at pm
          have G2 : gR h2.2.2 := by rw [x2.1]; exact GX
          have m2 : ms h2 = ms h := s2.mq.trans eX
          have g47 : ∀ j, gi h2 47 0 j = gi X 47 0 j := fun j => x2.2.1 47 0 j rfl
          have hl2 : loopN LF (B_X12_write_67 0 (nI s) w (nI q) h2) (0, dp h2) = some (dp (srow h2 47 0 (fun j => if 60 * s ≤ j ∧ j < 60 * s + q then cutV (nI f) (mB (ms h) (j - 60 * s) w) else gi X 47 0 j))) := by
            have := loopS (B := B_X12_write_67 0 (nI s) w (nI q) h2) (fun k => (nI k, dp (srow h2 47 0 (fun j => if 60 * s ≤ j ∧ j < 60 * s + k then cutV (nI f) (mB (ms h) (j - 60 * s) w) else gi X 47 0 j)))) (r := dp (srow h2 47 0 (fun j => if 60 * s ≤ j ∧ j < 60 * s + q then cutV (nI f) (mB (ms h) (j - 60 * s) w) else gi X 47 0 j))) q (by omega) (fun k hk => by
              have pmY : PM (srow h2 47 0 (fun j => if 60 * s ≤ j ∧ j < 60 * s + k then cutV (nI f) (mB (ms h) (j - 60 * s) w) else gi X 47 0 j)) (LW (ms h)) := ⟨by rw [gi_srow, if_neg (by decide)]; exact pm.1, fun p x hx => by
                obtain ⟨y1, y2, y3, y4⟩ := pm.2 p x hx
                exact ⟨by rw [gi_srow, if_neg (show ¬ (62 = 47 ∧ 0 = 0) by decide)]; exact y1, by rw [gi_srow, if_neg (show ¬ (63 = 47 ∧ 0 = 0) by decide)]; exact y2, by rw [gi_srow, if_neg (show ¬ (64 = 47 ∧ 0 = 0) by decide)]; exact y3, by rw [gi_srow, if_neg (show ¬ (65 = 47 ∧ 0 = 0) by decide)]; exact y4⟩⟩
              have m45 : gi (srow h2 47 0 (fun j => if 60 * s ≤ j ∧ j < 60 * s + k then cutV (nI f) (mB (ms h) (j - 60 * s) w) else gi X 47 0 j)) 45 0 s = nI f := by rw [gi_srow, if_neg (by decide), m_45, m2, e1]
              have m52 : ms (srow h2 47 0 (fun j => if 60 * s ≤ j ∧ j < 60 * s + k then cutV (nI f) (mB (ms h) (j - 60 * s) w) else gi X 47 0 j)) 52 k = ms h 52 k := by rw [← m_52, gi_srow, if_neg (by decide), m_52, m2]
              have m51 : ms (srow h2 47 0 (fun j => if 60 * s ≤ j ∧ j < 60 * s + k then cutV (nI f) (mB (ms h) (j - 60 * s) w) else gi X 47 0 j)) 51 k = ms h 51 k := by rw [← m_51, gi_srow, if_neg (by decide), m_51, m2]
              have GY : gR (srow h2 47 0 (fun j => if 60 * s ≤ j ∧ j < 60 * s + k then cutV (nI f) (mB (ms h) (j - 60 * s) w) else gi X 47 0 j)).2.2 := G2
              have sx : srow h2 47 0 (va_up (fun j => if 60 * s ≤ j ∧ j < 60 * s + k then cutV (nI f) (mB (ms h) (j - 60 * s) w) else gi X 47 0 j) (60 * s + k) (cutV (nI f) (mB (ms h) k w))) = srow h2 47 0 (fun j => if 60 * s ≤ j ∧ j < 60 * s + (k + 1) then cutV (nI f) (mB (ms h) (j - 60 * s) w) else gi X 47 0 j) := srow_ext h2 47 0 (fun j => by
                unfold va_up
                by_cases e : j = 60 * s + k
                · rw [if_pos e, if_pos (by omega), e, show 60 * s + k - 60 * s = k by omega]
                · rw [if_neg e]
                  show (if 60 * s ≤ j ∧ j < 60 * s + k then cutV (nI f) (mB (ms h) (j - 60 * s) w) else gi X 47 0 j) = _
                  by_cases e2 : 60 * s ≤ j ∧ j < 60 * s + k
                  · rw [if_pos e2, if_pos (by omega)]
                  · rw [if_neg e2, if_neg (by omega)])
              have lt := f_letterL GY pmY (LW_len R.m) w (show k < 20 by omega)
              rw [m52, m51] at lt
              unfold B_X12_write_67
              simp only [nm, u2, wd_srow, wd_self]
              rw [if_neg (nI_ge hk (by omega)), rf_12_2 GY, Option.bind_some, rf_12_0 GY, Option.bind_some, ga_v (by omega) (by omega), Option.bind_some, m45, lt, Option.bind_some, f_cut, Option.bind_some, ix60, sa_v (by omega) (by omega), Option.bind_some, si_srow, nI_1]
              rw [← sx]
              rfl) (by
              unfold B_X12_write_67
              simp only [nm, u2, wd_srow, wd_self]
              rw [if_pos (nI_le (Nat.le_refl _) (by omega))])
            rw [srow_self h2 47 0 _ (fun j => by rw [if_neg (by omega), g47])] at this
            exact this
          refine ⟨_, ?_, (x2.mono (T := fun k t => TP k t || Nat.beq k 47) (fun k t e => by simp only [Bool.or_eq_false_iff] at e; exact e.1)).trans (EX.srow (k := 47) (EX.rfl' h2) 0 _ (fun t => by simp)), fun j => by rw [gi_srow, if_pos ⟨rfl, rfl⟩]⟩
          unfold F_X12_write
          simp only [nm, u2]
          rw [f_isSheet, Option.bind_some, ite_b, if_pos c1, f_isWeek, Option.bind_some, ite_b, if_pos c2, rf_12_0 GX, Option.bind_some, ga_v (by omega) (by omega), Option.bind_some, m_45, eX, e1, if_pos (nI_pos' (by omega)), r2, Option.bind_some, wd_dp x2.1, rf_12_1 G2, Option.bind_some, ga_v (by omega) (by omega), Option.bind_some, m_46, m2, e2, m_12_8, m2, v_nb R.m]
          have hJ : J_X12_write_63 0 (nI s) w (nI q) h2 = some (nI q, dp (srow h2 47 0 (fun j => if 60 * s ≤ j ∧ j < 60 * s + q then cutV (nI f) (mB (ms h) (j - 60 * s) w) else gi X 47 0 j))) := by
            unfold J_X12_write_63
            simp only [nm]
            rw [hl2, Option.bind_some]
            simp only [wd_srow, wd_self]
          by_cases c4 : nI n ≤ nI (NB (ms h))
          · rw [if_pos c4]
            have : n ≤ NB (ms h) := (nI_leI (by omega) (by omega)).mp c4
            have eq : q = n := by rw [hq]; split <;> omega
            rw [Option.bind_some, ga_v (by omega) (by omega), Option.bind_some, m_46, m2, e2, ← eq, hJ]
          · rw [if_neg c4]
            have : ¬ n ≤ NB (ms h) := fun w => c4 ((nI_leI (by omega) (by omega)).mpr w)
            have eq : q = NB (ms h) := by rw [hq]; split <;> omega
            rw [← eq, hJ]
        have mX : ms (srow h1 39 s (fun i => if i < q then cutV (nI f) (mB (ms h) i w) else gi h1 39 s i)) = ms h := by
          rw [← em]
          funext k t
          unfold ms
          by_cases z : mk k t = true
          · rw [if_pos z, if_pos z, gi_srow, if_neg]
            rintro ⟨rfl, -⟩
            cases z
          · rw [if_neg z, if_neg z]
        obtain ⟨h2, r2, x2, g2⟩ := ref (srow h1 39 s (fun i => if i < q then cutV (nI f) (mB (ms h) i w) else gi h1 39 s i)) R1.1 mX
        have hwd : wd h (dp (srow h1 39 s (fun i => if i < q then cutV (nI f) (mB (ms h) i w) else gi h1 39 s i))) = srow h1 39 s (fun i => if i < q then cutV (nI f) (mB (ms h) i w) else gi h1 39 s i) := wd_dp (by rw [srow_22]; exact x1.1)
        refine ⟨nI q, dp (srow h1 39 s (fun i => if i < q then cutV (nI f) (mB (ms h) i w) else gi h1 39 s i)), dp h2, ?_, ?_, ?_⟩
        · unfold F_X11_write
          simp only [nm, u2]
          rw [e_isSheet, Option.bind_some, ite_b, if_pos c1, e_isWeek, Option.bind_some, ite_b, if_pos c2, rf_11_14 R.1, Option.bind_some, gar_v (by omega) (by omega), rs_44 R (by omega), Option.bind_some, l1, if_pos rfl, rf_11_4 R.1, Option.bind_some, r1, Option.bind_some, wd_dp x1.1, rf_11_3 R1.1, Option.bind_some, cw_nb R1, v_nb R1.m, em, x1.2.1 9 s 2 rfl, e4, e_min _ _ (by omega) (by omega), Option.bind_some, ← hq, hl, Option.bind_some]
          simp only [wd_srow, wd_self]
        · rw [hwd]; exact r2
        · rw [hwd, wd_dp x2.1]
          have hq3 : h2.2.2 = h.2.2 := x2.1.trans x1.1
          have ex : EX (fun k t => (Nat.beq k 34 || (Nat.beq k 39 || Nat.beq k 47)) || TP k t) h h2 := by
            have mono : ∀ {S T : Nat → Nat → Bool}, (∀ k s, S k s = true → T k s = true) → ∀ k s, T k s = false → S k s = false := by
              intro S T hST k s e
              cases hS : S k s with
              | false => rfl
              | true => rw [hST k s hS] at e; cases e
            refine EX.trans (EX.trans (x1.mono (mono ?_)) ((hX q).mono (mono ?_))) (x2.mono (mono ?_))
            · intro k t e
              unfold S34 at e
              simp [e]
            · intro k t e
              simp [e]
            · intro k t e
              simp only [Bool.or_eq_true] at e
              rcases e with e | e <;> simp [e]
          have qr : gR h2.2.2 := by rw [hq3]; exact R.1
          have dj : ∀ k t, ((Nat.beq k 34 || (Nat.beq k 39 || Nat.beq k 47)) || TP k t) = true → (k = 34 ∨ k = 39 ∨ k = 47) ∨ (k = 12 ∧ (t = 22 ∨ t = 23)) ∨ k = 62 ∨ k = 63 ∨ k = 64 ∨ k = 65 := by
            intro k t e
            unfold TP at e
            simp only [Bool.or_eq_true, Bool.and_eq_true, Nat.beq_eq] at e
            omega
          have dis : ∀ {D : Nat → Nat → Bool}, D 12 22 = false → D 12 23 = false → (∀ t, D 34 t = false) → (∀ t, D 39 t = false) → (∀ t, D 47 t = false) → (∀ t, D 62 t = false) → (∀ t, D 63 t = false) → (∀ t, D 64 t = false) → (∀ t, D 65 t = false) → ∀ k t, D k t = true → ((Nat.beq k 34 || (Nat.beq k 39 || Nat.beq k 47)) || TP k t) = false := by
            intro D a1 a2 a3 a4 a5 a6 a7 a8 a9 k t e
            cases z : ((Nat.beq k 34 || (Nat.beq k 39 || Nat.beq k 47)) || TP k t) with
            | false => rfl
            | true =>
              rcases dj k t z with (rfl | rfl | rfl) | ⟨rfl, rfl | rfl⟩ | rfl | rfl | rfl | rfl
              · rw [a3] at e; cases e
              · rw [a4] at e; cases e
              · rw [a5] at e; cases e
              · rw [a1] at e; cases e
              · rw [a2] at e; cases e
              · rw [a6] at e; cases e
              · rw [a7] at e; cases e
              · rw [a8] at e; cases e
              · rw [a9] at e; cases e
          have rr : ∀ t : Nat, true = true := fun _ => rfl
          refine RQ.mk R qr ?_ ?_ ?_ ?_ ?_ ?_ ?_ ?_ (fun s' hs' => ⟨by rw [hq3]; exact (R.s s' hs').1, ?_⟩) ?_
          · rw [vw_ex ex (dis rfl rfl (fun _ => rfl) (fun _ => rfl) (fun _ => rfl) (fun _ => rfl) (fun _ => rfl) (fun _ => rfl) (fun _ => rfl)), hq3]; exact R.w
          · rw [vw_ex ex (dis rfl rfl (fun _ => rfl) (fun _ => rfl) (fun _ => rfl) (fun _ => rfl) (fun _ => rfl) (fun _ => rfl) (fun _ => rfl)), hq3]; exact R.p
          · rw [vw_ex ex (dis rfl rfl (fun _ => rfl) (fun _ => rfl) (fun _ => rfl) (fun _ => rfl) (fun _ => rfl) (fun _ => rfl) (fun _ => rfl)), hq3]; exact R.b
          · rw [vw_ex ex (dis rfl rfl (fun _ => rfl) (fun _ => rfl) (fun _ => rfl) (fun _ => rfl) (fun _ => rfl) (fun _ => rfl) (fun _ => rfl)), hq3]; exact R.l
          · rw [vw_ex ex (dis rfl rfl (fun _ => rfl) (fun _ => rfl) (fun _ => rfl) (fun _ => rfl) (fun _ => rfl) (fun _ => rfl) (fun _ => rfl)), hq3]; exact R.u
          · rw [vw_ex ex (dis rfl rfl (fun _ => rfl) (fun _ => rfl) (fun _ => rfl) (fun _ => rfl) (fun _ => rfl) (fun _ => rfl) (fun _ => rfl)), hq3]; exact R.t
          · rw [vw_ex ex (dis rfl rfl (fun _ => rfl) (fun _ => rfl) (fun _ => rfl) (fun _ => rfl) (fun _ => rfl) (fun _ => rfl) (fun _ => rfl)), hq3]; exact R.k
          · rw [vw_ex ex (dis rfl rfl (fun _ => rfl) (fun _ => rfl) (fun _ => rfl) (fun _ => rfl) (fun _ => rfl) (fun _ => rfl) (fun _ => rfl)), hq3]; exact R.c
          · show (gi h2 9 s' 0 = 1 ∧ gi h2 45 0 s' = -1) ∨ (gi h2 9 s' 0 = 0 ∧ gi h2 9 s' 1 = gi h2 45 0 s' ∧ cn (gi h2 45 0 s') 2 ∧ gi h2 9 s' 2 = gi h2 46 0 s' ∧ cn (gi h2 46 0 s') 60 ∧ ∀ i, i < (gi h2 46 0 s').toNatClampNeg → gi h2 39 s' i = gi h2 47 0 (60 * s' + i))
            rw [ex.2.1 9 s' 0 rfl, ex.2.1 9 s' 1 rfl, ex.2.1 9 s' 2 rfl, ex.2.1 45 0 s' rfl, ex.2.1 46 0 s' rfl]
            rcases (R.s s' hs').2 with z | ⟨z1, z2, z3, z4, z5, z6⟩
            · exact Or.inl z
            · refine Or.inr ⟨z1, z2, z3, z4, z5, fun i hi => ?_⟩
              have hi2 : i < (gi h 46 0 s').toNatClampNeg := hi
              have hi3 : (gi h 46 0 s').toNatClampNeg ≤ 60 := z5.2
              have z7 : gi h 39 s' i = gi h 47 0 (60 * s' + i) := z6 i hi
              have y47 : ∀ j, gi (srow h1 39 s (fun i => if i < q then cutV (nI f) (mB (ms h) i w) else gi h1 39 s i)) 47 0 j = gi h 47 0 j := fun j => by rw [gi_srow, if_neg (by omega), x1.2.1 47 0 j rfl]
              rw [g2, y47, x2.2.1 39 s' i (by rfl), gi_srow]
              by_cases e : s' = s
              · subst e
                rw [if_pos ⟨rfl, rfl⟩]
                by_cases e6 : i < q
                · rw [if_pos e6, if_pos (by omega), show 60 * s' + i - 60 * s' = i by omega]
                · rw [if_neg e6, if_neg (by omega), x1.2.1 39 s' i rfl]
                  exact z7
              · rw [if_neg (fun w => e w.2), if_neg (by omega), x1.2.1 39 s' i rfl]
                exact z7
          · rw [vw_ex ex (dis rfl rfl (fun _ => rfl) (fun _ => rfl) (fun _ => rfl) (fun _ => rfl) (fun _ => rfl) (fun _ => rfl) (fun _ => rfl)), hq3]; exact R.f
    · refine ⟨-2, dp h, dp h, ?_, ?_, R⟩
      · unfold F_X11_write
        rw [e_isSheet, Option.bind_some, ite_b, if_pos c1, e_isWeek, Option.bind_some, ite_b, if_neg c2]
      · unfold F_X12_write
        rw [wd_self, f_isSheet, Option.bind_some, ite_b, if_pos c1, f_isWeek, Option.bind_some, ite_b, if_neg c2]
  · refine ⟨-2, dp h, dp h, ?_, ?_, R⟩
    · unfold F_X11_write
      rw [e_isSheet, Option.bind_some, ite_b, if_neg c1]
    · unfold F_X12_write
      rw [wd_self, f_isSheet, Option.bind_some, ite_b, if_neg c1]
