/-! stage III: find -/
def tvF (m : Nat → Nat → Int32) (s t : Nat) : Int32 := if 0 ≤ m 47 (60 * s + t) ∧ m 47 (60 * s + t) ≤ 9999 then m 47 (60 * s + t) else -1
theorem tvF_tn (m : Nat → Nat → Int32) (s t : Nat) : tn (tvF m s t) := by
  unfold tvF
  split
  · rename_i h; exact Or.inr (cn_in 9999 h.1 h.2)
  · exact Or.inl rfl
theorem e_findloop {X : HP} {m : Nat → Nat → Int32} {s K : Nat} (hk : gr X 10 K 0 = some K) (h9 : gr X 9 s 3 = some s) (e : ∀ t, t < 5 → gi X 39 s t = m 47 (60 * s + t)) :
    loopN LF (B_X11_find_125 0 s K X) (0, dp X) = some (dp (srow X 40 K (fun j => if j < 5 then tvF m s j else gi X 40 K j))) := by
  have := loopS (B := B_X11_find_125 0 s K X) (fun k => (nI k, dp (srow X 40 K (fun j => if j < k then tvF m s j else gi X 40 K j)))) (r := dp (srow X 40 K (fun j => if j < 5 then tvF m s j else gi X 40 K j))) 5 (by omega) (fun k hk5 => by
    have ex : srow X 40 K (va_up (fun j => if j < k then tvF m s j else gi X 40 K j) k (tvF m s k)) = srow X 40 K (fun j => if j < k + 1 then tvF m s j else gi X 40 K j) :=
      srow_ext X 40 K (fun j => by unfold va_up; by_cases q : j = k <;> by_cases q2 : j < k <;> simp [q, q2] <;> omega)
    unfold B_X11_find_125 u2 nm
    simp only [wd_srow, wd_self]
    rw [if_neg (show ¬ 5 ≤ nI k from nI_ge (b := 5) hk5 (by omega)), xr_srow, hk, Option.bind_some, h9, Option.bind_some, ga_v (by omega) (by omega), Option.bind_some, gi_srow, if_neg (show ¬ (39 = 40 ∧ s = K) by omega), e k hk5, e_from, Option.bind_some, ite_b]
    by_cases c : 0 ≤ m 47 (60 * s + k) ∧ m 47 (60 * s + k) ≤ 9999
    · rw [if_pos c, Option.bind_some, ga_v (by omega) (by omega), Option.bind_some, gi_srow, if_neg (show ¬ (39 = 40 ∧ s = K) by omega), e k hk5]
      unfold J_X11_find_168 nm
      rw [sa_v (by omega) (by omega), Option.bind_some, si_srow, nI_1]
      have : m 47 (60 * s + k) = tvF m s k := by unfold tvF; rw [if_pos c]
      rw [this, ex]
    · rw [if_neg c]
      unfold J_X11_find_168 nm
      rw [sa_v (by omega) (by omega), Option.bind_some, si_srow, nI_1]
      have : (-1 : Int32) = tvF m s k := by unfold tvF; rw [if_neg c]
      rw [this, ex]) (by
    unfold B_X11_find_125 u2 nm
    simp only [wd_srow, wd_self]
    rw [if_pos (show 5 ≤ nI 5 from nI_le (a := 5) (Nat.le_refl _) (by omega))])
  rw [srow_self X 40 K _ (fun s => by simp)] at this
  exact this
theorem f_findloop {X : HP} {s N : Nat} (a2 a3 a4 : Int32) (G : gR X.2.2) (hs : s ≤ 3) (hN : N < 8) (e : gi X 12 0 28 = nI N) :
    loopN LF (B_X12_find_98 0 (nI s) a2 a3 a4 X) (0, dp X) = some (dp (srow X 66 0 (fun j => if 5 * N ≤ j ∧ j < 5 * N + 5 then tvF (fun k j => gi X k 0 j) s (j - 5 * N) else gi X 66 0 j))) := by
  have := loopS (B := B_X12_find_98 0 (nI s) a2 a3 a4 X) (fun k => (nI k, dp (srow X 66 0 (fun j => if 5 * N ≤ j ∧ j < 5 * N + k then tvF (fun k j => gi X k 0 j) s (j - 5 * N) else gi X 66 0 j)))) (r := dp (srow X 66 0 (fun j => if 5 * N ≤ j ∧ j < 5 * N + 5 then tvF (fun k j => gi X k 0 j) s (j - 5 * N) else gi X 66 0 j))) 5 (by omega) (fun k hk5 => by
    have ex : srow X 66 0 (va_up (fun j => if 5 * N ≤ j ∧ j < 5 * N + k then tvF (fun k j => gi X k 0 j) s (j - 5 * N) else gi X 66 0 j) (5 * N + k) (tvF (fun k j => gi X k 0 j) s k)) = srow X 66 0 (fun j => if 5 * N ≤ j ∧ j < 5 * N + (k + 1) then tvF (fun k j => gi X k 0 j) s (j - 5 * N) else gi X 66 0 j) :=
      srow_ext X 66 0 (fun j => by
        unfold va_up
        by_cases q : j = 5 * N + k
        · subst q
          simp only [if_true]
          rw [if_pos (by omega), show 5 * N + k - 5 * N = k by omega]
        · by_cases q2 : 5 * N ≤ j ∧ j < 5 * N + k
          · simp only [q, if_false]
            rw [if_pos q2, if_pos (by omega)]
          · simp only [q, if_false]
            rw [if_neg q2, if_neg (by omega)])
    have ix : (5 : Int32) * nI N + nI k = nI (5 * N + k) := by rw [L5, pk_mul, nI_add]
    unfold B_X12_find_98 u2 nm
    simp only [wd_srow, wd_self]
    rw [if_neg (show ¬ 5 ≤ nI k from nI_ge (b := 5) hk5 (by omega)), rf_12_2 (h := srow X 66 0 _) G, Option.bind_some, ix60, ga_v (by omega) (by omega), Option.bind_some, gi_srow, if_neg (show ¬ (47 = 66 ∧ 0 = 0) by omega), rf_12_29 (h := srow X 66 0 _) G, Option.bind_some, e_in_0_9999, Option.bind_some, ite_b, gi_srow, if_neg (show ¬ (12 = 66 ∧ 0 = 0) by omega), e, ix]
    by_cases c : 0 ≤ gi X 47 0 (60 * s + k) ∧ gi X 47 0 (60 * s + k) ≤ 9999
    · rw [if_pos c]
      unfold J_X12_find_150 nm
      rw [sa_v (by omega) (by omega), Option.bind_some, si_srow, nI_1]
      have : gi X 47 0 (60 * s + k) = tvF (fun k j => gi X k 0 j) s k := by unfold tvF; rw [if_pos c]
      rw [this, ex]
    · rw [if_neg c]
      unfold J_X12_find_150 nm
      rw [sa_v (by omega) (by omega), Option.bind_some, si_srow, nI_1]
      have : (-1 : Int32) = tvF (fun k j => gi X k 0 j) s k := by unfold tvF; rw [if_neg c]
      rw [this, ex]) (by
    unfold B_X12_find_98 u2 nm
    simp only [wd_srow, wd_self]
    rw [if_pos (show 5 ≤ nI 5 from nI_le (a := 5) (Nat.le_refl _) (by omega))])
  rw [srow_self X 66 0 _ (fun s => by rw [if_neg (by omega)])] at this
  exact this
def SUB (k s : Nat) : Bool := Nat.beq k 10 || (Nat.beq k 40 || ((Nat.beq k 11 && Nat.beq s 6) || ((Nat.beq k 12 && Nat.beq s 28) || (Nat.beq k 66 || (Nat.beq k 67 || (Nat.beq k 68 || Nat.beq k 69))))))
def XUB (k : Nat) : Bool := Nat.beq k 10 || (Nat.beq k 40 || Nat.beq k 42)
theorem p_find : CP_find RQ := by
  intro h R a1 a2 a3 a4
  have hu8 := b_nu R.m
  have h11 : 0 < gn h 11 ∧ 0 < gn h 12 := by rw [rn_11 R.1, rn_12 R.1]; omega
  have no : ∀ r : Int32, F_X11_find 0 a1 a2 a3 a4 h = some (r, h) → F_X12_find 0 a1 a2 a3 a4 h = some (r, dp h) → ∃ (r : Int32) (d : HP) (d2 : DP), F_X11_find 0 a1 a2 a3 a4 h = some (r, d) ∧ 0 < gn d 11 ∧ 0 < gn d 12 ∧ F_X12_find 0 a1 a2 a3 a4 d = some (r, d2) ∧ RQ (wd d d2) :=
    fun r e1 e2 => ⟨r, h, dp h, e1, h11.1, h11.2, e2, R⟩
  have cls : F_X11_find 0 a1 a2 a3 a4 h = J_X11_find_21 0 a1 a2 a3 a4 (if a3 = -1 ∨ (1 ≤ a3 ∧ a3 ≤ 9999) then 1 else 0) h := by
    unfold F_X11_find
    by_cases c3 : a3 = -1
    · rw [if_pos c3, if_pos (Or.inl c3)]
    · by_cases c4 : 1 ≤ a3 ∧ a3 ≤ 9999
      · rw [if_neg c3, e_from, Option.bind_some, ite_b, if_pos c4, if_pos (Or.inr c4)]
      · rw [if_neg c3, e_from, Option.bind_some, ite_b, if_neg c4, if_neg (fun q => q.elim c3 c4)]
  have ref : ∀ X : HP, 0 ≤ a1 ∧ a1 ≤ 3 → 0 ≤ a2 ∧ a2 ≤ 99 → (a3 = -1 ∨ (1 ≤ a3 ∧ a3 ≤ 9999)) → F_X12_find 0 a1 a2 a3 a4 X = J_X12_find_36 0 a1 a2 a3 a4 X := by
    intro X c1 c2 c3
    unfold F_X12_find
    rw [f_isSheet, Option.bind_some, ite_b, if_pos c1, e_in_0_99, Option.bind_some, ite_b, if_pos c2]
    by_cases c : a3 = -1
    · rw [if_pos c]
    · rw [if_neg c, e_in_1_9999, Option.bind_some, ite_b, if_pos (c3.resolve_left c)]
  by_cases c1 : 0 ≤ a1 ∧ a1 ≤ 3
  · by_cases c2 : 0 ≤ a2 ∧ a2 ≤ 99
    · by_cases c3 : a3 = -1 ∨ (1 ≤ a3 ∧ a3 ≤ 9999)
      · rw [if_pos c3] at cls
        by_cases c4 : 0 ≤ a4 ∧ a4 ≤ 999
        · obtain ⟨s, hs, rfl⟩ := in_lit (n := 3) (by omega) c1
          have fin : ∀ x : Int32, F_X11_find 0 (nI s) a2 a3 a4 h = some (-10 - x, si h 11 0 15 x) → F_X12_find 0 (nI s) a2 a3 a4 (si h 11 0 15 x) = some (-10 - x, dp (si (si h 11 0 15 x) 12 0 4 x)) → ∃ (r : Int32) (d : HP) (d2 : DP), F_X11_find 0 (nI s) a2 a3 a4 h = some (r, d) ∧ 0 < gn d 11 ∧ 0 < gn d 12 ∧ F_X12_find 0 (nI s) a2 a3 a4 d = some (r, d2) ∧ RQ (wd d d2) := by
            intro x e1 e2
            exact ⟨_, _, _, e1, h11.1, h11.2, e2, RQ_find R x⟩
          rcases sh_cases R (s := s) (by omega) with ⟨l1, l2⟩ | ⟨l1, f, n, hf, hn, e1, e2, e3, e4, e5⟩
          · refine fin 1 ?_ ?_
            · rw [cls]
              unfold J_X11_find_21
              simp only [nm, u2]
              rw [e_isSheet, Option.bind_some, ite_b, if_pos c1, e_from, Option.bind_some, ite_b, if_pos c2, if_neg (show ¬ (1 : Int32) = 0 by decide), e_from, Option.bind_some, ite_b, if_pos c4, rf_11_14 R.1, Option.bind_some, gar_v (by omega) (by omega), rs_44 R (by omega), Option.bind_some, l1, if_neg (show ¬ (1 : Int32) = 0 by decide), e_finding, Option.bind_some]
              simp only [wd_si, wd_self]
            · rw [ref _ c1 c2 c3]
              unfold J_X12_find_36
              simp only [nm, u2]
              rw [e_in_0_999, Option.bind_some, ite_b, if_pos c4, xr_si, rf_12_0 R.1, Option.bind_some, ga_v (by omega) (by omega), Option.bind_some, m_45, ms_15, l2, if_neg (show ¬ (0 : Int32) ≤ -1 by decide), f_met, Option.bind_some]
              simp only [wd_si, wd_osi, wd_self]
          · by_cases c5 : 5 ≤ n
            · by_cases c6 : NU (ms h) < 8
              · -- a new one
                have e6 : gi h 11 0 6 = nI (NU (ms h)) := (cw_nu R).trans (v_nu R.m)
                have n40 : gn h 40 = gn h 10 := R.u.2.2.1
                have init : F_X10_init (gn h 10) a2 a3 a4 (nw h 10) = some (si (si (si (sr (nw (nw h 10) 40) 10 (gn h 10) 0 (some (gn (nw h 10) 40))) 10 (gn h 10) 1 a2) 10 (gn h 10) 2 a3) 10 (gn h 10) 3 a4) := rfl
                rw [show gn (nw h 10) 40 = gn h 10 by rw [gn_nw, if_neg (by omega), n40]] at init
                have n401 : gn (nw h 10) 40 = gn h 10 := by rw [gn_nw, if_neg (by omega), n40]
                generalize hX : si (si (si (sr (nw (nw h 10) 40) 10 (gn h 10) 0 (some (gn h 10))) 10 (gn h 10) 1 a2) 10 (gn h 10) 2 a3) 10 (gn h 10) 3 a4 = X at init
                have rX : ∀ k i j, ¬ ((k = 10 ∨ k = 40) ∧ i = gn h 10) → gr X k i j = gr h k i j := by
                  intro k i j q
                  rw [← hX, gr_si, gr_si, gr_si, gr_sr, if_neg (by omega), gr_nw, n401, if_neg (by omega), gr_nw, if_neg (by omega)]
                have rXK : gr X 10 (gn h 10) 0 = some (gn h 10) := by
                  rw [← hX, gr_si, gr_si, gr_si, gr_sr, if_pos ⟨rfl, rfl, rfl⟩]
                have iX : ∀ k i j, ¬ ((k = 10 ∨ k = 40) ∧ i = gn h 10) → gi X k i j = gi h k i j := by
                  intro k i j q
                  rw [← hX, gi_si, if_neg (by omega), gi_si, if_neg (by omega), gi_si, if_neg (by omega), gi_sr, gi_nw, n401, if_neg (by omega), gi_nw, if_neg (by omega)]
                have iX1 : gi X 10 (gn h 10) 1 = a2 := by rw [← hX, gi_si, if_neg (by omega), gi_si, if_neg (by omega), gi_si, if_pos ⟨rfl, rfl, rfl⟩]
                have iX2 : gi X 10 (gn h 10) 2 = a3 := by rw [← hX, gi_si, if_neg (by omega), gi_si, if_pos ⟨rfl, rfl, rfl⟩]
                have iX3 : gi X 10 (gn h 10) 3 = a4 := by rw [← hX, gi_si, if_pos ⟨rfl, rfl, rfl⟩]
                have nX : ∀ k, gn X k = if k = 10 ∨ k = 40 then gn h 10 + 1 else gn h k := by
                  intro k
                  rw [← hX]
                  show gn (nw (nw h 10) 40) k = _
                  rw [gn_nw, n401, gn_nw]
                  by_cases q : k = 40
                  · rw [if_pos q, if_pos (Or.inr q)]
                  · rw [if_neg q]
                    by_cases q2 : k = 10
                    · rw [if_pos q2, if_pos (Or.inl q2)]
                    · rw [if_neg q2, if_neg (by omega)]
                have e39 : ∀ t, t < 5 → gi X 39 s t = ms h 47 (60 * s + t) := fun t ht => by rw [iX _ _ _ (by omega)]; exact e5 t (by omega)
                have lp := e_findloop (m := ms h) rXK (by rw [rX _ _ _ (by omega)]; exact rs_9 R (by omega)) e39
                generalize hd : si (sr (srow X 40 (gn h 10) (fun j => if j < 5 then tvF (ms h) s j else gi X 40 (gn h 10) j)) 42 0 (NU (ms h)) (some (gn h 10))) 11 0 6 (nI (NU (ms h) + 1)) = d
                have rd : ∀ k i j, ¬ ((k = 10 ∨ k = 40) ∧ i = gn h 10) → ¬ (k = 42 ∧ i = 0 ∧ j = NU (ms h)) → gr d k i j = gr h k i j := by
                  intro k i j q q2
                  rw [← hd, gr_si, gr_sr, if_neg q2, gr_srow, rX k i j q]
                have id : ∀ k i j, ¬ ((k = 10 ∨ k = 40) ∧ i = gn h 10) → ¬ (k = 11 ∧ i = 0 ∧ j = 6) → gi d k i j = gi h k i j := by
                  intro k i j q q2
                  rw [← hd, gi_si, if_neg q2, gi_sr, gi_srow, if_neg (by omega), iX k i j q]
                have nd : ∀ k, gn d k = if k = 10 ∨ k = 40 then gn h 10 + 1 else gn h k := fun k => by rw [← nX k, ← hd]; rfl
                have emd : ms d = ms h := by
                  funext k j
                  unfold ms
                  by_cases e : mk k j = true
                  · rw [if_pos e, if_pos e]
                    by_cases c : k = 10 ∨ k = 40 ∨ (k = 11 ∧ j = 6)
                    · exfalso
                      rcases c with rfl | rfl | ⟨rfl, rfl⟩ <;> cases e
                    · exact id k 0 j (by omega) (by omega)
                  · rw [if_neg e, if_neg e]
                have xd : RFX XUB h.2.2 d.2.2 := by
                  refine ⟨fun k i j e => ?_, fun k e => ?_⟩
                  · unfold XUB at e
                    simp only [Bool.or_eq_false_iff, nbf] at e
                    exact rd k i j (by omega) (by omega)
                  · unfold XUB at e
                    simp only [Bool.or_eq_false_iff, nbf] at e
                    show gn d k = gn h k
                    rw [nd, if_neg (by omega)]
                have Gd : gR d.2.2 := gR_rf xd (by decide) R.1
                have e28 : gi d 12 0 28 = nI (NU (ms h)) := by rw [m_12_28, emd]; exact v_nu R.m
                have fp := f_findloop (X := d) (s := s) a2 a3 a4 Gd hs c6 e28
                generalize hw : srow d 66 0 (fun j => if 5 * NU (ms h) ≤ j ∧ j < 5 * NU (ms h) + 5 then tvF (fun k j => gi d k 0 j) s (j - 5 * NU (ms h)) else gi d 66 0 j) = w at fp
                have w22 : w.2.2 = d.2.2 := by rw [← hw]; rfl
                have iw : ∀ k i j, ¬ (k = 66 ∧ i = 0) → gi w k i j = gi d k i j := fun k i j q => by rw [← hw, gi_srow, if_neg q]
                have Gw : gR w.2.2 := by rw [w22]; exact Gd
                have w28 : gi w 12 0 28 = nI (NU (ms h)) := by rw [iw _ _ _ (by omega)]; exact e28
                generalize hH : si (si (si (si w 67 0 (NU (ms h)) a2) 68 0 (NU (ms h)) a3) 69 0 (NU (ms h)) a4) 12 0 28 (nI (NU (ms h) + 1)) = H
                have HR : H.2.2 = d.2.2 := by rw [← hH, ← w22]; rfl
                have iH : ∀ k i j, ¬ (i = 0 ∧ j = NU (ms h) ∧ 67 ≤ k ∧ k ≤ 69) → ¬ (k = 12 ∧ i = 0 ∧ j = 28) → gi H k i j = gi w k i j := by
                  intro k i j q1 q2
                  rw [← hH, gi_si, if_neg q2, gi_si, if_neg (by omega), gi_si, if_neg (by omega), gi_si, if_neg (by omega)]
                have EH : EI SUB h H := by
                  intro k i j e
                  unfold SUB at e
                  simp only [Bool.or_eq_false_iff, Bool.and_eq_false_iff, nbf] at e
                  rw [iH k i j (by omega) (by omega), iw k i j (by omega), id k i j (by omega) (by omega)]
                refine ⟨nI (NU (ms h)), d, dp H, ?_, by rw [rn_11 Gd]; omega, by rw [rn_12 Gd]; omega, ?_, ?_⟩
                · rw [cls]
                  unfold J_X11_find_21
                  simp only [nm, u2]
                  rw [e_isSheet, Option.bind_some, ite_b, if_pos c1, e_from, Option.bind_some, ite_b, if_pos c2, if_neg (show ¬ (1 : Int32) = 0 by decide), e_from, Option.bind_some, ite_b, if_pos c4, rf_11_14 R.1, Option.bind_some, gar_v (by omega) (by omega), rs_44 R (by omega), Option.bind_some, l1, if_pos rfl, e4, if_pos (show (5 : Int32) ≤ nI n from nI_le (a := 5) c5 (by omega)), e6, if_pos (show nI (NU (ms h)) < (8 : Int32) from nI_lt (b := 8) c6 (by omega)), init, Option.bind_some, lp, Option.bind_some]
                  simp only [wd_srow, wd_self]
                  rw [xr_srow, (show gr X 11 0 5 = some 0 by rw [rX _ _ _ (by omega), rf_11_5 R.1]), Option.bind_some, gi_srow, if_neg (show ¬ (11 = 40 ∧ 0 = gn h 10) by omega), iX 11 0 6 (by omega), e6, sar_v (show NU (ms h) < 8 by omega) (by omega), Option.bind_some, gi_sr, gi_srow, if_neg (show ¬ (11 = 40 ∧ 0 = gn h 10) by omega), iX 11 0 6 (by omega), e6, nI_1, hd]
                  rw [show gi d 11 0 6 = nI (NU (ms h) + 1) by rw [← hd, gi_si, if_pos ⟨rfl, rfl, rfl⟩]]
                  rw [show nI (NU (ms h) + 1) - 1 = nI (NU (ms h)) from pk_sub (b := 1) (by omega)]
                · have n8 : ¬ nI (NU (ms h)) = (8 : Int32) := fun q => by
                    have := (nI_eq (a := NU (ms h)) (b := 8) (by omega) (by omega)).mp q
                    omega
                  rw [ref d c1 c2 c3]
                  unfold J_X12_find_36
                  simp only [nm, u2]
                  rw [e_in_0_999, Option.bind_some, ite_b, if_pos c4, rf_12_0 Gd, Option.bind_some, ga_v (by omega) (by omega), Option.bind_some, m_45, emd, e1, if_pos (nI_pos' (by omega)), rf_12_1 Gd, Option.bind_some, ga_v (by omega) (by omega), Option.bind_some, m_46, emd, e2, if_pos (show (5 : Int32) ≤ nI n from nI_le (a := 5) c5 (by omega)), e28, if_neg n8, fp, Option.bind_some]
                  have wdw : wd d (dp w) = w := wd_dp w22
                  rw [wdw]
                  have t12 : ∀ (k : Nat) (X : HP) (v : Int32), k ≠ 12 → gi (si X k 0 (NU (ms h)) v) 12 0 28 = gi X 12 0 28 := fun k X v hk => by rw [gi_si, if_neg (fun q => hk q.1.symm)]
                  rw [rf_12_30 Gw, Option.bind_some, w28, sa_v c6 (by omega), Option.bind_some, rf_12_31 (h := si w 67 0 (NU (ms h)) a2) Gw, Option.bind_some, t12 67 _ _ (by omega), w28, sa_v c6 (by omega), Option.bind_some, rf_12_32 (h := si (si w 67 0 (NU (ms h)) a2) 68 0 (NU (ms h)) a3) Gw, Option.bind_some, t12 68 _ _ (by omega), t12 67 _ _ (by omega), w28, sa_v c6 (by omega), Option.bind_some, t12 69 _ _ (by omega), t12 68 _ _ (by omega), t12 67 _ _ (by omega), w28, nI_1, hH]
                  rw [show gi H 12 0 28 = nI (NU (ms h) + 1) by rw [← hH, gi_si, if_pos ⟨rfl, rfl, rfl⟩]]
                  rw [show nI (NU (ms h) + 1) - 1 = nI (NU (ms h)) from pk_sub (b := 1) (by omega)]
                · rw [wd_dp HR]
                  refine RQ.mk R (by rw [HR]; exact Gd) ?_ ?_ ?_ ?_ ?_ ?_ ?_ ?_ ?_ ?_
                  · rw [vw_ei EH (by intro k s e; unfold dW at e; simp only [Bool.or_eq_true, Bool.and_eq_true, Nat.beq_eq] at e; rcases e with ⟨rfl, rfl⟩ | ⟨rfl, rfl⟩ <;> rfl)]; exact R.w
                  · rw [vw_ei EH (by intro k s e; unfold dP at e; simp only [Bool.or_eq_true, Bool.and_eq_true, Nat.beq_eq] at e; rcases e with ⟨rfl, rfl⟩ | ⟨rfl, rfl⟩ | rfl | rfl <;> rfl)]; exact R.p
                  · rw [vw_ei EH (by intro k s e; unfold dB at e; simp only [Bool.or_eq_true, Bool.and_eq_true, Nat.beq_eq] at e; rcases e with ⟨rfl, rfl | rfl | rfl | rfl | rfl | rfl | rfl | rfl⟩ | ⟨rfl, rfl⟩ | ⟨rfl, rfl | rfl⟩ | rfl | rfl | rfl | rfl | rfl | rfl | rfl | rfl | rfl | rfl | rfl | rfl | rfl | rfl <;> rfl), HR]; exact gB_rf xd (by decide) R.b
                  · rw [vw_ei EH (by intro k s e; unfold dL at e; simp only [Bool.or_eq_true, Bool.and_eq_true, Nat.beq_eq] at e; rcases e with ⟨rfl, rfl | rfl | rfl⟩ | ⟨rfl, rfl⟩ | rfl | rfl | rfl | rfl | rfl | rfl <;> rfl)]; exact R.l
                  · have h28 : gi H 12 0 28 = nI (NU (ms h) + 1) := by rw [← hH, gi_si, if_pos ⟨rfl, rfl, rfl⟩]
                    have c28 : (gi H 12 0 28).toNatClampNeg = NU (ms h) + 1 := by rw [h28, nI_clamp (by omega)]
                    have nH : gn H = gn d := gn_22 HR
                    have g10 : gn H 10 = gn h 10 + 1 := by rw [nH, nd, if_pos (Or.inl rfl)]
                    show gi H 11 0 6 = gi H 12 0 28 ∧ cn (gi H 12 0 28) 8 ∧ gn H 40 = gn H 10 ∧ ∀ u, u < (gi H 12 0 28).toNatClampNeg → ∃ o, (gr H 42 0 u = some o ∧ o < gn H 10 ∧ gr H 10 o 0 = some o) ∧ (gi H 10 o 1 = gi H 67 0 u ∧ gi H 10 o 2 = gi H 68 0 u ∧ gi H 10 o 3 = gi H 69 0 u) ∧
                      (∀ t, t < 5 → gi H 40 o t = gi H 66 0 (5 * u + t) ∧ tn (gi H 66 0 (5 * u + t))) ∧ (cn (gi H 67 0 u) 99 ∧ tn (gi H 68 0 u) ∧ cn (gi H 69 0 u) 999)
                    rw [c28]
                    refine ⟨?_, by rw [h28]; exact cn_of (by omega) (by omega), by rw [nH, nd, nd, if_pos (Or.inr rfl), if_pos (Or.inl rfl)], fun u hu => ?_⟩
                    · rw [h28, iH _ _ _ (by omega) (by omega), iw _ _ _ (by omega), ← hd, gi_si, if_pos ⟨rfl, rfl, rfl⟩]
                    · by_cases q : u = NU (ms h)
                      · subst q
                        have b67 : gi H 67 0 (NU (ms h)) = a2 := by rw [← hH, gi_si, if_neg (by omega), gi_si, if_neg (by omega), gi_si, if_neg (by omega), gi_si, if_pos ⟨rfl, rfl, rfl⟩]
                        have b68 : gi H 68 0 (NU (ms h)) = a3 := by rw [← hH, gi_si, if_neg (by omega), gi_si, if_neg (by omega), gi_si, if_pos ⟨rfl, rfl, rfl⟩]
                        have b69 : gi H 69 0 (NU (ms h)) = a4 := by rw [← hH, gi_si, if_neg (by omega), gi_si, if_pos ⟨rfl, rfl, rfl⟩]
                        have d10 : ∀ j, gi H 10 (gn h 10) j = gi X 10 (gn h 10) j := fun j => by rw [iH _ _ _ (by omega) (by omega), iw _ _ _ (by omega), ← hd, gi_si, if_neg (by omega), gi_sr, gi_srow, if_neg (by omega)]
                        refine ⟨gn h 10, ⟨?_, by rw [g10]; omega, ?_⟩, ⟨by rw [d10, b67, iX1], by rw [d10, b68, iX2], by rw [d10, b69, iX3]⟩, fun t ht => ?_, ?_⟩
                        · rw [gr_22 HR, ← hd, gr_si, gr_sr, if_pos ⟨rfl, rfl, rfl⟩]
                        · rw [gr_22 HR, ← hd, gr_si, gr_sr, if_neg (by omega), gr_srow, rXK]
                        · have v66 : gi H 66 0 (5 * NU (ms h) + t) = tvF (ms h) s t := by
                            rw [iH _ _ _ (by omega) (by omega), ← hw, gi_srow, if_pos ⟨rfl, rfl⟩]
                            show (if 5 * NU (ms h) ≤ 5 * NU (ms h) + t ∧ 5 * NU (ms h) + t < 5 * NU (ms h) + 5 then tvF (fun k j => gi d k 0 j) s (5 * NU (ms h) + t - 5 * NU (ms h)) else _) = _
                            rw [if_pos (by omega), show 5 * NU (ms h) + t - 5 * NU (ms h) = t by omega]
                            unfold tvF
                            show (if 0 ≤ gi d 47 0 (60 * s + t) ∧ gi d 47 0 (60 * s + t) ≤ 9999 then gi d 47 0 (60 * s + t) else -1) = _
                            rw [m_47, emd]
                          rw [v66]
                          refine ⟨?_, tvF_tn _ _ _⟩
                          rw [iH _ _ _ (by omega) (by omega), iw _ _ _ (by omega), ← hd, gi_si, if_neg (by omega), gi_sr, gi_srow, if_pos ⟨rfl, rfl⟩]
                          show (if t < 5 then tvF (ms h) s t else _) = _
                          rw [if_pos ht]
                        · rw [b67, b68, b69]
                          refine ⟨cn_in 99 c2.1 c2.2, ?_, cn_in 999 c4.1 c4.2⟩
                          rcases c3 with z | z
                          · exact Or.inl z
                          · exact Or.inr (cn_in 9999 (le_0 z.1 (by decide)) z.2)
                      · have hu' : u < NU (ms h) := by omega
                        obtain ⟨o, ⟨o1, o2, o3⟩, ⟨p1, p2, p3⟩, p4, p5⟩ := R.u.2.2.2 u hu'
                        have o2' : o < gn h 10 := o2
                        have d10 : ∀ j, gi H 10 o j = gi h 10 o j := fun j => by rw [iH _ _ _ (by omega) (by omega), iw _ _ _ (by omega), id _ _ _ (by omega) (by omega)]
                        have dm' : ∀ k, 67 ≤ k → gi H k 0 u = gi h k 0 u := fun k hk => by rw [iH _ _ _ (by omega) (by omega), iw _ _ _ (by omega), id _ _ _ (by omega) (by omega)]
                        rw [dm' 67 (by omega), dm' 68 (by omega), dm' 69 (by omega)]
                        refine ⟨o, ⟨?_, by rw [g10]; omega, ?_⟩, ⟨by rw [d10]; exact p1, by rw [d10]; exact p2, by rw [d10]; exact p3⟩, fun t ht => ?_, p5⟩
                        · rw [gr_22 HR, rd _ _ _ (by omega) (by omega)]; exact o1
                        · rw [gr_22 HR, rd _ _ _ (by omega) (by omega)]; exact o3
                        · have v66 : gi H 66 0 (5 * u + t) = gi h 66 0 (5 * u + t) := by
                            rw [iH _ _ _ (by omega) (by omega), ← hw, gi_srow, if_pos ⟨rfl, rfl⟩]
                            show (if 5 * NU (ms h) ≤ 5 * u + t ∧ 5 * u + t < 5 * NU (ms h) + 5 then _ else gi d 66 0 (5 * u + t)) = _
                            rw [if_neg (by omega), id _ _ _ (by omega) (by omega)]
                          rw [v66, iH _ _ _ (by omega) (by omega), iw _ _ _ (by omega), id _ _ _ (by omega) (by omega)]
                          exact p4 t ht
                  · rw [vw_ei EH (by intro k s e; unfold dT at e; simp only [Bool.or_eq_true, Bool.and_eq_true, Nat.beq_eq] at e; rcases e with ⟨rfl, rfl | rfl⟩ | ⟨rfl, rfl | rfl⟩ <;> rfl)]; exact R.t
                  · rw [vw_ei EH (by intro k s e; unfold dK at e; simp only [Bool.or_eq_true, Bool.and_eq_true, Nat.beq_eq] at e; rcases e with rfl | ⟨rfl, rfl⟩ | ⟨rfl, rfl | rfl⟩ | rfl | rfl | rfl | rfl | rfl | rfl | rfl <;> rfl), HR]; exact gK_rf xd (by decide) R.k
                  · rw [vw_ei EH (by intro k s e; unfold dC at e; simp only [Bool.or_eq_true, Bool.and_eq_true, Nat.beq_eq] at e; rcases e with ⟨rfl, rfl⟩ | ⟨rfl, rfl⟩ | rfl | rfl | rfl | rfl | rfl | rfl | rfl | rfl | rfl | rfl <;> rfl)]; exact R.c
                  · rw [vw_ei EH (by intro k s e; unfold dS at e; simp only [Bool.or_eq_true, Bool.and_eq_true, Nat.beq_eq] at e; rcases e with ⟨rfl, rfl | rfl | rfl⟩ | rfl | rfl | rfl | rfl <;> rfl), HR]; exact gS_rf xd (by decide) R.s
                  · rw [vw_ei EH (by intro k s e; unfold dF at e; simp only [Bool.or_eq_true, Bool.and_eq_true, Nat.beq_eq] at e; rcases e with ⟨rfl, rfl⟩ | ⟨rfl, rfl⟩ <;> rfl)]; exact R.f
              · -- no room
                have e : NU (ms h) = 8 := by omega
                have e6 : gi h 11 0 6 = nI 8 := by rw [(cw_nu R).trans (v_nu R.m), e]
                refine no (-4) ?_ ?_
                · rw [cls]
                  unfold J_X11_find_21
                  simp only [nm, u2]
                  rw [e_isSheet, Option.bind_some, ite_b, if_pos c1, e_from, Option.bind_some, ite_b, if_pos c2, if_neg (show ¬ (1 : Int32) = 0 by decide), e_from, Option.bind_some, ite_b, if_pos c4, rf_11_14 R.1, Option.bind_some, gar_v (by omega) (by omega), rs_44 R (by omega), Option.bind_some, l1, if_pos rfl, e4, if_pos (show (5 : Int32) ≤ nI n from nI_le (a := 5) c5 (by omega)), e6, if_neg (show ¬ nI 8 < (8 : Int32) by decide)]
                · have e88 : gi h 12 0 28 = (8 : Int32) := by
                    rw [m_12_28, v_nu R.m, e]
                    rfl
                  rw [ref h c1 c2 c3]
                  unfold J_X12_find_36
                  simp only [nm, u2]
                  rw [e_in_0_999, Option.bind_some, ite_b, if_pos c4, rf_12_0 R.1, Option.bind_some, ga_v (by omega) (by omega), Option.bind_some, m_45, e1, if_pos (nI_pos' (by omega)), rf_12_1 R.1, Option.bind_some, ga_v (by omega) (by omega), Option.bind_some, m_46, e2, if_pos (show (5 : Int32) ≤ nI n from nI_le (a := 5) c5 (by omega)), if_pos e88]
            · -- too short
              refine fin 2 ?_ ?_
              · rw [cls]
                unfold J_X11_find_21
                simp only [nm, u2]
                rw [e_isSheet, Option.bind_some, ite_b, if_pos c1, e_from, Option.bind_some, ite_b, if_pos c2, if_neg (show ¬ (1 : Int32) = 0 by decide), e_from, Option.bind_some, ite_b, if_pos c4, rf_11_14 R.1, Option.bind_some, gar_v (by omega) (by omega), rs_44 R (by omega), Option.bind_some, l1, if_pos rfl, e4, if_neg (show ¬ (5 : Int32) ≤ nI n from nI_ge (b := 5) (by omega) (by omega)), e_finding, Option.bind_some]
                simp only [wd_si, wd_self]
              · rw [ref _ c1 c2 c3]
                unfold J_X12_find_36
                simp only [nm, u2]
                rw [e_in_0_999, Option.bind_some, ite_b, if_pos c4, xr_si, rf_12_0 R.1, Option.bind_some, ga_v (by omega) (by omega), Option.bind_some, m_45, ms_15, e1, if_pos (nI_pos' (by omega)), rf_12_1 R.1, Option.bind_some, ga_v (by omega) (by omega), Option.bind_some, m_46, ms_15, e2, if_neg (show ¬ (5 : Int32) ≤ nI n from nI_ge (b := 5) (by omega) (by omega)), f_met, Option.bind_some]
                simp only [wd_si, wd_osi, wd_self]
        · refine no (-2) ?_ ?_
          · rw [cls]
            unfold J_X11_find_21
            simp only [nm, u2]
            rw [e_isSheet, Option.bind_some, ite_b, if_pos c1, e_from, Option.bind_some, ite_b, if_pos c2, if_neg (show ¬ (1 : Int32) = 0 by decide), e_from, Option.bind_some, ite_b, if_neg c4]
          · rw [ref _ c1 c2 c3]
            unfold J_X12_find_36
            simp only [nm, u2]
            rw [e_in_0_999, Option.bind_some, ite_b, if_neg c4]
      · rw [if_neg c3] at cls
        refine no (-2) ?_ ?_
        · rw [cls]
          unfold J_X11_find_21
          simp only [nm, u2]
          rw [e_isSheet, Option.bind_some, ite_b, if_pos c1, e_from, Option.bind_some, ite_b, if_pos c2, if_pos trivial]
        · unfold F_X12_find
          rw [f_isSheet, Option.bind_some, ite_b, if_pos c1, e_in_0_99, Option.bind_some, ite_b, if_pos c2, if_neg (fun q => c3 (Or.inl q)), e_in_1_9999, Option.bind_some, ite_b, if_neg (fun q => c3 (Or.inr q))]
    · refine no (-2) ?_ ?_
      · rw [cls]
        unfold J_X11_find_21
        simp only [nm, u2]
        rw [e_isSheet, Option.bind_some, ite_b, if_pos c1, e_from, Option.bind_some, ite_b, if_neg c2]
      · unfold F_X12_find
        rw [f_isSheet, Option.bind_some, ite_b, if_pos c1, e_in_0_99, Option.bind_some, ite_b, if_neg c2]
  · refine no (-2) ?_ ?_
    · rw [cls]
      unfold J_X11_find_21
      simp only [nm, u2]
      rw [e_isSheet, Option.bind_some, ite_b, if_neg c1]
    · unfold F_X12_find
      rw [f_isSheet, Option.bind_some, ite_b, if_neg c1]
