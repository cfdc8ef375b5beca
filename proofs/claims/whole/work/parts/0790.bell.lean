/-! stage III: bells are added -/
abbrev okV (np a1 a2 a3 a4 : Int32) : Prop := (0 ≤ a1 ∧ a1 ≤ np - 1) ∧ (1 ≤ a2 ∧ a2 ≤ 9999) ∧ (1000 ≤ a3 ∧ a3 ≤ 1939) ∧ (0 ≤ a4 ∧ a4 ≤ 30)
def ca1 (h : HP) (b : Nat) : HP := si (si (si (si (si (nw (nw h 1) 20) 20 b 0 (-1)) 20 b 1 (-1)) 20 b 2 (-1)) 20 b 3 (-1)) 20 b 4 (-1)
def ca2 (h : HP) (b : Nat) : HP := sr (ca1 h b) 1 b 4 (some b)
def ca3 (h : HP) (b : Nat) : HP := sr (nw (ca2 h b) 21) 1 b 5 (some b)
def ca4 (h : HP) (b : Nat) : HP := sr (nw (ca3 h b) 22) 1 b 6 (some b)
def ca5 (h : HP) (b : Nat) (a1 a2 a3 a4 : Int32) : HP := si (si (si (si (si (si (si (ca4 h b) 1 b 8 (-1)) 1 b 9 5) 1 b 10 999) 1 b 0 a1) 1 b 1 a2) 1 b 2 a3) 1 b 3 a4
def cadd (h : HP) (b : Nat) (a1 a2 a3 a4 : Int32) : HP := si (sr (ca5 h b a1 a2 a3 a4) 23 0 b (some b)) 2 0 1 (nI (b + 1))
/-- the counts of the bells' cells -/
def N4 (h : HP) (b : Nat) : Prop := gn h 1 = b ∧ gn h 20 = b ∧ gn h 21 = b ∧ gn h 22 = b
theorem gn_c1 (h : HP) (b k : Nat) : gn (ca1 h b) k = if k = 1 ∨ k = 20 then gn h k + 1 else gn h k := by
  unfold ca1
  simp only [gn_si, gn_nw]
  by_cases c : k = 20
  · subst c; simp
  · by_cases c2 : k = 1
    · subst c2; simp
    · simp [c, c2]
theorem gn_c3 (h : HP) (b k : Nat) : gn (ca3 h b) k = if k = 1 ∨ k = 20 ∨ k = 21 then gn h k + 1 else gn h k := by
  unfold ca3 ca2
  simp only [gn_sr, gn_nw, gn_c1]
  by_cases c : k = 21
  · subst c; simp
  · rw [if_neg c]
    by_cases c2 : k = 1 ∨ k = 20
    · rw [if_pos c2, if_pos (by omega)]
    · rw [if_neg c2, if_neg (by omega)]
theorem gn_c5 (h : HP) (b : Nat) (a1 a2 a3 a4 : Int32) (k : Nat) : gn (ca5 h b a1 a2 a3 a4) k = if k = 1 ∨ k = 20 ∨ k = 21 ∨ k = 22 then gn h k + 1 else gn h k := by
  unfold ca5 ca4
  simp only [gn_si, gn_sr, gn_nw, gn_c3]
  by_cases c : k = 22
  · subst c; simp
  · rw [if_neg c]
    by_cases c2 : k = 1 ∨ k = 20 ∨ k = 21
    · rw [if_pos c2, if_pos (by omega)]
    · rw [if_neg c2, if_neg (by omega)]
theorem gn_ca (h : HP) (b : Nat) (a1 a2 a3 a4 : Int32) (k : Nat) : gn (cadd h b a1 a2 a3 a4) k = if k = 1 ∨ k = 20 ∨ k = 21 ∨ k = 22 then gn h k + 1 else gn h k := by
  unfold cadd
  rw [gn_si, gn_sr, gn_c5]
/-- references of the cells there were -/
theorem gr_c1 (h : HP) {b : Nat} (n : N4 h b) (k i s : Nat) (hk : ¬ ((k = 1 ∨ k = 20 ∨ k = 21 ∨ k = 22) ∧ i = b)) : gr (ca1 h b) k i s = gr h k i s := by
  unfold ca1
  simp only [gr_si]
  rw [gr_nw, if_neg (by rw [gn_nw, if_neg (by omega), n.2.1]; omega), gr_nw, if_neg (by rw [n.1]; omega)]
theorem gr_c5 (h : HP) {b : Nat} (n : N4 h b) (a1 a2 a3 a4 : Int32) (k i s : Nat) (hk : ¬ ((k = 1 ∨ k = 20 ∨ k = 21 ∨ k = 22) ∧ i = b)) : gr (ca5 h b a1 a2 a3 a4) k i s = gr h k i s := by
  unfold ca5 ca4
  simp only [gr_si]
  rw [gr_sr, if_neg (by omega), gr_nw, if_neg (by rw [gn_c3, if_neg (by omega), n.2.2.2]; omega)]
  unfold ca3
  rw [gr_sr, if_neg (by omega), gr_nw, if_neg (by show ¬ (k = 21 ∧ i = gn (ca1 h b) 21); rw [gn_c1, if_neg (by omega), n.2.2.1]; omega)]
  unfold ca2
  rw [gr_sr, if_neg (by omega), gr_c1 h n k i s hk]
theorem gr_ca (h : HP) {b : Nat} (n : N4 h b) (a1 a2 a3 a4 : Int32) (k i s : Nat) (hk : ¬ ((k = 1 ∨ k = 20 ∨ k = 21 ∨ k = 22) ∧ i = b)) : gr (cadd h b a1 a2 a3 a4) k i s = if k = 23 ∧ i = 0 ∧ s = b then some b else gr h k i s := by
  unfold cadd
  rw [gr_si, gr_sr, gr_c5 h n a1 a2 a3 a4 k i s hk]
theorem gr_cb (h : HP) {b : Nat} (n : N4 h b) (a1 a2 a3 a4 : Int32) : gr (cadd h b a1 a2 a3 a4) 1 b 4 = some b ∧ gr (cadd h b a1 a2 a3 a4) 1 b 5 = some b ∧ gr (cadd h b a1 a2 a3 a4) 1 b 6 = some b := by
  have e : ∀ s, gr (cadd h b a1 a2 a3 a4) 1 b s = gr (ca4 h b) 1 b s := by
    intro s
    unfold cadd ca5
    simp only [gr_si]
    rw [gr_sr, if_neg (by omega)]
    simp only [gr_si]
  refine ⟨?_, ?_, ?_⟩
  · rw [e]
    unfold ca4
    rw [gr_sr, if_neg (by omega), gr_nw, if_neg (by omega)]
    unfold ca3
    rw [gr_sr, if_neg (by omega), gr_nw, if_neg (by omega)]
    unfold ca2
    rw [gr_sr, if_pos ⟨rfl, rfl, rfl⟩]
  · rw [e]
    unfold ca4
    rw [gr_sr, if_neg (by omega), gr_nw, if_neg (by omega)]
    unfold ca3
    rw [gr_sr, if_pos ⟨rfl, rfl, rfl⟩]
  · rw [e]
    unfold ca4
    rw [gr_sr, if_pos ⟨rfl, rfl, rfl⟩]
/-- numbers of the cells there were -/
theorem gi_c4 (h : HP) {b : Nat} (n : N4 h b) (k i s : Nat) (hk : ¬ ((k = 1 ∨ k = 20 ∨ k = 21 ∨ k = 22) ∧ i = b)) : gi (ca4 h b) k i s = gi h k i s := by
  unfold ca4
  rw [gi_sr, gi_nw, if_neg (by rw [gn_c3, if_neg (by omega), n.2.2.2]; omega)]
  unfold ca3
  rw [gi_sr, gi_nw, if_neg (by show ¬ (k = 21 ∧ i = gn (ca1 h b) 21); rw [gn_c1, if_neg (by omega), n.2.2.1]; omega)]
  unfold ca2 ca1
  rw [gi_sr, gi_si, if_neg (by omega), gi_si, if_neg (by omega), gi_si, if_neg (by omega), gi_si, if_neg (by omega), gi_si, if_neg (by omega), gi_nw, if_neg (by rw [gn_nw, if_neg (by omega), n.2.1]; omega), gi_nw, if_neg (by rw [n.1]; omega)]
theorem gi_ca (h : HP) {b : Nat} (n : N4 h b) (a1 a2 a3 a4 : Int32) (k i s : Nat) (hk : ¬ ((k = 1 ∨ k = 20 ∨ k = 21 ∨ k = 22) ∧ i = b)) (h2 : ¬ (k = 2 ∧ i = 0 ∧ s = 1)) : gi (cadd h b a1 a2 a3 a4) k i s = gi h k i s := by
  unfold cadd ca5
  rw [gi_si, if_neg h2, gi_sr, gi_si, if_neg (by omega), gi_si, if_neg (by omega), gi_si, if_neg (by omega), gi_si, if_neg (by omega), gi_si, if_neg (by omega), gi_si, if_neg (by omega), gi_si, if_neg (by omega), gi_c4 h n k i s hk]
theorem gi_cn (h : HP) (b : Nat) (a1 a2 a3 a4 : Int32) : gi (cadd h b a1 a2 a3 a4) 2 0 1 = nI (b + 1) := by
  unfold cadd
  rw [gi_si, if_pos ⟨rfl, rfl, rfl⟩]
/-- the new bell's numbers -/
theorem gi_cb (h : HP) {b : Nat} (n : N4 h b) (a1 a2 a3 a4 : Int32) : gi (cadd h b a1 a2 a3 a4) 1 b 0 = a1 ∧ gi (cadd h b a1 a2 a3 a4) 1 b 1 = a2 ∧ gi (cadd h b a1 a2 a3 a4) 1 b 2 = a3 ∧ gi (cadd h b a1 a2 a3 a4) 1 b 3 = a4 ∧ gi (cadd h b a1 a2 a3 a4) 1 b 7 = 0 ∧ gi (cadd h b a1 a2 a3 a4) 1 b 8 = -1 ∧ gi (cadd h b a1 a2 a3 a4) 1 b 9 = 5 ∧ gi (cadd h b a1 a2 a3 a4) 1 b 10 = 999 := by
  have e : ∀ s, gi (cadd h b a1 a2 a3 a4) 1 b s = if s = 3 then a4 else if s = 2 then a3 else if s = 1 then a2 else if s = 0 then a1 else if s = 10 then 999 else if s = 9 then 5 else if s = 8 then -1 else gi (ca4 h b) 1 b s := by
    intro s
    unfold cadd ca5
    rw [gi_si, if_neg (by omega), gi_sr]
    simp only [gi_si, true_and]
  simp only [e]
  refine ⟨rfl, rfl, rfl, rfl, ?_, rfl, rfl, rfl⟩
  rw [if_neg (by omega), if_neg (by omega), if_neg (by omega), if_neg (by omega), if_neg (by omega), if_neg (by omega), if_neg (by omega)]
  unfold ca4
  rw [gi_sr, gi_nw, if_neg (by omega)]
  unfold ca3
  rw [gi_sr, gi_nw, if_neg (by omega)]
  unfold ca2 ca1
  rw [gi_sr, gi_si, if_neg (by omega), gi_si, if_neg (by omega), gi_si, if_neg (by omega), gi_si, if_neg (by omega), gi_si, if_neg (by omega), gi_nw, if_neg (by omega), gi_nw, if_pos ⟨rfl, n.1.symm⟩]
theorem gi_ct (h : HP) {b : Nat} (n : N4 h b) (a1 a2 a3 a4 : Int32) {t : Nat} (ht : t < 5) : gi (cadd h b a1 a2 a3 a4) 20 b t = -1 := by
  unfold cadd ca5
  rw [gi_si, if_neg (by omega), gi_sr, gi_si, if_neg (by omega), gi_si, if_neg (by omega), gi_si, if_neg (by omega), gi_si, if_neg (by omega), gi_si, if_neg (by omega), gi_si, if_neg (by omega), gi_si, if_neg (by omega)]
  unfold ca4
  rw [gi_sr, gi_nw, if_neg (by omega)]
  unfold ca3
  rw [gi_sr, gi_nw, if_neg (by omega)]
  unfold ca2 ca1
  rw [gi_sr]
  simp only [gi_si, true_and]
  obtain rfl | rfl | rfl | rfl | rfl : t = 0 ∨ t = 1 ∨ t = 2 ∨ t = 3 ∨ t = 4 := by omega
  all_goals rfl
theorem sa_5 (h : HP) (k i : Nat) (v : Int32) : sa h k i 5 0 v = some (si h k i 0 v) ∧ sa h k i 5 1 v = some (si h k i 1 v) ∧ sa h k i 5 2 v = some (si h k i 2 v) ∧ sa h k i 5 3 v = some (si h k i 3 v) ∧ sa h k i 5 4 v = some (si h k i 4 v) :=
  ⟨sa_v (m := 0) (by omega) (by omega), sa_v (m := 1) (by omega) (by omega), sa_v (m := 2) (by omega) (by omega), sa_v (m := 3) (by omega) (by omega), sa_v (m := 4) (by omega) (by omega)⟩
theorem e_newBell {h : HP} {b : Nat} (n : N4 h b) (a1 a2 a3 a4 : Int32) : F_X1_init b a1 a2 a3 a4 (nw h 1) = some (ca5 h b a1 a2 a3 a4) := by
  unfold F_X1_init
  simp only [nm]
  have e20 : gn (nw h 1) 20 = b := by rw [gn_nw, if_neg (by omega)]; exact n.2.1
  rw [e20]
  simp only [(sa_5 _ 20 b (-1)).1, (sa_5 _ 20 b (-1)).2.1, (sa_5 _ 20 b (-1)).2.2.1, (sa_5 _ 20 b (-1)).2.2.2.1, (sa_5 _ 20 b (-1)).2.2.2.2, Option.bind_some]
  have f1 : si (si (si (si (si (nw (nw h 1) 20) 20 b 0 (-1)) 20 b 1 (-1)) 20 b 2 (-1)) 20 b 3 (-1)) 20 b 4 (-1) = ca1 h b := rfl
  rw [f1]
  have f2 : sr (ca1 h b) 1 b 4 (some b) = ca2 h b := rfl
  rw [f2]
  have e21 : gn (ca2 h b) 21 = b := by
    show gn (ca1 h b) 21 = b
    rw [gn_c1, if_neg (by omega)]; exact n.2.2.1
  rw [e21]
  have f3 : sr (nw (ca2 h b) 21) 1 b 5 (some b) = ca3 h b := rfl
  rw [f3]
  have e22 : gn (ca3 h b) 22 = b := by rw [gn_c3, if_neg (by omega)]; exact n.2.2.2
  rw [e22]
  rfl
theorem e_bellC {h : HP} (G : gR h.2.2) {b : Nat} (n : N4 h b) (hb : b ≤ 20) (e2 : gi h 2 0 1 = nI b) (a1 a2 a3 a4 : Int32) : F_X11_bell 0 a1 a2 a3 a4 h = if okV (gi h 11 0 2) a1 a2 a3 a4 then (if b < 20 then some (nI b, cadd h b a1 a2 a3 a4) else some (-4, h)) else some (-2, h) := by
  have may : F_X11_mayBeBell 0 a1 a2 a3 a4 h = some (if okV (gi h 11 0 2) a1 a2 a3 a4 then 1 else 0) := by
    unfold F_X11_mayBeBell F_X11_isParish
    simp only [e_from, e_bz, Option.bind_some, ite_b]
    by_cases c1 : 0 ≤ a1 ∧ a1 ≤ gi h 11 0 2 - 1
    · by_cases c2 : 1 ≤ a2 ∧ a2 ≤ 9999
      · by_cases c3 : 1000 ≤ a3 ∧ a3 ≤ 1939
        · by_cases c4 : 0 ≤ a4 ∧ a4 ≤ 30
          · rw [if_pos c1, if_pos c2, if_pos c3, if_pos c4, if_pos ⟨c1, c2, c3, c4⟩]
          · rw [if_pos c1, if_pos c2, if_pos c3, if_neg c4, if_neg (fun q => c4 q.2.2.2)]
        · rw [if_pos c1, if_pos c2, if_neg c3, if_neg (fun q => c3 q.2.2.1)]
      · rw [if_pos c1, if_neg c2, if_neg (fun q => c2 q.2.1)]
    · rw [if_neg c1, if_neg (fun q => c1 q.1)]
  unfold F_X11_bell
  simp only [nm, u2]
  rw [may, Option.bind_some, ite_b]
  by_cases ok : okV (gi h 11 0 2) a1 a2 a3 a4
  · rw [if_pos ok, if_pos ok, rf_11_3 G, Option.bind_some]
    unfold F_X2_isFull
    rw [e2]
    by_cases c : b < 20
    · have k2 : ∀ k i s, k ≠ 1 → k ≠ 20 → k ≠ 21 → k ≠ 22 → gi (ca5 h b a1 a2 a3 a4) k i s = gi h k i s := by
        intro k i s q1 q2 q3 q4
        unfold ca5
        rw [gi_si, if_neg (by omega), gi_si, if_neg (by omega), gi_si, if_neg (by omega), gi_si, if_neg (by omega), gi_si, if_neg (by omega), gi_si, if_neg (by omega), gi_si, if_neg (by omega), gi_c4 h n k i s (by omega)]
      have r2 : gr (ca5 h b a1 a2 a3 a4) 2 0 0 = some 0 := by rw [gr_c5 h n _ _ _ _ _ _ _ (by omega)]; exact rf_2_0 G
      rw [if_pos (show nI b < (20 : Int32) from nI_lt (b := 20) c (by omega)), Option.bind_some, if_pos rfl, Option.bind_some, n.1, e_newBell n, Option.bind_some]
      unfold F_X2_add F_X2_isFull
      simp only [nm]
      rw [k2 2 0 1 (by omega) (by omega) (by omega) (by omega), e2, if_pos (show nI b < (20 : Int32) from nI_lt (b := 20) c (by omega)), Option.bind_some, if_pos rfl, r2, Option.bind_some, sar_v c (by omega), Option.bind_some, gi_sr, k2 2 0 1 (by omega) (by omega) (by omega) (by omega), e2, nI_1]
      have f : si (sr (ca5 h b a1 a2 a3 a4) 23 0 b (some b)) 2 0 1 (nI (b + 1)) = cadd h b a1 a2 a3 a4 := rfl
      rw [f, gi_cn, if_pos c]
      rw [show nI (b + 1) - 1 = nI b from pk_sub (b := 1) (by omega)]
      rfl
    · rw [if_neg (show ¬ nI b < (20 : Int32) from nI_nlt (b := 20) (by omega) (by omega)), Option.bind_some, if_neg (show ¬ (1 : Int32) = 0 by decide), if_neg c]
  · rw [if_neg ok, if_neg ok]
/-! the reference -/
def r54 (X : HP) (b : Nat) : Nat → HP
  | 0 => X
  | t + 1 => si (r54 X b t) 54 0 (5 * b + t) (-1)
theorem gi_r54 (X : HP) (b k i s : Nat) : ∀ t, gi (r54 X b t) k i s = if k = 54 ∧ i = 0 ∧ 5 * b ≤ s ∧ s < 5 * b + t then -1 else gi X k i s := by
  intro t
  induction t with
  | zero => rw [if_neg (by omega)]; rfl
  | succ t ih =>
    show gi (si (r54 X b t) 54 0 (5 * b + t) (-1)) k i s = _
    rw [gi_si, ih]
    by_cases c : k = 54 ∧ i = 0 ∧ s = 5 * b + t
    · rw [if_pos c, if_pos (by omega)]
    · rw [if_neg c]
      by_cases c2 : k = 54 ∧ i = 0 ∧ 5 * b ≤ s ∧ s < 5 * b + t
      · rw [if_pos c2, if_pos (by omega)]
      · rw [if_neg c2, if_neg (by omega)]
theorem r54_22 (X : HP) (b : Nat) : ∀ t, (r54 X b t).2.2 = X.2.2 := by
  intro t
  induction t with
  | zero => rfl
  | succ t ih => exact ih
def ra7 (X : HP) (b : Nat) (a1 a2 a3 a4 : Int32) : HP := si (si (si (si (si (si (si X 50 0 b a1) 51 0 b a2) 52 0 b a3) 53 0 b a4) 55 0 b (-1)) 56 0 b 5) 57 0 b 999
def radd (X : HP) (b : Nat) (a1 a2 a3 a4 : Int32) : HP := si (r54 (ra7 X b a1 a2 a3 a4) b 5) 12 0 8 (nI (b + 1))
theorem gi_ra7 (X : HP) (b : Nat) (a1 a2 a3 a4 : Int32) (k i s : Nat) (hk : ¬ (i = 0 ∧ s = b ∧ 50 ≤ k ∧ k ≤ 57 ∧ k ≠ 54)) : gi (ra7 X b a1 a2 a3 a4) k i s = gi X k i s := by
  unfold ra7
  rw [gi_si, if_neg (by omega), gi_si, if_neg (by omega), gi_si, if_neg (by omega), gi_si, if_neg (by omega), gi_si, if_neg (by omega), gi_si, if_neg (by omega), gi_si, if_neg (by omega)]
theorem gi_ra (X : HP) (b : Nat) (a1 a2 a3 a4 : Int32) (k i s : Nat) (hk : ¬ (i = 0 ∧ s = b ∧ 50 ≤ k ∧ k ≤ 57 ∧ k ≠ 54)) (h54 : ¬ (k = 54 ∧ i = 0 ∧ 5 * b ≤ s ∧ s < 5 * b + 5)) (h8 : ¬ (k = 12 ∧ i = 0 ∧ s = 8)) : gi (radd X b a1 a2 a3 a4) k i s = gi X k i s := by
  unfold radd
  rw [gi_si, if_neg h8, gi_r54, if_neg h54, gi_ra7 _ _ _ _ _ _ _ _ _ hk]
theorem gi_rn (X : HP) (b : Nat) (a1 a2 a3 a4 : Int32) : gi (radd X b a1 a2 a3 a4) 12 0 8 = nI (b + 1) ∧ gi (radd X b a1 a2 a3 a4) 50 0 b = a1 ∧ gi (radd X b a1 a2 a3 a4) 51 0 b = a2 ∧ gi (radd X b a1 a2 a3 a4) 52 0 b = a3 ∧ gi (radd X b a1 a2 a3 a4) 53 0 b = a4 ∧ gi (radd X b a1 a2 a3 a4) 55 0 b = -1 ∧ gi (radd X b a1 a2 a3 a4) 56 0 b = 5 ∧ gi (radd X b a1 a2 a3 a4) 57 0 b = 999 ∧ ∀ t, t < 5 → gi (radd X b a1 a2 a3 a4) 54 0 (5 * b + t) = -1 := by
  have e : ∀ k, k ≠ 12 → k ≠ 54 → gi (radd X b a1 a2 a3 a4) k 0 b = gi (ra7 X b a1 a2 a3 a4) k 0 b := by
    intro k h1 h2
    unfold radd
    rw [gi_si, if_neg (by omega), gi_r54, if_neg (by omega)]
  have f : ∀ k, gi (ra7 X b a1 a2 a3 a4) k 0 b = if k = 57 then 999 else if k = 56 then 5 else if k = 55 then -1 else if k = 53 then a4 else if k = 52 then a3 else if k = 51 then a2 else if k = 50 then a1 else gi X k 0 b := by
    intro k
    unfold ra7
    simp only [gi_si, and_true]
  refine ⟨?_, ?_, ?_, ?_, ?_, ?_, ?_, ?_, fun t ht => ?_⟩
  · unfold radd
    rw [gi_si, if_pos ⟨rfl, rfl, rfl⟩]
  · rw [e _ (by omega) (by omega), f]; rfl
  · rw [e _ (by omega) (by omega), f]; rfl
  · rw [e _ (by omega) (by omega), f]; rfl
  · rw [e _ (by omega) (by omega), f]; rfl
  · rw [e _ (by omega) (by omega), f]; rfl
  · rw [e _ (by omega) (by omega), f]; rfl
  · rw [e _ (by omega) (by omega), f]; rfl
  · unfold radd
    rw [gi_si, if_neg (by omega), gi_r54, if_pos (by omega)]
theorem radd_22 (X : HP) (b : Nat) (a1 a2 a3 a4 : Int32) : (radd X b a1 a2 a3 a4).2.2 = X.2.2 := r54_22 _ _ _
theorem f_bellR {X : HP} (G : gR X.2.2) {b : Nat} (hb : b ≤ 20) (e8 : gi X 12 0 8 = nI b) (a1 a2 a3 a4 : Int32) : F_X12_bell 0 a1 a2 a3 a4 X = if okV (ms X 12 6) a1 a2 a3 a4 then (if b < 20 then some (nI b, dp (radd X b a1 a2 a3 a4)) else some (-4, dp X)) else some (-2, dp X) := by
  unfold F_X12_bell
  rw [f_isParish, Option.bind_some, ite_b, e_in_1_9999, Option.bind_some, ite_b, e_in_1000_1939, Option.bind_some, ite_b, e_in_0_30, Option.bind_some, ite_b]
  by_cases c1 : 0 ≤ a1 ∧ a1 ≤ ms X 12 6 - 1
  · by_cases c2 : 1 ≤ a2 ∧ a2 ≤ 9999
    · by_cases c3 : 1000 ≤ a3 ∧ a3 ≤ 1939
      · by_cases c4 : 0 ≤ a4 ∧ a4 ≤ 30
        · rw [if_pos c1, if_pos c2, if_pos c3, if_pos c4, e8, if_pos (show okV (ms X 12 6) a1 a2 a3 a4 from ⟨c1, c2, c3, c4⟩)]
          by_cases c : b < 20
          · have t12 : ∀ (k : Nat) (X : HP) (v : Int32), k ≠ 12 → gi (si X k 0 b v) 12 0 8 = gi X 12 0 8 := fun k X v hk => by rw [gi_si, if_neg (fun q => hk q.1.symm)]
            rw [if_pos c, if_neg (show ¬ nI b = (20 : Int32) from fun q => by have := (nI_eq (a := b) (b := 20) (by omega) (by omega)).mp q; omega)]
            rw [rf_12_9 G, Option.bind_some, sa_v c (by omega), Option.bind_some]
            rw [rf_12_10 (h := si X 50 0 b a1) G, Option.bind_some, t12 50 _ _ (by omega), e8, sa_v c (by omega), Option.bind_some]
            rw [rf_12_11 (h := si (si X 50 0 b a1) 51 0 b a2) G, Option.bind_some, t12 51 _ _ (by omega), t12 50 _ _ (by omega), e8, sa_v c (by omega), Option.bind_some]
            rw [rf_12_12 (h := si (si (si X 50 0 b a1) 51 0 b a2) 52 0 b a3) G, Option.bind_some, t12 52 _ _ (by omega), t12 51 _ _ (by omega), t12 50 _ _ (by omega), e8, sa_v c (by omega), Option.bind_some]
            rw [rf_12_14 (h := si (si (si (si X 50 0 b a1) 51 0 b a2) 52 0 b a3) 53 0 b a4) G, Option.bind_some, t12 53 _ _ (by omega), t12 52 _ _ (by omega), t12 51 _ _ (by omega), t12 50 _ _ (by omega), e8, sa_v c (by omega), Option.bind_some]
            rw [rf_12_15 (h := si (si (si (si (si X 50 0 b a1) 51 0 b a2) 52 0 b a3) 53 0 b a4) 55 0 b (-1)) G, Option.bind_some, t12 55 _ _ (by omega), t12 53 _ _ (by omega), t12 52 _ _ (by omega), t12 51 _ _ (by omega), t12 50 _ _ (by omega), e8, sa_v c (by omega), Option.bind_some]
            rw [rf_12_16 (h := si (si (si (si (si (si X 50 0 b a1) 51 0 b a2) 52 0 b a3) 53 0 b a4) 55 0 b (-1)) 56 0 b 5) G, Option.bind_some, t12 56 _ _ (by omega), t12 55 _ _ (by omega), t12 53 _ _ (by omega), t12 52 _ _ (by omega), t12 51 _ _ (by omega), t12 50 _ _ (by omega), e8, sa_v c (by omega), Option.bind_some]
            have f7 : si (si (si (si (si (si (si X 50 0 b a1) 51 0 b a2) 52 0 b a3) 53 0 b a4) 55 0 b (-1)) 56 0 b 5) 57 0 b 999 = ra7 X b a1 a2 a3 a4 := rfl
            rw [f7]
            have e8r : ∀ t, gi (r54 (ra7 X b a1 a2 a3 a4) b t) 12 0 8 = nI b := fun t => by rw [gi_r54, if_neg (by omega), gi_ra7 _ _ _ _ _ _ _ _ _ (by omega), e8]
            have l1 : loopN LF (B_X12_bell_138 0 (ra7 X b a1 a2 a3 a4)) (0, dp (ra7 X b a1 a2 a3 a4)) = some (dp (r54 (ra7 X b a1 a2 a3 a4) b 5)) := by
              refine loopS (fun t => (nI t, dp (r54 (ra7 X b a1 a2 a3 a4) b t))) 5 (by omega) ?_ ?_
              · intro t ht
                have hwd : wd (ra7 X b a1 a2 a3 a4) (dp (r54 (ra7 X b a1 a2 a3 a4) b t)) = r54 (ra7 X b a1 a2 a3 a4) b t := wd_dp (r54_22 _ _ _)
                have Gt : gR (r54 (ra7 X b a1 a2 a3 a4) b t).2.2 := by rw [r54_22]; exact G
                unfold B_X12_bell_138
                simp only [nm, u2, hwd]
                rw [if_neg (show ¬ (5 : Int32) ≤ nI t from nI_ge (a := t) (b := 5) ht (by omega)), rf_12_13 Gt, Option.bind_some, e8r, ix5, sa_v (show 5 * b + t < 100 by omega) (by omega), Option.bind_some, nI_1]
                rfl
              · have hwd : wd (ra7 X b a1 a2 a3 a4) (dp (r54 (ra7 X b a1 a2 a3 a4) b 5)) = r54 (ra7 X b a1 a2 a3 a4) b 5 := wd_dp (r54_22 _ _ _)
                unfold B_X12_bell_138
                simp only [nm, u2, hwd]
                rw [if_pos (show (5 : Int32) ≤ nI 5 by decide)]
            have hwd : wd (ra7 X b a1 a2 a3 a4) (dp (r54 (ra7 X b a1 a2 a3 a4) b 5)) = r54 (ra7 X b a1 a2 a3 a4) b 5 := wd_dp (r54_22 _ _ _)
            rw [l1, Option.bind_some]
            simp only [nm]
            rw [hwd, e8r, nI_1]
            have f8 : si (r54 (ra7 X b a1 a2 a3 a4) b 5) 12 0 8 (nI (b + 1)) = radd X b a1 a2 a3 a4 := rfl
            rw [f8, (gi_rn X b a1 a2 a3 a4).1]
            rw [show nI (b + 1) - 1 = nI b from pk_sub (b := 1) (by omega)]
          · have e : b = 20 := by omega
            subst e
            rw [if_neg c, if_pos (show nI 20 = (20 : Int32) from rfl)]
        · rw [if_pos c1, if_pos c2, if_pos c3, if_neg c4, if_neg (fun q => c4 q.2.2.2)]
      · rw [if_pos c1, if_pos c2, if_neg c3, if_neg (fun q => c3 q.2.2.1)]
    · rw [if_pos c1, if_neg c2, if_neg (fun q => c2 q.2.1)]
  · rw [if_neg c1, if_neg (fun q => c1 q.1)]
