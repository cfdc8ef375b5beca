/-! stage III: the whole text, the reference -/
def T9 (k s : Nat) : Bool := Nat.beq k 12 && Nat.beq s 22
def TP (k s : Nat) : Bool := (Nat.beq k 12 && (Nat.beq s 22 || Nat.beq s 23)) || (Nat.beq k 62 || (Nat.beq k 63 || (Nat.beq k 64 || Nat.beq k 65)))
theorem T9_TP : ∀ k s, TP k s = false → T9 k s = false := by
  intro k s e
  cases hq : T9 k s with
  | false => rfl
  | true =>
    unfold T9 at hq
    simp only [Bool.and_eq_true, Nat.beq_eq] at hq
    obtain ⟨rfl, rfl⟩ := hq
    cases e
/-- the reference's text -/
def PQ (t : Nat → Int32) (n : Nat) (h : HP) : Prop := gR h.2.2 ∧ gi h 12 0 21 = nI n ∧ ∀ i, i < n → gi h 61 0 i = t i
theorem PQ.ex {t : Nat → Int32} {n : Nat} {h h' : HP} (P : PQ t n h) (e : EX TP h h') : PQ t n h' :=
  ⟨by rw [e.1]; exact P.1, by rw [e.2.1 12 0 21 rfl]; exact P.2.1, fun i hi => by rw [e.2.1 61 0 i rfl]; exact P.2.2 i hi⟩
theorem PQ.ex9 {t : Nat → Int32} {n : Nat} {h h' : HP} (P : PQ t n h) (e : EX T9 h h') : PQ t n h' := P.ex (e.mono T9_TP)
theorem f_must {t : Nat → Int32} {n : Nat} {h : HP} (P : PQ t n h) (hn : n ≤ 100) {p : Nat} (hp : p ≤ 1000) (h9 : gi h 12 0 22 = nI p) (c : Int32) (hc : ¬ c = -1) : F_X12_must 0 c h = if sg t n p = c then some (1, dp (si h 12 0 22 (nI (p + 1)))) else some (0, dp h) := by
  obtain ⟨G, hl, ht⟩ := P
  have b0 : bz 0 = some 0 := rfl
  have b1 : bz 1 = some 1 := rfl
  have k0 : J_X12_must_29 0 0 h = some (0, dp h) := by
    unfold J_X12_must_29 J_X12_must_44
    rw [if_pos rfl, h9]
    simp only [nm, b0, Option.bind_some]
    rw [show nI p + 0 = nI p from Int32.add_zero _, si_self h9]
  have k1 : J_X12_must_29 0 1 h = some (1, dp (si h 12 0 22 (nI (p + 1)))) := by
    unfold J_X12_must_29 J_X12_must_44
    rw [if_neg (show ¬ (1 : Int32) = 0 by decide), h9]
    simp only [nm, b1, Option.bind_some, nI_1]
  unfold F_X12_must
  rw [hl, h9]
  rcases Nat.lt_or_ge p n with q | q
  · rw [if_neg (nI_ge q (by omega))]
    rw [rf_12_20 G, Option.bind_some, ga_v (by omega) (by omega), Option.bind_some, ht p q, sg_in q, k0, k1]
  · rw [if_pos (nI_le q (by omega)), sg_out q, if_neg (fun w => hc w.symm), k0]
theorem num_loop {t : Nat → Int32} {n : Nat} {h : HP} (P : PQ t n h) (hn : n ≤ 100) (most : Nat) (hm : most ≤ 10) (p0 : Nat) (hp0 : p0 ≤ 200) (a1 a3 a4 : Int32) : ∀ (k p f : Nat) (v : Int32), p + k = p0 + most → k < f → p ≤ n → loopN f (B_X12_number_9 0 a1 (nI most) a3 a4 (nI p0) h) (v, dp (si h 12 0 22 (nI p))) = some ((dgN t n k p v).2, dp (si h 12 0 22 (nI (dgN t n k p v).1))) := by
  intro k
  induction k with
  | zero =>
    intro p f v e hf hp
    obtain ⟨f, rfl⟩ : ∃ g, f = g + 1 := ⟨f - 1, by omega⟩
    unfold loopN B_X12_number_9
    simp only [nm, u2, wd_si, wd_self, gi_si, and_self, if_true, Nat.reduceEqDiff, and_false, if_false]
    rw [P.2.1, nI_add]
    by_cases c : n ≤ p
    · rw [if_pos (nI_le c (by omega))]
      rfl
    · rw [if_neg (nI_ge (by omega) (by omega)), if_pos (nI_le (by omega) (by omega))]
      rfl
  | succ k ih =>
    intro p f v e hf hp
    obtain ⟨f, rfl⟩ : ∃ g, f = g + 1 := ⟨f - 1, by omega⟩
    unfold loopN
    have hB : B_X12_number_9 0 a1 (nI most) a3 a4 (nI p0) h (v, dp (si h 12 0 22 (nI p))) = if 48 ≤ sg t n p ∧ sg t n p ≤ 57 then some (.inl (10 * v + sg t n p - 48, dp (si h 12 0 22 (nI (p + 1))))) else some (.inr (v, dp (si h 12 0 22 (nI p)))) := by
      unfold B_X12_number_9
      simp only [nm, u2, wd_si, wd_self, gi_si, and_self, if_true, Nat.reduceEqDiff, and_false, false_and, if_false, xr_si, si_si, nI_1]
      rw [P.2.1, nI_add]
      rcases Nat.lt_or_ge p n with q | q
      · rw [if_neg (nI_ge q (by omega)), if_neg (nI_ge (show p < p0 + most by omega) (by omega)), rf_12_20 P.1, Option.bind_some, ga_v (by omega) (by omega), Option.bind_some]
        have g61 : gi (si h 12 0 22 (nI p)) 61 0 p = t p := by rw [gi_si, if_neg (fun w => by omega)]; exact P.2.2 p q
        simp (disch := first | assumption | decide | omega) only [g61, e_in_48_57, Option.bind_some, ite_b, ga_v, sg_in q]
      · rw [if_pos (nI_le q (by omega)), sg_out q, if_neg (by decide)]
    rw [hB]
    unfold dgN
    by_cases c : 48 ≤ sg t n p ∧ sg t n p ≤ 57
    · rw [if_pos c, if_pos c]
      have hpn : p < n := by
        rcases Nat.lt_or_ge p n with q | q
        · exact q
        · rw [sg_out q] at c; exact absurd c.1 (by decide)
      exact ih (p + 1) f _ (by omega) (by omega) (by omega)
    · rw [if_neg c, if_neg c]
theorem f_number {t : Nat → Int32} {n : Nat} {h : HP} (P : PQ t n h) (hn : n ≤ 100) (few most : Nat) (hf : few ≤ 10) (hm : most ≤ 10) (lo hi : Int32) {p : Nat} (hp : p ≤ n) (h9 : gi h 12 0 22 = nI p) :
    F_X12_number 0 (nI few) (nI most) lo hi h = some (if (pnum t n few most lo hi p).1 = true then (pnum t n few most lo hi p).2.1 else -1, dp (si h 12 0 22 (nI (pnum t n few most lo hi p).2.2))) := by
  obtain ⟨d1, d2, d3⟩ := dg_le t n most p 0 hp
  have hl := num_loop P hn most hm p (by omega) (nI few) lo hi most p LF 0 rfl (by unfold LF; omega) hp
  rw [si_self h9] at hl
  unfold F_X12_number pnum
  simp only [nm, u2]
  rw [h9, hl, Option.bind_some]
  simp only [wd_si, wd_self, gi_si, and_self, if_true, e_inI, Option.bind_some, ite_b, nI_add, si_si]
  by_cases c1 : p + few ≤ (dgN t n most p 0).1
  · rw [if_pos (nI_le (by omega) (by omega)), if_pos c1]
    by_cases c2 : lo ≤ (dgN t n most p 0).2 ∧ (dgN t n most p 0).2 ≤ hi
    · rw [if_pos c2, if_pos c2]
      rfl
    · rw [if_neg c2, if_neg c2]
      rfl
  · rw [if_neg (nI_ge (by omega) (by omega)), if_neg c1]
    rfl
/-- the reference's parts -/
def PM (h : HP) (L : List PT) : Prop := gi h 12 0 23 = nI L.length ∧ ∀ p x, L[p]? = some x → gi h 62 0 p = x.1 ∧ gi h 63 0 p = (if x.1 = 3 then x.2.2.1 else x.2.1) ∧ gi h 64 0 p = (if x.1 = 3 then 0 else x.2.2.1) ∧ gi h 65 0 p = x.2.2.2
theorem PM.ex9 {h h' : HP} {L : List PT} (P : PM h L) (e : EX T9 h h') : PM h' L :=
  ⟨by rw [e.2.1 12 0 23 rfl]; exact P.1, fun p x hx => by rw [e.2.1 62 0 p rfl, e.2.1 63 0 p rfl, e.2.1 64 0 p rfl, e.2.1 65 0 p rfl]; exact P.2 p x hx⟩
def EM (h h' : HP) (L : List PT) (r : Bool × Nat × PT) : Prop := EX TP h h' ∧ gi h' 12 0 22 = nI r.2.1 ∧ (r.1 = true → PM h' (L ++ [r.2.2]))
theorem EM.of {h h1 h' : HP} {L : List PT} {r : Bool × Nat × PT} (e : EX TP h h1) (q : EM h1 h' L r) : EM h h' L r := ⟨e.trans q.1, q.2⟩
theorem f_J200 {t : Nat → Int32} {n : Nat} {h : HP} (P : PQ t n h) {L : List PT} (hL : PM h L) (hlen : L.length < 40) (x : PT) (a b : Int32) (ha : a = if x.1 = 3 then x.2.2.1 else x.2.1) (hb : b = if x.1 = 3 then 0 else x.2.2.1) : ∃ h', J_X12_readsPart_200 0 x.1 a b x.2.2.2 h = some (1, dp h') ∧ EX TP h h' ∧ PM h' (L ++ [x]) ∧ gi h' 12 0 22 = gi h 12 0 22 := by
  obtain ⟨G, -, -⟩ := P
  refine ⟨si (si (si (si (si h 62 0 L.length x.1) 63 0 L.length a) 64 0 L.length b) 65 0 L.length x.2.2.2) 12 0 23 (nI (L.length + 1)), ?_, ?_, ⟨?_, fun p y hy => ?_⟩, ?_⟩
  · unfold J_X12_readsPart_200
    simp only [nm]
    rw [hL.1, rf_12_24 G, Option.bind_some, sa_v (by omega) (by omega), Option.bind_some]
    simp (disch := first | assumption | decide | omega) only [xr_si, rf_12_25 G, rf_12_26 G, rf_12_27 G, gi_si, hL.1, sa_v, Option.bind_some, nI_1, Nat.reduceEqDiff, false_and, if_false]
  · exact EX.si (EX.si (EX.si (EX.si (EX.si (EX.rfl' h) _ _ rfl) _ _ rfl) _ _ rfl) _ _ rfl) _ _ rfl
  · rw [gi_si, if_pos ⟨rfl, rfl, rfl⟩, List.length_append]
    rfl
  · simp only [gi_si, Nat.reduceEqDiff, false_and, if_false, true_and]
    by_cases e : p = L.length
    · subst e
      rw [List.getElem?_append_right (Nat.le_refl _)] at hy
      simp at hy
      subst hy
      simp only [if_true]
      exact ⟨trivial, ha, hb, trivial⟩
    · have hp : p < L.length := by
        rcases Nat.lt_or_ge p L.length with q | q
        · exact q
        · rw [List.getElem?_append_right q] at hy
          have : p - L.length < 1 := (List.getElem?_eq_some_iff.mp hy).1
          omega
      rw [List.getElem?_append_left hp] at hy
      simp only [e, if_false]
      exact hL.2 p y hy
  · simp only [gi_si, Nat.reduceEqDiff, false_and, and_false, if_false]
/-- behind the weight: perhaps a week -/
theorem f_J169 {t : Nat → Int32} {n : Nat} {h : HP} (P : PQ t n h) (hn : n ≤ 100) {L : List PT} (hL : PM h L) (hlen : L.length < 40) {p : Nat} (hp : p ≤ n) (h9 : gi h 12 0 22 = nI p) (c y w a b : Int32) (ha : a = if c = 3 then w else y) (hb : b = if c = 3 then 0 else w) : ∃ h', J_X12_readsPart_169 0 c a b h = some (if (ptl t n c y w p).1 = true then 1 else 0, dp h') ∧ EM h h' L (ptl t n c y w p) := by
  unfold J_X12_readsPart_169 ptl
  simp only [nm, u2]
  rw [f_must P hn (by omega) h9 64 (by decide)]
  by_cases c1 : sg t n p = 64
  · have hpn : p < n := by
      rcases Nat.lt_or_ge p n with q | q
      · exact q
      · rw [sg_out q] at c1; exact absurd c1 (by decide)
    rw [if_pos c1, if_pos c1, Option.bind_some]
    simp only [wd_si, wd_self, T10, if_false]
    have E1 : EX T9 h (si h 12 0 22 (nI (p + 1))) := EX.si (EX.rfl' h) _ _ rfl
    have r1 := f_number (P.ex9 E1) hn 1 3 (by omega) (by omega) 0 199 (p := p + 1) (by omega) (by rw [gi_si, if_pos ⟨rfl, rfl, rfl⟩])
    rw [show F_X12_number 0 1 3 0 199 (si h 12 0 22 (nI (p + 1))) = _ from r1, Option.bind_some]
    simp only [wd_si, wd_osi, wd_self, si_si]
    have E2 : EX T9 h (si h 12 0 22 (nI (pnum t n 1 3 0 199 (p + 1)).2.2)) := EX.si (EX.rfl' h) _ _ rfl
    by_cases c2 : (pnum t n 1 3 0 199 (p + 1)).1 = true
    · have q := pn_ok (by omega) c2
      simp only [c2, if_true]
      rw [if_pos q.2.2.1]
      obtain ⟨h2, r2, x2, L2, p9⟩ := f_J200 (P.ex9 E2) (hL.ex9 E2) hlen (c, y, w, (pnum t n 1 3 0 199 (p + 1)).2.1) a b ha hb
      exact ⟨h2, r2, (E2.mono T9_TP).trans x2, by rw [p9, gi_si, if_pos ⟨rfl, rfl, rfl⟩], fun _ => L2⟩
    · have c3 : (pnum t n 1 3 0 199 (p + 1)).1 = false := by simpa using c2
      simp only [c3, if_false, Bool.false_eq_true]
      rw [if_neg (show ¬ (0 : Int32) ≤ -1 by decide)]
      exact ⟨_, rfl, E2.mono T9_TP, by rw [gi_si, if_pos ⟨rfl, rfl, rfl⟩], fun q => by cases q⟩
  · rw [if_neg c1, if_neg c1, Option.bind_some]
    simp only [wd_self, if_true]
    obtain ⟨h2, r2, x2, L2, p9⟩ := f_J200 P hL hlen (c, y, w, 0) a b ha hb
    exact ⟨h2, r2, x2, by rw [p9, h9], fun _ => L2⟩
theorem f_readsPart {t : Nat → Int32} {n : Nat} {h : HP} (P : PQ t n h) (hn : n ≤ 100) {L : List PT} (hL : PM h L) (hlen : L.length < 40) {p : Nat} (hp : p ≤ n) (h9 : gi h 12 0 22 = nI p) : ∃ h', F_X12_readsPart 0 h = some (if (pprt t n p).1 = true then 1 else 0, dp h') ∧ EM h h' L (pprt t n p) := by
  -- the letter
  have hk : F_X12_readsPart 0 h = J_X12_readsPart_66 0 (kdS (sg t n p)) h := by
    have h24 : ∀ c : Int32, J_X12_readsPart_24 0 c h = J_X12_readsPart_66 0 (kdS c) h := by
      intro c
      unfold J_X12_readsPart_24 kdS
      by_cases a : c = 97
      · subst a; rfl
      · rw [if_neg a]
        by_cases b : c = 98
        · subst b; rfl
        · rw [if_neg b]
          by_cases d : c = 99
          · subst d; rfl
          · rw [if_neg d]
            by_cases e : c = 107
            · subst e; rfl
            · rw [if_neg e, if_neg e, if_neg]
              rintro ⟨q1, q2⟩
              obtain ⟨m, m1, m2, rfl⟩ := in_litl (l := 97) (n := 99) (by omega) (by omega) ⟨q1, q2⟩
              have : m = 97 ∨ m = 98 ∨ m = 99 := by omega
              rcases this with rfl | rfl | rfl
              · exact a rfl
              · exact b rfl
              · exact d rfl
    unfold F_X12_readsPart
    rw [P.2.1, h9]
    rcases Nat.lt_or_ge p n with q | q
    · rw [if_neg (nI_ge q (by omega)), rf_12_20 P.1, Option.bind_some, ga_v (by omega) (by omega), Option.bind_some, P.2.2 p q, h24, sg_in q]
    · rw [if_pos (nI_le q (by omega)), h24, sg_out q]
  rw [hk]
  unfold J_X12_readsPart_66 pprt
  simp only [nm, u2]
  by_cases c0 : kdS (sg t n p) = -1
  · rw [if_pos c0, if_pos c0]
    exact ⟨h, rfl, EX.rfl' h, h9, fun q => by cases q⟩
  · rw [if_neg c0, if_neg c0, h9, nI_1]
    have hpn : p < n := by
      rcases Nat.lt_or_ge p n with q | q
      · exact q
      · rw [sg_out q] at c0; exact absurd (by decide) c0
    have E1 : EX T9 h (si h 12 0 22 (nI (p + 1))) := EX.si (EX.rfl' h) _ _ rfl
    rw [f_must (P.ex9 E1) hn (p := p + 1) (by omega) (by rw [gi_si, if_pos ⟨rfl, rfl, rfl⟩]) 61 (by decide)]
    by_cases c1 : sg t n (p + 1) = 61
    · have hpn2 : p + 1 < n := by
        rcases Nat.lt_or_ge (p + 1) n with q | q
        · exact q
        · rw [sg_out q] at c1; exact absurd c1 (by decide)
      rw [if_pos c1, if_pos c1, Option.bind_some]
      simp only [wd_si, wd_osi, wd_self, si_si, T10, if_false]
      have E2 : EX T9 h (si h 12 0 22 (nI (p + 1 + 1))) := EX.si (EX.rfl' h) _ _ rfl
      have P2 := P.ex9 E2
      have g2 : gi (si h 12 0 22 (nI (p + 1 + 1))) 12 0 22 = nI (p + 2) := by rw [gi_si, if_pos ⟨rfl, rfl, rfl⟩]
      by_cases c2 : kdS (sg t n p) = 3
      · rw [if_pos c2, if_pos c2, c2]
        unfold pk3
        have r3 := f_number P2 hn 1 1 (by omega) (by omega) 0 9 (p := p + 2) (by omega) g2
        rw [show F_X12_number 0 1 1 0 9 (si h 12 0 22 (nI (p + 1 + 1))) = _ from r3, Option.bind_some]
        simp only [wd_si, wd_osi, wd_self, si_si]
        have E3 : EX T9 h (si h 12 0 22 (nI (pnum t n 1 1 0 9 (p + 2)).2.2)) := EX.si (EX.rfl' h) _ _ rfl
        unfold J_X12_readsPart_124
        by_cases c3 : (pnum t n 1 1 0 9 (p + 2)).1 = true
        · have q := pn_ok (by omega) c3
          simp only [c3, if_true]
          rw [if_pos q.2.2.1, if_pos (show (3 : Int32) ≤ 3 by decide)]
          obtain ⟨h4, r4, x4⟩ := f_J169 (P.ex9 E3) hn (hL.ex9 E3) hlen (p := (pnum t n 1 1 0 9 (p + 2)).2.2) (by omega) (by rw [gi_si, if_pos ⟨rfl, rfl, rfl⟩]) 3 0 (pnum t n 1 1 0 9 (p + 2)).2.1 (pnum t n 1 1 0 9 (p + 2)).2.1 0 (by rw [if_pos rfl]) (by rw [if_pos rfl])
          exact ⟨h4, r4, EM.of (E3.mono T9_TP) x4⟩
        · have c4 : (pnum t n 1 1 0 9 (p + 2)).1 = false := by simpa using c3
          simp only [c4, if_false, Bool.false_eq_true]
          rw [if_neg (show ¬ (0 : Int32) ≤ -1 by decide)]
          exact ⟨_, rfl, E3.mono T9_TP, by rw [gi_si, if_pos ⟨rfl, rfl, rfl⟩], fun q => by cases q⟩
      · rw [if_neg c2, if_neg c2]
        unfold pk1
        have r3 := f_number P2 hn 4 4 (by omega) (by omega) 1000 1939 (p := p + 2) (by omega) g2
        rw [show F_X12_number 0 4 4 1000 1939 (si h 12 0 22 (nI (p + 1 + 1))) = _ from r3, Option.bind_some]
        simp only [wd_si, wd_osi, wd_self, si_si]
        have E3 : EX T9 h (si h 12 0 22 (nI (pnum t n 4 4 1000 1939 (p + 2)).2.2)) := EX.si (EX.rfl' h) _ _ rfl
        unfold J_X12_readsPart_124
        simp only [nm, u2]
        by_cases c3 : (pnum t n 4 4 1000 1939 (p + 2)).1 = true
        · have q := pn_ok (by omega) c3
          simp only [c3, if_true]
          have v0 : (0 : Int32) ≤ (pnum t n 4 4 1000 1939 (p + 2)).2.1 := by
            have := q.2.2.1
            rw [fa_le] at *
            have e1 : (1000 : Int32).toInt = 1000 := by decide
            have e2 : (0 : Int32).toInt = 0 := by decide
            omega
          have k3 : ¬ (3 : Int32) ≤ kdS (sg t n p) := by
            unfold kdS at *
            by_cases e1 : sg t n p = 107
            · rw [if_pos e1] at c2; exact absurd rfl c2
            · rw [if_neg e1] at c0 c2 ⊢
              by_cases e2 : 97 ≤ sg t n p ∧ sg t n p ≤ 99
              · obtain ⟨m, m1, m2, e3⟩ := in_litl (l := 97) (n := 99) (by omega) (by omega) e2
                rw [if_pos e2, e3]
                have : m = 97 ∨ m = 98 ∨ m = 99 := by omega
                rcases this with rfl | rfl | rfl <;> decide
              · rw [if_neg e2] at c0
                exact absurd rfl c0
          rw [if_pos v0, if_neg k3, f_must (P.ex9 E3) hn (p := (pnum t n 4 4 1000 1939 (p + 2)).2.2) (by omega) (by rw [gi_si, if_pos ⟨rfl, rfl, rfl⟩]) 44 (by decide)]
          by_cases c4 : sg t n (pnum t n 4 4 1000 1939 (p + 2)).2.2 = 44
          · have hq : (pnum t n 4 4 1000 1939 (p + 2)).2.2 < n := by
              rcases Nat.lt_or_ge (pnum t n 4 4 1000 1939 (p + 2)).2.2 n with q | q
              · exact q
              · rw [sg_out q] at c4; exact absurd c4 (by decide)
            rw [if_pos c4, if_pos c4, Option.bind_some]
            simp only [wd_si, wd_osi, wd_self, si_si, T10, if_false]
            have E4 : EX T9 h (si h 12 0 22 (nI ((pnum t n 4 4 1000 1939 (p + 2)).2.2 + 1))) := EX.si (EX.rfl' h) _ _ rfl
            unfold pk2
            have r5 := f_number (P.ex9 E4) hn 1 4 (by omega) (by omega) 1 9999 (p := (pnum t n 4 4 1000 1939 (p + 2)).2.2 + 1) (by omega) (by rw [gi_si, if_pos ⟨rfl, rfl, rfl⟩])
            rw [show F_X12_number 0 1 4 1 9999 (si h 12 0 22 (nI ((pnum t n 4 4 1000 1939 (p + 2)).2.2 + 1))) = _ from r5, Option.bind_some]
            simp only [wd_si, wd_osi, wd_self, si_si]
            have E5 : EX T9 h (si h 12 0 22 (nI (pnum t n 1 4 1 9999 ((pnum t n 4 4 1000 1939 (p + 2)).2.2 + 1)).2.2)) := EX.si (EX.rfl' h) _ _ rfl
            by_cases c5 : (pnum t n 1 4 1 9999 ((pnum t n 4 4 1000 1939 (p + 2)).2.2 + 1)).1 = true
            · have q3 := pn_ok (by omega) c5
              simp only [c5, if_true]
              have v1 : (0 : Int32) ≤ (pnum t n 1 4 1 9999 ((pnum t n 4 4 1000 1939 (p + 2)).2.2 + 1)).2.1 := by
                have := q3.2.2.1
                rw [fa_le] at *
                have e1 : (1 : Int32).toInt = 1 := by decide
                have e2 : (0 : Int32).toInt = 0 := by decide
                omega
              rw [if_pos v1]
              obtain ⟨h6, r6, x6⟩ := f_J169 (P.ex9 E5) hn (hL.ex9 E5) hlen (p := (pnum t n 1 4 1 9999 ((pnum t n 4 4 1000 1939 (p + 2)).2.2 + 1)).2.2) (by omega) (by rw [gi_si, if_pos ⟨rfl, rfl, rfl⟩]) (kdS (sg t n p)) (pnum t n 4 4 1000 1939 (p + 2)).2.1 (pnum t n 1 4 1 9999 ((pnum t n 4 4 1000 1939 (p + 2)).2.2 + 1)).2.1 (pnum t n 4 4 1000 1939 (p + 2)).2.1 (pnum t n 1 4 1 9999 ((pnum t n 4 4 1000 1939 (p + 2)).2.2 + 1)).2.1 (by rw [if_neg c2]) (by rw [if_neg c2])
              exact ⟨h6, r6, EM.of (E5.mono T9_TP) x6⟩
            · have c6 : (pnum t n 1 4 1 9999 ((pnum t n 4 4 1000 1939 (p + 2)).2.2 + 1)).1 = false := by simpa using c5
              simp only [c6, if_false, Bool.false_eq_true]
              rw [if_neg (show ¬ (0 : Int32) ≤ -1 by decide)]
              exact ⟨_, rfl, E5.mono T9_TP, by rw [gi_si, if_pos ⟨rfl, rfl, rfl⟩], fun q => by cases q⟩
          · rw [if_neg c4, if_neg c4, Option.bind_some]
            simp only [wd_self, if_true]
            exact ⟨_, rfl, E3.mono T9_TP, by rw [gi_si, if_pos ⟨rfl, rfl, rfl⟩], fun q => by cases q⟩
        · have c4 : (pnum t n 4 4 1000 1939 (p + 2)).1 = false := by simpa using c3
          simp only [c4, if_false, Bool.false_eq_true]
          rw [if_neg (show ¬ (0 : Int32) ≤ -1 by decide)]
          exact ⟨_, rfl, E3.mono T9_TP, by rw [gi_si, if_pos ⟨rfl, rfl, rfl⟩], fun q => by cases q⟩
    · rw [if_neg c1, if_neg c1, Option.bind_some]
      simp only [wd_osi, wd_si, wd_self, if_true]
      exact ⟨_, rfl, E1.mono T9_TP, by rw [gi_si, if_pos ⟨rfl, rfl, rfl⟩], fun q => by cases q⟩
/-- how the reference's loop ends: a fault (in two ways), or well -/
def EZ (h' : HP) (o : DP ⊕ DP ⊕ DP) (q : Int32 × List PT) : Prop := ((o = .inl (dp h') ∨ o = .inr (.inl (dp h'))) ∧ q.2 = [] ∧ gi h' 12 0 22 = q.1) ∨ (o = .inr (.inr (dp h')) ∧ q.1 = -1 ∧ PM h' q.2)
theorem reads_loop {t : Nat → Int32} {n : Nat} (hn : n ≤ 100) {h : HP} : ∀ (k p f : Nat) (L : List PT) (h1 : HP), n < p + k → p ≤ n → 4 * L.length ≤ p → k < f → EX TP h h1 → PQ t n h1 → PM h1 L → gi h1 12 0 22 = nI p →
    ∃ (o : DP ⊕ DP ⊕ DP) (h' : HP), loopN f (B_X12_reads_23 0 h) (1, dp h1) = some o ∧ EX TP h h' ∧ EZ h' o (pall t n k p L) := by
  intro k
  induction k with
  | zero => intro p f L h1 e1 e2; omega
  | succ k ih =>
    intro p f L h1 e1 e2 e3 e4 x1 P1 L1 g9
    obtain ⟨f, rfl⟩ : ∃ g, f = g + 1 := ⟨f - 1, by omega⟩
    obtain ⟨h2, r2, x2, y2, o2⟩ := f_readsPart P1 hn L1 (by omega) e2 g9
    have hB : B_X12_reads_23 0 h (1, dp h1) = if (pprt t n p).1 = true then (if gi h2 12 0 21 ≤ gi h2 12 0 22 then J_X12_reads_60 0 0 h2 else J_X12_reads_60 0 1 h2) else some (.inr (.inl (dp h2))) := by
      unfold B_X12_reads_23
      simp only [nm, u2, wd_dp x1.1, T10, if_false]
      rw [r2, Option.bind_some]
      simp only [wd_dp x2.1, ite_b]
    unfold loopN
    rw [hB, pall_s]
    have x3 := x1.trans x2
    have P2 := P1.ex x2
    by_cases c1 : (pprt t n p).1 = true
    · rw [if_pos c1, if_pos c1, P2.2.1, y2]
      have q := pp_ok c1
      have L2 := o2 c1
      unfold paft
      by_cases c2 : (pprt t n p).2.1 < n
      · rw [if_neg (nI_ge c2 (by omega)), if_pos c2]
        unfold J_X12_reads_60
        simp only [nm, u2]
        rw [if_neg (show ¬ (1 : Int32) = 0 by decide), f_must P2 hn (by omega) y2 59 (by decide), sg_in c2]
        by_cases c3 : t (pprt t n p).2.1 = 59
        · rw [if_pos c3, if_pos c3, Option.bind_some]
          simp only [wd_si, wd_self, T10, if_false]
          have E4 : EX T9 h2 (si h2 12 0 22 (nI ((pprt t n p).2.1 + 1))) := EX.si (EX.rfl' h2) _ _ rfl
          exact ih _ f _ _ (by omega) (by omega) (by rw [List.length_append]; show 4 * (L.length + 1) ≤ _; omega) (by omega) (x3.trans (E4.mono T9_TP)) (P2.ex9 E4) (L2.ex9 E4) (by rw [gi_si, if_pos ⟨rfl, rfl, rfl⟩])
        · rw [if_neg c3, if_neg c3, Option.bind_some]
          simp only [wd_self, if_true]
          exact ⟨_, h2, rfl, x3, Or.inl ⟨Or.inr rfl, rfl, y2⟩⟩
      · rw [if_pos (nI_le (by omega) (by omega)), if_neg c2]
        unfold J_X12_reads_60
        rw [if_pos rfl]
        obtain ⟨f, rfl⟩ : ∃ g, f = g + 1 := ⟨f - 1, by omega⟩
        refine ⟨.inr (.inr (dp h2)), h2, ?_, x3, Or.inr ⟨rfl, rfl, L2⟩⟩
        show loopN (f + 1) (B_X12_reads_23 0 h) (0, dp h2) = _
        unfold loopN B_X12_reads_23
        simp only [nm, u2, wd_dp x3.1, if_true]
    · rw [if_neg c1, if_neg c1]
      exact ⟨_, h2, rfl, x3, Or.inl ⟨Or.inl rfl, rfl, y2⟩⟩
/-- the reference reads the whole text -/
theorem f_reads {t : Nat → Int32} {n : Nat} {h : HP} (P : PQ t n h) (hn : n ≤ 100) : ∃ h', F_X12_reads 0 h = some ((lw t n).1, dp h') ∧ EX TP h h' ∧ PM h' (lw t n).2 := by
  have x0 : EX TP h (si (si h 12 0 22 0) 12 0 23 0) := EX.si (EX.si (EX.rfl' h) _ _ rfl) _ _ rfl
  have P0 := P.ex x0
  have g9 : gi (si (si h 12 0 22 0) 12 0 23 0) 12 0 22 = nI 0 := by simp only [gi_si, Nat.reduceEqDiff, and_false, if_false, and_self, if_true]; rfl
  have g7 : gi (si (si h 12 0 22 0) 12 0 23 0) 12 0 23 = nI 0 := by simp only [gi_si, and_self, if_true]; rfl
  have hF : F_X12_reads 0 h = (if gi (si (si h 12 0 22 0) 12 0 23 0) 12 0 21 ≤ 0 then J_X12_reads_22 0 0 (si (si h 12 0 22 0) 12 0 23 0) else J_X12_reads_22 0 1 (si (si h 12 0 22 0) 12 0 23 0)) := rfl
  rw [hF]
  clear hF
  generalize si (si h 12 0 22 0) 12 0 23 0 = h0 at *
  have L0 : PM h0 [] := ⟨g7, fun p x hx => by simp at hx⟩
  rw [P0.2.1]
  by_cases c0 : n = 0
  · subst c0
    rw [if_pos (show nI 0 ≤ 0 by decide)]
    refine ⟨h0, ?_, x0, L0⟩
    have hl : loopN LF (B_X12_reads_23 0 h0) (0, dp h0) = some (.inr (.inr (dp h0))) := by
      show loopN (999999 + 1) _ _ = _
      unfold loopN B_X12_reads_23
      simp only [nm, u2, wd_self, if_true]
    unfold J_X12_reads_22
    rw [hl, Option.bind_some]
    simp only [nm, wd_self]
    rfl
  · rw [if_neg (nI_nle (by omega) (by omega))]
    obtain ⟨o, h2, r2, x2, ez⟩ := reads_loop hn (h := h0) 101 0 LF [] h0 (by omega) (by omega) (by simp) (by unfold LF; omega) (EX.rfl' h0) P0 L0 g9
    have hl : lw t n = pall t n 101 0 [] := by unfold lw; rw [if_neg c0]
    rw [← hl] at ez
    unfold J_X12_reads_22
    rw [r2, Option.bind_some]
    rcases ez with ⟨a1 | a1, a2, a3⟩ | ⟨a1, a2, a3⟩
    · subst a1
      simp only [nm, wd_dp x2.1]
      refine ⟨si h2 12 0 23 0, ?_, EX.si (x0.trans x2) _ _ rfl, ?_⟩
      · rw [gi_si, if_neg (by decide), a3]
      · rw [a2]
        exact ⟨by rw [gi_si, if_pos ⟨rfl, rfl, rfl⟩]; rfl, fun p x hx => by simp at hx⟩
    · subst a1
      simp only [nm, wd_dp x2.1]
      refine ⟨si h2 12 0 23 0, ?_, EX.si (x0.trans x2) _ _ rfl, ?_⟩
      · rw [gi_si, if_neg (by decide), a3]
      · rw [a2]
        exact ⟨by rw [gi_si, if_pos ⟨rfl, rfl, rfl⟩]; rfl, fun p x hx => by simp at hx⟩
    · subst a1
      simp only [nm, wd_dp x2.1]
      exact ⟨h2, by rw [a2], x0.trans x2, a3⟩
