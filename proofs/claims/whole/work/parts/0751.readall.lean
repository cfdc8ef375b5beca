/-! stage III: the whole text, the class -/
/-- what follows a part that ended at p -/
def paft (t : Nat → Int32) (n k p : Nat) (L : List PT) : Int32 × List PT := if p < n then (if t p = 59 then pall t n k (p + 1) L else (nI p, [])) else (-1, L)
theorem pall_s (t : Nat → Int32) (n k p : Nat) (L : List PT) : pall t n (k + 1) p L = if (pprt t n p).1 = true then paft t n k (pprt t n p).2.1 (L ++ [(pprt t n p).2.2]) else (nI (pprt t n p).2.1, []) := by
  show (if (pprt t n p).1 = true then (if (pprt t n p).2.1 < n then (if t (pprt t n p).2.1 = 59 then pall t n k ((pprt t n p).2.1 + 1) (L ++ [(pprt t n p).2.2]) else (nI (pprt t n p).2.1, [])) else (-1, L ++ [(pprt t n p).2.2])) else (nI (pprt t n p).2.1, [])) = _
  unfold paft
  rfl
/-- the end of the class's loop -/
def EA (h' : HP) (w : Int32) (q : Int32 × List PT) : Prop := (w = 1 ∧ q.1 = -1 ∧ PL h' q.2 ∧ gi h' 4 0 2 = -1) ∨ (w = 0 ∧ q.2 = [] ∧ gi h' 4 0 2 = q.1)
theorem readAll_loop {t : Nat → Int32} {n : Nat} (hn : n ≤ 100) {h : HP} : ∀ (k p turn f : Nat) (L : List PT) (h1 : HP), n ≤ p + k → p ≤ n → 4 * turn ≤ p → 4 * L.length ≤ p + 1 → 100 < f + turn → EX SP h h1 → PC t n h1 → PL h1 L → gi h1 4 0 9 = nI p → gi h1 4 0 2 = -1 →
    ∃ (w : Int32) (h' : HP), loopN f (B_X4_readAll_37 0 h) (1, nI turn, dp h1) = some (w, dp h') ∧ EX SP h h' ∧ EA h' w (paft t n k p L) := by
  intro k
  induction k with
  | zero =>
    intro p turn f L h1 e1 e2 e3 e4 e5 x1 P1 L1 g9 g2
    obtain ⟨f, rfl⟩ : ∃ g, f = g + 1 := ⟨f - 1, by omega⟩
    refine ⟨1, h1, ?_, x1, ?_⟩
    · unfold loopN B_X4_readAll_37
      simp only [nm, u3, wd_dp x1.1, T10, if_false]
      rw [if_neg (show ¬ 100 ≤ nI turn from nI_ge (b := 100) (by omega) (by omega)), P1.2.1, g9, if_pos (nI_le (by omega) (by omega))]
    · unfold paft
      rw [if_neg (by omega)]
      exact Or.inl ⟨rfl, rfl, L1, g2⟩
  | succ k ih =>
    intro p turn f L h1 e1 e2 e3 e4 e5 x1 P1 L1 g9 g2
    obtain ⟨f, rfl⟩ : ∃ g, f = g + 1 := ⟨f - 1, by omega⟩
    by_cases c0 : p < n
    · have hB : B_X4_readAll_37 0 h (1, nI turn, dp h1) = (F_X4_readSign 0 59 h1).bind fun q11 => (if q11.1 = 0 then some (.inl (0, nI (turn + 1), dp (wd h1 q11.2))) else (F_X4_readPart 0 (wd h1 q11.2)).bind fun q20 => if q20.1 = 0 then some (.inl (0, nI (turn + 1), dp (wd (wd h1 q11.2) q20.2))) else some (.inl (1, nI (turn + 1), dp (wd (wd h1 q11.2) q20.2)))) := by
        unfold B_X4_readAll_37
        simp only [nm, u3, u2, wd_dp x1.1, T10, if_false, nI_1]
        rw [if_neg (show ¬ 100 ≤ nI turn from nI_ge (b := 100) (by omega) (by omega)), P1.2.1, g9, if_neg (nI_ge (by omega) (by omega))]
      have fin : ∀ (h2 : HP) (tu : Nat), h2.2.2 = h.2.2 → tu ≤ 50 → 0 < f → loopN f (B_X4_readAll_37 0 h) (0, nI tu, dp h2) = some (0, dp h2) := by
        intro h2 tu q1 q2 q3
        obtain ⟨f, rfl⟩ : ∃ g, f = g + 1 := ⟨f - 1, by omega⟩
        unfold loopN B_X4_readAll_37
        simp only [nm, u3, wd_dp q1, if_true]
        rw [if_neg (show ¬ 100 ≤ nI tu from nI_ge (b := 100) (by omega) (by omega))]
      unfold loopN
      rw [hB, e_readSign P1 hn (by omega) g9, sg_in c0]
      unfold paft
      rw [if_pos c0]
      by_cases c1 : t p = 59
      · rw [if_pos c1, if_pos c1, Option.bind_some]
        simp only [T10, if_false, wd_si, wd_self]
        have E2 : EX SP h1 (si h1 4 0 9 (nI (p + 1))) := EX.si (EX.rfl' h1) _ _ rfl
        have E29 : EX S9 h1 (si h1 4 0 9 (nI (p + 1))) := EX.si (EX.rfl' h1) _ _ rfl
        have P2 := P1.ex E2
        have L2 := L1.ex9 E29
        have g29 : gi (si h1 4 0 9 (nI (p + 1))) 4 0 9 = nI (p + 1) := by rw [gi_si, if_pos ⟨rfl, rfl, rfl⟩]
        have g22 : gi (si h1 4 0 9 (nI (p + 1))) 4 0 2 = -1 := by rw [gi_si, if_neg (by decide), g2]
        have x2 := x1.trans E2
        generalize si h1 4 0 9 (nI (p + 1)) = h2 at E2 E29 P2 L2 g29 g22 x2
        obtain ⟨h3, r3, x3, o3, n3⟩ := e_readPart P2 hn L2 (by omega) (p := p + 1) (by omega) g29
        rw [r3, Option.bind_some, pall_s]
        simp only [wd_dp x3.1]
        by_cases c2 : (pprt t n (p + 1)).1 = true
        · obtain ⟨o4, o5, o6⟩ := o3 c2
          have q := pp_ok c2
          simp only [c2, if_true, T10, if_false]
          exact ih _ (turn + 1) f _ h3 (by omega) (by omega) (by omega) (by rw [List.length_append]; show 4 * (L.length + 1) ≤ _; omega) (by omega) (x2.trans x3) (P2.ex x3) o5 o4 (by rw [o6, g22])
        · have c3 : (pprt t n (p + 1)).1 = false := by simpa using c2
          simp only [c3, if_false, Bool.false_eq_true, if_true]
          have x4 := x2.trans x3
          exact ⟨0, h3, fin h3 (turn + 1) x4.1 (by omega) (by omega), x4, Or.inr ⟨rfl, rfl, n3 c3⟩⟩
      · rw [if_neg c1, if_neg c1, Option.bind_some]
        simp only [if_true, wd_si, wd_self]
        have x4 : EX SP h (si h1 4 0 2 (nI p)) := EX.si x1 _ _ rfl
        exact ⟨0, _, fin _ (turn + 1) x4.1 (by omega) (by omega), x4, Or.inr ⟨rfl, rfl, by rw [gi_si, if_pos ⟨rfl, rfl, rfl⟩]⟩⟩
    · refine ⟨1, h1, ?_, x1, ?_⟩
      · unfold loopN B_X4_readAll_37
        simp only [nm, u3, wd_dp x1.1, T10, if_false]
        rw [if_neg (show ¬ 100 ≤ nI turn from nI_ge (b := 100) (by omega) (by omega)), P1.2.1, g9, if_pos (nI_le (by omega) (by omega))]
      · unfold paft
        rw [if_neg c0]
        exact Or.inl ⟨rfl, rfl, L1, g2⟩
/-- the class reads the whole text -/
theorem e_readAll {t : Nat → Int32} {n : Nat} {h : HP} (P : PC t n h) (hn : n ≤ 100) : ∃ h', F_X4_readAll 0 h = some (dp h') ∧ EX SP h h' ∧ PL h' (lw t n).2 ∧ gi h' 4 0 2 = (lw t n).1 := by
  have x0 : EX SP h (si (si (si h 4 0 9 0) 4 0 7 0) 4 0 2 (-1)) := EX.si (EX.si (EX.si (EX.rfl' h) _ _ rfl) _ _ rfl) _ _ rfl
  have P0 := P.ex x0
  have g9 : gi (si (si (si h 4 0 9 0) 4 0 7 0) 4 0 2 (-1)) 4 0 9 = nI 0 := by simp only [gi_si, Nat.reduceEqDiff, and_false, if_false, and_self, if_true]; rfl
  have g7 : gi (si (si (si h 4 0 9 0) 4 0 7 0) 4 0 2 (-1)) 4 0 7 = nI 0 := by simp only [gi_si, Nat.reduceEqDiff, and_false, if_false, and_self, if_true]; rfl
  have g2 : gi (si (si (si h 4 0 9 0) 4 0 7 0) 4 0 2 (-1)) 4 0 2 = -1 := by simp only [gi_si, and_self, if_true]
  have hF : F_X4_readAll 0 h = (if gi (si (si (si h 4 0 9 0) 4 0 7 0) 4 0 2 (-1)) 4 0 1 = 0 then J_X4_readAll_34 0 1 (si (si (si h 4 0 9 0) 4 0 7 0) 4 0 2 (-1)) else (F_X4_readPart 0 (si (si (si h 4 0 9 0) 4 0 7 0) 4 0 2 (-1))).bind fun q57 => (if q57.1 = 0 then J_X4_readAll_34 0 0 (wd (si (si (si h 4 0 9 0) 4 0 7 0) 4 0 2 (-1)) q57.2) else J_X4_readAll_34 0 1 (wd (si (si (si h 4 0 9 0) 4 0 7 0) 4 0 2 (-1)) q57.2))) := rfl
  rw [hF]
  clear hF
  generalize si (si (si h 4 0 9 0) 4 0 7 0) 4 0 2 (-1) = h0 at *
  have L0 : PL h0 [] := ⟨g7, fun p x hx => by simp at hx⟩
  -- behind the first part
  have fin : ∀ (w : Int32) (h1 h2 : HP) (q : Int32 × List PT), loopN LF (B_X4_readAll_37 0 h1) (w, 0, dp h1) = some (w, dp h2) ∨ True → True := fun _ _ _ _ _ => trivial
  have last : ∀ (w w' : Int32) (h1 h2 : HP) (q : Int32 × List PT), EX SP h h1 → loopN LF (B_X4_readAll_37 0 h1) (w, 0, dp h1) = some (w', dp h2) → EX SP h1 h2 → EA h2 w' q → ∃ h', J_X4_readAll_34 0 w h1 = some (dp h') ∧ EX SP h h' ∧ PL h' q.2 ∧ gi h' 4 0 2 = q.1 := by
    intro w w' h1 h2 q x1 hl x2 ea
    have hJ : J_X4_readAll_34 0 w h1 = (if w' = 0 then some (dp (si h2 4 0 7 0)) else some (dp h2)) := by
      unfold J_X4_readAll_34
      simp only [nm, u2]
      rw [hl, Option.bind_some]
      simp only [wd_dp x2.1]
    rw [hJ]
    rcases ea with ⟨rfl, a1, a2, a3⟩ | ⟨rfl, a1, a2⟩
    · exact ⟨h2, rfl, x1.trans x2, a2, by rw [a3, a1]⟩
    · refine ⟨si h2 4 0 7 0, rfl, EX.si (x1.trans x2) _ _ rfl, ?_, ?_⟩
      · rw [a1]
        exact ⟨by rw [gi_si, if_pos ⟨rfl, rfl, rfl⟩]; rfl, fun p x hx => by simp at hx⟩
      · rw [gi_si, if_neg (by decide), a2]
  have stop : ∀ (h1 : HP), loopN LF (B_X4_readAll_37 0 h1) (0, 0, dp h1) = some (0, dp h1) := by
    intro h1
    show loopN (999999 + 1) _ _ = _
    unfold loopN B_X4_readAll_37
    simp only [nm, u3, wd_self, if_true]
    rw [if_neg (show ¬ (100 : Int32) ≤ 0 by decide)]
  rw [P0.2.1]
  by_cases c0 : n = 0
  · subst c0
    rw [if_pos (show nI 0 = 0 from rfl)]
    obtain ⟨w, h2, r2, x2, ea⟩ := readAll_loop hn (h := h0) 0 0 0 LF [] h0 (by omega) (by omega) (by omega) (by simp) (by unfold LF; omega) (EX.rfl' h0) P0 L0 g9 g2
    exact last 1 w h0 h2 _ x0 r2 x2 ea
  · rw [if_neg (nI_ne0 (by omega) (by omega))]
    obtain ⟨h1, r1, x1, o1, n1⟩ := e_readPart P0 hn L0 (by simp) (p := 0) (by omega) g9
    rw [r1, Option.bind_some]
    simp only [wd_dp x1.1]
    have hl : lw t n = pall t n 101 0 [] := by unfold lw; rw [if_neg c0]
    rw [hl, pall_s]
    by_cases c1 : (pprt t n 0).1 = true
    · obtain ⟨o2, o3, o4⟩ := o1 c1
      have q := pp_ok c1
      simp only [c1, if_true, T10, if_false]
      obtain ⟨w, h2, r2, x2, ea⟩ := readAll_loop hn (h := h1) 100 (pprt t n 0).2.1 0 LF ([] ++ [(pprt t n 0).2.2]) h1 (by omega) (by omega) (by omega) (by simp; omega) (by unfold LF; omega) (EX.rfl' h1) (P0.ex x1) o3 o2 (by rw [o4, g2])
      exact last 1 w h1 h2 _ (x0.trans x1) r2 x2 ea
    · have c2 : (pprt t n 0).1 = false := by simpa using c1
      simp only [c2, if_false, Bool.false_eq_true, if_true]
      exact last 0 0 h1 h1 (nI (pprt t n 0).2.1, []) (x0.trans x1) (stop h1) (EX.rfl' h1) (Or.inr ⟨rfl, rfl, n1 c2⟩)
