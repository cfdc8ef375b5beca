/-! stage III: the text of the laws is read alike on both sides -/
theorem si_si (h : HP) (k i s : Nat) (a b : Int32) : si (si h k i s a) k i s b = si h k i s b := by
  unfold si up3
  refine Prod.ext ?_ rfl
  funext k1 i1
  by_cases e : k1 = k ∧ i1 = i
  · obtain ⟨rfl, rfl⟩ := e
    simp only [and_self, if_true]
    funext s1
    unfold va_up
    by_cases e2 : s1 = s <;> simp [e2]
  · simp [e]
theorem si_self {h : HP} {k i s : Nat} {v : Int32} (e : gi h k i s = v) : si h k i s v = h := by
  unfold si up3
  refine Prod.ext ?_ rfl
  funext k1 i1
  by_cases e1 : k1 = k ∧ i1 = i
  · obtain ⟨rfl, rfl⟩ := e1
    simp only [and_self, if_true]
    funext s1
    unfold va_up
    by_cases e2 : s1 = s
    · rw [if_pos e2, e2, ← e]; rfl
    · rw [if_neg e2]
  · simp [e1]
/-! places -/
theorem sg_in {t : Nat → Int32} {n p : Nat} (h : p < n) : sg t n p = t p := if_pos h
theorem sg_out {t : Nat → Int32} {n p : Nat} (h : n ≤ p) : sg t n p = -1 := if_neg (by omega)
theorem dg_le (t : Nat → Int32) (n : Nat) : ∀ (k p : Nat) (v : Int32), p ≤ n → p ≤ (dgN t n k p v).1 ∧ (dgN t n k p v).1 ≤ n ∧ (dgN t n k p v).1 ≤ p + k := by
  intro k
  induction k with
  | zero => intro p v h; exact ⟨Nat.le_refl _, h, Nat.le_refl _⟩
  | succ k ih =>
    intro p v h
    unfold dgN
    by_cases c : 48 ≤ sg t n p ∧ sg t n p ≤ 57
    · rw [if_pos c]
      have hp : p < n := by
        rcases Nat.lt_or_ge p n with q | q
        · exact q
        · rw [sg_out q] at c
          exact absurd c.1 (by decide)
      obtain ⟨a, b, d⟩ := ih (p + 1) (10 * v + sg t n p - 48) (by omega)
      omega
    · rw [if_neg c]
      exact ⟨Nat.le_refl _, h, by omega⟩
theorem pn_ok {t : Nat → Int32} {n few most : Nat} {lo hi : Int32} {p : Nat} (hp : p ≤ n) (h : (pnum t n few most lo hi p).1 = true) : p + few ≤ (pnum t n few most lo hi p).2.2 ∧ (pnum t n few most lo hi p).2.2 ≤ n ∧ lo ≤ (pnum t n few most lo hi p).2.1 ∧ (pnum t n few most lo hi p).2.1 ≤ hi := by
  obtain ⟨a, b, c⟩ := dg_le t n most p 0 hp
  unfold pnum at *
  by_cases c1 : p + few ≤ (dgN t n most p 0).1
  · rw [if_pos c1] at *
    by_cases c2 : lo ≤ (dgN t n most p 0).2 ∧ (dgN t n most p 0).2 ≤ hi
    · rw [if_pos c2]
      exact ⟨c1, b, c2.1, c2.2⟩
    · rw [if_neg c2] at h
      cases h
  · rw [if_neg c1] at h
    cases h
theorem pt_ok {t : Nat → Int32} {n : Nat} {c y a : Int32} {p : Nat} (hp : p ≤ n) (h : (ptl t n c y a p).1 = true) : p ≤ (ptl t n c y a p).2.1 ∧ (ptl t n c y a p).2.1 ≤ n ∧ (ptl t n c y a p).2.2.1 = c := by
  unfold ptl at *
  by_cases c1 : sg t n p = 64
  · have hpn : p < n := by
      rcases Nat.lt_or_ge p n with q | q
      · exact q
      · rw [sg_out q] at c1; exact absurd c1 (by decide)
    rw [if_pos c1] at *
    by_cases c2 : (pnum t n 1 3 0 199 (p + 1)).1 = true
    · rw [if_pos c2]
      have := pn_ok (by omega) c2
      dsimp only
      exact ⟨by omega, by omega, rfl⟩
    · rw [if_neg c2] at h
      cases h
  · rw [if_neg c1]
    exact ⟨Nat.le_refl _, hp, rfl⟩
theorem pp_ok {t : Nat → Int32} {n p : Nat} (h : (pprt t n p).1 = true) : p + 3 ≤ (pprt t n p).2.1 ∧ (pprt t n p).2.1 ≤ n := by
  unfold pprt at *
  by_cases c0 : kdS (sg t n p) = -1
  · rw [if_pos c0] at h; cases h
  · rw [if_neg c0] at *
    by_cases c1 : sg t n (p + 1) = 61
    · have hpn : p + 1 < n := by
        rcases Nat.lt_or_ge (p + 1) n with q | q
        · exact q
        · rw [sg_out q] at c1; exact absurd c1 (by decide)
      rw [if_pos c1] at *
      by_cases c2 : kdS (sg t n p) = 3
      · rw [if_pos c2] at *
        unfold pk3 at *
        by_cases c3 : (pnum t n 1 1 0 9 (p + 2)).1 = true
        · rw [if_pos c3] at *
          have q := pn_ok (by omega) c3
          have q2 := pt_ok (by omega) h
          omega
        · rw [if_neg c3] at h; cases h
      · rw [if_neg c2] at *
        unfold pk1 at *
        by_cases c3 : (pnum t n 4 4 1000 1939 (p + 2)).1 = true
        · rw [if_pos c3] at *
          have q := pn_ok (by omega) c3
          by_cases c4 : sg t n (pnum t n 4 4 1000 1939 (p + 2)).2.2 = 44
          · have hq : (pnum t n 4 4 1000 1939 (p + 2)).2.2 < n := by
              rcases Nat.lt_or_ge (pnum t n 4 4 1000 1939 (p + 2)).2.2 n with q | q
              · exact q
              · rw [sg_out q] at c4; exact absurd c4 (by decide)
            rw [if_pos c4] at *
            unfold pk2 at *
            by_cases c5 : (pnum t n 1 4 1 9999 ((pnum t n 4 4 1000 1939 (p + 2)).2.2 + 1)).1 = true
            · rw [if_pos c5] at *
              have q3 := pn_ok (by omega) c5
              have q2 := pt_ok (by omega) h
              omega
            · rw [if_neg c5] at h; cases h
          · rw [if_neg c4] at h; cases h
        · rw [if_neg c3] at h; cases h
    · rw [if_neg c1] at h; cases h
/-! the class -/
def S9 (k s : Nat) : Bool := Nat.beq k 4 && (Nat.beq s 2 || (Nat.beq s 9 || Nat.beq s 10))
def SP (k s : Nat) : Bool := (Nat.beq k 4 && (Nat.beq s 2 || (Nat.beq s 7 || (Nat.beq s 9 || Nat.beq s 10)))) || (Nat.beq k 30 || (Nat.beq k 31 || (Nat.beq k 32 || Nat.beq k 33)))
theorem S9_SP : ∀ k s, SP k s = false → S9 k s = false := by
  intro k s e
  cases hq : S9 k s with
  | false => rfl
  | true =>
    unfold S9 at hq
    simp only [Bool.or_eq_true, Bool.and_eq_true, Nat.beq_eq] at hq
    rcases hq with ⟨rfl, rfl | rfl | rfl⟩ <;> cases e
/-- the class's text -/
def PC (t : Nat → Int32) (n : Nat) (h : HP) : Prop := gR h.2.2 ∧ gi h 4 0 1 = nI n ∧ ∀ i, i < n → gi h 29 0 i = t i
theorem PC.ex {t : Nat → Int32} {n : Nat} {h h' : HP} (P : PC t n h) (e : EX SP h h') : PC t n h' :=
  ⟨by rw [e.1]; exact P.1, by rw [e.2.1 4 0 1 rfl]; exact P.2.1, fun i hi => by rw [e.2.1 29 0 i rfl]; exact P.2.2 i hi⟩
theorem PC.ex9 {t : Nat → Int32} {n : Nat} {h h' : HP} (P : PC t n h) (e : EX S9 h h') : PC t n h' := P.ex (e.mono S9_SP)
theorem e_signAt {t : Nat → Int32} {n : Nat} {h : HP} (P : PC t n h) (hn : n ≤ 100) {p : Nat} (hp : p ≤ 1000) : F_X4_signAt 0 (nI p) h = some (sg t n p) := by
  obtain ⟨G, hl, ht⟩ := P
  unfold F_X4_signAt
  rw [e_from, Option.bind_some, ite_b, hl]
  rcases Nat.lt_or_ge p n with q | q
  · rw [if_pos ⟨nI_pos' (by omega), by rw [L1, pk_sub (by omega)]; exact nI_le (by omega) (by omega)⟩]
    rw [rf_4_0 G, Option.bind_some, ga_v (by omega) (by omega), Option.bind_some, ht p q, sg_in q]
  · rw [if_neg, sg_out q]
    rintro ⟨-, w⟩
    rw [fa_le, nI_toInt (by omega), show nI n - 1 = nI n - nI 1 from rfl, pk_sub_toInt (by omega) (by omega)] at w
    omega
theorem e_failAt (v : Int32) (h : HP) : F_X4_failAt 0 v h = some (0, dp (si h 4 0 2 v)) := rfl
theorem e_readSign {t : Nat → Int32} {n : Nat} {h : HP} (P : PC t n h) (hn : n ≤ 100) {p : Nat} (hp : p ≤ 1000) (h9 : gi h 4 0 9 = nI p) (c : Int32) : F_X4_readSign 0 c h = if sg t n p = c then some (1, dp (si h 4 0 9 (nI (p + 1)))) else some (0, dp (si h 4 0 2 (nI p))) := by
  unfold F_X4_readSign
  simp only [nm, u2, e_failAt, Option.bind_some, wd_si, wd_self]
  rw [h9, e_signAt P hn hp, Option.bind_some, nI_1]
  rfl
theorem readNum_loop {t : Nat → Int32} {n : Nat} {h : HP} (P : PC t n h) (hn : n ≤ 100) (most : Nat) (hm : most ≤ 10) (a1 a3 a4 x1 : Int32) : ∀ (k p fig f : Nat) (v : Int32), fig + k = most → k < f → p ≤ n → loopN f (B_X4_readNumber_12 0 a1 (nI most) a3 a4 x1 h) (v, nI fig, dp (si h 4 0 9 (nI p))) = some ((dgN t n k p v).2, dp (si h 4 0 9 (nI (dgN t n k p v).1))) := by
  intro k
  induction k with
  | zero =>
    intro p fig f v e hf hp
    obtain ⟨f, rfl⟩ : ∃ g, f = g + 1 := ⟨f - 1, by omega⟩
    unfold loopN B_X4_readNumber_12
    simp only [nm, u3, wd_si, wd_self]
    rw [if_pos (nI_le (by omega) (by omega))]
    rfl
  | succ k ih =>
    intro p fig f v e hf hp
    obtain ⟨f, rfl⟩ : ∃ g, f = g + 1 := ⟨f - 1, by omega⟩
    have P' : PC t n (si h 4 0 9 (nI p)) := P.ex9 (EX.si (EX.rfl' h) 0 _ rfl)
    unfold loopN
    have hB : B_X4_readNumber_12 0 a1 (nI most) a3 a4 x1 h (v, nI fig, dp (si h 4 0 9 (nI p))) = if 48 ≤ sg t n p ∧ sg t n p ≤ 57 then some (.inl (10 * v + sg t n p - 48, nI (fig + 1), dp (si h 4 0 9 (nI (p + 1))))) else some (.inr (v, dp (si h 4 0 9 (nI p)))) := by
      unfold B_X4_readNumber_12
      simp only [nm, u3, wd_si, wd_self]
      have h9 : gi (si h 4 0 9 (nI p)) 4 0 9 = nI p := by rw [gi_si, if_pos ⟨rfl, rfl, rfl⟩]
      rw [if_neg (nI_ge (show fig < most by omega) (by omega)), h9, e_signAt P' hn (by omega), Option.bind_some, e_from, Option.bind_some, ite_b]
      simp only [Option.bind_some, si_si, nI_1]
    rw [hB]
    unfold dgN
    by_cases c : 48 ≤ sg t n p ∧ sg t n p ≤ 57
    · rw [if_pos c, if_pos c]
      have hpn : p < n := by
        rcases Nat.lt_or_ge p n with q | q
        · exact q
        · rw [sg_out q] at c; exact absurd c.1 (by decide)
      exact ih (p + 1) (fig + 1) f _ (by omega) (by omega) (by omega)
    · rw [if_neg c, if_neg c]
theorem e_readNumber {t : Nat → Int32} {n : Nat} {h : HP} (P : PC t n h) (hn : n ≤ 100) (few most : Nat) (hf : few ≤ 10) (hm : most ≤ 10) (lo hi : Int32) {p : Nat} (hp : p ≤ n) (h9 : gi h 4 0 9 = nI p) :
    ∃ h', F_X4_readNumber 0 (nI few) (nI most) lo hi h = some (if (pnum t n few most lo hi p).1 = true then 1 else 0, dp h') ∧ EX S9 h h' ∧ ((pnum t n few most lo hi p).1 = true → gi h' 4 0 9 = nI (pnum t n few most lo hi p).2.2 ∧ gi h' 4 0 10 = (pnum t n few most lo hi p).2.1 ∧ gi h' 4 0 2 = gi h 4 0 2) ∧ ((pnum t n few most lo hi p).1 = false → gi h' 4 0 2 = nI (pnum t n few most lo hi p).2.2) := by
  obtain ⟨d1, d2, d3⟩ := dg_le t n most p 0 hp
  have hl := readNum_loop P hn most hm (nI few) lo hi (nI p) most p 0 LF 0 (by omega) (by unfold LF; omega) hp
  rw [si_self h9] at hl
  have hl : loopN LF (B_X4_readNumber_12 0 (nI few) (nI most) lo hi (nI p) h) (0, 0, dp h) = some ((dgN t n most p 0).2, dp (si h 4 0 9 (nI (dgN t n most p 0).1))) := hl
  have run : F_X4_readNumber 0 (nI few) (nI most) lo hi h = (if p + few ≤ (dgN t n most p 0).1 then (if lo ≤ (dgN t n most p 0).2 ∧ (dgN t n most p 0).2 ≤ hi then some (1, dp (si (si h 4 0 9 (nI (dgN t n most p 0).1)) 4 0 10 (dgN t n most p 0).2)) else some (0, dp (si (si h 4 0 9 (nI (dgN t n most p 0).1)) 4 0 2 (nI p)))) else some (0, dp (si (si h 4 0 9 (nI (dgN t n most p 0).1)) 4 0 2 (nI (dgN t n most p 0).1)))) := by
    unfold F_X4_readNumber
    simp only [nm, u2, e_failAt, Option.bind_some, wd_si, wd_osi, wd_self]
    rw [h9, hl, Option.bind_some]
    simp only [wd_si, wd_osi, wd_self, gi_si, and_self, if_true, e_from, Option.bind_some, ite_b]
    rw [pk_sub d1]
    have bz0 : bz 0 = some 0 := rfl
    simp only [bz0, Option.bind_some]
    by_cases c1 : p + few ≤ (dgN t n most p 0).1
    · rw [if_pos (nI_le (by omega) (by omega)), if_pos c1]
    · rw [if_neg (nI_ge (by omega) (by omega)), if_neg c1]
  unfold pnum
  by_cases c1 : p + few ≤ (dgN t n most p 0).1
  · rw [if_pos c1] at *
    by_cases c2 : lo ≤ (dgN t n most p 0).2 ∧ (dgN t n most p 0).2 ≤ hi
    · rw [if_pos c2] at *
      refine ⟨_, run, EX.si (EX.si (EX.rfl' h) _ _ rfl) _ _ rfl, fun _ => ⟨?_, ?_, ?_⟩, fun q => by cases q⟩
      · rw [gi_si, if_neg (by decide), gi_si, if_pos ⟨rfl, rfl, rfl⟩]
      · rw [gi_si, if_pos ⟨rfl, rfl, rfl⟩]
      · rw [gi_si, if_neg (by decide), gi_si, if_neg (by decide)]
    · rw [if_neg c2] at *
      refine ⟨_, run, EX.si (EX.si (EX.rfl' h) _ _ rfl) _ _ rfl, fun q => (by cases q), fun _ => ?_⟩
      rw [gi_si, if_pos ⟨rfl, rfl, rfl⟩]
  · rw [if_neg c1] at *
    refine ⟨_, run, EX.si (EX.si (EX.rfl' h) _ _ rfl) _ _ rfl, fun q => (by cases q), fun _ => ?_⟩
    rw [gi_si, if_pos ⟨rfl, rfl, rfl⟩]
/-- the class's parts -/
def PL (h : HP) (L : List PT) : Prop := gi h 4 0 7 = nI L.length ∧ ∀ p x, L[p]? = some x → gi h 30 0 p = x.1 ∧ gi h 31 0 p = x.2.1 ∧ gi h 32 0 p = x.2.2.1 ∧ gi h 33 0 p = x.2.2.2
theorem PL.ex9 {h h' : HP} {L : List PT} (P : PL h L) (e : EX S9 h h') : PL h' L :=
  ⟨by rw [e.2.1 4 0 7 rfl]; exact P.1, fun p x hx => by rw [e.2.1 30 0 p rfl, e.2.1 31 0 p rfl, e.2.1 32 0 p rfl, e.2.1 33 0 p rfl]; exact P.2 p x hx⟩
theorem e_addPart {t : Nat → Int32} {n : Nat} {h : HP} (P : PC t n h) {L : List PT} (hL : PL h L) (hlen : L.length < 26) (x : PT) : ∃ h', F_X4_addPart 0 x.1 x.2.1 x.2.2.1 x.2.2.2 h = some (dp h') ∧ EX SP h h' ∧ PL h' (L ++ [x]) ∧ gi h' 4 0 9 = gi h 4 0 9 ∧ gi h' 4 0 2 = gi h 4 0 2 := by
  obtain ⟨G, -, -⟩ := P
  refine ⟨si (si (si (si (si h 30 0 L.length x.1) 31 0 L.length x.2.1) 32 0 L.length x.2.2.1) 33 0 L.length x.2.2.2) 4 0 7 (nI (L.length + 1)), ?_, ?_, ⟨?_, fun p y hy => ?_⟩, ?_, ?_⟩
  · unfold F_X4_addPart
    simp only [nm]
    rw [hL.1, rf_4_3 G, Option.bind_some, sa_v (by omega) (by omega), Option.bind_some]
    simp (disch := first | assumption | decide | omega) only [xr_si, rf_4_4 G, rf_4_5 G, rf_4_6 G, gi_si, hL.1, sa_v, Option.bind_some, nI_1, Nat.reduceEqDiff, false_and, if_false]
  · exact EX.si (EX.si (EX.si (EX.si (EX.si (EX.rfl' h) _ _ rfl) _ _ rfl) _ _ rfl) _ _ rfl) _ _ rfl
  · rw [gi_si, if_pos ⟨rfl, rfl, rfl⟩, List.length_append]
    rfl
  · simp only [gi_si, Nat.reduceEqDiff, false_and, if_false, true_and]
    by_cases e : p = L.length
    · subst e
      rw [List.getElem?_append_right (Nat.le_refl _)] at hy
      simp at hy
      subst hy
      simp
    · have hp : p < L.length := by
        rcases Nat.lt_or_ge p L.length with q | q
        · exact q
        · rw [List.getElem?_append_right q] at hy
          have : p - L.length < 1 := (List.getElem?_eq_some_iff.mp hy).1
          omega
      rw [List.getElem?_append_left hp] at hy
      simp only [e, if_false]
      exact hL.2 p y hy
  · simp only [gi_si, Nat.reduceEqDiff, false_and, and_false, if_false]
  · simp only [gi_si, Nat.reduceEqDiff, false_and, and_false, if_false]
/-- how a piece of the reading ends, on the class's side -/
def EC (h h' : HP) (L : List PT) (r : Bool × Nat × PT) : Prop := EX SP h h' ∧ (r.1 = true → gi h' 4 0 9 = nI r.2.1 ∧ PL h' (L ++ [r.2.2]) ∧ gi h' 4 0 2 = gi h 4 0 2) ∧ (r.1 = false → gi h' 4 0 2 = nI r.2.1)
theorem EC.of {h h1 h' : HP} {L : List PT} {r : Bool × Nat × PT} (e : EX SP h h1) (e2 : r.1 = true → gi h1 4 0 2 = gi h 4 0 2) (q : EC h1 h' L r) : EC h h' L r :=
  ⟨e.trans q.1, fun w => ⟨(q.2.1 w).1, (q.2.1 w).2.1, (q.2.1 w).2.2.trans (e2 w)⟩, q.2.2⟩
theorem e_J121 {t : Nat → Int32} {n : Nat} {h : HP} (P : PC t n h) (hn : n ≤ 100) {L : List PT} (hL : PL h L) (hlen : L.length < 26) {p : Nat} (hp : p ≤ n) (h9 : gi h 4 0 9 = nI p) (c y a : Int32) (h10 : gi h 4 0 10 = a) : ∃ h', J_X4_readPart_121 0 c y 1 h = some (if (ptl t n c y a p).1 = true then 1 else 0, dp h') ∧ EC h h' L (ptl t n c y a p) := by
  unfold J_X4_readPart_121 J_X4_readPart_181 ptl
  simp only [nm, u2]
  rw [if_neg (show ¬ (1 : Int32) = 0 by decide), h9, e_signAt P hn (by omega), Option.bind_some, h10]
  by_cases c1 : sg t n p = 64
  · rw [if_pos c1, if_pos c1, nI_1]
    have hpn : p < n := by
      rcases Nat.lt_or_ge p n with q | q
      · exact q
      · rw [sg_out q] at c1; exact absurd c1 (by decide)
    have E1 : EX S9 h (si h 4 0 9 (nI (p + 1))) := EX.si (EX.rfl' h) _ _ rfl
    have f1 : gi (si h 4 0 9 (nI (p + 1))) 4 0 2 = gi h 4 0 2 := by rw [gi_si, if_neg (by decide)]
    obtain ⟨h1, r1, x1, o1, n1⟩ := e_readNumber (P.ex9 E1) hn 1 3 (by omega) (by omega) 0 199 (p := p + 1) (by omega) (by rw [gi_si, if_pos ⟨rfl, rfl, rfl⟩])
    rw [show F_X4_readNumber 0 1 3 0 199 (si h 4 0 9 (nI (p + 1))) = _ from r1, Option.bind_some]
    simp only [wd_dp x1.1]
    by_cases c2 : (pnum t n 1 3 0 199 (p + 1)).1 = true
    · obtain ⟨o2, o3, o4⟩ := o1 c2
      simp only [c2, if_true, T10, if_false, o3]
      have E2 := E1.trans x1
      obtain ⟨h2, r2, x2, L2, p9, p2⟩ := e_addPart (P.ex9 E2) (hL.ex9 E2) hlen (c, y, a, (pnum t n 1 3 0 199 (p + 1)).2.1)
      refine ⟨h2, ?_, ?_, fun _ => ⟨?_, L2, ?_⟩, fun q => by cases q⟩
      · rw [r2, Option.bind_some, wd_dp x2.1]
      · exact (E2.mono S9_SP).trans x2
      · rw [p9, o2]
      · rw [p2, o4, f1]
    · have c3 : (pnum t n 1 3 0 199 (p + 1)).1 = false := by simpa using c2
      simp only [c3, if_false, Bool.false_eq_true, if_true]
      exact ⟨h1, rfl, (E1.trans x1).mono S9_SP, fun q => (by cases q), fun _ => n1 c3⟩
  · rw [if_neg c1, if_neg c1]
    obtain ⟨h2, r2, x2, L2, p9, p2⟩ := e_addPart P hL hlen (c, y, a, 0)
    refine ⟨h2, ?_, x2, fun _ => ⟨?_, L2, ?_⟩, fun q => by cases q⟩
    · rw [r2, Option.bind_some, wd_dp x2.1]
      rfl
    · rw [p9, h9]
    · exact p2
theorem e_readPart {t : Nat → Int32} {n : Nat} {h : HP} (P : PC t n h) (hn : n ≤ 100) {L : List PT} (hL : PL h L) (hlen : L.length < 26) {p : Nat} (hp : p ≤ n) (h9 : gi h 4 0 9 = nI p) : ∃ h', F_X4_readPart 0 h = some (if (pprt t n p).1 = true then 1 else 0, dp h') ∧ EC h h' L (pprt t n p) := by
  have bz0 : bz 0 = some 0 := rfl
  have hk : ∀ c : Int32, F_X4_kindOf c = some (kdS c) := by
    intro c
    unfold F_X4_kindOf kdS
    split
    · rfl
    · rw [e_from, Option.bind_some, ite_b]
      split <;> rfl
  unfold F_X4_readPart pprt
  simp only [nm, u2]
  rw [h9, e_signAt P hn (by omega), Option.bind_some, hk, Option.bind_some]
  by_cases c0 : kdS (sg t n p) = -1
  · rw [if_pos c0, if_pos c0]
    unfold J_X4_readPart_26
    simp only [nm, u2, h9, e_failAt, Option.bind_some, bz0, wd_si, wd_self]
    exact ⟨_, rfl, EX.si (EX.rfl' h) _ _ rfl, fun q => (by cases q), fun _ => by rw [gi_si, if_pos ⟨rfl, rfl, rfl⟩]⟩
  · rw [if_neg c0, if_neg c0]
    have hpn : p < n := by
      rcases Nat.lt_or_ge p n with q | q
      · exact q
      · rw [sg_out q] at c0; exact absurd (by decide) c0
    rw [hL.1, if_pos (show nI L.length < 26 from nI_lt (b := 26) hlen (by omega)), nI_1]
    have E1 : EX S9 h (si h 4 0 9 (nI (p + 1))) := EX.si (EX.rfl' h) _ _ rfl
    have P1 := P.ex9 E1
    have f1 : gi (si h 4 0 9 (nI (p + 1))) 4 0 2 = gi h 4 0 2 := by rw [gi_si, if_neg (by decide)]
    have g1 : gi (si h 4 0 9 (nI (p + 1))) 4 0 9 = nI (p + 1) := by rw [gi_si, if_pos ⟨rfl, rfl, rfl⟩]
    rw [e_readSign P1 hn (by omega) g1]
    by_cases c1 : sg t n (p + 1) = 61
    · rw [if_pos c1, if_pos c1, Option.bind_some]
      simp only [wd_si, wd_osi, wd_self, si_si]
      rw [if_neg (show ¬ (1 : Int32) = 0 by decide)]
      have hpn2 : p + 1 < n := by
        rcases Nat.lt_or_ge (p + 1) n with q | q
        · exact q
        · rw [sg_out q] at c1; exact absurd c1 (by decide)
      have E2 : EX S9 h (si h 4 0 9 (nI (p + 1 + 1))) := EX.si (EX.rfl' h) _ _ rfl
      have P2 := P.ex9 E2
      have L2 := hL.ex9 E2
      have f2 : gi (si h 4 0 9 (nI (p + 1 + 1))) 4 0 2 = gi h 4 0 2 := by rw [gi_si, if_neg (by decide)]
      have g2 : gi (si h 4 0 9 (nI (p + 1 + 1))) 4 0 9 = nI (p + 2) := by rw [gi_si, if_pos ⟨rfl, rfl, rfl⟩]
      generalize si h 4 0 9 (nI (p + 1 + 1)) = h2 at E2 P2 L2 f2 g2
      by_cases c2 : kdS (sg t n p) = 3
      · rw [if_pos c2, if_pos c2, c2]
        unfold J_X4_readPart_94 pk3
        rw [if_pos rfl]
        simp only [nm, u2]
        obtain ⟨h3, r3, x3, o3, n3⟩ := e_readNumber P2 hn 1 1 (by omega) (by omega) 0 9 (p := p + 2) (by omega) g2
        rw [show F_X4_readNumber 0 1 1 0 9 h2 = _ from r3, Option.bind_some]
        simp only [wd_dp x3.1]
        by_cases c3 : (pnum t n 1 1 0 9 (p + 2)).1 = true
        · obtain ⟨o4, o5, o6⟩ := o3 c3
          have q := pn_ok (by omega) c3
          simp only [c3, if_true]
          obtain ⟨h4, r4, x4⟩ := e_J121 (P2.ex9 x3) hn (L2.ex9 x3) hlen (p := (pnum t n 1 1 0 9 (p + 2)).2.2) (by omega) o4 3 0 _ o5
          exact ⟨h4, r4, EC.of ((E2.trans x3).mono S9_SP) (fun _ => by rw [o6, f2]) x4⟩
        · have c4 : (pnum t n 1 1 0 9 (p + 2)).1 = false := by simpa using c3
          simp only [c4, if_false, Bool.false_eq_true]
          unfold J_X4_readPart_121
          simp only [if_true]
          exact ⟨h3, rfl, (E2.trans x3).mono S9_SP, fun q => (by cases q), fun _ => n3 c4⟩
      · rw [if_neg c2, if_neg c2]
        unfold pk1
        obtain ⟨h3, r3, x3, o3, n3⟩ := e_readNumber P2 hn 4 4 (by omega) (by omega) 1000 1939 (p := p + 2) (by omega) g2
        rw [show F_X4_readNumber 0 4 4 1000 1939 h2 = _ from r3, Option.bind_some]
        simp only [wd_dp x3.1, wd_dp (E2.trans x3).1]
        by_cases c3 : (pnum t n 4 4 1000 1939 (p + 2)).1 = true
        · obtain ⟨o4, o5, o6⟩ := o3 c3
          have q := pn_ok (by omega) c3
          simp only [c3, if_true, T10, if_false]
          have P3 := P2.ex9 x3
          have L3 := L2.ex9 x3
          have E3 := E2.trans x3
          rw [e_readSign P3 hn (p := (pnum t n 4 4 1000 1939 (p + 2)).2.2) (by omega) o4]
          by_cases c4 : sg t n (pnum t n 4 4 1000 1939 (p + 2)).2.2 = 44
          · have hq : (pnum t n 4 4 1000 1939 (p + 2)).2.2 < n := by
              rcases Nat.lt_or_ge (pnum t n 4 4 1000 1939 (p + 2)).2.2 n with q | q
              · exact q
              · rw [sg_out q] at c4; exact absurd c4 (by decide)
            rw [if_pos c4, if_pos c4, Option.bind_some]
            simp only [wd_si, wd_self]
            rw [if_neg (show ¬ (1 : Int32) = 0 by decide)]
            have E4 : EX S9 h3 (si h3 4 0 9 (nI ((pnum t n 4 4 1000 1939 (p + 2)).2.2 + 1))) := EX.si (EX.rfl' h3) _ _ rfl
            have g4 : gi (si h3 4 0 9 (nI ((pnum t n 4 4 1000 1939 (p + 2)).2.2 + 1))) 4 0 9 = nI ((pnum t n 4 4 1000 1939 (p + 2)).2.2 + 1) := by rw [gi_si, if_pos ⟨rfl, rfl, rfl⟩]
            have g10 : gi (si h3 4 0 9 (nI ((pnum t n 4 4 1000 1939 (p + 2)).2.2 + 1))) 4 0 10 = (pnum t n 4 4 1000 1939 (p + 2)).2.1 := by rw [gi_si, if_neg (by decide), o5]
            have f4 : gi (si h3 4 0 9 (nI ((pnum t n 4 4 1000 1939 (p + 2)).2.2 + 1))) 4 0 2 = gi h 4 0 2 := by rw [gi_si, if_neg (by decide), o6, f2]
            rw [g10]
            have P4 := P3.ex9 E4
            have L4 := L3.ex9 E4
            have E5 := E3.trans E4
            generalize si h3 4 0 9 (nI ((pnum t n 4 4 1000 1939 (p + 2)).2.2 + 1)) = h4 at E4 g4 g10 f4 P4 L4 E5
            unfold J_X4_readPart_94 pk2
            rw [if_neg c2]
            simp only [nm, u2]
            obtain ⟨h5, r5, x5, o7, n7⟩ := e_readNumber P4 hn 1 4 (by omega) (by omega) 1 9999 (p := (pnum t n 4 4 1000 1939 (p + 2)).2.2 + 1) (by omega) g4
            rw [show F_X4_readNumber 0 1 4 1 9999 h4 = F_X4_readNumber 0 (nI 1) (nI 4) 1 9999 h4 from rfl, r5, Option.bind_some]
            simp only [wd_dp x5.1]
            by_cases c5 : (pnum t n 1 4 1 9999 ((pnum t n 4 4 1000 1939 (p + 2)).2.2 + 1)).1 = true
            · obtain ⟨o8, o9, o10⟩ := o7 c5
              have q3 := pn_ok (by omega) c5
              simp only [c5, if_true]
              obtain ⟨h6, r6, x6⟩ := e_J121 (P4.ex9 x5) hn (L4.ex9 x5) hlen (p := (pnum t n 1 4 1 9999 ((pnum t n 4 4 1000 1939 (p + 2)).2.2 + 1)).2.2) (by omega) o8 (kdS (sg t n p)) (pnum t n 4 4 1000 1939 (p + 2)).2.1 _ o9
              exact ⟨h6, r6, EC.of ((E5.trans x5).mono S9_SP) (fun _ => by rw [o10, f4]) x6⟩
            · have c6 : (pnum t n 1 4 1 9999 ((pnum t n 4 4 1000 1939 (p + 2)).2.2 + 1)).1 = false := by simpa using c5
              simp only [c6, if_false, Bool.false_eq_true]
              unfold J_X4_readPart_121
              simp only [if_true]
              exact ⟨h5, rfl, (E5.trans x5).mono S9_SP, fun q => (by cases q), fun _ => n7 c6⟩
          · rw [if_neg c4, if_neg c4, Option.bind_some]
            simp only [wd_si, wd_self]
            rw [if_pos trivial]
            exact ⟨_, rfl, (E3.trans (EX.si (EX.rfl' h3) _ _ rfl)).mono S9_SP, fun q => (by cases q), fun _ => by rw [gi_si, if_pos ⟨rfl, rfl, rfl⟩]⟩
        · have c4 : (pnum t n 4 4 1000 1939 (p + 2)).1 = false := by simpa using c3
          simp only [c4, if_false, Bool.false_eq_true, if_true]
          exact ⟨h3, rfl, (E2.trans x3).mono S9_SP, fun q => (by cases q), fun _ => n3 c4⟩
    · rw [if_neg c1, if_neg c1, Option.bind_some]
      simp only [wd_si, wd_osi, wd_self, if_true]
      exact ⟨_, rfl, (E1.trans (EX.si (EX.rfl' _) _ _ rfl)).mono S9_SP, fun q => (by cases q), fun _ => by rw [gi_si, if_pos ⟨rfl, rfl, rfl⟩]⟩
