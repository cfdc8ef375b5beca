/-! stage III: sets of bells: sums, what is gathered -/
theorem sumS_0 (f : Nat → Int32) : ∀ n, sumS f 0 n = 0 := by
  intro n
  induction n with
  | zero => rfl
  | succ n ih =>
    show (if (0 : Nat).testBit n = true then sumS f 0 n + f n else sumS f 0 n) = 0
    rw [Nat.zero_testBit, if_neg (by decide), ih]
theorem sumS_s (f : Nat → Int32) (S n : Nat) : sumS f S (n + 1) = if S.testBit n = true then sumS f S n + f n else sumS f S n := rfl
theorem sumS_cong {f g : Nat → Int32} {S : Nat} : ∀ n, (∀ b, b < n → S.testBit b = true → f b = g b) → sumS f S n = sumS g S n := by
  intro n
  induction n with
  | zero => intro _; rfl
  | succ n ih =>
    intro h
    rw [sumS_s, sumS_s, ih (fun b hb => h b (by omega))]
    by_cases c : S.testBit n = true
    · rw [if_pos c, if_pos c, h n (by omega) c]
    · rw [if_neg c, if_neg c]
theorem sumS_up (f : Nat → Int32) {S n : Nat} (h : S < 2 ^ n) : ∀ d, sumS f S (n + d) = sumS f S n := by
  intro d
  induction d with
  | zero => rfl
  | succ d ih =>
    show sumS f S (n + d + 1) = _
    rw [sumS_s, if_neg, ih]
    rw [Nat.testBit_lt_two_pow (Nat.lt_of_lt_of_le h (Nat.pow_le_pow_right (by decide) (by omega)))]
    decide
theorem tb_xor (X b i : Nat) : (X ^^^ 2 ^ b).testBit i = if b = i then !X.testBit i else X.testBit i := by
  rw [Nat.testBit_xor, Nat.testBit_two_pow]
  by_cases c : b = i
  · rw [if_pos c, decide_eq_true c, Bool.xor_true]
  · rw [if_neg c, decide_eq_false c, Bool.xor_false]
theorem sumS_off (f : Nat → Int32) (X b : Nat) : ∀ n, n ≤ b → sumS f (X ^^^ 2 ^ b) n = sumS f X n := by
  intro n
  induction n with
  | zero => intro _; rfl
  | succ n ih =>
    intro h
    rw [sumS_s, sumS_s, ih (by omega), tb_xor, if_neg (show ¬ b = n by omega)]
theorem sumS_flip (f : Nat → Int32) (X b : Nat) : ∀ n, b < n → sumS f (X ^^^ 2 ^ b) n = sumS f X n + (if X.testBit b = true then -f b else f b) := by
  intro n
  induction n with
  | zero => intro h; omega
  | succ n ih =>
    intro h
    rw [sumS_s, sumS_s, tb_xor]
    by_cases c : b = n
    · subst c
      rw [if_pos rfl, sumS_off f X b b (Nat.le_refl _)]
      cases X.testBit b with
      | true =>
        rw [if_neg (by decide), if_pos rfl, if_pos rfl, Int32.add_assoc, Int32.add_right_neg, Int32.add_zero]
      | false =>
        rw [if_pos (show (!false) = true from rfl), if_neg Bool.false_ne_true, if_neg Bool.false_ne_true]
    · rw [if_neg c, ih (by omega)]
      cases X.testBit n with
      | true =>
        rw [if_pos rfl, if_pos rfl, Int32.add_assoc, Int32.add_assoc, Int32.add_comm (f n)]
      | false =>
        rw [if_neg Bool.false_ne_true, if_neg Bool.false_ne_true]
theorem sumS_cn {f : Nat → Int32} {S : Nat} : ∀ n, n ≤ 20 → (∀ b, b < n → S.testBit b = true → cn (f b) 9999) → ∃ A, A ≤ 9999 * n ∧ sumS f S n = nI A := by
  intro n
  induction n with
  | zero => intro _ _; exact ⟨0, by omega, rfl⟩
  | succ n ih =>
    intro hn h
    obtain ⟨A, hA, eA⟩ := ih (by omega) (fun b hb => h b (by omega))
    rw [sumS_s]
    by_cases c : S.testBit n = true
    · obtain ⟨k, hk, ek⟩ := cn_ex (h n (by omega) c)
      rw [if_pos c, eA, ek, nI_add]
      exact ⟨A + k, by omega, rfl⟩
    · rw [if_neg c]
      exact ⟨A, by omega, eA⟩
theorem okB_cong {W T W' T' : Nat → Int32} {w d lo hi : Int32} {S : Nat} (h : ∀ b, b < 20 → S.testBit b = true → W b = W' b ∧ T b = T' b) : okB W T w d lo hi S = okB W' T' w d lo hi S := by
  unfold okB
  rw [sumS_cong (f := W) (g := W') 20 (fun b hb c => (h b hb c).1), sumS_cong (f := fun b => W b * T b) (g := fun b => W' b * T' b) 20 (fun b hb c => by rw [(h b hb c).1, (h b hb c).2])]
theorem sub_bit {z m : Nat} (h : z &&& m = z) {b : Nat} (hz : z.testBit b = true) : m.testBit b = true := by
  rw [← h, Nat.testBit_and, Bool.and_eq_true] at hz
  exact hz.2
theorem bl_cong {W T W' T' : Nat → Int32} {w d lo hi : Int32} {m : Nat} (h : ∀ b, b < 20 → m.testBit b = true → W b = W' b ∧ T b = T' b) : bl W T w d lo hi m = bl W' T' w d lo hi m := by
  unfold bl
  exact List.filter_congr (fun z hz => okB_cong (fun b hb c => h b hb (sub_bit (subm_lt 20 m z hz).2 c)))
theorem bit_lt {m n b : Nat} (hm : m < 2 ^ n) (h : m.testBit b = true) : b < n := by
  by_cases c : b < n
  · exact c
  · rw [Nat.testBit_lt_two_pow (Nat.lt_of_lt_of_le hm (Nat.pow_le_pow_right (by decide) (by omega)))] at h
    cases h
/-! what is gathered is what the lists say -/
def stp (ok : Nat → Bool) (s : GA) (x : Nat) : GA := if ok x = true then gat s x else s
theorem gall_filter (ok : Nat → Bool) (l : List Nat) : gall (l.filter ok) = l.foldl (stp ok) (0, 0, 0, 0) := List.foldl_filter
theorem and_fold : ∀ (l : List Nat) (a b : Nat), l.foldl (fun x y => x &&& y) (a &&& b) = a &&& l.foldl (fun x y => x &&& y) b := by
  intro l
  induction l with
  | nil => intro a b; rfl
  | cons x l ih =>
    intro a b
    show l.foldl _ (a &&& b &&& x) = a &&& l.foldl _ (b &&& x)
    rw [Nat.and_assoc, ih]
theorem andL_fold : ∀ (l : List Nat) (a : Nat), andL (a :: l) = l.foldl (fun x y => x &&& y) a := by
  intro l
  induction l with
  | nil => intro a; rfl
  | cons x l ih =>
    intro a
    show a &&& andL (x :: l) = l.foldl _ (a &&& x)
    rw [ih, and_fold]
theorem or_fold : ∀ (l : List Nat) (a : Nat), l.foldl (fun x y => x ||| y) a = a ||| orL l := by
  intro l
  induction l with
  | nil => intro a; show a = a ||| 0; rw [Nat.or_zero]
  | cons x l ih =>
    intro a
    show l.foldl _ (a ||| x) = a ||| (x ||| orL l)
    rw [ih, Nat.or_assoc]
theorem gat_fold : ∀ (l : List Nat) (n L A O : Nat), (∀ x, x ∈ l → L ≤ x) → l.foldl gat (n + 1, L, A, O) = (n + 1 + l.length, L, l.foldl (fun x y => x &&& y) A, l.foldl (fun x y => x ||| y) O) := by
  intro l
  induction l with
  | nil => intro n L A O _; rfl
  | cons x l ih =>
    intro n L A O h
    show l.foldl gat (gat (n + 1, L, A, O) x) = _
    have hx : L ≤ x := h x List.mem_cons_self
    have e : gat (n + 1, L, A, O) x = (n + 1 + 1, L, A &&& x, O ||| x) := by
      unfold gat
      simp only [show ((n + 1 = 0) = False) by simp, if_false, show ((x < L) = False) by simp only [eq_iff_iff, iff_false]; omega]
    rw [e, ih _ _ _ _ (fun y hy => h y (List.mem_cons_of_mem _ hy))]
    show (n + 1 + 1 + l.length, _) = (n + 1 + (l.length + 1), _)
    rw [show n + 1 + 1 + l.length = n + 1 + (l.length + 1) by omega]
    rfl
theorem gall_spec {l : List Nat} (h : l.Pairwise (· < ·)) : gall l = (l.length, (l.head?).getD 0, andL l, orL l) := by
  cases l with
  | nil => rfl
  | cons x l =>
    rw [List.pairwise_cons] at h
    show l.foldl gat (gat (0, 0, 0, 0) x) = _
    have e : gat (0, 0, 0, 0) x = (0 + 1, x, x, 0 ||| x) := rfl
    rw [e, gat_fold _ _ _ _ _ (fun y hy => Nat.le_of_lt (h.1 y hy)), andL_fold, or_fold, Nat.zero_or]
    show (0 + 1 + l.length, x, _, _) = (l.length + 1, x, _, _)
    rw [show 0 + 1 + l.length = l.length + 1 by omega]
    rfl
theorem bl_asc (W T : Nat → Int32) (w d lo hi : Int32) (m : Nat) : (bl W T w d lo hi m).Pairwise (· < ·) := by
  unfold bl
  rw [subm_range]
  exact (List.pairwise_lt_range.filter _).filter _
theorem hdI_c (l : List Nat) : hdI l = if l.length = 0 then -1 else nI ((l.head?).getD 0) := by
  cases l with
  | nil => rfl
  | cons x l => rfl
theorem apI_n (a b : Nat) (ha : a < 1000000000) (hb : b < 1000000000) : apI (nI a) (nI b) = nI (apN a b) := by
  unfold apI apN
  by_cases c : b ≤ a
  · rw [if_pos (nI_le c (by omega)), if_pos c, pk_sub c]
  · rw [if_neg (nI_ge (by omega) (by omega)), if_neg c, pk_sub (by omega)]
/-! the class's batch -/
def EO (o : Nat) (h h' : HP) : Prop := h'.2.2 = h.2.2 ∧ (∀ k i s, ¬ (k = 0 ∧ i = o ∧ 4 ≤ s) → gi h' k i s = gi h k i s) ∧ gl h' = gl h
theorem EO.r (o : Nat) (h : HP) : EO o h h := ⟨rfl, fun _ _ _ _ => rfl, rfl⟩
theorem EO.t {o : Nat} {h h1 h2 : HP} (a : EO o h h1) (b : EO o h1 h2) : EO o h h2 := ⟨b.1.trans a.1, fun k i s e => (b.2.1 k i s e).trans (a.2.1 k i s e), b.2.2.trans a.2.2⟩
theorem EO.si {o : Nat} {h h1 : HP} (a : EO o h h1) {s : Nat} (hs : 4 ≤ s) (v : Int32) : EO o h (si h1 0 o s v) := by
  refine ⟨a.1, fun k i s1 e => ?_, a.2.2⟩
  rw [gi_si, if_neg]
  · exact a.2.1 k i s1 e
  · rintro ⟨rfl, rfl, rfl⟩
    exact e ⟨rfl, rfl, hs⟩
def KR (h : HP) (o : Nat) (s : GA) : Prop := (gi h 0 o 4 = nI s.1 ∧ gi h 0 o 5 = (if s.1 = 0 then -1 else nI s.2.1) ∧ gi h 0 o 6 = nI s.2.2.1 ∧ gi h 0 o 7 = nI s.2.2.2) ∧ s.1 < 1000000 ∧ s.2.1 < 1048576
theorem e_consider {h : HP} {o : Nat} {s : GA} {W T : Nat → Int32} {x A B : Nat} {lo hi d : Int32} (hB : B < 1000000000) (hA : A < 1000000000) (eW : sumS W x 20 = nI A) (K : KR h o s) (g0 : gi h 0 o 0 = nI B) (g1 : gi h 0 o 1 = d) (g2 : gi h 0 o 2 = lo) (g3 : gi h 0 o 3 = hi) (hx : x < 1048576) (hs : s.1 < 999999) :
    ∃ h', F_X0_consider o (nI x) (sumS W x 20) (sumS (fun b => W b * T b) x 20) h = some (dp h') ∧ EO o h h' ∧ KR h' o (stp (okB W T (nI B) d lo hi) s x) := by
  obtain ⟨⟨k4, k5, k6, k7⟩, kb, kl⟩ := K
  unfold F_X0_consider
  rw [g0, eW, e_abs_sub hA hB, Option.bind_some, g1, g2, g3]
  have ok : okB W T (nI B) d lo hi x = (decide (nI (apN A B) ≤ d) && decide (lo * nI A ≤ sumS (fun b => W b * T b) x 20) && decide (sumS (fun b => W b * T b) x 20 ≤ hi * nI A)) := by
    unfold okB
    rw [eW, apI_n A B hA hB]
  by_cases c1 : nI (apN A B) ≤ d
  · rw [if_pos c1]
    by_cases c2 : sumS (fun b => W b * T b) x 20 < lo * nI A
    · rw [if_pos c2]
      refine ⟨h, rfl, EO.r o h, ?_⟩
      have e : okB W T (nI B) d lo hi x = false := by rw [ok, decide_eq_false (fun q => (fa_of_lt c2).2.1 q), Bool.and_false, Bool.false_and]
      unfold stp
      rw [e, if_neg (by decide)]
      exact ⟨⟨k4, k5, k6, k7⟩, kb, kl⟩
    · rw [if_neg c2]
      by_cases c3 : sumS (fun b => W b * T b) x 20 ≤ hi * nI A
      · rw [if_pos c3]
        have e : okB W T (nI B) d lo hi x = true := by rw [ok, decide_eq_true c1, decide_eq_true (fa_of_nlt c2), decide_eq_true c3]; rfl
        unfold stp
        rw [if_pos e]
        have j89 : ∀ (v : Int32) (H : HP), J_X0_consider_89 o v o H = some (dp (si (si H 0 o 5 v) 0 o 4 (gi H 0 o 4 + 1))) := by
          intro v H
          unfold J_X0_consider_89
          simp only [nm]
          rw [gi_si, if_neg (by omega)]
        have j56 : ∀ v : Int32, J_X0_consider_56 o (nI x) v o h = some (dp (si (si (si (si h 0 o 6 v) 0 o 7 (nI s.2.2.2 ||| nI x)) 0 o 5 (if s.1 = 0 then nI x else nI (if x < s.2.1 then x else s.2.1))) 0 o 4 (nI (s.1 + 1)))) := by
          intro v
          have q4 : gi (si (si h 0 o 6 v) 0 o 7 (nI s.2.2.2 ||| nI x)) 0 o 4 = nI s.1 := by rw [gi_si, if_neg (by omega), gi_si, if_neg (by omega), k4]
          have q5 : gi (si (si h 0 o 6 v) 0 o 7 (nI s.2.2.2 ||| nI x)) 0 o 5 = (if s.1 = 0 then -1 else nI s.2.1) := by rw [gi_si, if_neg (by omega), gi_si, if_neg (by omega), k5]
          have q7 : gi (si h 0 o 6 v) 0 o 7 = nI s.2.2.2 := by rw [gi_si, if_neg (by omega), k7]
          unfold J_X0_consider_56
          simp only [nm, q7, q4, q5]
          by_cases c : s.1 = 0
          · rw [if_pos (show nI s.1 = 0 by rw [c]; rfl), j89, q4, nI_1, if_pos c]
          · rw [if_neg (nI_ne0 (n := s.1) (by omega) (by omega)), if_neg c, e_min s.2.1 x (by omega) (by omega), Option.bind_some, j89, q4, nI_1, if_neg c]
        have fin : ∀ v : Int32, v = nI (if s.1 = 0 then x else s.2.2.1 &&& x) → ∃ h', J_X0_consider_56 o (nI x) v o h = some (dp h') ∧ EO o h h' ∧ KR h' o (gat s x) := by
          intro v ev
          refine ⟨_, j56 v, ((((EO.r o h).si (by omega) _).si (by omega) _).si (by omega) _).si (by omega) _, ⟨?_, ?_, ?_, ?_⟩, ?_, ?_⟩
          · rw [gi_si, if_pos ⟨rfl, rfl, rfl⟩]
            rfl
          · rw [gi_si, if_neg (by omega), gi_si, if_pos ⟨rfl, rfl, rfl⟩]
            show _ = if s.1 + 1 = 0 then -1 else nI (if s.1 = 0 then x else if x < s.2.1 then x else s.2.1)
            rw [if_neg (show ¬ s.1 + 1 = 0 by omega)]
            by_cases c : s.1 = 0
            · rw [if_pos c, if_pos c]
            · rw [if_neg c, if_neg c]
          · rw [gi_si, if_neg (by omega), gi_si, if_neg (by omega), gi_si, if_neg (by omega), gi_si, if_pos ⟨rfl, rfl, rfl⟩, ev]
            rfl
          · rw [gi_si, if_neg (by omega), gi_si, if_neg (by omega), gi_si, if_pos ⟨rfl, rfl, rfl⟩, fa_or]
            rfl
          · show s.1 + 1 < 1000000
            omega
          · show (if s.1 = 0 then x else if x < s.2.1 then x else s.2.1) < 1048576
            split
            · exact hx
            · split <;> omega
        by_cases c : s.1 = 0
        · rw [k4, if_pos (show nI s.1 = 0 by rw [c]; rfl)]
          exact fin _ (by rw [if_pos c])
        · rw [k4, if_neg (nI_ne0 (n := s.1) (by omega) (by omega)), k6]
          exact fin _ (by rw [if_neg c, fa_and])
      · rw [if_neg c3]
        refine ⟨h, rfl, EO.r o h, ?_⟩
        have e : okB W T (nI B) d lo hi x = false := by rw [ok, decide_eq_false c3, Bool.and_false]
        unfold stp
        rw [e, if_neg (by decide)]
        exact ⟨⟨k4, k5, k6, k7⟩, kb, kl⟩
  · rw [if_neg c1]
    refine ⟨h, rfl, EO.r o h, ?_⟩
    have e : okB W T (nI B) d lo hi x = false := by rw [ok, decide_eq_false c1, Bool.false_and, Bool.false_and]
    unfold stp
    rw [e, if_neg (by decide)]
    exact ⟨⟨k4, k5, k6, k7⟩, kb, kl⟩
