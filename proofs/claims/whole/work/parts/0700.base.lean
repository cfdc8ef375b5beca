/-! stage III, base: loops, rows, tests, heaps that agree -/
theorem loop_go {σ ρ : Type} {B : σ → Option (σ ⊕ ρ)} (st : Nat → σ) {r : ρ} {n : Nat} (hs : ∀ i, i < n → B (st i) = some (.inl (st (i + 1)))) (he : B (st n) = some (.inr r)) : ∀ (k i f : Nat), i + k = n → k < f → loopN f B (st i) = some r := by
  intro k
  induction k with
  | zero =>
    intro i f e hf
    obtain ⟨f, rfl⟩ : ∃ g, f = g + 1 := ⟨f - 1, by omega⟩
    have : i = n := by omega
    subst this
    unfold loopN
    rw [he]
  | succ k ih =>
    intro i f e hf
    obtain ⟨f, rfl⟩ : ∃ g, f = g + 1 := ⟨f - 1, by omega⟩
    unfold loopN
    rw [hs i (by omega)]
    exact ih (i + 1) f (by omega) (by omega)
/-- a loop whose states are told: it goes through n of them and ends -/
theorem loopS {σ ρ : Type} {B : σ → Option (σ ⊕ ρ)} (st : Nat → σ) {r : ρ} (n : Nat) (hn : n < 1000000) (hs : ∀ i, i < n → B (st i) = some (.inl (st (i + 1)))) (he : B (st n) = some (.inr r)) : loopN LF B (st 0) = some r :=
  loop_go st hs he n 0 LF (by omega) (by unfold LF; omega)
theorem loop_dgo {σ ρ : Type} {B : σ → Option (σ ⊕ ρ)} (st : Nat → σ) (rs : Nat → ρ) (n : Nat) (hs : ∀ k, k < n → (B (st (k + 1)) = some (.inl (st k)) ∧ rs (k + 1) = rs k) ∨ B (st (k + 1)) = some (.inr (rs (k + 1)))) (he : B (st 0) = some (.inr (rs 0))) : ∀ (k f : Nat), k ≤ n → k < f → loopN f B (st k) = some (rs k) := by
  intro k
  induction k with
  | zero =>
    intro f _ hf
    obtain ⟨f, rfl⟩ : ∃ g, f = g + 1 := ⟨f - 1, by omega⟩
    unfold loopN
    rw [he]
  | succ k ih =>
    intro f hk hf
    obtain ⟨f, rfl⟩ : ∃ g, f = g + 1 := ⟨f - 1, by omega⟩
    unfold loopN
    rcases hs k (by omega) with ⟨h1, h2⟩ | h1
    · rw [h1, h2]
      exact ih f (by omega) (by omega)
    · rw [h1]
/-- a loop with k turns left at most: 'rs k' is what it answers from there -/
theorem loopD {σ ρ : Type} {B : σ → Option (σ ⊕ ρ)} (st : Nat → σ) (rs : Nat → ρ) (n : Nat) (hn : n < 1000000) (hs : ∀ k, k < n → (B (st (k + 1)) = some (.inl (st k)) ∧ rs (k + 1) = rs k) ∨ B (st (k + 1)) = some (.inr (rs (k + 1)))) (he : B (st 0) = some (.inr (rs 0))) : loopN LF B (st n) = some (rs n) :=
  loop_dgo st rs n hs he n LF (Nat.le_refl n) (by unfold LF; omega)
theorem loop_igo {σ ρ : Type} {B : σ → Option (σ ⊕ ρ)} (I : Nat → σ → Prop) (P : ρ → Prop) (n : Nat) (hs : ∀ i s, i ≤ n → I i s → (∃ s', i < n ∧ B s = some (.inl s') ∧ I (i + 1) s') ∨ (∃ r, B s = some (.inr r) ∧ P r)) : ∀ (k i f : Nat) (s : σ), i + k = n → k < f → I i s → ∃ r, loopN f B s = some r ∧ P r := by
  intro k
  induction k with
  | zero =>
    intro i f s e hf hI
    obtain ⟨f, rfl⟩ : ∃ g, f = g + 1 := ⟨f - 1, by omega⟩
    rcases hs i s (by omega) hI with ⟨s', h0, -⟩ | ⟨r, h1, h2⟩
    · omega
    · refine ⟨r, ?_, h2⟩
      unfold loopN
      rw [h1]
  | succ k ih =>
    intro i f s e hf hI
    obtain ⟨f, rfl⟩ : ∃ g, f = g + 1 := ⟨f - 1, by omega⟩
    rcases hs i s (by omega) hI with ⟨s', h0, h1, h2⟩ | ⟨r, h1, h2⟩
    · obtain ⟨r, h3, h4⟩ := ih (i + 1) f s' (by omega) (by omega) h2
      refine ⟨r, ?_, h4⟩
      unfold loopN
      rw [h1]
      exact h3
    · refine ⟨r, ?_, h2⟩
      unfold loopN
      rw [h1]
/-- a loop by an invariant: at most n turns -/
theorem loopI {σ ρ : Type} {B : σ → Option (σ ⊕ ρ)} (I : Nat → σ → Prop) (P : ρ → Prop) (n : Nat) (hn : n < 1000000) {s0 : σ} (h0 : I 0 s0) (hs : ∀ i s, i ≤ n → I i s → (∃ s', i < n ∧ B s = some (.inl s') ∧ I (i + 1) s') ∨ (∃ r, B s = some (.inr r) ∧ P r)) : ∃ r, loopN LF B s0 = some r ∧ P r :=
  loop_igo I P n hs n 0 LF s0 (by omega) (by unfold LF; omega) h0
/-! rows at numbers -/
theorem ib_v {m n : Nat} (hm : m < n) (hn : n < 2147483648) : ib (nI m) n = true := by
  unfold ib
  exact decide_eq_true (nI_in hm hn)
theorem ga_v {h : HP} {k i n m : Nat} (hm : m < n) (hn : n < 2147483648) : ga h k i n (nI m) = some (gi h k i m) := by
  unfold ga
  rw [if_pos (ib_v hm hn), nI_clamp (by omega)]
theorem gal_v {h : HP} {k i n m : Nat} (hm : m < n) (hn : n < 2147483648) : gal h k i n (nI m) = some (gl h k i m) := by
  unfold gal
  rw [if_pos (ib_v hm hn), nI_clamp (by omega)]
theorem gar_v {h : HP} {k i n m : Nat} (hm : m < n) (hn : n < 2147483648) : gar h k i n (nI m) = gr h k i m := by
  unfold gar
  rw [if_pos (ib_v hm hn), nI_clamp (by omega)]
theorem sa_v {h : HP} {k i n m : Nat} {v : Int32} (hm : m < n) (hn : n < 2147483648) : sa h k i n (nI m) v = some (si h k i m v) := by
  unfold sa
  rw [if_pos (ib_v hm hn), nI_clamp (by omega)]
theorem sal_v {h : HP} {k i n m : Nat} {v : Int64} (hm : m < n) (hn : n < 2147483648) : sal h k i n (nI m) v = some (sL h k i m v) := by
  unfold sal
  rw [if_pos (ib_v hm hn), nI_clamp (by omega)]
theorem sar_v {h : HP} {k i n m o : Nat} (hm : m < n) (hn : n < 2147483648) : sar h k i n (nI m) o = some (sr h k i m (some o)) := by
  unfold sar
  rw [if_pos (ib_v hm hn), nI_clamp (by omega)]
theorem fg_v {m : Nat} (hm : m < 8) : fg (nI m) = some (FIG m) := by
  unfold fg
  rw [if_pos (ib_v hm (by omega)), nI_clamp (by omega)]
/-! tests that answer 0 or 1 -/
theorem e_from (a l u : Int32) : F_X11_isFrom a l u = some (if l ≤ a ∧ a ≤ u then 1 else 0) := by
  unfold F_X11_isFrom
  by_cases h1 : a < l
  · rw [if_pos h1, if_neg (fun h => (fa_of_lt h1).2.1 h.1)]
  · rw [if_neg h1]
    by_cases h2 : u < a
    · rw [if_pos h2, if_neg (fun h => (fa_of_lt h2).2.1 h.2)]
    · rw [if_neg h2, if_pos ⟨fa_of_nlt h1, fa_of_nlt h2⟩]
theorem e_inL (a l u : Int64) : F_X12_in a l u = some (if l ≤ a ∧ a ≤ u then 1 else 0) := by
  unfold F_X12_in
  simp only [lg_cmp_lt, lg_cmp_gt]
  by_cases h1 : a < l
  · rw [if_pos h1, if_neg (fun h => by have := h.1; rw [fa_le64] at this; rw [fa_lt64] at h1; omega)]
  · rw [if_neg h1]
    by_cases h2 : u < a
    · rw [if_pos h2, if_neg (fun h => by have := h.2; rw [fa_le64] at this; rw [fa_lt64] at h2; omega)]
    · rw [if_neg h2, if_pos]
      rw [fa_lt64] at h1 h2
      rw [fa_le64, fa_le64]
      omega
theorem e_inI (a l u : Int32) : F_X12_in a.toInt64 l.toInt64 u.toInt64 = some (if l ≤ a ∧ a ≤ u then 1 else 0) := by
  rw [e_inL]
  simp only [fa_wide_le]
theorem e_in_0_3 (a : Int32) : F_X12_in a.toInt64 (0) (3) = some (if (0) ≤ a ∧ a ≤ (3) then 1 else 0) := by
  have h1 : ((0) : Int32).toInt64 = (0) := by decide
  have h2 : ((3) : Int32).toInt64 = (3) := by decide
  have := e_inI a (0) (3)
  rw [h1, h2] at this
  exact this
theorem e_in_0_2 (a : Int32) : F_X12_in a.toInt64 (0) (2) = some (if (0) ≤ a ∧ a ≤ (2) then 1 else 0) := by
  have h1 : ((0) : Int32).toInt64 = (0) := by decide
  have h2 : ((2) : Int32).toInt64 = (2) := by decide
  have := e_inI a (0) (2)
  rw [h1, h2] at this
  exact this
theorem e_in_1_100 (a : Int32) : F_X12_in a.toInt64 (1) (100) = some (if (1) ≤ a ∧ a ≤ (100) then 1 else 0) := by
  have h1 : ((1) : Int32).toInt64 = (1) := by decide
  have h2 : ((100) : Int32).toInt64 = (100) := by decide
  have := e_inI a (1) (100)
  rw [h1, h2] at this
  exact this
theorem e_in_1_9999 (a : Int32) : F_X12_in a.toInt64 (1) (9999) = some (if (1) ≤ a ∧ a ≤ (9999) then 1 else 0) := by
  have h1 : ((1) : Int32).toInt64 = (1) := by decide
  have h2 : ((9999) : Int32).toInt64 = (9999) := by decide
  have := e_inI a (1) (9999)
  rw [h1, h2] at this
  exact this
theorem e_in_1000_1939 (a : Int32) : F_X12_in a.toInt64 (1000) (1939) = some (if (1000) ≤ a ∧ a ≤ (1939) then 1 else 0) := by
  have h1 : ((1000) : Int32).toInt64 = (1000) := by decide
  have h2 : ((1939) : Int32).toInt64 = (1939) := by decide
  have := e_inI a (1000) (1939)
  rw [h1, h2] at this
  exact this
theorem e_in_0_30 (a : Int32) : F_X12_in a.toInt64 (0) (30) = some (if (0) ≤ a ∧ a ≤ (30) then 1 else 0) := by
  have h1 : ((0) : Int32).toInt64 = (0) := by decide
  have h2 : ((30) : Int32).toInt64 = (30) := by decide
  have := e_inI a (0) (30)
  rw [h1, h2] at this
  exact this
theorem e_in_0_4 (a : Int32) : F_X12_in a.toInt64 (0) (4) = some (if (0) ≤ a ∧ a ≤ (4) then 1 else 0) := by
  have h1 : ((0) : Int32).toInt64 = (0) := by decide
  have h2 : ((4) : Int32).toInt64 = (4) := by decide
  have := e_inI a (0) (4)
  rw [h1, h2] at this
  exact this
theorem e_in_m1_9999 (a : Int32) : F_X12_in a.toInt64 (-1) (9999) = some (if (-1) ≤ a ∧ a ≤ (9999) then 1 else 0) := by
  have h1 : ((-1) : Int32).toInt64 = (-1) := by decide
  have h2 : ((9999) : Int32).toInt64 = (9999) := by decide
  have := e_inI a (-1) (9999)
  rw [h1, h2] at this
  exact this
theorem e_in_0_5 (a : Int32) : F_X12_in a.toInt64 (0) (5) = some (if (0) ≤ a ∧ a ≤ (5) then 1 else 0) := by
  have h1 : ((0) : Int32).toInt64 = (0) := by decide
  have h2 : ((5) : Int32).toInt64 = (5) := by decide
  have := e_inI a (0) (5)
  rw [h1, h2] at this
  exact this
theorem e_in_0_255 (a : Int32) : F_X12_in a.toInt64 (0) (255) = some (if (0) ≤ a ∧ a ≤ (255) then 1 else 0) := by
  have h1 : ((0) : Int32).toInt64 = (0) := by decide
  have h2 : ((255) : Int32).toInt64 = (255) := by decide
  have := e_inI a (0) (255)
  rw [h1, h2] at this
  exact this
theorem e_in_48_57 (a : Int32) : F_X12_in a.toInt64 (48) (57) = some (if (48) ≤ a ∧ a ≤ (57) then 1 else 0) := by
  have h1 : ((48) : Int32).toInt64 = (48) := by decide
  have h2 : ((57) : Int32).toInt64 = (57) := by decide
  have := e_inI a (48) (57)
  rw [h1, h2] at this
  exact this
theorem e_in_0_199 (a : Int32) : F_X12_in a.toInt64 (0) (199) = some (if (0) ≤ a ∧ a ≤ (199) then 1 else 0) := by
  have h1 : ((0) : Int32).toInt64 = (0) := by decide
  have h2 : ((199) : Int32).toInt64 = (199) := by decide
  have := e_inI a (0) (199)
  rw [h1, h2] at this
  exact this
theorem e_in_m1_3 (a : Int32) : F_X12_in a.toInt64 (-1) (3) = some (if (-1) ≤ a ∧ a ≤ (3) then 1 else 0) := by
  have h1 : ((-1) : Int32).toInt64 = (-1) := by decide
  have h2 : ((3) : Int32).toInt64 = (3) := by decide
  have := e_inI a (-1) (3)
  rw [h1, h2] at this
  exact this
theorem e_in_0_9999 (a : Int32) : F_X12_in a.toInt64 (0) (9999) = some (if (0) ≤ a ∧ a ≤ (9999) then 1 else 0) := by
  have h1 : ((0) : Int32).toInt64 = (0) := by decide
  have h2 : ((9999) : Int32).toInt64 = (9999) := by decide
  have := e_inI a (0) (9999)
  rw [h1, h2] at this
  exact this
theorem e_in_0_99 (a : Int32) : F_X12_in a.toInt64 (0) (99) = some (if (0) ≤ a ∧ a ≤ (99) then 1 else 0) := by
  have h1 : ((0) : Int32).toInt64 = (0) := by decide
  have h2 : ((99) : Int32).toInt64 = (99) := by decide
  have := e_inI a (0) (99)
  rw [h1, h2] at this
  exact this
theorem e_in_0_999 (a : Int32) : F_X12_in a.toInt64 (0) (999) = some (if (0) ≤ a ∧ a ≤ (999) then 1 else 0) := by
  have h1 : ((0) : Int32).toInt64 = (0) := by decide
  have h2 : ((999) : Int32).toInt64 = (999) := by decide
  have := e_inI a (0) (999)
  rw [h1, h2] at this
  exact this
theorem e_in_0_1 (a : Int32) : F_X12_in a.toInt64 (0) (1) = some (if (0) ≤ a ∧ a ≤ (1) then 1 else 0) := by
  have h1 : ((0) : Int32).toInt64 = (0) := by decide
  have h2 : ((1) : Int32).toInt64 = (1) := by decide
  have := e_inI a (0) (1)
  rw [h1, h2] at this
  exact this
theorem e_in_0_9 (a : Int32) : F_X12_in a.toInt64 (0) (9) = some (if (0) ≤ a ∧ a ≤ (9) then 1 else 0) := by
  have h1 : ((0) : Int32).toInt64 = (0) := by decide
  have h2 : ((9) : Int32).toInt64 = (9) := by decide
  have := e_inI a (0) (9)
  rw [h1, h2] at this
  exact this
theorem e_in_0_100 (a : Int32) : F_X12_in a.toInt64 (0) (100) = some (if (0) ≤ a ∧ a ≤ (100) then 1 else 0) := by
  have h1 : ((0) : Int32).toInt64 = (0) := by decide
  have h2 : ((100) : Int32).toInt64 = (100) := by decide
  have := e_inI a (0) (100)
  rw [h1, h2] at this
  exact this
theorem e_in_0_99999 (a : Int32) : F_X12_in a.toInt64 (0) (99999) = some (if (0) ≤ a ∧ a ≤ (99999) then 1 else 0) := by
  have h1 : ((0) : Int32).toInt64 = (0) := by decide
  have h2 : ((99999) : Int32).toInt64 = (99999) := by decide
  have := e_inI a (0) (99999)
  rw [h1, h2] at this
  exact this
theorem e_in_1_12 (a : Int32) : F_X12_in a.toInt64 (1) (12) = some (if (1) ≤ a ∧ a ≤ (12) then 1 else 0) := by
  have h1 : ((1) : Int32).toInt64 = (1) := by decide
  have h2 : ((12) : Int32).toInt64 = (12) := by decide
  have := e_inI a (1) (12)
  rw [h1, h2] at this
  exact this
theorem e_in_0_49 (a : Int32) : F_X12_in a.toInt64 (0) (49) = some (if (0) ≤ a ∧ a ≤ (49) then 1 else 0) := by
  have h1 : ((0) : Int32).toInt64 = (0) := by decide
  have h2 : ((49) : Int32).toInt64 = (49) := by decide
  have := e_inI a (0) (49)
  rw [h1, h2] at this
  exact this
theorem e_in_0_4095 (a : Int32) : F_X12_in a.toInt64 (0) (4095) = some (if (0) ≤ a ∧ a ≤ (4095) then 1 else 0) := by
  have h1 : ((0) : Int32).toInt64 = (0) := by decide
  have h2 : ((4095) : Int32).toInt64 = (4095) := by decide
  have := e_inI a (0) (4095)
  rw [h1, h2] at this
  exact this
theorem e_in_1_99 (a : Int32) : F_X12_in a.toInt64 (1) (99) = some (if (1) ≤ a ∧ a ≤ (99) then 1 else 0) := by
  have h1 : ((1) : Int32).toInt64 = (1) := by decide
  have h2 : ((99) : Int32).toInt64 = (99) := by decide
  have := e_inI a (1) (99)
  rw [h1, h2] at this
  exact this
theorem e_in_0_x (a b : Int32) : F_X12_in a.toInt64 (0) b.toInt64 = some (if (0) ≤ a ∧ a ≤ b then 1 else 0) := by
  have h1 : ((0) : Int32).toInt64 = (0) := by decide
  have := e_inI a (0) b
  rw [h1] at this
  exact this
theorem e_bz (c : Prop) [Decidable c] : bz (if c then 1 else 0) = some (if c then 1 else 0) := by
  by_cases h : c
  · rw [if_pos h]; rfl
  · rw [if_neg h]; rfl
theorem ite_b {α : Type} (c : Prop) [Decidable c] (x y : α) : (if (if c then (1 : Int32) else 0) = 0 then x else y) = if c then y else x := by
  by_cases h : c
  · rw [if_pos h, if_pos h]; rfl
  · rw [if_neg h, if_neg h]; rfl
theorem ite_b1 {α : Type} (c : Prop) [Decidable c] (x y : α) : (if (if c then (1 : Int32) else 0) = 1 then x else y) = if c then x else y := by
  by_cases h : c
  · rw [if_pos h, if_pos h]; rfl
  · rw [if_neg h, if_neg h]; rfl
theorem L0 : (0 : Int32) = nI 0 := rfl
theorem L1 : (1 : Int32) = nI 1 := rfl
theorem L2 : (2 : Int32) = nI 2 := rfl
theorem L3 : (3 : Int32) = nI 3 := rfl
theorem L4 : (4 : Int32) = nI 4 := rfl
theorem L5 : (5 : Int32) = nI 5 := rfl
theorem L6 : (6 : Int32) = nI 6 := rfl
theorem L7 : (7 : Int32) = nI 7 := rfl
theorem L8 : (8 : Int32) = nI 8 := rfl
theorem L9 : (9 : Int32) = nI 9 := rfl
theorem L10 : (10 : Int32) = nI 10 := rfl
theorem L12 : (12 : Int32) = nI 12 := rfl
theorem L13 : (13 : Int32) = nI 13 := rfl
theorem L16 : (16 : Int32) = nI 16 := rfl
theorem L20 : (20 : Int32) = nI 20 := rfl
theorem L21 : (21 : Int32) = nI 21 := rfl
theorem L26 : (26 : Int32) = nI 26 := rfl
theorem L30 : (30 : Int32) = nI 30 := rfl
theorem L40 : (40 : Int32) = nI 40 := rfl
theorem L60 : (60 : Int32) = nI 60 := rfl
theorem L100 : (100 : Int32) = nI 100 := rfl
theorem L256 : (256 : Int32) = nI 256 := rfl
theorem nI_m1 {n : Nat} (h : n < 2147483648) : ¬ nI n = -1 := by
  intro e
  have := congrArg Int32.toInt e
  rw [nI_toInt (by omega)] at this
  have h1 : (-1 : Int32).toInt = -1 := by decide
  omega
theorem m1_nI {n : Nat} (h : n < 2147483648) : ¬ (-1 : Int32) = nI n := fun e => nI_m1 h e.symm
/-- a number from 0 to N -/
def cn (x : Int32) (N : Nat) : Prop := x = nI x.toNatClampNeg ∧ x.toNatClampNeg ≤ N
theorem cn_of {n N : Nat} (h : n ≤ N) (hN : N < 2147483648) : cn (nI n) N := by
  unfold cn
  rw [nI_clamp (by omega)]
  exact ⟨rfl, h⟩
theorem cn_in {x : Int32} (N : Int32) (h1 : 0 ≤ x) (h2 : x ≤ N) : cn x N.toInt.toNat := by
  obtain ⟨j, hj, rfl⟩ := nI_of (x := x) (fun q => (fa_of_lt q).2.1 h1)
  unfold cn
  rw [nI_clamp hj]
  refine ⟨rfl, ?_⟩
  rw [fa_le, nI_toInt hj] at h2
  omega
theorem cn_ex {x : Int32} {N : Nat} (h : cn x N) : ∃ n, n ≤ N ∧ x = nI n := ⟨_, h.2, h.1⟩
/-! heaps that agree but at S -/
theorem dp_wd (h : HP) (d : DP) : dp (wd h d) = d := rfl
theorem wd_22 (h : HP) (d : DP) : (wd h d).2.2 = h.2.2 := rfl
def EX (S : Nat → Nat → Bool) (h h' : HP) : Prop := h'.2.2 = h.2.2 ∧ (∀ k i s, S k s = false → gi h' k i s = gi h k i s) ∧ (∀ k i s, S k s = false → gl h' k i s = gl h k i s)
theorem EX.rfl' {S : Nat → Nat → Bool} (h : HP) : EX S h h := ⟨rfl, fun _ _ _ _ => rfl, fun _ _ _ _ => rfl⟩
theorem EX.trans {S : Nat → Nat → Bool} {h h1 h2 : HP} (a : EX S h h1) (b : EX S h1 h2) : EX S h h2 :=
  ⟨b.1.trans a.1, fun k i s e => (b.2.1 k i s e).trans (a.2.1 k i s e), fun k i s e => (b.2.2 k i s e).trans (a.2.2 k i s e)⟩
theorem EX.mono {S T : Nat → Nat → Bool} {h h1 : HP} (a : EX S h h1) (hST : ∀ k s, T k s = false → S k s = false) : EX T h h1 :=
  ⟨a.1, fun k i s e => a.2.1 k i s (hST k s e), fun k i s e => a.2.2 k i s (hST k s e)⟩
theorem gr_22 {h h' : HP} (e : h'.2.2 = h.2.2) : gr h' = gr h := by unfold gr; rw [e]
theorem gn_22 {h h' : HP} (e : h'.2.2 = h.2.2) : gn h' = gn h := by unfold gn; rw [e]
theorem EX.si {S : Nat → Nat → Bool} {h h1 : HP} (a : EX S h h1) {k s : Nat} (i : Nat) (v : Int32) (hk : S k s = true) : EX S h (si h1 k i s v) := by
  refine ⟨a.1, fun k1 i1 s1 e => ?_, fun k1 i1 s1 e => a.2.2 k1 i1 s1 e⟩
  rw [gi_si, if_neg]
  · exact a.2.1 k1 i1 s1 e
  · rintro ⟨rfl, -, rfl⟩
    rw [hk] at e
    cases e
theorem EX.sL {S : Nat → Nat → Bool} {h h1 : HP} (a : EX S h h1) {k s : Nat} (i : Nat) (v : Int64) (hk : S k s = true) : EX S h (sL h1 k i s v) := by
  refine ⟨a.1, fun k1 i1 s1 e => a.2.1 k1 i1 s1 e, fun k1 i1 s1 e => ?_⟩
  rw [gl_sl, if_neg]
  · exact a.2.2 k1 i1 s1 e
  · rintro ⟨rfl, -, rfl⟩
    rw [hk] at e
    cases e
theorem EX.srow {S : Nat → Nat → Bool} {h h1 : HP} (a : EX S h h1) {k : Nat} (i : Nat) (f : Nat → Int32) (hk : ∀ s, S k s = true) : EX S h (srow h1 k i f) := by
  refine ⟨a.1, fun k1 i1 s1 e => ?_, fun k1 i1 s1 e => a.2.2 k1 i1 s1 e⟩
  rw [gi_srow, if_neg]
  · exact a.2.1 k1 i1 s1 e
  · rintro ⟨rfl, -⟩
    rw [hk] at e
    cases e
/-- a part of the heap -/
def vw (D : Nat → Nat → Bool) (h : HP) : Nat → Nat → Nat → Int32 := fun k i s => if D k s = true then gi h k i s else 0
theorem vw_si {D : Nat → Nat → Bool} (h : HP) {k s : Nat} (i : Nat) (v : Int32) (hk : D k s = false) : vw D (si h k i s v) = vw D h := by
  funext k1 i1 s1
  unfold vw
  by_cases e : D k1 s1 = true
  · rw [if_pos e, if_pos e, gi_si, if_neg]
    rintro ⟨rfl, -, rfl⟩
    rw [hk] at e
    cases e
  · rw [if_neg e, if_neg e]
theorem vw_ex {D S : Nat → Nat → Bool} {h h1 : HP} (a : EX S h h1) (hDS : ∀ k s, D k s = true → S k s = false) : vw D h1 = vw D h := by
  funext k1 i1 s1
  unfold vw
  by_cases e : D k1 s1 = true
  · rw [if_pos e, if_pos e, a.2.1 _ _ _ (hDS _ _ e)]
  · rw [if_neg e, if_neg e]
theorem wd_si (h h1 : HP) (k i s : Nat) (v : Int32) : wd h (dp (si h1 k i s v)) = si (wd h (dp h1)) k i s v := id rfl
theorem wd_sl (h h1 : HP) (k i s : Nat) (v : Int64) : wd h (dp (sL h1 k i s v)) = sL (wd h (dp h1)) k i s v := id rfl
theorem wd_srow (h h1 : HP) (k i : Nat) (f : Nat → Int32) : wd h (dp (srow h1 k i f)) = srow (wd h (dp h1)) k i f := id rfl
theorem wd_osi (h : HP) (k i s : Nat) (v : Int32) (d : DP) : wd (si h k i s v) d = wd h d := id rfl
theorem wd_osl (h : HP) (k i s : Nat) (v : Int64) (d : DP) : wd (sL h k i s v) d = wd h d := id rfl
theorem wd_osr (h : HP) (k i : Nat) (f : Nat → Int32) (d : DP) : wd (srow h k i f) d = wd h d := id rfl
theorem wd_self (h : HP) : wd h (dp h) = h := id rfl
theorem xr_si (h : HP) (k i s : Nat) (v : Int32) : gr (si h k i s v) = gr h := id rfl
theorem xr_sl (h : HP) (k i s : Nat) (v : Int64) : gr (sL h k i s v) = gr h := id rfl
theorem xr_srow (h : HP) (k i : Nat) (f : Nat → Int32) : gr (srow h k i f) = gr h := id rfl
theorem xl_si (h : HP) (k i s : Nat) (v : Int32) : gl (si h k i s v) = gl h := id rfl
theorem xi_sl (h : HP) (k i s : Nat) (v : Int64) : gi (sL h k i s v) = gi h := id rfl
theorem xar_si (h : HP) (k i s : Nat) (v : Int32) (k1 i1 n : Nat) (j : Int32) : gar (si h k i s v) k1 i1 n j = gar h k1 i1 n j := id rfl
theorem add_m1 (x : Int32) : x + (-1) = x - 1 := (Int32.sub_eq_add_neg x 1).symm
theorem si_22 (h : HP) (k i s : Nat) (v : Int32) : (si h k i s v).2.2 = h.2.2 := rfl
theorem sl_22 (h : HP) (k i s : Nat) (v : Int64) : (sL h k i s v).2.2 = h.2.2 := rfl
theorem srow_22 (h : HP) (k i : Nat) (f : Nat → Int32) : (srow h k i f).2.2 = h.2.2 := rfl
