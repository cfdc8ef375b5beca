/-! stage III: sets of bells, pure: two ways through the sets in a mask -/
theorem two_and (a b c d : Nat) (hb : b < 2) (hd : d < 2) : (2 * a + b) &&& (2 * c + d) = 2 * (a &&& c) + (b &&& d) := by
  apply Nat.eq_of_testBit_eq
  intro i
  have hbd : b &&& d < 2 := Nat.lt_of_le_of_lt Nat.and_le_left hb
  have key : ∀ x y, y < 2 → (2 * x + y).testBit i = if i < 1 then y.testBit i else x.testBit (i - 1) := by
    intro x y hy
    have := Nat.testBit_two_pow_mul_add (i := 1) x (b := y) hy i
    exact this
  rw [Nat.testBit_and, key _ _ hb, key _ _ hd, key _ _ hbd]
  split <;> rw [Nat.testBit_and]
theorem lt2 {x : Nat} (h : x < 2) : x = 0 ∨ x = 1 := by omega
theorem comp_and : ∀ (K x m : Nat), m < 2 ^ K → x &&& m = x → (2 ^ K - 1 + x - m) &&& m = x := by
  intro K
  induction K with
  | zero =>
    intro x m hm e
    have : m = 0 := by omega
    subst this
    rw [Nat.and_zero] at e ⊢
    exact e
  | succ K ih =>
    intro x m hm e
    obtain ⟨x', f, hf, rfl⟩ : ∃ x' f, f < 2 ∧ x = 2 * x' + f := ⟨x / 2, x % 2, by omega, by omega⟩
    obtain ⟨m', g, hg, rfl⟩ : ∃ m' g, g < 2 ∧ m = 2 * m' + g := ⟨m / 2, m % 2, by omega, by omega⟩
    rw [two_and _ _ _ _ hf hg] at e
    have hfg : f &&& g < 2 := Nat.lt_of_le_of_lt Nat.and_le_left hf
    have e1 : x' &&& m' = x' := by omega
    have e2 : f &&& g = f := by omega
    have hp : 2 ^ (K + 1) = 2 * 2 ^ K := by rw [Nat.pow_succ]; omega
    have hm' : m' < 2 ^ K := by omega
    have i := ih x' m' hm' e1
    have hx : x' ≤ m' := by rw [← e1]; exact Nat.and_le_right
    rcases lt2 hf with rfl | rfl <;> rcases lt2 hg with rfl | rfl
    · rw [show 2 ^ (K + 1) - 1 + (2 * x' + 0) - (2 * m' + 0) = 2 * (2 ^ K - 1 + x' - m') + 1 by omega, two_and _ _ _ _ (by omega) (by omega), i]
      rfl
    · rw [show 2 ^ (K + 1) - 1 + (2 * x' + 0) - (2 * m' + 1) = 2 * (2 ^ K - 1 + x' - m') + 0 by omega, two_and _ _ _ _ (by omega) (by omega), i]
      rfl
    · exact absurd e2 (by decide)
    · rw [show 2 ^ (K + 1) - 1 + (2 * x' + 1) - (2 * m' + 1) = 2 * (2 ^ K - 1 + x' - m') + 1 by omega, two_and _ _ _ _ (by omega) (by omega), i]
      rfl
/-- the next set in a mask -/
theorem nxt_spec : ∀ (K x m : Nat), m < 2 ^ K → x &&& m = x → (x = m ∧ (2 ^ K + x - m) &&& m = 0) ∨ (x < (2 ^ K + x - m) &&& m ∧ ((2 ^ K + x - m) &&& m) &&& m = (2 ^ K + x - m) &&& m ∧ ∀ z, x < z → z < (2 ^ K + x - m) &&& m → ¬ z &&& m = z) := by
  intro K
  induction K with
  | zero =>
    intro x m hm e
    have : m = 0 := by omega
    subst this
    rw [Nat.and_zero] at e
    left
    exact ⟨e.symm, by rw [Nat.and_zero]⟩
  | succ K ih =>
    intro x m hm e
    obtain ⟨x', f, hf, rfl⟩ : ∃ x' f, f < 2 ∧ x = 2 * x' + f := ⟨x / 2, x % 2, by omega, by omega⟩
    obtain ⟨m', g, hg, rfl⟩ : ∃ m' g, g < 2 ∧ m = 2 * m' + g := ⟨m / 2, m % 2, by omega, by omega⟩
    rw [two_and _ _ _ _ hf hg] at e
    have hfg : f &&& g < 2 := Nat.lt_of_le_of_lt Nat.and_le_left hf
    have e1 : x' &&& m' = x' := by omega
    have e2 : f &&& g = f := by omega
    have hp : 2 ^ (K + 1) = 2 * 2 ^ K := by rw [Nat.pow_succ]; omega
    have hm' : m' < 2 ^ K := by omega
    have i := ih x' m' hm' e1
    have hx : x' ≤ m' := by rw [← e1]; exact Nat.and_le_right
    have zz : ∀ z g, g < 2 → z &&& (2 * m' + g) = z → (z / 2) &&& m' = z / 2 ∧ (z % 2) &&& g = z % 2 := by
      intro z g hg hz
      have h2 := two_and (z / 2) (z % 2) m' g (by omega) hg
      rw [show 2 * (z / 2) + z % 2 = z by omega, hz] at h2
      have h3 : z % 2 &&& g < 2 := Nat.lt_of_le_of_lt Nat.and_le_left (by omega)
      constructor <;> omega
    rcases lt2 hf with rfl | rfl <;> rcases lt2 hg with rfl | rfl
    · rw [show 2 ^ (K + 1) + (2 * x' + 0) - (2 * m' + 0) = 2 * (2 ^ K + x' - m') + 0 by omega, two_and _ _ _ _ (by omega) (by omega)]
      rcases i with ⟨i1, i2⟩ | ⟨i1, i2, i3⟩
      · left
        exact ⟨by omega, by rw [i2]; rfl⟩
      · right
        refine ⟨by show 2 * x' + 0 < 2 * ((2 ^ K + x' - m') &&& m') + 0; omega, ?_, ?_⟩
        · show (2 * ((2 ^ K + x' - m') &&& m') + 0) &&& (2 * m' + 0) = 2 * ((2 ^ K + x' - m') &&& m') + 0
          rw [two_and _ _ _ _ (by omega) (by omega), i2]
          rfl
        · intro z h1 h2 h3
          obtain ⟨h4, h5⟩ := zz z 0 (by omega) h3
          rw [Nat.and_zero] at h5
          have h2' : z < 2 * ((2 ^ K + x' - m') &&& m') + 0 := h2
          exact i3 (z / 2) (by omega) (by omega) h4
    · right
      have hc := comp_and K x' m' hm' e1
      rw [show 2 ^ (K + 1) + (2 * x' + 0) - (2 * m' + 1) = 2 * (2 ^ K - 1 + x' - m') + 1 by omega, two_and _ _ _ _ (by omega) (by omega), hc]
      refine ⟨by show 2 * x' + 0 < 2 * x' + 1; omega, ?_, fun z h1 h2 => ?_⟩
      · show (2 * x' + 1) &&& (2 * m' + 1) = 2 * x' + 1
        rw [two_and _ _ _ _ (by omega) (by omega), e1]
        rfl
      · have h2' : z < 2 * x' + 1 := h2
        omega
    · exact absurd e2 (by decide)
    · rw [show 2 ^ (K + 1) + (2 * x' + 1) - (2 * m' + 1) = 2 * (2 ^ K + x' - m') + 0 by omega, two_and _ _ _ _ (by omega) (by omega)]
      rcases i with ⟨i1, i2⟩ | ⟨i1, i2, i3⟩
      · left
        exact ⟨by omega, by rw [i2]; rfl⟩
      · right
        refine ⟨by show 2 * x' + 1 < 2 * ((2 ^ K + x' - m') &&& m') + 0; omega, ?_, ?_⟩
        · show (2 * ((2 ^ K + x' - m') &&& m') + 0) &&& (2 * m' + 1) = 2 * ((2 ^ K + x' - m') &&& m') + 0
          rw [two_and _ _ _ _ (by omega) (by omega), i2]
          rfl
        · intro z h1 h2 h3
          obtain ⟨h4, h5⟩ := zz z 1 (by omega) h3
          have h2' : z < 2 * ((2 ^ K + x' - m') &&& m') + 0 := h2
          exact i3 (z / 2) (by omega) (by omega) h4
/-- the sets in a mask, in order -/
def isSub (m z : Nat) : Bool := decide (z &&& m = z)
theorem subm_range : ∀ (j m : Nat), subm j m = (List.range (2 ^ j)).filter (isSub m) := by
  intro j
  induction j with
  | zero =>
    intro m
    show [0] = (List.range 1).filter (isSub m)
    rw [show List.range 1 = [0] from rfl, List.filter_cons_of_pos]
    · rfl
    · unfold isSub
      rw [Nat.zero_and]
      rfl
  | succ j ih =>
    intro m
    have hp : 2 ^ (j + 1) = 2 ^ j + 2 ^ j := by rw [Nat.pow_succ]; omega
    rw [hp, List.range_add, List.filter_append, ← ih m]
    have key : ∀ z, z < 2 ^ j → isSub m (2 ^ j + z) = (m.testBit j && isSub m z) := by
      intro z hz
      unfold isSub
      rw [Bool.eq_iff_iff, Bool.and_eq_true, decide_eq_true_eq, decide_eq_true_eq]
      have tb : ∀ i, (2 ^ j + z).testBit i = (decide (i = j) || z.testBit i) := by
        intro i
        have := Nat.testBit_two_pow_mul_add (i := j) 1 (b := z) hz i
        rw [Nat.mul_one] at this
        rw [this]
        by_cases c : i < j
        · rw [if_pos c, decide_eq_false (show ¬ i = j by omega), Bool.false_or]
        · rw [if_neg c, Nat.testBit_lt_two_pow (Nat.lt_of_lt_of_le hz (Nat.pow_le_pow_right (by decide) (by omega : j ≤ i))), Bool.or_false]
          by_cases c2 : i = j
          · subst c2
            rw [Nat.sub_self, decide_eq_true rfl]
            rfl
          · rw [decide_eq_false c2]
            exact Nat.testBit_lt_two_pow (Nat.lt_of_lt_of_le (by decide : 1 < 2 ^ 1) (Nat.pow_le_pow_right (by decide) (by omega)))
      constructor
      · intro h
        have hb : ∀ i, ((2 ^ j + z).testBit i && m.testBit i) = (2 ^ j + z).testBit i := fun i => by rw [← Nat.testBit_and, h]
        refine ⟨?_, Nat.eq_of_testBit_eq (fun i => ?_)⟩
        · have := hb j
          rw [tb, decide_eq_true rfl] at this
          simpa using this
        · rw [Nat.testBit_and]
          have := hb i
          rw [tb] at this
          by_cases c : i = j
          · subst c
            rw [Nat.testBit_lt_two_pow hz]
            rfl
          · rw [decide_eq_false c, Bool.false_or] at this
            exact this
      · rintro ⟨h1, h2⟩
        apply Nat.eq_of_testBit_eq
        intro i
        rw [Nat.testBit_and, tb]
        by_cases c : i = j
        · subst c
          rw [h1, decide_eq_true rfl]
          rfl
        · rw [decide_eq_false c, Bool.false_or, ← Nat.testBit_and, h2]
    have e2 : ((List.range (2 ^ j)).map (2 ^ j + ·)).filter (isSub m) = if m.testBit j = true then (subm j m).map (fun x => x + 2 ^ j) else [] := by
      rw [List.filter_map, ih m]
      by_cases c : m.testBit j = true
      · rw [if_pos c]
        rw [List.filter_congr (q := isSub m) (fun z hz => by
          rw [List.mem_range] at hz
          show isSub m (2 ^ j + z) = isSub m z
          rw [key z hz, c, Bool.true_and])]
        exact List.map_congr_left (fun z _ => by omega)
      · rw [if_neg c]
        rw [List.filter_congr (q := fun _ => false) (fun z hz => by
          rw [List.mem_range] at hz
          show isSub m (2 ^ j + z) = false
          rw [key z hz, Bool.eq_false_iff.mpr c, Bool.false_and])]
        rw [List.filter_eq_nil_iff.mpr (fun _ _ => by decide)]
        rfl
    rw [e2]
    show (if m.testBit j = true then subm j m ++ (subm j m).map (fun x => x + 2 ^ j) else subm j m) = _
    by_cases c : m.testBit j = true
    · rw [if_pos c, if_pos c]
    · rw [if_neg c, if_neg c, List.append_nil]
