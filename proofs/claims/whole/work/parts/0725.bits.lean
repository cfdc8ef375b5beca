/-! stage III: bits of small numbers, how many there are -/
theorem bt_shr {n i : Nat} (hn : n < 2147483648) (hi : i < 31) : nI n >>> (nI i &&& 31) = nI (n / 2 ^ i) := pk_shrN (by omega) _ i (s_l i (by omega))
theorem bt_1 (n : Nat) : nI n &&& 1 = nI (n % 2) := by
  have := fa_mask n 1
  exact this
theorem bt_test {n i : Nat} (hn : n < 2147483648) (hi : i < 31) : (nI n >>> (nI i &&& 31)) &&& 1 = if n.testBit i = true then 1 else 0 := by
  rw [bt_shr hn hi, bt_1]
  have e : n.testBit i = decide (n / 2 ^ i % 2 = 1) := Nat.testBit_eq_decide_div_mod_eq
  rw [e]
  have : n / 2 ^ i % 2 = 0 ∨ n / 2 ^ i % 2 = 1 := by omega
  rcases this with q | q
  · rw [q]; rfl
  · rw [q]; rfl
theorem bt_t1 {n i : Nat} (hn : n < 2147483648) (hi : i < 31) : ((nI n >>> (nI i &&& 31)) &&& 1 = 1) = (n.testBit i = true) := by
  rw [bt_test hn hi]
  by_cases q : n.testBit i = true
  · rw [if_pos q]; simp [q]
  · rw [if_neg q]; simp [q]
theorem bt_t0 {n i : Nat} (hn : n < 2147483648) (hi : i < 31) : ((nI n >>> (nI i &&& 31)) &&& 1 = 0) = (n.testBit i = false) := by
  rw [bt_test hn hi]
  by_cases q : n.testBit i = true
  · rw [if_pos q]; simp [q]
  · rw [if_neg q]; simp [q]
theorem bt_shl1 {i : Nat} (hi : i < 31) : (1 : Int32) <<< (nI i &&& 31) = nI (2 ^ i) := by
  have h : 2 ^ i < 2 ^ 31 := Nat.pow_lt_pow_right (by omega) hi
  have := pk_shlN (n := 1) (nI i &&& 31) i (s_l i (by omega)) (by omega)
  rw [Nat.one_mul] at this
  exact this
theorem bt_or {n i : Nat} (hi : i < 31) : nI n ||| ((1 : Int32) <<< (nI i &&& 31)) = nI (n ||| 2 ^ i) := by
  rw [bt_shl1 hi, fa_or]
theorem bt_or0 (x : Int32) : x ||| 0 = x := Int32.or_zero
/-! how many bits -/
def pop (n : Nat) : Nat := fb_ct (fun i => n.testBit i) 32
theorem pop_2 (n : Nat) (h : n < 2147483648) : pop (2 * n) = pop n := by
  unfold pop
  have h1 := fb_ct_split (fun i => (2 * n).testBit i) 1 31
  rw [h1]
  have e0 : fb_ct (fun i => (2 * n).testBit i) 1 = 0 := by
    rw [fb_ct_zero]
    intro k hk
    have : k = 0 := by omega
    subst this
    simp [Nat.testBit_zero]
  have e1 : fb_ct (fun k => (2 * n).testBit (1 + k)) 31 = fb_ct (fun i => n.testBit i) 31 := by
    apply fb_ct_cong
    intro k _
    rw [show 1 + k = k + 1 from Nat.add_comm 1 k, Nat.testBit_succ]
    congr 1
    omega
  rw [e0, e1, fb_ct_succ (fun i => n.testBit i) 31]
  have : n.testBit 31 = false := Nat.testBit_lt_two_pow (by omega)
  simp [this]
theorem pop_21 (n : Nat) (h : n < 2147483648) : pop (2 * n + 1) = pop n + 1 := by
  unfold pop
  have h1 := fb_ct_split (fun i => (2 * n + 1).testBit i) 1 31
  rw [h1]
  have e0 : fb_ct (fun i => (2 * n + 1).testBit i) 1 = 1 := by
    rw [fb_ct_all]
    intro k hk
    have : k = 0 := by omega
    subst this
    simp [Nat.testBit_zero]
  have e1 : fb_ct (fun k => (2 * n + 1).testBit (1 + k)) 31 = fb_ct (fun i => n.testBit i) 31 := by
    apply fb_ct_cong
    intro k _
    rw [show 1 + k = k + 1 from Nat.add_comm 1 k, Nat.testBit_succ]
    congr 1
    omega
  rw [e0, e1, fb_ct_succ (fun i => n.testBit i) 31]
  have : n.testBit 31 = false := Nat.testBit_lt_two_pow (by omega)
  simp [this]
  omega
theorem pop_0 : pop 0 = 0 := by
  unfold pop
  rw [fb_ct_zero]
  intro k _
  exact Nat.zero_testBit k
/-- clearing the least bit -/
theorem pop_clear : ∀ (f n : Nat), n < f → 0 < n → n < 2147483648 → pop (n &&& (n - 1)) + 1 = pop n ∧ (n &&& (n - 1)) < n := by
  intro f
  induction f with
  | zero => intro n h; omega
  | succ f ih =>
    intro n hf h0 hn
    rcases Nat.mod_two_eq_zero_or_one n with e | e
    · obtain ⟨y, rfl⟩ : ∃ y, n = 2 * y := ⟨n / 2, by omega⟩
      have hy : 0 < y := by omega
      obtain ⟨i1, i2⟩ := ih y (by omega) hy (by omega)
      have e2 : 2 * y &&& (2 * y - 1) = 2 * (y &&& (y - 1)) := by
        apply Nat.eq_of_testBit_eq
        intro i
        cases i with
        | zero => simp [Nat.testBit_zero]
        | succ i =>
          rw [Nat.testBit_and, Nat.testBit_succ, Nat.testBit_succ, Nat.testBit_succ]
          rw [show 2 * y / 2 = y by omega, show (2 * y - 1) / 2 = y - 1 by omega, show 2 * (y &&& (y - 1)) / 2 = y &&& (y - 1) by omega, Nat.testBit_and]
      rw [e2, pop_2 _ (by omega), pop_2 _ (by omega)]
      omega
    · obtain ⟨y, rfl⟩ : ∃ y, n = 2 * y + 1 := ⟨n / 2, by omega⟩
      have e2 : (2 * y + 1) &&& (2 * y + 1 - 1) = 2 * y := by
        apply Nat.eq_of_testBit_eq
        intro i
        cases i with
        | zero => simp [Nat.testBit_zero]
        | succ i =>
          rw [Nat.testBit_and, Nat.testBit_succ, Nat.testBit_succ, Nat.testBit_succ]
          rw [show (2 * y + 1) / 2 = y by omega, show (2 * y + 1 - 1) / 2 = y by omega, show 2 * y / 2 = y by omega, Bool.and_self]
      rw [e2, pop_2 _ (by omega), pop_21 _ (by omega)]
      omega
theorem f_ones {n : Nat} (hn : n < 2147483648) : F_X12_ones (nI n) = some (nI (pop n)) := by
  unfold F_X12_ones
  have hb : ∀ n, n < 2147483648 → pop n ≤ 32 := fun n _ => fb_ct_le _ 32
  obtain ⟨r, h1, h2⟩ := loopI (B := B_X12_ones_4) (fun k s => ∃ y, y < 2147483648 ∧ s = (nI k, nI y) ∧ k + pop y = pop n) (fun r => r = nI (pop n)) 32 (by omega) (s0 := (0, nI n)) ⟨n, hn, rfl, by omega⟩ (by
    intro k s hk ⟨y, hy, hs, hp⟩
    subst hs
    unfold B_X12_ones_4 u2 nm
    simp only []
    by_cases hz : y = 0
    · right
      subst hz
      rw [pop_0] at hp
      exact ⟨nI k, if_pos rfl, by rw [← hp]; rfl⟩
    · left
      obtain ⟨q1, q2⟩ := pop_clear (y + 1) y (by omega) (by omega) hy
      have := hb n hn
      have := hb y hy
      refine ⟨(nI (k + 1), nI (y &&& (y - 1))), by omega, ?_, y &&& (y - 1), by omega, rfl, by omega⟩
      rw [if_neg (nI_ne0 (by omega) (by omega)), show nI y - 1 = nI (y - 1) from pk_sub (a := y) (b := 1) (by omega), fa_and, nI_1])
  rw [h1, h2]
  rfl
/-! the JDK's count of bits -/
theorem nib_and (a b c d : Nat) (hb : b < 16) (hd : d < 16) : (16 * a + b) &&& (16 * c + d) = 16 * (a &&& c) + (b &&& d) := by
  apply Nat.eq_of_testBit_eq
  intro i
  have hbd : b &&& d < 16 := Nat.lt_of_le_of_lt Nat.and_le_left hb
  have key : ∀ x y, y < 16 → (16 * x + y).testBit i = if i < 4 then y.testBit i else x.testBit (i - 4) := by
    intro x y hy
    have := Nat.testBit_two_pow_mul_add (i := 4) x (b := y) hy i
    exact this
  rw [Nat.testBit_and, key _ _ hb, key _ _ hd, key _ _ hbd]
  split <;> rw [Nat.testBit_and]
def S1 (m h : Nat) : Nat := h - ((h / 2) &&& m)
theorem S1_step (m h n : Nat) (hn : n < 16) : S1 (16 * m + 5) (16 * h + n) = 16 * S1 m h + (n - ((n / 2) &&& 5)) := by
  unfold S1
  have e : (16 * h + n) / 2 = 16 * (h / 2) + (8 * (h % 2) + n / 2) := by omega
  have q : ∀ r, r < 2 → ∀ n, n < 16 → (8 * r + n / 2) &&& 5 = (n / 2) &&& 5 := by decide
  rw [e, nib_and _ _ _ _ (by omega) (by omega), q (h % 2) (by omega) n hn]
  have h1 : (h / 2) &&& m ≤ h := Nat.le_trans Nat.and_le_left (Nat.div_le_self h 2)
  have h2 : (n / 2) &&& 5 ≤ n := Nat.le_trans Nat.and_le_left (Nat.div_le_self n 2)
  omega
def S2 (m h : Nat) : Nat := (h &&& m) + ((h / 4) &&& m)
theorem S2_step (m h v : Nat) (hv : v < 16) : S2 (16 * m + 3) (16 * h + v) = 16 * S2 m h + ((v &&& 3) + ((v / 4) &&& 3)) := by
  unfold S2
  have e : (16 * h + v) / 4 = 16 * (h / 4) + (4 * (h % 4) + v / 4) := by omega
  have q : ∀ r, r < 4 → ∀ v, v < 16 → (4 * r + v / 4) &&& 3 = (v / 4) &&& 3 := by decide
  rw [e, nib_and _ _ _ _ hv (by omega), nib_and _ _ _ _ (by omega) (by omega), q (h % 4) (by omega) v hv]
  omega
theorem byt_and (a b c : Nat) (hb : b < 256) : (256 * a + b) &&& (256 * c + 15) = 256 * (a &&& c) + b % 16 := by
  have e : 256 * a + b = 16 * (16 * a + b / 16) + b % 16 := by omega
  have e2 : 256 * c + 15 = 16 * (16 * c + 0) + 15 := by omega
  have q : ∀ x, x < 16 → x &&& 15 = x := by decide
  rw [e, e2, nib_and _ _ _ _ (by omega) (by omega), nib_and _ _ _ _ (by omega) (by omega), q (b % 16) (by omega), Nat.and_zero]
  omega
def pn (n : Nat) : Nat := ((n - ((n / 2) &&& 5)) &&& 3) + (((n - ((n / 2) &&& 5)) / 4) &&& 3)
theorem pn_pop : ∀ n, n < 16 → pn n = pop n := by decide +kernel
theorem pop_16 (h n : Nat) (hn : n < 16) (hh : h < 134217728) : pop (16 * h + n) = pop h + pop n := by
  have q : ∀ b, b < 2 → ∀ y, y < 1073741824 → pop (2 * y + b) = pop y + b := by
    intro b hb y hy
    have : b = 0 ∨ b = 1 := by omega
    rcases this with rfl | rfl
    · exact pop_2 y (by omega)
    · exact pop_21 y (by omega)
  have e : 16 * h + n = 2 * (2 * (2 * (2 * h + n / 8) + n / 4 % 2) + n / 2 % 2) + n % 2 := by omega
  have e2 : n = 2 * (2 * (2 * (2 * 0 + n / 8) + n / 4 % 2) + n / 2 % 2) + n % 2 := by omega
  have p2 : pop n = n / 8 + n / 4 % 2 + n / 2 % 2 + n % 2 := by
    rw [e2, q _ (by omega) _ (by omega), q _ (by omega) _ (by omega), q _ (by omega) _ (by omega), q _ (by omega) _ (by omega), pop_0]
    omega
  rw [e, q _ (by omega) _ (by omega), q _ (by omega) _ (by omega), q _ (by omega) _ (by omega), q _ (by omega) _ (by omega), p2]
  omega
theorem ush_v {n k : Nat} (s : Int32) (hs : ((s.toUInt32 &&& Int32.toUInt32 31).toBitVec % 32).toNat = k) (hn : n < 2147483648) : ushr (nI n) s = nI (n / 2 ^ k) := by
  unfold ushr
  exact pk_ushrN (by omega) s k hs
theorem bc_lt {p0 p1 p2 p3 p4 p5 p6 p7 : Nat} (q0 : p0 ≤ 4) (q1 : p1 ≤ 4) (q2 : p2 ≤ 4) (q3 : p3 ≤ 4) (q4 : p4 ≤ 4) (q5 : p5 ≤ 4) (q6 : p6 ≤ 4) (q7 : p7 ≤ 4) : 16 * (16 * (16 * (16 * (16 * (16 * (16 * p7 + p6) + p5) + p4) + p3) + p2) + p1) + p0 < 2147483648 := by omega
theorem bc_3 {p0 p1 p2 p3 p4 p5 p6 p7 X2 : Nat} (q0 : p0 ≤ 4) (q1 : p1 ≤ 4) (q2 : p2 ≤ 4) (q3 : p3 ≤ 4) (q4 : p4 ≤ 4) (q5 : p5 ≤ 4) (q6 : p6 ≤ 4) (q7 : p7 ≤ 4) (x2 : X2 = 16 * (16 * (16 * (16 * (16 * (16 * (16 * p7 + p6) + p5) + p4) + p3) + p2) + p1) + p0) :
    (X2 + X2 / 2 ^ 4) &&& 252645135 = 256 * (256 * (256 * (p7 + p6) + (p5 + p4)) + (p3 + p2)) + (p1 + p0) := by
  have e0 : X2 / 2 ^ 4 = 16 * (16 * (16 * (16 * (16 * (16 * p7 + p6) + p5) + p4) + p3) + p2) + p1 := by omega
  have e : X2 + X2 / 2 ^ 4 = 256 * (256 * (256 * (16 * p7 + (p7 + p6)) + (16 * (p5 + p6) + (p5 + p4))) + (16 * (p3 + p4) + (p3 + p2))) + (16 * (p1 + p2) + (p1 + p0)) := by rw [e0, x2]; omega
  have t : ∀ a, a < 16 → ∀ b, b < 16 → (16 * a + b) &&& 15 = b := by decide
  have m : ∀ a b, b < 16 → (16 * a + b) % 16 = b := fun a b h => by omega
  rw [e, show (252645135 : Nat) = 256 * (256 * (256 * 15 + 15) + 15) + 15 from rfl, byt_and _ _ _ (by omega), byt_and _ _ _ (by omega), byt_and _ _ _ (by omega), t _ (by omega) _ (by omega), m _ _ (by omega), m _ _ (by omega), m _ _ (by omega)]
theorem bc_4 (b3 b2 b1 b0 : Nat) (h3 : b3 ≤ 8) (h2 : b2 ≤ 8) (h1 : b1 ≤ 8) (h0 : b0 ≤ 8) : (256 * (256 * (256 * b3 + b2) + b1) + b0 + (256 * (256 * (256 * b3 + b2) + b1) + b0) / 2 ^ 8 + (256 * (256 * (256 * b3 + b2) + b1) + b0 + (256 * (256 * (256 * b3 + b2) + b1) + b0) / 2 ^ 8) / 2 ^ 16) % 2 ^ 6 = b3 + b2 + b1 + b0 := by
  have e : (256 * (256 * (256 * b3 + b2) + b1) + b0) / 2 ^ 8 = 256 * (256 * b3 + b2) + b1 := by omega
  rw [e]
  have e2 : (256 * (256 * (256 * b3 + b2) + b1) + b0 + (256 * (256 * b3 + b2) + b1)) / 2 ^ 16 = 256 * b3 + b2 + b3 := by omega
  rw [e2]
  omega
theorem e_bitCount {n : Nat} (hn : n < 2147483648) : F_J_bitCount (nI n) = some (nI (pop n)) := by
  -- the nibbles
  obtain ⟨n0, h1, a0, r0⟩ : ∃ a b, a < 16 ∧ n = 16 * b + a := ⟨n % 16, n / 16, by omega, by omega⟩
  obtain ⟨n1, h2, a1, r1⟩ : ∃ a b, a < 16 ∧ h1 = 16 * b + a := ⟨h1 % 16, h1 / 16, by omega, by omega⟩
  obtain ⟨n2, h3, a2, r2⟩ : ∃ a b, a < 16 ∧ h2 = 16 * b + a := ⟨h2 % 16, h2 / 16, by omega, by omega⟩
  obtain ⟨n3, h4, a3, r3⟩ : ∃ a b, a < 16 ∧ h3 = 16 * b + a := ⟨h3 % 16, h3 / 16, by omega, by omega⟩
  obtain ⟨n4, h5, a4, r4⟩ : ∃ a b, a < 16 ∧ h4 = 16 * b + a := ⟨h4 % 16, h4 / 16, by omega, by omega⟩
  obtain ⟨n5, h6, a5, r5⟩ : ∃ a b, a < 16 ∧ h5 = 16 * b + a := ⟨h5 % 16, h5 / 16, by omega, by omega⟩
  obtain ⟨n6, n7, a6, r6⟩ : ∃ a b, a < 16 ∧ h6 = 16 * b + a := ⟨h6 % 16, h6 / 16, by omega, by omega⟩
  have a7 : n7 < 16 := by omega
  have hp : pop n = pn n0 + pn n1 + pn n2 + pn n3 + pn n4 + pn n5 + pn n6 + pn n7 := by
    rw [pn_pop _ a0, pn_pop _ a1, pn_pop _ a2, pn_pop _ a3, pn_pop _ a4, pn_pop _ a5, pn_pop _ a6, pn_pop _ a7, r0, pop_16 _ _ a0 (by omega), r1, pop_16 _ _ a1 (by omega), r2, pop_16 _ _ a2 (by omega), r3, pop_16 _ _ a3 (by omega), r4, pop_16 _ _ a4 (by omega), r5, pop_16 _ _ a5 (by omega), r6, pop_16 _ _ a6 (by omega)]
    omega
  have b4 : ∀ n, n < 16 → pn n ≤ 4 := by decide
  have s1b : ∀ n, n < 16 → n - ((n / 2) &&& 5) < 16 := by decide
  have z1 : ∀ n, n < 16 → S1 5 n = n - ((n / 2) &&& 5) := fun n _ => rfl
  have x1 : S1 1431655765 n = 16 * (16 * (16 * (16 * (16 * (16 * (16 * (n7 - ((n7 / 2) &&& 5)) + (n6 - ((n6 / 2) &&& 5))) + (n5 - ((n5 / 2) &&& 5))) + (n4 - ((n4 / 2) &&& 5))) + (n3 - ((n3 / 2) &&& 5))) + (n2 - ((n2 / 2) &&& 5))) + (n1 - ((n1 / 2) &&& 5))) + (n0 - ((n0 / 2) &&& 5)) := by
    rw [show (1431655765 : Nat) = 16 * (16 * (16 * (16 * (16 * (16 * (16 * 5 + 5) + 5) + 5) + 5) + 5) + 5) + 5 from rfl, r0, r1, r2, r3, r4, r5, r6, S1_step _ _ _ a0, S1_step _ _ _ a1, S1_step _ _ _ a2, S1_step _ _ _ a3, S1_step _ _ _ a4, S1_step _ _ _ a5, S1_step _ _ _ a6, z1 n7 a7]
  have x2 : S2 858993459 (S1 1431655765 n) = 16 * (16 * (16 * (16 * (16 * (16 * (16 * pn n7 + pn n6) + pn n5) + pn n4) + pn n3) + pn n2) + pn n1) + pn n0 := by
    rw [x1, show (858993459 : Nat) = 16 * (16 * (16 * (16 * (16 * (16 * (16 * 3 + 3) + 3) + 3) + 3) + 3) + 3) + 3 from rfl, S2_step _ _ _ (s1b _ a0), S2_step _ _ _ (s1b _ a1), S2_step _ _ _ (s1b _ a2), S2_step _ _ _ (s1b _ a3), S2_step _ _ _ (s1b _ a4), S2_step _ _ _ (s1b _ a5), S2_step _ _ _ (s1b _ a6)]
    rfl
  have l1 : (n / 2) &&& 1431655765 ≤ n := Nat.le_trans Nat.and_le_left (Nat.div_le_self n 2)
  have q0 := b4 _ a0
  have q1 := b4 _ a1
  have q2 := b4 _ a2
  have q3 := b4 _ a3
  have q4 := b4 _ a4
  have q5 := b4 _ a5
  have q6 := b4 _ a6
  have q7 := b4 _ a7
  unfold F_J_bitCount
  simp only [nm]
  rw [ush_v 1 (k := 1) (by decide) hn, show (1431655765 : Int32) = nI 1431655765 from rfl, fa_and, pk_sub (show (n / 2 ^ 1) &&& 1431655765 ≤ n from l1)]
  rw [show n - ((n / 2 ^ 1) &&& 1431655765) = S1 1431655765 n from rfl]
  have v1 : S1 1431655765 n < 2147483648 := Nat.lt_of_le_of_lt (Nat.sub_le _ _) hn
  rw [ush_v 2 (k := 2) (by decide) v1, show (858993459 : Int32) = nI 858993459 from rfl, fa_and, fa_and, nI_add]
  rw [show ((S1 1431655765 n &&& 858993459) + ((S1 1431655765 n / 2 ^ 2) &&& 858993459)) = S2 858993459 (S1 1431655765 n) from rfl]
  have hX2 : S2 858993459 (S1 1431655765 n) < 2147483648 := by rw [x2]; exact bc_lt q0 q1 q2 q3 q4 q5 q6 q7
  have x3 := bc_3 q0 q1 q2 q3 q4 q5 q6 q7 x2
  rw [hp]
  generalize S2 858993459 (S1 1431655765 n) = X2 at x2 hX2 x3
  clear hp x1 x2 r0 r1 r2 r3 r4 r5 r6 v1 l1 b4 s1b z1
  rw [ush_v 4 (k := 4) (by decide) hX2, nI_add, show (252645135 : Int32) = nI 252645135 from rfl, fa_and, x3]
  have hX3 : 256 * (256 * (256 * (pn n7 + pn n6) + (pn n5 + pn n4)) + (pn n3 + pn n2)) + (pn n1 + pn n0) < 1000000000 := by omega
  have hf := bc_4 (pn n7 + pn n6) (pn n5 + pn n4) (pn n3 + pn n2) (pn n1 + pn n0) (by omega) (by omega) (by omega) (by omega)
  generalize 256 * (256 * (256 * (pn n7 + pn n6) + (pn n5 + pn n4)) + (pn n3 + pn n2)) + (pn n1 + pn n0) = X3 at hX3 hf
  have hX4 : X3 + X3 / 2 ^ 8 < 2147483648 := by omega
  rw [ush_v 8 (k := 8) (by decide) (by omega), nI_add, ush_v 16 (k := 16) (by decide) hX4, nI_add, show (63 : Int32) = nI (2 ^ 6 - 1) from rfl, fa_mask, hf]
  congr 2
  omega
/-! the JDK's number of trailing zeros -/
def ntzN : Nat → Nat → Nat
  | 0, _ => 0
  | f + 1, n => if n % 2 = 1 then 0 else ntzN f (n / 2) + 1
theorem e_ntz_q : ∀ a, a < 64 → ∀ b, b < 64 → 0 < 64 * a + b → F_J_ntz (nI (64 * a + b)) = some (nI (ntzN 12 (64 * a + b))) := by decide +kernel
theorem e_ntz {t : Nat} (ht : t < 4096) (h0 : 0 < t) : F_J_ntz (nI t) = some (nI (ntzN 12 t)) := by
  have := e_ntz_q (t / 64) (by omega) (t % 64) (by omega) (by omega)
  rw [show 64 * (t / 64) + t % 64 = t by omega] at this
  exact this
