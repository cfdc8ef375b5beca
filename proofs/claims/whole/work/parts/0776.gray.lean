/-! stage III: the Gray walk, pure -/
/-- the sets reached by turning any of k bells -/
def fl (b : Nat → Nat) : Nat → Nat → List Nat
  | 0, X => [X]
  | k + 1, X => fl b k X ++ fl b k (X ^^^ 2 ^ b k)
theorem fl_turn (b : Nat → Nat) : ∀ (k X i : Nat), i < k → (fl b k (X ^^^ 2 ^ b i)).Perm (fl b k X) := by
  intro k
  induction k with
  | zero => intro X i h; omega
  | succ k ih =>
    intro X i h
    show (fl b k (X ^^^ 2 ^ b i) ++ fl b k (X ^^^ 2 ^ b i ^^^ 2 ^ b k)).Perm (fl b k X ++ fl b k (X ^^^ 2 ^ b k))
    by_cases c : i = k
    · subst c
      rw [Nat.xor_assoc, Nat.xor_self, Nat.xor_zero]
      exact List.perm_append_comm
    · have h2 : X ^^^ 2 ^ b i ^^^ 2 ^ b k = X ^^^ 2 ^ b k ^^^ 2 ^ b i := by rw [Nat.xor_assoc, Nat.xor_assoc, Nat.xor_comm (2 ^ b i)]
      rw [h2]
      exact (ih X i (by omega)).append (ih _ i (by omega))
theorem fl_xor (b : Nat → Nat) (Y : Nat) : ∀ (k X : Nat), fl b k (X ^^^ Y) = (fl b k X).map (fun z => z ^^^ Y) := by
  intro k
  induction k with
  | zero => intro X; rfl
  | succ k ih =>
    intro X
    show fl b k (X ^^^ Y) ++ fl b k (X ^^^ Y ^^^ 2 ^ b k) = (fl b k X ++ fl b k (X ^^^ 2 ^ b k)).map _
    have h2 : X ^^^ Y ^^^ 2 ^ b k = X ^^^ 2 ^ b k ^^^ Y := by rw [Nat.xor_assoc, Nat.xor_assoc, Nat.xor_comm Y]
    rw [h2, ih, ih, List.map_append]
theorem ntz_lt : ∀ (F t k : Nat), 0 < t → t < 2 ^ k → k ≤ F → ntzN F t < k := by
  intro F
  induction F with
  | zero =>
    intro t k h0 h1 h2
    have : k = 0 := by omega
    subst this
    omega
  | succ F ih =>
    intro t k h0 h1 h2
    unfold ntzN
    cases k with
    | zero => omega
    | succ k =>
      have hp : 2 ^ (k + 1) = 2 * 2 ^ k := by rw [Nat.pow_succ]; omega
      split
      · omega
      · have := ih (t / 2) k (by omega) (by omega) (by omega)
        omega
theorem ntz_top : ∀ (F t k : Nat), 0 < t → t < 2 ^ k → k ≤ F → ntzN F (2 ^ k + t) = ntzN F t := by
  intro F
  induction F with
  | zero => intro t k h0 h1 h2; rfl
  | succ F ih =>
    intro t k h0 h1 h2
    unfold ntzN
    cases k with
    | zero => omega
    | succ k =>
      have hp : 2 ^ (k + 1) = 2 * 2 ^ k := by rw [Nat.pow_succ]; omega
      rw [show (2 ^ (k + 1) + t) % 2 = t % 2 by omega, show (2 ^ (k + 1) + t) / 2 = 2 ^ k + t / 2 by omega]
      by_cases c : t % 2 = 1
      · rw [if_pos c, if_pos c]
      · rw [if_neg c, if_neg c, ih (t / 2) k (by omega) (by omega) (by omega)]
theorem ntz_pow : ∀ (F k : Nat), k < F → ntzN F (2 ^ k) = k := by
  intro F
  induction F with
  | zero => intro k h; omega
  | succ F ih =>
    intro k h
    unfold ntzN
    cases k with
    | zero => rfl
    | succ k =>
      have hp : 2 ^ (k + 1) = 2 * 2 ^ k := by rw [Nat.pow_succ]; omega
      rw [if_neg (by omega), show 2 ^ (k + 1) / 2 = 2 ^ k by omega, ih k (by omega)]
/-- the walk -/
def gx (b : Nat → Nat) : Nat → Nat
  | 0 => 0
  | t + 1 => gx b t ^^^ 2 ^ b (ntzN 12 (t + 1))
theorem gx_perm (b : Nat → Nat) (k : Nat) (hk : k ≤ 12) : ∀ (t X : Nat), t < 2 ^ k → (fl b k (X ^^^ gx b t)).Perm (fl b k X) := by
  intro t
  induction t with
  | zero =>
    intro X _
    show (fl b k (X ^^^ 0)).Perm (fl b k X)
    rw [Nat.xor_zero]
  | succ t ih =>
    intro X h
    show (fl b k (X ^^^ (gx b t ^^^ 2 ^ b (ntzN 12 (t + 1))))).Perm (fl b k X)
    rw [← Nat.xor_assoc]
    exact (fl_turn b k _ _ (ntz_lt 12 (t + 1) k (by omega) h hk)).trans (ih X (by omega))
theorem gx_top (b : Nat → Nat) (k : Nat) (hk : k ≤ 12) : ∀ t, t < 2 ^ k → gx b (2 ^ k + t) = gx b (2 ^ k) ^^^ gx b t := by
  intro t
  induction t with
  | zero => intro _; show gx b (2 ^ k) = gx b (2 ^ k) ^^^ 0; rw [Nat.xor_zero]
  | succ t ih =>
    intro h
    show gx b (2 ^ k + t) ^^^ 2 ^ b (ntzN 12 (2 ^ k + (t + 1))) = gx b (2 ^ k) ^^^ (gx b t ^^^ 2 ^ b (ntzN 12 (t + 1)))
    rw [ih (by omega), ntz_top 12 (t + 1) k (by omega) h hk, Nat.xor_assoc]
theorem gx_at (b : Nat → Nat) (k : Nat) (hk : k < 12) : gx b (2 ^ k) = gx b (2 ^ k - 1) ^^^ 2 ^ b k := by
  have h := ntz_pow 12 k hk
  have hp := Nat.two_pow_pos k
  obtain ⟨q, hq⟩ : ∃ q, 2 ^ k = q + 1 := ⟨2 ^ k - 1, by omega⟩
  rw [hq] at h
  rw [hq, Nat.add_sub_cancel]
  show gx b q ^^^ 2 ^ b (ntzN 12 (q + 1)) = _
  rw [h]
theorem gray (b : Nat → Nat) : ∀ k, k ≤ 12 → ∀ X, ((List.range (2 ^ k)).map (fun t => X ^^^ gx b t)).Perm (fl b k X) := by
  intro k
  induction k with
  | zero =>
    intro _ X
    show [X ^^^ 0].Perm [X]
    rw [Nat.xor_zero]
  | succ k ih =>
    intro hk X
    have hp : 2 ^ (k + 1) = 2 ^ k + 2 ^ k := by rw [Nat.pow_succ]; omega
    rw [hp, List.range_add, List.map_append, List.map_map]
    show List.Perm _ (fl b k X ++ fl b k (X ^^^ 2 ^ b k))
    refine (ih (by omega) X).append ?_
    have e : (List.range (2 ^ k)).map ((fun t => X ^^^ gx b t) ∘ (2 ^ k + ·)) = (List.range (2 ^ k)).map (fun t => (X ^^^ 2 ^ b k ^^^ gx b (2 ^ k - 1)) ^^^ gx b t) := by
      refine List.map_congr_left (fun t ht => ?_)
      rw [List.mem_range] at ht
      show X ^^^ gx b (2 ^ k + t) = _
      rw [gx_top b k (by omega) t ht, gx_at b k (by omega), ← Nat.xor_assoc, Nat.xor_comm (gx b (2 ^ k - 1)), ← Nat.xor_assoc]
    rw [e]
    have hp2 := Nat.two_pow_pos k
    exact (ih (by omega) _).trans (gx_perm b k (by omega) (2 ^ k - 1) _ (by omega))
/-- the members of a mask, in order -/
def mbs (m : Nat) : Nat → List Nat
  | 0 => []
  | j + 1 => if m.testBit j = true then mbs m j ++ [j] else mbs m j
theorem mbs_s (m j : Nat) : mbs m (j + 1) = if m.testBit j = true then mbs m j ++ [j] else mbs m j := rfl
theorem mbs_lt (m : Nat) : ∀ j x, x ∈ mbs m j → x < j ∧ m.testBit x = true := by
  intro j
  induction j with
  | zero => intro x h; cases h
  | succ j ih =>
    intro x h
    unfold mbs at h
    split at h
    · rename_i c
      rcases List.mem_append.mp h with q | q
      · exact ⟨by have := (ih x q).1; omega, (ih x q).2⟩
      · rw [List.mem_singleton] at q
        subst q
        exact ⟨by omega, c⟩
    · exact ⟨by have := (ih x h).1; omega, (ih x h).2⟩
theorem mbs_len (m : Nat) : ∀ j, (mbs m j).length = fb_ct (fun i => m.testBit i) j := by
  intro j
  induction j with
  | zero => rfl
  | succ j ih =>
    rw [fb_ct_succ, mbs_s]
    by_cases c : m.testBit j = true
    · rw [if_pos c, if_pos c, List.length_append, ih]
      rfl
    · rw [if_neg c, if_neg c, ih]
      rfl
def mb (m N k : Nat) : Nat := (mbs m N)[k]?.getD 0
theorem mbs_pre (m : Nat) (i : Nat) : ∀ j, i ≤ j → ∃ l, mbs m j = mbs m i ++ l := by
  intro j
  induction j with
  | zero =>
    intro h
    have : i = 0 := by omega
    subst this
    exact ⟨[], rfl⟩
  | succ j ih =>
    intro h
    by_cases c : i = j + 1
    · exact ⟨[], by rw [c, List.append_nil]⟩
    · obtain ⟨l, hl⟩ := ih (by omega)
      rw [mbs_s]
      split
      · exact ⟨l ++ [j], by rw [hl, List.append_assoc]⟩
      · exact ⟨l, hl⟩
theorem mb_at {m N j : Nat} (hj : j < N) (h : m.testBit j = true) : mb m N (mbs m j).length = j := by
  obtain ⟨l, hl⟩ := mbs_pre m (j + 1) N (by omega)
  unfold mb
  rw [hl, mbs_s, if_pos h, List.append_assoc, List.getElem?_append_right (Nat.le_refl _), Nat.sub_self]
  rfl
theorem subm_lt : ∀ (j m z : Nat), z ∈ subm j m → z < 2 ^ j ∧ z &&& m = z := by
  intro j m z h
  rw [subm_range, List.mem_filter, List.mem_range] at h
  exact ⟨h.1, of_decide_eq_true h.2⟩
theorem xor_add {z j : Nat} (h : z < 2 ^ j) : z ^^^ 2 ^ j = z + 2 ^ j := by
  have h1 : 2 ^ j * 1 + z = 2 ^ j * 1 ||| z := Nat.two_pow_add_eq_or_of_lt h 1
  rw [Nat.mul_one] at h1
  rw [Nat.add_comm, h1]
  apply Nat.eq_of_testBit_eq
  intro i
  rw [Nat.testBit_xor, Nat.testBit_or, Nat.testBit_two_pow]
  by_cases c : j = i
  · subst c
    rw [Nat.testBit_lt_two_pow h, decide_eq_true rfl]
    rfl
  · rw [decide_eq_false c, Bool.xor_false, Bool.false_or]
theorem subm_fl (m N : Nat) : ∀ j, j ≤ N → subm j m = fl (mb m N) (mbs m j).length 0 := by
  intro j
  induction j with
  | zero => intro _; rfl
  | succ j ih =>
    intro h
    have e := ih (by omega)
    unfold mbs
    show (if m.testBit j = true then subm j m ++ (subm j m).map (fun x => x + 2 ^ j) else subm j m) = _
    by_cases c : m.testBit j = true
    · rw [if_pos c, if_pos c, List.length_append]
      show _ = fl (mb m N) (mbs m j).length 0 ++ fl (mb m N) (mbs m j).length (0 ^^^ 2 ^ mb m N (mbs m j).length)
      rw [fl_xor, mb_at (by omega) c, ← e]
      congr 1
      refine List.map_congr_left (fun z hz => ?_)
      rw [xor_add (subm_lt j m z hz).1]
    · rw [if_neg c, if_neg c, e]
theorem subm_up (m : Nat) {j : Nat} (h : m < 2 ^ j) : ∀ d, subm (j + d) m = subm j m := by
  intro d
  induction d with
  | zero => rfl
  | succ d ih =>
    show (if m.testBit (j + d) = true then subm (j + d) m ++ (subm (j + d) m).map (fun x => x + 2 ^ (j + d)) else subm (j + d) m) = _
    rw [if_neg, ih]
    rw [Nat.testBit_lt_two_pow (Nat.lt_of_lt_of_le h (Nat.pow_le_pow_right (by decide) (by omega)))]
    decide
/-- the Gray walk through the members of a mask meets every set in it once -/
theorem gray_subm {m N : Nat} (hm : m < 2 ^ N) (hN : N ≤ 20) (hn : (mbs m N).length ≤ 12) : ((List.range (2 ^ (mbs m N).length)).map (gx (mb m N))).Perm (subm 20 m) := by
  have h1 := gray (mb m N) _ hn 0
  rw [← subm_fl m N N (Nat.le_refl _)] at h1
  obtain ⟨d, hd⟩ : ∃ d, 20 = N + d := ⟨20 - N, by omega⟩
  rw [hd, subm_up m hm d]
  refine List.Perm.trans (List.Perm.of_eq ?_) h1
  exact List.map_congr_left (fun t _ => by rw [Nat.zero_xor])
/-! what is gathered over sets, in any order -/
abbrev GA : Type := Nat × Nat × Nat × Nat
def gat (s : GA) (x : Nat) : GA := (s.1 + 1, (if s.1 = 0 then x else if x < s.2.1 then x else s.2.1), (if s.1 = 0 then x else s.2.2.1 &&& x), s.2.2.2 ||| x)
theorem gat_comm (s : GA) (x y : Nat) : gat (gat s x) y = gat (gat s y) x := by
  unfold gat
  simp only [Nat.add_eq_zero_iff, Nat.succ_ne_self, and_false, if_false, show ((1 : Nat) = 0) = False by simp]
  by_cases c : s.1 = 0
  · simp only [c, if_true]
    refine Prod.ext rfl (Prod.ext ?_ (Prod.ext (Nat.and_comm _ _) ?_))
    · show (if y < x then y else x) = if x < y then x else y
      split <;> split <;> omega
    · show s.2.2.2 ||| x ||| y = s.2.2.2 ||| y ||| x
      rw [Nat.or_assoc, Nat.or_assoc, Nat.or_comm x]
  · simp only [c, if_false]
    refine Prod.ext rfl (Prod.ext ?_ (Prod.ext ?_ ?_))
    · show (if y < (if x < s.2.1 then x else s.2.1) then y else (if x < s.2.1 then x else s.2.1)) = if x < (if y < s.2.1 then y else s.2.1) then x else (if y < s.2.1 then y else s.2.1)
      split <;> split <;> (try split) <;> (try split) <;> omega
    · show s.2.2.1 &&& x &&& y = s.2.2.1 &&& y &&& x
      rw [Nat.and_assoc, Nat.and_assoc, Nat.and_comm x]
    · show s.2.2.2 ||| x ||| y = s.2.2.2 ||| y ||| x
      rw [Nat.or_assoc, Nat.or_assoc, Nat.or_comm x]
def gall (l : List Nat) : GA := l.foldl gat (0, 0, 0, 0)
theorem gall_perm {l l' : List Nat} (h : l.Perm l') : gall l = gall l' :=
  h.foldl_eq' (fun x _ y _ z => gat_comm z x y) _
