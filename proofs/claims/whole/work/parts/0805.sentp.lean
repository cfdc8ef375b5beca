/-! stage III: what can be sent, pure -/
def msS (f : Nat → Nat) (s : Nat) : Nat → Nat
  | 0 => 0
  | n + 1 => if s.testBit n = true then msS f s n ||| 2 ^ f n else msS f s n
theorem msS_s (f : Nat → Nat) (s n : Nat) : msS f s (n + 1) = if s.testBit n = true then msS f s n ||| 2 ^ f n else msS f s n := rfl
theorem msS_bit (f : Nat → Nat) (s b : Nat) : ∀ n, (msS f s n).testBit b = true ↔ ∃ k, k < n ∧ s.testBit k = true ∧ f k = b := by
  intro n
  induction n with
  | zero =>
    constructor
    · intro h; rw [show msS f s 0 = 0 from rfl, Nat.zero_testBit] at h; cases h
    · rintro ⟨k, h, -⟩; omega
  | succ n ih =>
    rw [msS_s]
    by_cases c : s.testBit n = true
    · rw [if_pos c, or_bit, Bool.or_eq_true, ih, decide_eq_true_iff]
      constructor
      · rintro (⟨k, h1, h2⟩ | h)
        · exact ⟨k, by omega, h2⟩
        · exact ⟨n, by omega, c, h.symm⟩
      · rintro ⟨k, h1, h2, h3⟩
        by_cases q : k = n
        · subst q; exact Or.inr h3.symm
        · exact Or.inl ⟨k, by omega, h2, h3⟩
    · rw [if_neg c, ih]
      constructor
      · rintro ⟨k, h1, h2⟩; exact ⟨k, by omega, h2⟩
      · rintro ⟨k, h1, h2, h3⟩
        by_cases q : k = n
        · subst q; exact absurd h2 c
        · exact ⟨k, by omega, h2, h3⟩
theorem msS_lt {f : Nat → Nat} {s M : Nat} : ∀ n, (∀ k, k < n → f k < M) → msS f s n < 2 ^ M := by
  intro n
  induction n with
  | zero => intro _; exact Nat.pow_pos (by omega)
  | succ n ih =>
    intro h
    rw [msS_s]
    have := ih (fun k hk => h k (by omega))
    split
    · exact Nat.or_lt_two_pow this (Nat.pow_lt_pow_right (by omega) (h n (by omega)))
    · exact this
def INJ (f : Nat → Nat) (n : Nat) : Prop := ∀ i j, i < n → j < n → f i = f j → i = j
theorem msS_at {f : Nat → Nat} {s n k : Nat} (I : INJ f n) (hk : k < n) : (msS f s n).testBit (f k) = s.testBit k := by
  cases e : s.testBit k with
  | true => exact (msS_bit f s (f k) n).mpr ⟨k, hk, e, rfl⟩
  | false =>
    cases q : (msS f s n).testBit (f k) with
    | false => rfl
    | true =>
      obtain ⟨j, h1, h2, h3⟩ := (msS_bit f s (f k) n).mp q
      have := I j k h1 hk h3
      subst this
      rw [e] at h2
      cases h2
theorem sm_inj {f g : Nat → Nat} {M : Nat} : ∀ n, INJ f n → (∀ k, k < n → f k < M) → fb_sm (fun k => g (f k)) n = fb_sm (fun b => if hasF f b n = true then g b else 0) M := by
  intro n
  induction n with
  | zero =>
    intro _ _
    show 0 = _
    rw [fb_sm_cong (g := fun _ => 0) (fun k _ => if_neg (by show ¬ false = true; decide)), fb_sm_const]
    omega
  | succ n ih =>
    intro I h
    have I' : INJ f n := fun i j hi hj e => I i j (by omega) (by omega) e
    rw [fb_sm_succ, ih I' (fun k hk => h k (by omega))]
    have no : ¬ hasF f (f n) n = true := by
      intro q
      obtain ⟨v, hv, e⟩ := (hasF_iff _ _ _).mp q
      have := I v n (by omega) (by omega) e
      omega
    have u := fb_sm_upd (fun b => if hasF f b n = true then g b else 0) (g (f n)) (i := f n) (n := M) (h n (by omega))
    rw [show (if hasF f (f n) n = true then g (f n) else 0) = 0 from if_neg no] at u
    rw [Nat.add_zero] at u
    rw [← u]
    refine fb_sm_cong (fun b _ => ?_)
    show (if b = f n then g (f n) else if hasF f b n = true then g b else 0) = if (hasF f b n || decide (f n = b)) = true then g b else 0
    by_cases c : b = f n
    · subst c
      rw [if_pos rfl, decide_eq_true (show f n = f n from rfl), Bool.or_true, if_pos rfl]
    · rw [if_neg c, decide_eq_false (fun q => c q.symm), Bool.or_false]
/-- a sum over a set, by places or by bells -/
theorem sm_set {f g : Nat → Nat} {n s : Nat} (I : INJ f n) (h : ∀ k, k < n → f k < 20) : fb_sm (fun k => if s.testBit k = true then g (f k) else 0) n = fb_sm (fun b => if (msS f s n).testBit b = true then g b else 0) 20 := by
  have h1 := sm_inj (f := f) (g := fun b => if (msS f s n).testBit b = true then g b else 0) (M := 20) n I h
  rw [fb_sm_cong (f := fun k => if s.testBit k = true then g (f k) else 0) (g := fun k => if (msS f s n).testBit (f k) = true then g (f k) else 0) (fun k hk => by show (if s.testBit k = true then g (f k) else 0) = _; rw [msS_at I hk])]
  rw [h1]
  refine fb_sm_cong (fun b _ => ?_)
  show (if hasF f b n = true then (if (msS f s n).testBit b = true then g b else 0) else 0) = _
  by_cases c : (msS f s n).testBit b = true
  · obtain ⟨k, k1, -, k3⟩ := (msS_bit f s b n).mp c
    rw [if_pos ((hasF_iff _ _ _).mpr ⟨k, k1, k3⟩)]
  · rw [if_neg c]
    split <;> rfl
def cnA (A : Nat) : Nat := fb_sm (fun b => if A.testBit b = true then 1 else 0) 20
def wtA (w : Nat → Nat) (A : Nat) : Nat := fb_sm (fun b => if A.testBit b = true then w b else 0) 20
def dyA (d u : Nat → Nat) (A x : Nat) : Nat := fb_sm (fun b => if A.testBit b = true then (if u b ≤ x then d b else 0) else 0) 20
def tmA (d u : Nat → Nat) (A : Nat) : Prop := ∀ b, b < 20 → A.testBit b = true → dyA d u A (u b) ≤ u b
/-- A is to be preferred to B -/
def BTR (w : Nat → Nat) (A B : Nat) : Prop := cnA B < cnA A ∨ (cnA A = cnA B ∧ (wtA w B < wtA w A ∨ (wtA w A = wtA w B ∧ A < B)))
/-- the best that can be sent of the bells in Y -/
def BSS (w d u : Nat → Nat) (Y : Nat → Prop) (A : Nat) : Prop :=
  ((∀ b, A.testBit b = true → Y b) ∧ tmA d u A) ∧ ∀ B, (∀ b, B.testBit b = true → Y b) → tmA d u B → ¬ BTR w B A
theorem BSS.eq {w d u : Nat → Nat} {Y : Nat → Prop} {A B : Nat} (x : BSS w d u Y A) (y : BSS w d u Y B) : A = B := by
  have h1 := x.2 B y.1.1 y.1.2
  have h2 := y.2 A x.1.1 x.1.2
  unfold BTR at h1 h2
  omega
theorem msS_sub {f : Nat → Nat} {n : Nat} {Y : Nat → Prop} (hY : ∀ b, hasF f b n = true ↔ Y b) (s : Nat) : ∀ b, (msS f s n).testBit b = true → Y b := by
  intro b hb
  obtain ⟨k, h1, -, h3⟩ := (msS_bit f s b n).mp hb
  exact (hY b).mp ((hasF_iff _ _ _).mpr ⟨k, h1, h3⟩)
theorem msS_on {f : Nat → Nat} {n : Nat} {Y : Nat → Prop} (hY : ∀ b, hasF f b n = true ↔ Y b) {B : Nat} (hB : ∀ b, B.testBit b = true → Y b) : ∃ s, s < 2 ^ n ∧ msS f s n = B := by
  refine ⟨mskB (fun k => B.testBit (f k)) n, mskB_lt _ n, ?_⟩
  apply Nat.eq_of_testBit_eq
  intro b
  have : (msS f (mskB (fun k => B.testBit (f k)) n) n).testBit b = true ↔ B.testBit b = true := by
    rw [msS_bit]
    constructor
    · rintro ⟨k, h1, h2, h3⟩
      rw [mskB_bit, Bool.and_eq_true] at h2
      rw [← h3]
      exact h2.2
    · intro h
      obtain ⟨k, h1, h2⟩ := (hasF_iff _ _ _).mp ((hY b).mpr (hB b h))
      refine ⟨k, h1, ?_, h2⟩
      rw [mskB_bit, Bool.and_eq_true, decide_eq_true_iff, h2]
      exact ⟨h1, h⟩
  cases e : B.testBit b with
  | true => exact this.mpr e
  | false =>
    cases q : (msS f (mskB (fun k => B.testBit (f k)) n) n).testBit b with
    | false => rfl
    | true => rw [this.mp q] at e; cases e
theorem msS_0 (f : Nat → Nat) (n : Nat) : msS f 0 n = 0 := by
  induction n with
  | zero => rfl
  | succ n ih => rw [msS_s, Nat.zero_testBit, if_neg (by decide), ih]
theorem ct_sm (p : Nat → Bool) : ∀ n, fb_ct p n = fb_sm (fun k => if p k = true then 1 else 0) n := by
  intro n
  induction n with
  | zero => rfl
  | succ n ih => rw [fb_ct_succ, fb_sm_succ, ih]
theorem cnA_pop {f : Nat → Nat} {n s : Nat} (I : INJ f n) (h : ∀ k, k < n → f k < 20) (hn : n ≤ 20) (hs : s < 2 ^ n) : cnA (msS f s n) = pop s := by
  unfold cnA
  rw [(pop_mask hs hn).1, ct_sm, ← sm_set (g := fun _ => 1) I h]
theorem cnA_le {f : Nat → Nat} {n s : Nat} (I : INJ f n) (h : ∀ k, k < n → f k < 20) (hn : n ≤ 20) (hs : s < 2 ^ n) : pop s ≤ n := by
  rw [(pop_mask hs hn).1]
  exact fb_ct_le _ n
theorem pop_full {n s : Nat} (hn : n ≤ 20) (hs : s < 2 ^ n) (h : pop s = n) : ∀ k, k < n → s.testBit k = true := by
  rw [(pop_mask hs hn).1] at h
  exact fb_ct_all.mp h
theorem tm_0 (d u : Nat → Nat) : tmA d u 0 := by
  intro b _ h
  rw [Nat.zero_testBit] at h
  cases h
theorem cn_0 : cnA 0 = 0 := by
  unfold cnA
  rw [fb_sm_cong (g := fun _ => 0) (fun k _ => by rw [Nat.zero_testBit]; rfl), fb_sm_const]
theorem wt_0 (w : Nat → Nat) : wtA w 0 = 0 := by
  unfold wtA
  rw [fb_sm_cong (g := fun _ => 0) (fun k _ => by rw [Nat.zero_testBit]; rfl), fb_sm_const]
/-- in time, by places -/
theorem tm_place {f d u : Nat → Nat} {n s : Nat} (I : INJ f n) (h : ∀ k, k < n → f k < 20) :
    tmA d u (msS f s n) ↔ ∀ i, i < n → s.testBit i = true → fb_sm (fun k => if s.testBit k = true then (if u (f k) ≤ u (f i) then d (f k) else 0) else 0) n ≤ u (f i) := by
  have e : ∀ x, dyA d u (msS f s n) x = fb_sm (fun k => if s.testBit k = true then (if u (f k) ≤ x then d (f k) else 0) else 0) n := fun x => (sm_set (g := fun b => if u b ≤ x then d b else 0) I h).symm
  constructor
  · intro t i hi hb
    have := t (f i) (h i hi) (by rw [msS_at I hi]; exact hb)
    rw [e] at this
    exact this
  · intro t b _ hb
    obtain ⟨k, h1, h2, h3⟩ := (msS_bit f s b n).mp hb
    subst h3
    rw [e]
    exact t k h1 h2
/-- days until place k, of those of s -/
def preN (f d : Nat → Nat) (s k : Nat) : Nat := fb_sm (fun j => if s.testBit j = true then d (f j) else 0) k
/-- in time, one behind the other by when they are due -/
theorem tm_pre {f d u : Nat → Nat} {n s : Nat} (I : INJ f n) (h : ∀ k, k < n → f k < 20) (so : ∀ j k, j < k → k < n → u (f j) ≤ u (f k)) :
    tmA d u (msS f s n) ↔ ∀ i, i < n → s.testBit i = true → preN f d s (i + 1) ≤ u (f i) := by
  rw [tm_place I h]
  constructor
  · intro t i hi hb
    refine Nat.le_trans ?_ (t i hi hb)
    have h1 : preN f d s (i + 1) ≤ fb_sm (fun k => if s.testBit k = true then (if u (f k) ≤ u (f i) then d (f k) else 0) else 0) (i + 1) := by
      refine fb_sm_le (fun k hk => ?_)
      show (if s.testBit k = true then d (f k) else 0) ≤ if s.testBit k = true then (if u (f k) ≤ u (f i) then d (f k) else 0) else 0
      by_cases c : s.testBit k = true
      · rw [if_pos c, if_pos c, if_pos]
        · exact Nat.le_refl _
        · by_cases q : k = i
          · subst q; exact Nat.le_refl _
          · exact so k i (by omega) hi
      · rw [if_neg c, if_neg c]
        exact Nat.le_refl _
    have h2 := fb_sm_mono (fun k => if s.testBit k = true then (if u (f k) ≤ u (f i) then d (f k) else 0) else 0) (i + 1) (n - (i + 1))
    rw [show i + 1 + (n - (i + 1)) = n by omega] at h2
    exact Nat.le_trans h1 h2
  · intro t i hi hb
    obtain ⟨l, l1, ⟨l2, l3⟩, l4⟩ := fb_last (p := fun j => s.testBit j = true ∧ u (f j) ≤ u (f i)) (n := n) ⟨i, hi, hb, Nat.le_refl _⟩
    refine Nat.le_trans ?_ (Nat.le_trans (t l l1 l2) l3)
    have h2 := fb_sm_split (fun k => if s.testBit k = true then (if u (f k) ≤ u (f i) then d (f k) else 0) else 0) (l + 1) (n - (l + 1))
    rw [show l + 1 + (n - (l + 1)) = n by omega] at h2
    rw [h2, fb_sm_cong (f := fun k => (fun k => if s.testBit k = true then (if u (f k) ≤ u (f i) then d (f k) else 0) else 0) (l + 1 + k)) (g := fun _ => 0) (n := n - (l + 1)) (fun k hk => by
      show (if s.testBit (l + 1 + k) = true then (if u (f (l + 1 + k)) ≤ u (f i) then d (f (l + 1 + k)) else 0) else 0) = 0
      have := l4 (l + 1 + k) (by omega) (by omega)
      by_cases c : s.testBit (l + 1 + k) = true
      · rw [if_pos c, if_neg (fun q => this ⟨c, q⟩)]
      · rw [if_neg c])]
    rw [fb_sm_const, Nat.mul_zero, Nat.add_zero]
    refine fb_sm_le (fun k hk => ?_)
    show (if s.testBit k = true then (if u (f k) ≤ u (f i) then d (f k) else 0) else 0) ≤ if s.testBit k = true then d (f k) else 0
    by_cases c : s.testBit k = true
    · rw [if_pos c, if_pos c]
      split <;> omega
    · rw [if_neg c, if_neg c]
      exact Nat.le_refl _
theorem lt_tb {a b i : Nat} (ha : a.testBit i = false) (hb : b.testBit i = true) (h : ∀ j, i < j → a.testBit j = b.testBit j) : a < b := by
  rw [Nat.testBit_eq_decide_div_mod_eq] at ha hb
  have h1 := of_decide_eq_false ha
  have h2 := of_decide_eq_true hb
  have h3 : a / 2 ^ i / 2 = b / 2 ^ i / 2 := by
    apply Nat.eq_of_testBit_eq
    intro j
    have e : ∀ x : Nat, (x / 2 ^ i / 2).testBit j = x.testBit (i + (j + 1)) := by
      intro x
      rw [Nat.div_div_eq_div_mul, ← Nat.pow_succ, ← Nat.shiftRight_eq_div_pow, Nat.testBit_shiftRight]
      congr 1
      omega
    rw [e, e, h (i + (j + 1)) (by omega)]
  rcases Nat.lt_or_ge a b with q | q
  · exact q
  · have := Nat.div_le_div_right (c := 2 ^ i) q
    omega
theorem topdiff (s t : Nat) : ∀ n, (∃ i, i < n ∧ s.testBit i ≠ t.testBit i) → ∃ i, i < n ∧ s.testBit i ≠ t.testBit i ∧ ∀ j, i < j → j < n → s.testBit j = t.testBit j := by
  intro n h
  obtain ⟨i, h1, h2, h3⟩ := fb_last (p := fun i => s.testBit i ≠ t.testBit i) h
  exact ⟨i, h1, h2, fun j a b => Decidable.not_not.mp (h3 j a b)⟩
/-- places that go up: a greater set is a greater mask -/
theorem msS_up {f : Nat → Nat} {n s t : Nat} (up : ∀ j k, j < k → k < n → f j < f k) (hs : s < 2 ^ n) (ht : t < 2 ^ n) (h : s < t) : msS f s n < msS f t n := by
  have big : ∀ x i, x < 2 ^ n → n ≤ i → x.testBit i = false := fun x i hx hi => Nat.testBit_lt_two_pow (Nat.lt_of_lt_of_le hx (Nat.pow_le_pow_right (by omega) hi))
  have ex : ∃ i, i < n ∧ s.testBit i ≠ t.testBit i := by
    by_cases q : ∃ i, i < n ∧ s.testBit i ≠ t.testBit i
    · exact q
    · exfalso
      have : s = t := by
        apply Nat.eq_of_testBit_eq
        intro i
        by_cases c : i < n
        · exact Decidable.not_not.mp (fun z => q ⟨i, c, z⟩)
        · rw [big s i hs (by omega), big t i ht (by omega)]
      omega
  obtain ⟨i, h1, h2, h3⟩ := topdiff s t n ex
  have h3' : ∀ j, i < j → s.testBit j = t.testBit j := by
    intro j hj
    by_cases c : j < n
    · exact h3 j hj c
    · rw [big s j hs (by omega), big t j ht (by omega)]
  have hsi : s.testBit i = false ∧ t.testBit i = true := by
    cases es : s.testBit i with
    | true =>
      have et : t.testBit i = false := by
        cases et : t.testBit i with
        | false => rfl
        | true => rw [es, et] at h2; exact absurd rfl h2
      have := lt_tb et es (fun j hj => (h3' j hj).symm)
      omega
    | false =>
      refine ⟨rfl, ?_⟩
      cases et : t.testBit i with
      | true => rfl
      | false => rw [es, et] at h2; exact absurd rfl h2
  have I : INJ f n := by
    intro a b ha hb e
    rcases Nat.lt_trichotomy a b with q | q | q
    · have := up a b q hb; omega
    · exact q
    · have := up b a q ha; omega
  refine lt_tb (i := f i) (by rw [msS_at I h1]; exact hsi.1) (by rw [msS_at I h1]; exact hsi.2) (fun j hj => ?_)
  have : (msS f s n).testBit j = true ↔ (msS f t n).testBit j = true := by
    rw [msS_bit, msS_bit]
    constructor
    · rintro ⟨k, a, b, c⟩
      refine ⟨k, a, ?_, c⟩
      rw [← h3' k]
      · exact b
      · by_cases q : i < k
        · exact q
        · exfalso
          by_cases q2 : k = i
          · subst q2; omega
          · have := up k i (by omega) h1; omega
    · rintro ⟨k, a, b, c⟩
      refine ⟨k, a, ?_, c⟩
      rw [h3' k]
      · exact b
      · by_cases q : i < k
        · exact q
        · exfalso
          by_cases q2 : k = i
          · subst q2; omega
          · have := up k i (by omega) h1; omega
  cases e : (msS f s n).testBit j with
  | true => exact (this.mp e).symm
  | false =>
    cases q : (msS f t n).testBit j with
    | false => rfl
    | true => rw [this.mpr q] at e; cases e
/-! the bells in the yard -/
def ydV (m : Nat → Nat → Int32) (b : Nat) : Bool := decide (stV m b = 3)
def YD (m : Nat → Nat → Int32) (i b : Nat) : Prop := b < i ∧ ydV m b = true ∧ fb_ct (ydV m) b < 10
def wN (m : Nat → Nat → Int32) (b : Nat) : Nat := (m 51 b).toNatClampNeg
def dN (m : Nat → Nat → Int32) (b : Nat) : Nat := (m 56 b).toNatClampNeg
def uN (m : Nat → Nat → Int32) (b : Nat) : Nat := (m 57 b).toNatClampNeg
theorem vw_w {m : Nat → Nat → Int32} (W : MW m) {b : Nat} (hb : b < NB m) : m 51 b = nI (wN m b) ∧ wN m b ≤ 9999 := n_51 W hb
theorem vw_d {m : Nat → Nat → Int32} (W : MW m) {b : Nat} (hb : b < NB m) : m 56 b = nI (dN m b) ∧ dN m b ≤ 99 := n_56 W hb
theorem vw_u {m : Nat → Nat → Int32} (W : MW m) {b : Nat} (hb : b < NB m) : m 57 b = nI (uN m b) ∧ uN m b ≤ 999 := n_57 W hb
/-- what is gathered of the bells below i -/
def GTH (m : Nat → Nat → Int32) (i n : Nat) (f : Nat → Nat) : Prop :=
  n = min (fb_ct (ydV m) i) 10 ∧ INJ f n ∧ ∀ b, hasF f b n = true ↔ YD m i b
theorem GTH.lt {m : Nat → Nat → Int32} {i n : Nat} {f : Nat → Nat} (g : GTH m i n f) {k : Nat} (hk : k < n) : f k < i := ((g.2.2 (f k)).mp ((hasF_iff _ _ _).mpr ⟨k, hk, rfl⟩)).1
theorem GTH.zero (m : Nat → Nat → Int32) (f : Nat → Nat) : GTH m 0 0 f :=
  ⟨rfl, fun i j hi => absurd hi (Nat.not_lt_zero i), fun b => ⟨fun h => (by cases h), fun h => absurd h.1 (Nat.not_lt_zero b)⟩⟩
theorem GTH.skip {m : Nat → Nat → Int32} {i n : Nat} {f : Nat → Nat} (g : GTH m i n f) (h : ydV m i = false) : GTH m (i + 1) n f := by
  refine ⟨?_, g.2.1, fun b => ?_⟩
  · rw [fb_ct_succ, h]; exact g.1
  · rw [g.2.2]
    unfold YD
    constructor
    · rintro ⟨a, c⟩; exact ⟨by omega, c⟩
    · rintro ⟨a, c, d⟩
      refine ⟨?_, c, d⟩
      by_cases q : b = i
      · subst q; rw [h] at c; cases c
      · omega
/-- ten are gathered: no more comes -/
theorem GTH.full {m : Nat → Nat → Int32} {i j n : Nat} {f : Nat → Nat} (g : GTH m i n f) (h : 10 ≤ n) (hj : i ≤ j) : GTH m j n f := by
  have h10 : 10 ≤ fb_ct (ydV m) i := by have := g.1; omega
  have hm := fb_ct_mono (ydV m) hj
  refine ⟨by have := g.1; omega, g.2.1, fun b => ?_⟩
  rw [g.2.2]
  unfold YD
  constructor
  · rintro ⟨a, c⟩; exact ⟨by omega, c⟩
  · rintro ⟨a, c, d⟩
    refine ⟨?_, c, d⟩
    by_cases q : b < i
    · exact q
    · have := fb_ct_mono (ydV m) (show i ≤ b by omega); omega
/-- one more -/
theorem GTH.add {m : Nat → Nat → Int32} {i n : Nat} {f f' : Nat → Nat} (g : GTH m i n f) (h : ydV m i = true) (hn : n < 10) (I : INJ f' (n + 1)) (hh : ∀ b, hasF f' b (n + 1) = true ↔ hasF f b n = true ∨ b = i) : GTH m (i + 1) (n + 1) f' := by
  have hc : fb_ct (ydV m) i = n := by have := g.1; omega
  refine ⟨?_, I, fun b => ?_⟩
  · rw [fb_ct_succ, h, hc]
    show n + 1 = min (n + 1) 10
    omega
  · rw [hh, g.2.2]
    unfold YD
    constructor
    · rintro (⟨a, c⟩ | rfl)
      · exact ⟨by omega, c⟩
      · exact ⟨by omega, h, by omega⟩
    · rintro ⟨a, c⟩
      by_cases q : b = i
      · exact Or.inr q
      · exact Or.inl ⟨by omega, c⟩
