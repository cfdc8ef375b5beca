/-! stage III: the best laying, pure -/
def cnG (U : Nat) (g : Nat → Nat) : Int := sI (fun u => if g u = 20 then 0 else 1) U
def cdG (n : Nat) (g : Nat → Nat) : Int := sI (fun u => (g u : Int) * ((21 ^ (7 - u) : Nat) : Int)) n
/-- no more than many, and as many only with off at least -/
def BST (U : Nat) (ok : Nat → Nat → Bool) (c : Nat → Nat → Int) (B : Nat) (many off : Int) : Prop :=
  (∃ g, AS U ok B g ∧ cnG U g = many ∧ VS U c g = off) ∧ ∀ g, AS U ok B g → cnG U g < many ∨ (cnG U g = many ∧ off ≤ VS U c g)
/-- what the class adds for one laid -/
def cC (df : Nat → Nat → Int) : Nat → Nat → Int := fun u b => df u b * 37822859361 + (b : Int) * ((21 ^ (7 - u) : Nat) : Int) - (154922431942656 + 20 * ((21 ^ (7 - u) : Nat) : Int))
def vC (U : Nat) : Int := sI (fun u => 154922431942656 + 20 * ((21 ^ (7 - u) : Nat) : Int)) U
theorem sI_lin3 (a b c d : Nat → Int) (A B : Int) : ∀ n, (∀ i, i < n → d i = a i * A + b i * B + c i) → sI d n = sI a n * A + sI b n * B + sI c n := by
  intro n
  induction n with
  | zero => intro _; show (0 : Int) = 0 * A + 0 * B + 0; simp
  | succ n ih =>
    intro e
    show sI d n + d n = (sI a n + a n) * A + (sI b n + b n) * B + (sI c n + c n)
    rw [ih (fun i hi => e i (by omega)), e n (by omega), Int.add_mul, Int.add_mul]
    omega
theorem sI_add (a b : Nat → Int) : ∀ n, sI (fun i => a i + b i) n = sI a n + sI b n := by
  intro n
  induction n with
  | zero => rfl
  | succ n ih =>
    show sI (fun i => a i + b i) n + (a n + b n) = sI a n + a n + (sI b n + b n)
    rw [ih]
    omega
/-- the class's worth of a laying -/
theorem worth_eq (U : Nat) (df : Nat → Nat → Int) (g : Nat → Nat) : vC U + VS U (cC df) g = (U - cnG U g) * 154922431942656 + VS U df g * 37822859361 + cdG U g := by
  have h1 : vC U + VS U (cC df) g = sI (fun u => (154922431942656 + 20 * ((21 ^ (7 - u) : Nat) : Int)) + (if g u = 20 then 0 else cC df u (g u))) U := (sI_add _ _ U).symm
  rw [h1, sI_lin3 (fun u => 1 - (if g u = 20 then 0 else 1)) (fun u => if g u = 20 then 0 else df u (g u)) (fun u => (g u : Int) * ((21 ^ (7 - u) : Nat) : Int)) _ 154922431942656 37822859361 U (fun u _ => ?_)]
  · have h2 : sI (fun u => 1 - (if g u = 20 then (0 : Int) else 1)) U + cnG U g = U := by
      rw [show cnG U g = sI (fun u => if g u = 20 then 0 else 1) U from rfl, ← sI_add, sI_cong (g := fun _ => 1) U (fun i _ => by show (1 : Int) - (if g i = 20 then 0 else 1) + (if g i = 20 then 0 else 1) = 1; omega), sI_const, Int.mul_one]
    have h3 : sI (fun u => 1 - (if g u = 20 then (0 : Int) else 1)) U = U - cnG U g := by omega
    rw [h3]
    rfl
  · show (154922431942656 + 20 * ((21 ^ (7 - u) : Nat) : Int)) + (if g u = 20 then 0 else cC df u (g u)) = (1 - (if g u = 20 then (0 : Int) else 1)) * 154922431942656 + (if g u = 20 then 0 else df u (g u)) * 37822859361 + (g u : Int) * ((21 ^ (7 - u) : Nat) : Int)
    by_cases q : g u = 20
    · rw [if_pos q, if_pos q, if_pos q, q]
      omega
    · rw [if_neg q, if_neg q, if_neg q]
      unfold cC
      omega
theorem p21 {n : Nat} (h : n < 8) : ((21 ^ (8 - n) : Nat) : Int) = 21 * ((21 ^ (7 - n) : Nat) : Int) := by
  rw [show 8 - n = (7 - n) + 1 by omega, Nat.pow_succ]
  omega
theorem p21_pos (n : Nat) : (0 : Int) < ((21 ^ n : Nat) : Int) := by
  have : 0 < 21 ^ n := Nat.pow_pos (by omega)
  omega
/-- the figures behind m are worth less than one of m -/
theorem cd_tail {g : Nat → Nat} (m : Nat) : ∀ k, m + k ≤ 8 → (∀ u, u < m + k → g u ≤ 20) → cdG (m + k) g + ((21 ^ (8 - (m + k)) : Nat) : Int) ≤ cdG m g + ((21 ^ (8 - m) : Nat) : Int) := by
  intro k
  induction k with
  | zero => intro _ _; exact Int.le_refl _
  | succ k ih =>
    intro hk hg
    have h1 := ih (by omega) (fun u hu => hg u (by omega))
    have h2 := hg (m + k) (by omega)
    have h3 := p21 (n := m + k) (by omega)
    have h4 := p21_pos (7 - (m + k))
    show cdG (m + k) g + (g (m + k) : Int) * ((21 ^ (7 - (m + k)) : Nat) : Int) + ((21 ^ (8 - (m + k + 1)) : Nat) : Int) ≤ _
    rw [show 8 - (m + k + 1) = 7 - (m + k) by omega]
    have h5 : (g (m + k) : Int) * ((21 ^ (7 - (m + k)) : Nat) : Int) ≤ 20 * ((21 ^ (7 - (m + k)) : Nat) : Int) := Int.mul_le_mul_of_nonneg_right (by omega) (by omega)
    omega
theorem cd_mono {g : Nat → Nat} (m : Nat) : ∀ k, cdG m g ≤ cdG (m + k) g := by
  intro k
  induction k with
  | zero => exact Int.le_refl _
  | succ k ih =>
    have h4 := p21_pos (7 - (m + k))
    have h5 : (0 : Int) ≤ (g (m + k) : Int) * ((21 ^ (7 - (m + k)) : Nat) : Int) := Int.mul_nonneg (by omega) (by omega)
    show cdG m g ≤ cdG (m + k) g + (g (m + k) : Int) * ((21 ^ (7 - (m + k)) : Nat) : Int)
    omega
theorem cd_bound {U : Nat} {g : Nat → Nat} (hU : U ≤ 8) (hg : ∀ u, u < U → g u ≤ 20) : 0 ≤ cdG U g ∧ cdG U g < 37822859361 := by
  have h1 := cd_tail (g := g) 0 U (by omega) (fun u hu => hg u (by omega))
  have h2 := cd_mono (g := g) 0 U
  have h3 := p21_pos (8 - (0 + U))
  have h4 : cdG 0 g = 0 := rfl
  have h5 : ((21 ^ (8 - 0) : Nat) : Int) = 37822859361 := by decide
  rw [Nat.zero_add] at *
  omega
/-- an earlier figure that is less makes all less -/
theorem cd_less {U k : Nat} {g g' : Nat → Nat} (hU : U ≤ 8) (hk : k < U) (hg : ∀ u, u < U → g u ≤ 20) (e : ∀ j, j < k → g j = g' j) (l : g k < g' k) : cdG U g < cdG U g' := by
  have h1 := cd_tail (g := g) (k + 1) (U - (k + 1)) (by omega) (fun u hu => hg u (by omega))
  rw [show k + 1 + (U - (k + 1)) = U by omega] at h1
  have h2 := cd_mono (g := g') (k + 1) (U - (k + 1))
  rw [show k + 1 + (U - (k + 1)) = U by omega] at h2
  have h3 := p21_pos (8 - U)
  have h4 : cdG (k + 1) g = cdG k g + (g k : Int) * ((21 ^ (7 - k) : Nat) : Int) := rfl
  have h5 : cdG (k + 1) g' = cdG k g' + (g' k : Int) * ((21 ^ (7 - k) : Nat) : Int) := rfl
  have h6 : cdG k g = cdG k g' := sI_cong k (fun i hi => by show (g i : Int) * _ = (g' i : Int) * _; rw [e i hi])
  have h7 : ((g k : Int) + 1) * ((21 ^ (7 - k) : Nat) : Int) ≤ (g' k : Int) * ((21 ^ (7 - k) : Nat) : Int) := Int.mul_le_mul_of_nonneg_right (by omega) (by have := p21_pos (7 - k); omega)
  rw [Int.add_mul, Int.one_mul] at h7
  rw [show 8 - (k + 1) = 7 - k by omega] at h1
  omega
/-- the figure of one out of the worth -/
theorem cd_fig {U u : Nat} {g : Nat → Nat} (hU : U ≤ 8) (hu : u < U) (hg : ∀ u, u < U → g u ≤ 20) : ∃ q t : Int, cdG U g = (21 * q + g u) * ((21 ^ (7 - u) : Nat) : Int) + t ∧ 0 ≤ q ∧ 0 ≤ t ∧ t < ((21 ^ (7 - u) : Nat) : Int) := by
  have hq : ∀ n, n ≤ 8 → ∃ q : Int, 0 ≤ q ∧ cdG n g = q * ((21 ^ (8 - n) : Nat) : Int) := by
    intro n
    induction n with
    | zero => intro _; exact ⟨0, by omega, by show (0 : Int) = 0 * _; rw [Int.zero_mul]⟩
    | succ n ih =>
      intro hn
      obtain ⟨q, h0, h1⟩ := ih (by omega)
      refine ⟨21 * q + g n, by omega, ?_⟩
      show cdG n g + (g n : Int) * ((21 ^ (7 - n) : Nat) : Int) = _
      rw [h1, p21 (by omega), show 8 - (n + 1) = 7 - n by omega, Int.add_mul, ← Int.mul_assoc, Int.mul_comm q 21]
  obtain ⟨q, h0, h1⟩ := hq u (by omega)
  have h2 := cd_tail (g := g) (u + 1) (U - (u + 1)) (by omega) (fun i hi => hg i (by omega))
  rw [show u + 1 + (U - (u + 1)) = U by omega] at h2
  have h3 := cd_mono (g := g) (u + 1) (U - (u + 1))
  rw [show u + 1 + (U - (u + 1)) = U by omega] at h3
  have h4 : cdG (u + 1) g = cdG u g + (g u : Int) * ((21 ^ (7 - u) : Nat) : Int) := rfl
  have h5 := p21_pos (8 - U)
  rw [h1, p21 (by omega), ← Int.mul_assoc, Int.mul_comm q 21, ← Int.add_mul] at h4
  rw [show 8 - (u + 1) = 7 - u by omega] at h2
  exact ⟨q, cdG U g - cdG (u + 1) g, by omega, h0, by omega, by omega⟩
theorem AS.le20 {U B : Nat} {ok : Nat → Nat → Bool} {g : Nat → Nat} (a : AS U ok B g) (hB : B ≤ 20) {u : Nat} (hu : u < U) : g u ≤ 20 := by
  rcases a.1 u hu with q | q <;> omega
theorem VS_bound {U B : Nat} {ok : Nat → Nat → Bool} {df : Nat → Nat → Int} {g : Nat → Nat} (a : AS U ok B g) (hd : ∀ u b, u < U → b < B → ok u b = true → 0 ≤ df u b ∧ df u b ≤ 495) : 0 ≤ VS U df g ∧ VS U df g ≤ U * 495 := by
  have h1 : sI (fun _ => 0) U ≤ VS U df g := sI_le U (fun i hi => by
    show (0 : Int) ≤ if g i = 20 then 0 else df i (g i)
    rcases a.1 i hi with q | q
    · rw [if_pos q]; omega
    · have := hd i (g i) hi q.1 q.2
      split <;> omega)
  have h2 : VS U df g ≤ sI (fun _ => 495) U := sI_le U (fun i hi => by
    show (if g i = 20 then (0 : Int) else df i (g i)) ≤ 495
    rcases a.1 i hi with q | q
    · rw [if_pos q]; omega
    · have := hd i (g i) hi q.1 q.2
      split <;> omega)
  rw [sI_const] at h1 h2
  omega
theorem cnG_bound (U : Nat) (g : Nat → Nat) : 0 ≤ cnG U g ∧ cnG U g ≤ U := by
  have h1 : sI (fun _ => 0) U ≤ cnG U g := sI_le U (fun i _ => by show (0 : Int) ≤ if g i = 20 then 0 else 1; split <;> omega)
  have h2 : cnG U g ≤ sI (fun _ => 1) U := sI_le U (fun i _ => by show (if g i = 20 then (0 : Int) else 1) ≤ 1; split <;> omega)
  rw [sI_const] at h1 h2
  omega
/-- the class's best laying -/
def OPT (U : Nat) (ok : Nat → Nat → Bool) (df : Nat → Nat → Int) (B : Nat) (g : Nat → Nat) : Prop :=
  AS U ok B g ∧ ∀ g', AS U ok B g' → vC U + VS U (cC df) g ≤ vC U + VS U (cC df) g'
theorem OPT.bst {U B : Nat} {ok : Nat → Nat → Bool} {df : Nat → Nat → Int} {g : Nat → Nat} (o : OPT U ok df B g) (hU : U ≤ 8) (hB : B ≤ 20) (hd : ∀ u b, u < U → b < B → ok u b = true → 0 ≤ df u b ∧ df u b ≤ 495) : BST U ok df B (cnG U g) (VS U df g) := by
  refine ⟨⟨g, o.1, rfl, rfl⟩, fun g' a => ?_⟩
  have h1 := o.2 g' a
  rw [worth_eq, worth_eq] at h1
  have h2 := VS_bound o.1 hd
  have h3 := VS_bound a hd
  have h4 := cd_bound (g := g) hU (fun u hu => o.1.le20 hB hu)
  have h5 := cd_bound (g := g') hU (fun u hu => a.le20 hB hu)
  omega
theorem BST.eq {U B : Nat} {ok : Nat → Nat → Bool} {df : Nat → Nat → Int} {a b a' b' : Int} (x : BST U ok df B a b) (y : BST U ok df B a' b') : a = a' ∧ b = b' := by
  obtain ⟨⟨g, g1, g2, g3⟩, x2⟩ := x
  obtain ⟨⟨g', g1', g2', g3'⟩, y2⟩ := y
  have h1 := x2 g' g1'
  have h2 := y2 g g1
  omega
/-- least figures among the best -/
theorem OPT.least {U B : Nat} {ok : Nat → Nat → Bool} {df : Nat → Nat → Int} {g g' : Nat → Nat} (o : OPT U ok df B g) (a : AS U ok B g') (h1 : cnG U g' = cnG U g) (h2 : VS U df g' = VS U df g) : cdG U g ≤ cdG U g' := by
  have h := o.2 g' a
  rw [worth_eq, worth_eq, h1, h2] at h
  omega
/-- some are fixed -/
def hasF (fx : Nat → Nat) (b : Nat) : Nat → Bool
  | 0 => false
  | n + 1 => hasF fx b n || decide (fx n = b)
theorem hasF_iff (fx : Nat → Nat) (b : Nat) : ∀ n, hasF fx b n = true ↔ ∃ v, v < n ∧ fx v = b := by
  intro n
  induction n with
  | zero => exact ⟨fun h => (by cases h), fun ⟨v, h, _⟩ => absurd h (Nat.not_lt_zero v)⟩
  | succ n ih =>
    show (hasF fx b n || decide (fx n = b)) = true ↔ _
    rw [Bool.or_eq_true, ih, decide_eq_true_iff]
    constructor
    · rintro (⟨v, h1, h2⟩ | h)
      · exact ⟨v, by omega, h2⟩
      · exact ⟨n, by omega, h⟩
    · rintro ⟨v, h1, h2⟩
      by_cases q : v = n
      · subst q; exact Or.inr h2
      · exact Or.inl ⟨v, by omega, h2⟩
def okf (U : Nat) (ok : Nat → Nat → Bool) (fx : Nat → Nat) : Nat → Nat → Bool := fun u b => ok u b && (decide (fx u = b) || (decide (fx u = 21) && !hasF fx b U))
theorem okf_iff {U : Nat} {ok : Nat → Nat → Bool} {fx : Nat → Nat} {u b : Nat} : okf U ok fx u b = true ↔ ok u b = true ∧ (fx u = b ∨ (fx u = 21 ∧ ¬ ∃ v, v < U ∧ fx v = b)) := by
  unfold okf
  rw [Bool.and_eq_true, Bool.or_eq_true, Bool.and_eq_true, decide_eq_true_iff, decide_eq_true_iff, Bool.not_eq_true', ← hasF_iff]
  constructor
  · rintro ⟨h1, h2 | ⟨h2, h3⟩⟩
    · exact ⟨h1, Or.inl h2⟩
    · exact ⟨h1, Or.inr ⟨h2, by rw [h3]; decide⟩⟩
  · rintro ⟨h1, h2 | ⟨h2, h3⟩⟩
    · exact ⟨h1, Or.inl h2⟩
    · exact ⟨h1, Or.inr ⟨h2, by cases e : hasF fx b U with | false => rfl | true => exact absurd e h3⟩⟩
theorem okf_free {U : Nat} {ok : Nat → Nat → Bool} {fx : Nat → Nat} (h : ∀ u, u < U → fx u = 21) {u b : Nat} (hu : u < U) (hb : b < 21) : okf U ok fx u b = ok u b := by
  cases e : ok u b with
  | false => unfold okf; rw [e, Bool.false_and]
  | true => exact okf_iff.mpr ⟨e, Or.inr ⟨h u hu, fun ⟨v, h1, h2⟩ => by rw [h v h1] at h2; omega⟩⟩
theorem AS.cong {U B : Nat} {ok ok' : Nat → Nat → Bool} {g : Nat → Nat} (a : AS U ok B g) (h : ∀ u b, u < U → b < B → ok u b = true → ok' u b = true) : AS U ok' B g :=
  ⟨fun u hu => (a.1 u hu).elim Or.inl (fun q => Or.inr ⟨q.1, h u (g u) hu q.1 q.2⟩), a.2⟩
theorem AS.unf {U B : Nat} {ok : Nat → Nat → Bool} {fx : Nat → Nat} {g : Nat → Nat} (a : AS U (okf U ok fx) B g) : AS U ok B g :=
  a.cong (fun _ _ _ _ e => (okf_iff.mp e).1)
theorem BST.cong {U B : Nat} {ok ok' : Nat → Nat → Bool} {c : Nat → Nat → Int} {a b : Int} (x : BST U ok c B a b) (h : ∀ u b, u < U → b < B → ok u b = ok' u b) : BST U ok' c B a b := by
  obtain ⟨⟨g, g1, g2⟩, x2⟩ := x
  exact ⟨⟨g, g1.cong (fun u b hu hb e => by rw [← h u b hu hb]; exact e), g2⟩, fun g' a' => x2 g' (a'.cong (fun u b hu hb e => by rw [h u b hu hb]; exact e))⟩
/-- the first k are fixed as the best laying has them -/
def FXK (U : Nat) (g : Nat → Nat) (k : Nat) (fx : Nat → Nat) : Prop := ∀ j, j < U → (j < k → fx j = g j) ∧ (k ≤ j → fx j = 21)
theorem pre_yes {U B k : Nat} {ok : Nat → Nat → Bool} {g fx : Nat → Nat} (hB : B ≤ 20) (a : AS U ok B g) (F : FXK U g k fx) (hk : k < U) : g k = 20 ∨ (g k < B ∧ hasF fx (g k) U = false ∧ ok k (g k) = true) := by
  rcases a.1 k hk with q | ⟨q1, q2⟩
  · exact Or.inl q
  · by_cases q : g k = 20
    · exact Or.inl q
    · refine Or.inr ⟨q1, ?_, q2⟩
      cases e : hasF fx (g k) U with
      | false => rfl
      | true =>
        exfalso
        obtain ⟨v, hv, h2⟩ := (hasF_iff _ _ _).mp e
        by_cases w : v < k
        · rw [(F v hv).1 w] at h2
          rcases a.2 v k hv hk h2 with z | z
          · exact q (h2.symm.trans z)
          · omega
        · rw [(F v hv).2 (by omega)] at h2
          omega
theorem trial_yes {U B k : Nat} {ok : Nat → Nat → Bool} {df : Nat → Nat → Int} {g fx : Nat → Nat} {many off : Int} (hB : B ≤ 20) (a : AS U ok B g) (h1 : cnG U g = many) (h2 : VS U df g = off) (bs : BST U ok df B many off) (F : FXK U g k fx) (hk : k < U) : BST U (okf U ok (gup fx k (g k))) df B many off := by
  have hf : ∀ v, v < U → (v ≤ k → gup fx k (g k) v = g v) ∧ (k < v → gup fx k (g k) v = 21) := by
    intro v hv
    by_cases q : v = k
    · subst q; exact ⟨fun _ => gup_s _ _ _, fun h => by omega⟩
    · rw [gup_o fx _ q]
      exact ⟨fun h => (F v hv).1 (by omega), fun h => (F v hv).2 (by omega)⟩
  refine ⟨⟨g, ⟨fun u hu => ?_, a.2⟩, h1, h2⟩, fun g' a' => bs.2 g' a'.unf⟩
  rcases a.1 u hu with q | ⟨q1, q2⟩
  · exact Or.inl q
  · by_cases q : g u = 20
    · exact Or.inl q
    · refine Or.inr ⟨q1, okf_iff.mpr ⟨q2, ?_⟩⟩
      by_cases w : u ≤ k
      · exact Or.inl ((hf u hu).1 w)
      · refine Or.inr ⟨(hf u hu).2 (by omega), ?_⟩
        rintro ⟨v, hv, e⟩
        by_cases z : v ≤ k
        · rw [(hf v hv).1 z] at e
          rcases a.2 v u hv hu e with y | y
          · exact q (e.symm.trans y)
          · omega
        · rw [(hf v hv).2 (by omega)] at e
          omega
theorem cnG_up {U u b : Nat} {g : Nat → Nat} (hu : u < U) (hg : g u = 20) (hb : b ≠ 20) : cnG U (gup g u b) = cnG U g + 1 := VS_up (c := fun _ _ => 1) hu hg hb
theorem trial_no {U B k b : Nat} {ok : Nat → Nat → Bool} {df : Nat → Nat → Int} {g fx : Nat → Nat} {many off : Int} (hU : U ≤ 8) (hB : B ≤ 20) (o : OPT U ok df B g) (h1 : cnG U g = many) (h2 : VS U df g = off) (bs : BST U ok df B many off) (F : FXK U g k fx) (hk : k < U)
    (hb : b < g k) (hbB : b < B) (hbf : hasF fx b U = false) (hok : ok k b = true) : ¬ BST U (okf U ok (gup fx k b)) df B many off := by
  rintro ⟨⟨s, a, s1, s2⟩, -⟩
  have gk20 := o.1.le20 hB hk
  have hf : ∀ v, v < U → (v < k → gup fx k b v = g v) ∧ (v = k → gup fx k b v = b) ∧ (k < v → gup fx k b v = 21) := by
    intro v hv
    by_cases q : v = k
    · subst q; exact ⟨fun h => by omega, fun _ => gup_s _ _ _, fun h => by omega⟩
    · rw [gup_o fx _ q]
      exact ⟨fun h => (F v hv).1 h, fun h => absurd h q, fun h => (F v hv).2 (by omega)⟩
  have nb : ∀ v, v < k → g v ≠ b := by
    intro v hv e
    have : hasF fx b U = true := (hasF_iff _ _ _).mpr ⟨v, by omega, by rw [(F v (by omega)).1 hv]; exact e⟩
    rw [hbf] at this
    cases this
  -- all that are fixed are laid so
  have key : ∀ j, j ≤ k → s j = gup fx k b j := by
    intro j hj
    have hjU : j < U := by omega
    have fle : gup fx k b j ≤ 20 := by
      by_cases q : j = k
      · rw [(hf j hjU).2.1 q]; omega
      · rw [(hf j hjU).1 (by omega)]; exact o.1.le20 hB hjU
    by_cases q20 : s j = 20
    · by_cases f20 : gup fx k b j = 20
      · rw [q20, f20]
      · exfalso
        have hc : gup fx k b j < B ∧ ok j (gup fx k b j) = true := by
          by_cases q : j = k
          · rw [(hf j hjU).2.1 q, q]; exact ⟨hbB, hok⟩
          · rw [(hf j hjU).1 (by omega)] at f20 ⊢
            exact (o.1.1 j hjU).resolve_left f20
        have hn : ∀ i, i < U → i ≠ j → s i ≠ gup fx k b j := by
          intro i hi hij e
          rcases a.1 i hi with z | ⟨-, z⟩
          · exact f20 (e.symm.trans z)
          · rcases (okf_iff.mp z).2 with y | ⟨-, y⟩
            · rw [e] at y
              by_cases ik : i = k
              · rw [(hf i hi).2.1 ik, (hf j hjU).1 (by omega)] at y
                exact nb j (by omega) y.symm
              · by_cases ik2 : i < k
                · rw [(hf i hi).1 ik2] at y
                  by_cases jk : j = k
                  · rw [(hf j hjU).2.1 jk] at y
                    exact nb i ik2 y
                  · rw [(hf j hjU).1 (by omega)] at y f20
                    rcases o.1.2 i j hi hjU y with x | x
                    · exact f20 (y.symm.trans x)
                    · exact hij x
                · rw [(hf i hi).2.2 (by omega)] at y
                  omega
            · exact y ⟨j, hjU, e.symm⟩
        have a2 : AS U ok B (gup s j (gup fx k b j)) := by
          refine ⟨fun i hi => ?_, fun i l hi hl e => ?_⟩
          · by_cases q : i = j
            · subst q; rw [gup_s]; exact Or.inr hc
            · rw [gup_o s _ q]; exact a.unf.1 i hi
          · by_cases q : i = j
            · subst q
              by_cases q2 : l = i
              · exact Or.inr q2.symm
              · rw [gup_s, gup_o s _ q2] at e
                exact absurd e.symm (hn l hl q2)
            · by_cases q2 : l = j
              · subst q2
                rw [gup_s, gup_o s _ q] at e
                exact absurd e (hn i hi q)
              · rw [gup_o s _ q, gup_o s _ q2] at e
                rw [gup_o s _ q]
                exact a.2 i l hi hl e
        have h3 := bs.2 _ a2
        rw [cnG_up hjU q20 f20] at h3
        omega
    · have z := ((a.1 j hjU).resolve_left q20).2
      rcases (okf_iff.mp z).2 with y | ⟨y, -⟩
      · exact y.symm
      · omega
  have h4 := cd_less (U := U) (k := k) (g := s) (g' := g) hU hk (fun u hu => a.le20 hB hu) (fun j hj => by rw [key j (by omega), (hf j (by omega)).1 hj]) (by rw [key k (Nat.le_refl k), (hf k hk).2.1 rfl]; exact hb)
  have h5 := o.least a.unf (s1.trans h1.symm) (s2.trans h2.symm)
  omega
