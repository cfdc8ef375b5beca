/-! stage III: what the answers are, of the lasting numbers -/
def sg (t : Nat → Int32) (n p : Nat) : Int32 := if p < n then t p else -1
def dgN (t : Nat → Int32) (n : Nat) : Nat → Nat → Int32 → Nat × Int32
  | 0, p, v => (p, v)
  | k + 1, p, v => if 48 ≤ sg t n p ∧ sg t n p ≤ 57 then dgN t n k (p + 1) (10 * v + sg t n p - 48) else (p, v)
/-- a number: well, its value, the place behind it or where it fails -/
def pnum (t : Nat → Int32) (n few most : Nat) (lo hi : Int32) (p : Nat) : Bool × Int32 × Nat :=
  if p + few ≤ (dgN t n most p 0).1 then (if lo ≤ (dgN t n most p 0).2 ∧ (dgN t n most p 0).2 ≤ hi then (true, (dgN t n most p 0).2, (dgN t n most p 0).1) else (false, 0, p)) else (false, 0, (dgN t n most p 0).1)
def kdS (c : Int32) : Int32 := if c = 107 then 3 else if 97 ≤ c ∧ c ≤ 99 then c - 97 else -1
abbrev PT : Type := Int32 × Int32 × Int32 × Int32
/-- the end of a part: perhaps a week -/
def ptl (t : Nat → Int32) (n : Nat) (c y a : Int32) (p : Nat) : Bool × Nat × PT :=
  if sg t n p = 64 then (if (pnum t n 1 3 0 199 (p + 1)).1 = true then (true, (pnum t n 1 3 0 199 (p + 1)).2.2, (c, y, a, (pnum t n 1 3 0 199 (p + 1)).2.1)) else (false, (pnum t n 1 3 0 199 (p + 1)).2.2, (0, 0, 0, 0))) else (true, p, (c, y, a, 0))
/-- a part, behind its letter and = : k -/
def pk3 (t : Nat → Int32) (n : Nat) (p : Nat) : Bool × Nat × PT :=
  if (pnum t n 1 1 0 9 p).1 = true then ptl t n 3 0 (pnum t n 1 1 0 9 p).2.1 (pnum t n 1 1 0 9 p).2.2 else (false, (pnum t n 1 1 0 9 p).2.2, (0, 0, 0, 0))
/-- and a, b, c: behind the year and the comma -/
def pk2 (t : Nat → Int32) (n : Nat) (c y : Int32) (p : Nat) : Bool × Nat × PT :=
  if (pnum t n 1 4 1 9999 p).1 = true then ptl t n c y (pnum t n 1 4 1 9999 p).2.1 (pnum t n 1 4 1 9999 p).2.2 else (false, (pnum t n 1 4 1 9999 p).2.2, (0, 0, 0, 0))
def pk1 (t : Nat → Int32) (n : Nat) (c : Int32) (p : Nat) : Bool × Nat × PT :=
  if (pnum t n 4 4 1000 1939 p).1 = true then (if sg t n (pnum t n 4 4 1000 1939 p).2.2 = 44 then pk2 t n c (pnum t n 4 4 1000 1939 p).2.1 ((pnum t n 4 4 1000 1939 p).2.2 + 1) else (false, (pnum t n 4 4 1000 1939 p).2.2, (0, 0, 0, 0))) else (false, (pnum t n 4 4 1000 1939 p).2.2, (0, 0, 0, 0))
def pprt (t : Nat → Int32) (n p : Nat) : Bool × Nat × PT :=
  if kdS (sg t n p) = -1 then (false, p, (0, 0, 0, 0)) else
  if sg t n (p + 1) = 61 then (if kdS (sg t n p) = 3 then pk3 t n (p + 2) else pk1 t n (kdS (sg t n p)) (p + 2)) else (false, p + 1, (0, 0, 0, 0))
def pall (t : Nat → Int32) (n : Nat) : Nat → Nat → List PT → Int32 × List PT
  | 0, p, _ => (nI p, [])
  | k + 1, p, L => if (pprt t n p).1 = true then (if (pprt t n p).2.1 < n then (if t (pprt t n p).2.1 = 59 then pall t n k ((pprt t n p).2.1 + 1) (L ++ [(pprt t n p).2.2]) else (nI (pprt t n p).2.1, [])) else (-1, L ++ [(pprt t n p).2.2])) else (nI (pprt t n p).2.1, [])
/-- LAWS: the fault, the parts -/
def lw (t : Nat → Int32) (n : Nat) : Int32 × List PT := if n = 0 then (-1, []) else pall t n 101 0 []
/-- the sets of bells below j out of a mask -/
def subm : Nat → Nat → List Nat
  | 0, _ => [0]
  | j + 1, m => if m.testBit j = true then subm j m ++ (subm j m).map (fun x => x + 2 ^ j) else subm j m
def sumS (f : Nat → Int32) (S : Nat) : Nat → Int32
  | 0 => 0
  | b + 1 => if S.testBit b = true then sumS f S b + f b else sumS f S b
def apI (a b : Int32) : Int32 := if b ≤ a then a - b else b - a
def okB (W T : Nat → Int32) (w d lo hi : Int32) (S : Nat) : Bool :=
  decide (apI (sumS W S 20) w ≤ d) && decide (lo * sumS W S 20 ≤ sumS (fun b => W b * T b) S 20) && decide (sumS (fun b => W b * T b) S 20 ≤ hi * sumS W S 20)
def bl (W T : Nat → Int32) (w d lo hi : Int32) (m : Nat) : List Nat := (subm 20 m).filter (okB W T w d lo hi)
def hdI (l : List Nat) : Int32 := match l with
  | [] => -1
  | x :: _ => nI x
def andL : List Nat → Nat
  | [] => 0
  | [x] => x
  | x :: l => x &&& andL l
def orL (l : List Nat) : Nat := l.foldr (fun x y => x ||| y) 0
/-! what lasts, part by part -/
def dW (k s : Nat) : Bool := ((Nat.beq k 11 && Nat.beq s 0) || (Nat.beq k 12 && Nat.beq s 5))
def dP (k s : Nat) : Bool := ((Nat.beq k 11 && Nat.beq s 2) || ((Nat.beq k 12 && Nat.beq s 6) || (Nat.beq k 41 || Nat.beq k 49)))
def dB (k s : Nat) : Bool := ((Nat.beq k 1 && (Nat.beq s 0 || (Nat.beq s 1 || (Nat.beq s 2 || (Nat.beq s 3 || (Nat.beq s 7 || (Nat.beq s 8 || (Nat.beq s 9 || Nat.beq s 10)))))))) || ((Nat.beq k 2 && Nat.beq s 1) || ((Nat.beq k 12 && (Nat.beq s 8 || Nat.beq s 5)) || (Nat.beq k 20 || (Nat.beq k 21 || (Nat.beq k 22 || (Nat.beq k 50 || (Nat.beq k 51 || (Nat.beq k 52 || (Nat.beq k 53 || (Nat.beq k 54 || (Nat.beq k 55 || (Nat.beq k 56 || (Nat.beq k 57 || (Nat.beq k 58 || (Nat.beq k 59 || Nat.beq k 60))))))))))))))))
def dL (k s : Nat) : Bool := ((Nat.beq k 4 && (Nat.beq s 1 || (Nat.beq s 2 || Nat.beq s 7))) || ((Nat.beq k 12 && Nat.beq s 21) || (Nat.beq k 29 || (Nat.beq k 30 || (Nat.beq k 31 || (Nat.beq k 32 || (Nat.beq k 33 || Nat.beq k 61)))))))
def dU (k s : Nat) : Bool := ((Nat.beq k 10 && (Nat.beq s 1 || (Nat.beq s 2 || Nat.beq s 3))) || ((Nat.beq k 11 && Nat.beq s 6) || ((Nat.beq k 12 && Nat.beq s 28) || (Nat.beq k 40 || (Nat.beq k 66 || (Nat.beq k 67 || (Nat.beq k 68 || Nat.beq k 69)))))))
def dT (k s : Nat) : Bool := ((Nat.beq k 7 && (Nat.beq s 0 || Nat.beq s 1)) || (Nat.beq k 12 && (Nat.beq s 37 || Nat.beq s 38)))
def dK (k s : Nat) : Bool := (Nat.beq k 0 || ((Nat.beq k 11 && Nat.beq s 10) || ((Nat.beq k 12 && (Nat.beq s 39 || Nat.beq s 8)) || (Nat.beq k 51 || (Nat.beq k 53 || (Nat.beq k 72 || (Nat.beq k 73 || (Nat.beq k 74 || (Nat.beq k 75 || Nat.beq k 76)))))))))
def dC (k s : Nat) : Bool := ((Nat.beq k 3 && Nat.beq s 5) || ((Nat.beq k 12 && Nat.beq s 54) || (Nat.beq k 24 || (Nat.beq k 25 || (Nat.beq k 26 || (Nat.beq k 27 || (Nat.beq k 28 || (Nat.beq k 79 || (Nat.beq k 80 || (Nat.beq k 81 || (Nat.beq k 82 || Nat.beq k 83)))))))))))
def dS (k s : Nat) : Bool := ((Nat.beq k 9 && (Nat.beq s 0 || (Nat.beq s 1 || Nat.beq s 2))) || (Nat.beq k 39 || (Nat.beq k 45 || (Nat.beq k 46 || Nat.beq k 47))))
def dF (k s : Nat) : Bool := ((Nat.beq k 11 && Nat.beq s 15) || (Nat.beq k 12 && Nat.beq s 4))
def kW (k : Nat) : Bool := (Nat.beq k 11 || Nat.beq k 12)
theorem kW_d : ∀ k, kW k = false → ∀ s, dW k s = false := by
  intro k e s
  cases hq : dW k s with
  | false => rfl
  | true =>
    exfalso
    unfold dW at hq
    simp only [Bool.or_eq_true, Bool.and_eq_true, Nat.beq_eq] at hq
    rcases hq with ⟨rfl, rfl⟩ | ⟨rfl, rfl⟩ <;> cases e
def kP (k : Nat) : Bool := (Nat.beq k 11 || (Nat.beq k 12 || (Nat.beq k 41 || Nat.beq k 49)))
theorem kP_d : ∀ k, kP k = false → ∀ s, dP k s = false := by
  intro k e s
  cases hq : dP k s with
  | false => rfl
  | true =>
    exfalso
    unfold dP at hq
    simp only [Bool.or_eq_true, Bool.and_eq_true, Nat.beq_eq] at hq
    rcases hq with ⟨rfl, rfl⟩ | ⟨rfl, rfl⟩ | rfl | rfl <;> cases e
def kB (k : Nat) : Bool := (Nat.beq k 1 || (Nat.beq k 2 || (Nat.beq k 12 || (Nat.beq k 20 || (Nat.beq k 21 || (Nat.beq k 22 || (Nat.beq k 50 || (Nat.beq k 51 || (Nat.beq k 52 || (Nat.beq k 53 || (Nat.beq k 54 || (Nat.beq k 55 || (Nat.beq k 56 || (Nat.beq k 57 || (Nat.beq k 58 || (Nat.beq k 59 || Nat.beq k 60))))))))))))))))
theorem kB_d : ∀ k, kB k = false → ∀ s, dB k s = false := by
  intro k e s
  cases hq : dB k s with
  | false => rfl
  | true =>
    exfalso
    unfold dB at hq
    simp only [Bool.or_eq_true, Bool.and_eq_true, Nat.beq_eq] at hq
    rcases hq with ⟨rfl, rfl | rfl | rfl | rfl | rfl | rfl | rfl | rfl⟩ | ⟨rfl, rfl⟩ | ⟨rfl, rfl | rfl⟩ | rfl | rfl | rfl | rfl | rfl | rfl | rfl | rfl | rfl | rfl | rfl | rfl | rfl | rfl <;> cases e
def kL (k : Nat) : Bool := (Nat.beq k 4 || (Nat.beq k 12 || (Nat.beq k 29 || (Nat.beq k 30 || (Nat.beq k 31 || (Nat.beq k 32 || (Nat.beq k 33 || Nat.beq k 61)))))))
theorem kL_d : ∀ k, kL k = false → ∀ s, dL k s = false := by
  intro k e s
  cases hq : dL k s with
  | false => rfl
  | true =>
    exfalso
    unfold dL at hq
    simp only [Bool.or_eq_true, Bool.and_eq_true, Nat.beq_eq] at hq
    rcases hq with ⟨rfl, rfl | rfl | rfl⟩ | ⟨rfl, rfl⟩ | rfl | rfl | rfl | rfl | rfl | rfl <;> cases e
def kU (k : Nat) : Bool := (Nat.beq k 10 || (Nat.beq k 11 || (Nat.beq k 12 || (Nat.beq k 40 || (Nat.beq k 66 || (Nat.beq k 67 || (Nat.beq k 68 || Nat.beq k 69)))))))
theorem kU_d : ∀ k, kU k = false → ∀ s, dU k s = false := by
  intro k e s
  cases hq : dU k s with
  | false => rfl
  | true =>
    exfalso
    unfold dU at hq
    simp only [Bool.or_eq_true, Bool.and_eq_true, Nat.beq_eq] at hq
    rcases hq with ⟨rfl, rfl | rfl | rfl⟩ | ⟨rfl, rfl⟩ | ⟨rfl, rfl⟩ | rfl | rfl | rfl | rfl | rfl <;> cases e
def kT (k : Nat) : Bool := (Nat.beq k 7 || Nat.beq k 12)
theorem kT_d : ∀ k, kT k = false → ∀ s, dT k s = false := by
  intro k e s
  cases hq : dT k s with
  | false => rfl
  | true =>
    exfalso
    unfold dT at hq
    simp only [Bool.or_eq_true, Bool.and_eq_true, Nat.beq_eq] at hq
    rcases hq with ⟨rfl, rfl | rfl⟩ | ⟨rfl, rfl | rfl⟩ <;> cases e
def kK (k : Nat) : Bool := (Nat.beq k 0 || (Nat.beq k 11 || (Nat.beq k 12 || (Nat.beq k 51 || (Nat.beq k 53 || (Nat.beq k 72 || (Nat.beq k 73 || (Nat.beq k 74 || (Nat.beq k 75 || Nat.beq k 76)))))))))
theorem kK_d : ∀ k, kK k = false → ∀ s, dK k s = false := by
  intro k e s
  cases hq : dK k s with
  | false => rfl
  | true =>
    exfalso
    unfold dK at hq
    simp only [Bool.or_eq_true, Bool.and_eq_true, Nat.beq_eq] at hq
    rcases hq with rfl | ⟨rfl, rfl⟩ | ⟨rfl, rfl | rfl⟩ | rfl | rfl | rfl | rfl | rfl | rfl | rfl <;> cases e
def kC (k : Nat) : Bool := (Nat.beq k 3 || (Nat.beq k 12 || (Nat.beq k 24 || (Nat.beq k 25 || (Nat.beq k 26 || (Nat.beq k 27 || (Nat.beq k 28 || (Nat.beq k 79 || (Nat.beq k 80 || (Nat.beq k 81 || (Nat.beq k 82 || Nat.beq k 83)))))))))))
theorem kC_d : ∀ k, kC k = false → ∀ s, dC k s = false := by
  intro k e s
  cases hq : dC k s with
  | false => rfl
  | true =>
    exfalso
    unfold dC at hq
    simp only [Bool.or_eq_true, Bool.and_eq_true, Nat.beq_eq] at hq
    rcases hq with ⟨rfl, rfl⟩ | ⟨rfl, rfl⟩ | rfl | rfl | rfl | rfl | rfl | rfl | rfl | rfl | rfl | rfl <;> cases e
def kS (k : Nat) : Bool := (Nat.beq k 9 || (Nat.beq k 39 || (Nat.beq k 45 || (Nat.beq k 46 || Nat.beq k 47))))
theorem kS_d : ∀ k, kS k = false → ∀ s, dS k s = false := by
  intro k e s
  cases hq : dS k s with
  | false => rfl
  | true =>
    exfalso
    unfold dS at hq
    simp only [Bool.or_eq_true, Bool.and_eq_true, Nat.beq_eq] at hq
    rcases hq with ⟨rfl, rfl | rfl | rfl⟩ | rfl | rfl | rfl | rfl <;> cases e
def kF (k : Nat) : Bool := (Nat.beq k 11 || Nat.beq k 12)
theorem kF_d : ∀ k, kF k = false → ∀ s, dF k s = false := by
  intro k e s
  cases hq : dF k s with
  | false => rfl
  | true =>
    exfalso
    unfold dF at hq
    simp only [Bool.or_eq_true, Bool.and_eq_true, Nat.beq_eq] at hq
    rcases hq with ⟨rfl, rfl⟩ | ⟨rfl, rfl⟩ <;> cases e
def la (k s : Nat) : Bool := (Nat.beq k 0 || ((Nat.beq k 1 && (Nat.beq s 0 || (Nat.beq s 1 || (Nat.beq s 2 || (Nat.beq s 3 || (Nat.beq s 7 || (Nat.beq s 8 || (Nat.beq s 9 || Nat.beq s 10)))))))) || ((Nat.beq k 2 && Nat.beq s 1) || ((Nat.beq k 3 && Nat.beq s 5) || ((Nat.beq k 4 && (Nat.beq s 1 || (Nat.beq s 2 || Nat.beq s 7))) || ((Nat.beq k 7 && (Nat.beq s 0 || Nat.beq s 1)) || ((Nat.beq k 9 && (Nat.beq s 0 || (Nat.beq s 1 || Nat.beq s 2))) || ((Nat.beq k 10 && (Nat.beq s 1 || (Nat.beq s 2 || Nat.beq s 3))) || ((Nat.beq k 11 && (Nat.beq s 0 || (Nat.beq s 2 || (Nat.beq s 6 || (Nat.beq s 10 || Nat.beq s 15))))) || ((Nat.beq k 12 && (Nat.beq s 4 || (Nat.beq s 5 || (Nat.beq s 6 || (Nat.beq s 8 || (Nat.beq s 21 || (Nat.beq s 28 || (Nat.beq s 37 || (Nat.beq s 38 || (Nat.beq s 39 || Nat.beq s 54)))))))))) || (Nat.beq k 20 || (Nat.beq k 21 || (Nat.beq k 22 || (Nat.beq k 24 || (Nat.beq k 25 || (Nat.beq k 26 || (Nat.beq k 27 || (Nat.beq k 28 || (Nat.beq k 29 || (Nat.beq k 30 || (Nat.beq k 31 || (Nat.beq k 32 || (Nat.beq k 33 || (Nat.beq k 39 || (Nat.beq k 40 || (Nat.beq k 41 || (Nat.beq k 45 || (Nat.beq k 46 || (Nat.beq k 47 || (Nat.beq k 49 || (Nat.beq k 50 || (Nat.beq k 51 || (Nat.beq k 52 || (Nat.beq k 53 || (Nat.beq k 54 || (Nat.beq k 55 || (Nat.beq k 56 || (Nat.beq k 57 || (Nat.beq k 58 || (Nat.beq k 59 || (Nat.beq k 60 || (Nat.beq k 61 || (Nat.beq k 66 || (Nat.beq k 67 || (Nat.beq k 68 || (Nat.beq k 69 || (Nat.beq k 72 || (Nat.beq k 73 || (Nat.beq k 74 || (Nat.beq k 75 || (Nat.beq k 76 || (Nat.beq k 79 || (Nat.beq k 80 || (Nat.beq k 81 || (Nat.beq k 82 || Nat.beq k 83)))))))))))))))))))))))))))))))))))))))))))))))))))))))
def kA (k : Nat) : Bool := (Nat.beq k 0 || (Nat.beq k 1 || (Nat.beq k 2 || (Nat.beq k 3 || (Nat.beq k 4 || (Nat.beq k 7 || (Nat.beq k 9 || (Nat.beq k 10 || (Nat.beq k 11 || (Nat.beq k 12 || (Nat.beq k 20 || (Nat.beq k 21 || (Nat.beq k 22 || (Nat.beq k 24 || (Nat.beq k 25 || (Nat.beq k 26 || (Nat.beq k 27 || (Nat.beq k 28 || (Nat.beq k 29 || (Nat.beq k 30 || (Nat.beq k 31 || (Nat.beq k 32 || (Nat.beq k 33 || (Nat.beq k 39 || (Nat.beq k 40 || (Nat.beq k 41 || (Nat.beq k 45 || (Nat.beq k 46 || (Nat.beq k 47 || (Nat.beq k 49 || (Nat.beq k 50 || (Nat.beq k 51 || (Nat.beq k 52 || (Nat.beq k 53 || (Nat.beq k 54 || (Nat.beq k 55 || (Nat.beq k 56 || (Nat.beq k 57 || (Nat.beq k 58 || (Nat.beq k 59 || (Nat.beq k 60 || (Nat.beq k 61 || (Nat.beq k 66 || (Nat.beq k 67 || (Nat.beq k 68 || (Nat.beq k 69 || (Nat.beq k 72 || (Nat.beq k 73 || (Nat.beq k 74 || (Nat.beq k 75 || (Nat.beq k 76 || (Nat.beq k 79 || (Nat.beq k 80 || (Nat.beq k 81 || (Nat.beq k 82 || Nat.beq k 83)))))))))))))))))))))))))))))))))))))))))))))))))))))))
theorem kA_d : ∀ k, kA k = false → ∀ s, la k s = false := by
  intro k e s
  cases hq : la k s with
  | false => rfl
  | true =>
    exfalso
    unfold la at hq
    simp only [Bool.or_eq_true, Bool.and_eq_true, Nat.beq_eq] at hq
    rcases hq with rfl | ⟨rfl, rfl | rfl | rfl | rfl | rfl | rfl | rfl | rfl⟩ | ⟨rfl, rfl⟩ | ⟨rfl, rfl⟩ | ⟨rfl, rfl | rfl | rfl⟩ | ⟨rfl, rfl | rfl⟩ | ⟨rfl, rfl | rfl | rfl⟩ | ⟨rfl, rfl | rfl | rfl⟩ | ⟨rfl, rfl | rfl | rfl | rfl | rfl⟩ | ⟨rfl, rfl | rfl | rfl | rfl | rfl | rfl | rfl | rfl | rfl | rfl⟩ | rfl | rfl | rfl | rfl | rfl | rfl | rfl | rfl | rfl | rfl | rfl | rfl | rfl | rfl | rfl | rfl | rfl | rfl | rfl | rfl | rfl | rfl | rfl | rfl | rfl | rfl | rfl | rfl | rfl | rfl | rfl | rfl | rfl | rfl | rfl | rfl | rfl | rfl | rfl | rfl | rfl | rfl | rfl | rfl | rfl | rfl <;> cases e
def mk (k s : Nat) : Bool := ((Nat.beq k 12 && (Nat.beq s 4 || (Nat.beq s 5 || (Nat.beq s 6 || (Nat.beq s 8 || (Nat.beq s 21 || (Nat.beq s 28 || (Nat.beq s 37 || (Nat.beq s 38 || (Nat.beq s 39 || Nat.beq s 54)))))))))) || (Nat.beq k 45 || (Nat.beq k 46 || (Nat.beq k 47 || (Nat.beq k 49 || (Nat.beq k 50 || (Nat.beq k 51 || (Nat.beq k 52 || (Nat.beq k 53 || (Nat.beq k 54 || (Nat.beq k 55 || (Nat.beq k 56 || (Nat.beq k 57 || (Nat.beq k 58 || (Nat.beq k 59 || (Nat.beq k 60 || (Nat.beq k 61 || (Nat.beq k 66 || (Nat.beq k 67 || (Nat.beq k 68 || (Nat.beq k 69 || (Nat.beq k 72 || (Nat.beq k 73 || (Nat.beq k 74 || (Nat.beq k 75 || (Nat.beq k 76 || (Nat.beq k 79 || (Nat.beq k 80 || (Nat.beq k 81 || (Nat.beq k 82 || Nat.beq k 83))))))))))))))))))))))))))))))
def kM (k : Nat) : Bool := (Nat.beq k 12 || (Nat.beq k 45 || (Nat.beq k 46 || (Nat.beq k 47 || (Nat.beq k 49 || (Nat.beq k 50 || (Nat.beq k 51 || (Nat.beq k 52 || (Nat.beq k 53 || (Nat.beq k 54 || (Nat.beq k 55 || (Nat.beq k 56 || (Nat.beq k 57 || (Nat.beq k 58 || (Nat.beq k 59 || (Nat.beq k 60 || (Nat.beq k 61 || (Nat.beq k 66 || (Nat.beq k 67 || (Nat.beq k 68 || (Nat.beq k 69 || (Nat.beq k 72 || (Nat.beq k 73 || (Nat.beq k 74 || (Nat.beq k 75 || (Nat.beq k 76 || (Nat.beq k 79 || (Nat.beq k 80 || (Nat.beq k 81 || (Nat.beq k 82 || Nat.beq k 83))))))))))))))))))))))))))))))
theorem kM_d : ∀ k, kM k = false → ∀ s, mk k s = false := by
  intro k e s
  cases hq : mk k s with
  | false => rfl
  | true =>
    exfalso
    unfold mk at hq
    simp only [Bool.or_eq_true, Bool.and_eq_true, Nat.beq_eq] at hq
    rcases hq with ⟨rfl, rfl | rfl | rfl | rfl | rfl | rfl | rfl | rfl | rfl | rfl⟩ | rfl | rfl | rfl | rfl | rfl | rfl | rfl | rfl | rfl | rfl | rfl | rfl | rfl | rfl | rfl | rfl | rfl | rfl | rfl | rfl | rfl | rfl | rfl | rfl | rfl | rfl | rfl | rfl | rfl | rfl <;> cases e
def fM (k : Nat) : Bool := (Nat.beq k 45 || (Nat.beq k 46 || (Nat.beq k 47 || (Nat.beq k 49 || (Nat.beq k 50 || (Nat.beq k 51 || (Nat.beq k 52 || (Nat.beq k 53 || (Nat.beq k 54 || (Nat.beq k 55 || (Nat.beq k 56 || (Nat.beq k 57 || (Nat.beq k 58 || (Nat.beq k 59 || (Nat.beq k 60 || (Nat.beq k 61 || (Nat.beq k 66 || (Nat.beq k 67 || (Nat.beq k 68 || (Nat.beq k 69 || (Nat.beq k 72 || (Nat.beq k 73 || (Nat.beq k 74 || (Nat.beq k 75 || (Nat.beq k 76 || (Nat.beq k 79 || (Nat.beq k 80 || (Nat.beq k 81 || (Nat.beq k 82 || Nat.beq k 83)))))))))))))))))))))))))))))
theorem fM_d : ∀ k, fM k = true → ∀ s, mk k s = true := by
  intro k e s
  unfold fM at e
  simp only [Bool.or_eq_true, Nat.beq_eq] at e
  rcases e with rfl | rfl | rfl | rfl | rfl | rfl | rfl | rfl | rfl | rfl | rfl | rfl | rfl | rfl | rfl | rfl | rfl | rfl | rfl | rfl | rfl | rfl | rfl | rfl | rfl | rfl | rfl | rfl | rfl | rfl <;> rfl
def ms (h : HP) : Nat → Nat → Int32 := fun k s => if mk k s = true then gi h k 0 s else 0
theorem m_45 (h : HP) (s : Nat) : gi h 45 0 s = ms h 45 s := id rfl
theorem m_46 (h : HP) (s : Nat) : gi h 46 0 s = ms h 46 s := id rfl
theorem m_47 (h : HP) (s : Nat) : gi h 47 0 s = ms h 47 s := id rfl
theorem m_49 (h : HP) (s : Nat) : gi h 49 0 s = ms h 49 s := id rfl
theorem m_50 (h : HP) (s : Nat) : gi h 50 0 s = ms h 50 s := id rfl
theorem m_51 (h : HP) (s : Nat) : gi h 51 0 s = ms h 51 s := id rfl
theorem m_52 (h : HP) (s : Nat) : gi h 52 0 s = ms h 52 s := id rfl
theorem m_53 (h : HP) (s : Nat) : gi h 53 0 s = ms h 53 s := id rfl
theorem m_54 (h : HP) (s : Nat) : gi h 54 0 s = ms h 54 s := id rfl
theorem m_55 (h : HP) (s : Nat) : gi h 55 0 s = ms h 55 s := id rfl
theorem m_56 (h : HP) (s : Nat) : gi h 56 0 s = ms h 56 s := id rfl
theorem m_57 (h : HP) (s : Nat) : gi h 57 0 s = ms h 57 s := id rfl
theorem m_58 (h : HP) (s : Nat) : gi h 58 0 s = ms h 58 s := id rfl
theorem m_59 (h : HP) (s : Nat) : gi h 59 0 s = ms h 59 s := id rfl
theorem m_60 (h : HP) (s : Nat) : gi h 60 0 s = ms h 60 s := id rfl
theorem m_61 (h : HP) (s : Nat) : gi h 61 0 s = ms h 61 s := id rfl
theorem m_66 (h : HP) (s : Nat) : gi h 66 0 s = ms h 66 s := id rfl
theorem m_67 (h : HP) (s : Nat) : gi h 67 0 s = ms h 67 s := id rfl
theorem m_68 (h : HP) (s : Nat) : gi h 68 0 s = ms h 68 s := id rfl
theorem m_69 (h : HP) (s : Nat) : gi h 69 0 s = ms h 69 s := id rfl
theorem m_72 (h : HP) (s : Nat) : gi h 72 0 s = ms h 72 s := id rfl
theorem m_73 (h : HP) (s : Nat) : gi h 73 0 s = ms h 73 s := id rfl
theorem m_74 (h : HP) (s : Nat) : gi h 74 0 s = ms h 74 s := id rfl
theorem m_75 (h : HP) (s : Nat) : gi h 75 0 s = ms h 75 s := id rfl
theorem m_76 (h : HP) (s : Nat) : gi h 76 0 s = ms h 76 s := id rfl
theorem m_79 (h : HP) (s : Nat) : gi h 79 0 s = ms h 79 s := id rfl
theorem m_80 (h : HP) (s : Nat) : gi h 80 0 s = ms h 80 s := id rfl
theorem m_81 (h : HP) (s : Nat) : gi h 81 0 s = ms h 81 s := id rfl
theorem m_82 (h : HP) (s : Nat) : gi h 82 0 s = ms h 82 s := id rfl
theorem m_83 (h : HP) (s : Nat) : gi h 83 0 s = ms h 83 s := id rfl
theorem m_12_4 (h : HP) : gi h 12 0 4 = ms h 12 4 := id rfl
theorem m_12_5 (h : HP) : gi h 12 0 5 = ms h 12 5 := id rfl
theorem m_12_6 (h : HP) : gi h 12 0 6 = ms h 12 6 := id rfl
theorem m_12_8 (h : HP) : gi h 12 0 8 = ms h 12 8 := id rfl
theorem m_12_21 (h : HP) : gi h 12 0 21 = ms h 12 21 := id rfl
theorem m_12_28 (h : HP) : gi h 12 0 28 = ms h 12 28 := id rfl
theorem m_12_37 (h : HP) : gi h 12 0 37 = ms h 12 37 := id rfl
theorem m_12_38 (h : HP) : gi h 12 0 38 = ms h 12 38 := id rfl
theorem m_12_39 (h : HP) : gi h 12 0 39 = ms h 12 39 := id rfl
theorem m_12_54 (h : HP) : gi h 12 0 54 = ms h 12 54 := id rfl
abbrev RF : Type := (Nat → Nat → Nat → Option Nat) × (Nat → Nat)
def gR (R : RF) : Prop := R.1 11 0 1 = some 0 ∧ R.1 11 0 3 = some 0 ∧ R.1 11 0 4 = some 0 ∧ R.1 11 0 5 = some 0 ∧ R.1 11 0 7 = some 0 ∧ R.1 11 0 8 = some 0 ∧ R.1 11 0 9 = some 0 ∧ R.1 11 0 11 = some 0 ∧ R.1 11 0 12 = some 0 ∧ R.1 11 0 13 = some 0 ∧ R.1 11 0 14 = some 0 ∧ R.1 2 0 0 = some 0 ∧ R.1 3 0 0 = some 0 ∧ R.1 3 0 1 = some 0 ∧ R.1 3 0 2 = some 0 ∧ R.1 3 0 3 = some 0 ∧ R.1 3 0 4 = some 0 ∧ R.1 4 0 0 = some 0 ∧ R.1 4 0 3 = some 0 ∧ R.1 4 0 4 = some 0 ∧ R.1 4 0 5 = some 0 ∧ R.1 4 0 6 = some 0 ∧ R.1 4 0 8 = some 0 ∧ R.1 5 0 0 = some 0 ∧ R.1 5 0 1 = some 0 ∧ R.1 6 0 0 = some 0 ∧ R.1 8 0 0 = some 0 ∧ R.1 12 0 0 = some 0 ∧ R.1 12 0 1 = some 0 ∧ R.1 12 0 2 = some 0 ∧ R.1 12 0 3 = some 0 ∧ R.1 12 0 7 = some 0 ∧ R.1 12 0 9 = some 0 ∧ R.1 12 0 10 = some 0 ∧ R.1 12 0 11 = some 0 ∧ R.1 12 0 12 = some 0 ∧ R.1 12 0 13 = some 0 ∧ R.1 12 0 14 = some 0 ∧ R.1 12 0 15 = some 0 ∧ R.1 12 0 16 = some 0 ∧ R.1 12 0 17 = some 0 ∧ R.1 12 0 18 = some 0 ∧ R.1 12 0 19 = some 0 ∧ R.1 12 0 20 = some 0 ∧ R.1 12 0 24 = some 0 ∧ R.1 12 0 25 = some 0 ∧ R.1 12 0 26 = some 0 ∧ R.1 12 0 27 = some 0 ∧ R.1 12 0 29 = some 0 ∧ R.1 12 0 30 = some 0 ∧ R.1 12 0 31 = some 0 ∧ R.1 12 0 32 = some 0 ∧ R.1 12 0 33 = some 0 ∧ R.1 12 0 34 = some 0 ∧ R.1 12 0 40 = some 0 ∧ R.1 12 0 41 = some 0 ∧ R.1 12 0 42 = some 0 ∧ R.1 12 0 43 = some 0 ∧ R.1 12 0 44 = some 0 ∧ R.1 12 0 49 = some 0 ∧ R.1 12 0 53 = some 0 ∧ R.1 12 0 55 = some 0 ∧ R.1 12 0 56 = some 0 ∧ R.1 12 0 57 = some 0 ∧ R.1 12 0 58 = some 0 ∧ R.1 12 0 59 = some 0 ∧ R.2 11 = 1 ∧ R.2 12 = 1
def gW (v : Nat → Nat → Nat → Int32) (_ : RF) : Prop := v 11 0 0 = v 12 0 5 ∧ cn (v 12 0 5) 199
def gP (v : Nat → Nat → Nat → Int32) (_ : RF) : Prop := v 11 0 2 = v 12 0 6 ∧ cn (v 12 0 6) 8 ∧ ∀ p, p < 8 → v 41 0 p = v 49 0 p ∧ cn (v 49 0 p) 3
def tn (x : Int32) : Prop := x = -1 ∨ cn x 9999
/-- a bell -/
def bE (v : Nat → Nat → Nat → Int32) (b : Nat) : Prop :=
  (v 1 b 0 = v 50 0 b ∧ v 1 b 1 = v 51 0 b ∧ v 1 b 2 = v 52 0 b ∧ v 1 b 3 = v 53 0 b ∧ v 1 b 7 = v 58 0 b ∧ v 1 b 8 = v 55 0 b ∧ v 1 b 9 = v 56 0 b ∧ v 1 b 10 = v 57 0 b) ∧
  (∀ t, t < 5 → v 20 b t = v 54 0 (5 * b + t) ∧ tn (v 54 0 (5 * b + t))) ∧
  (cn (v 58 0 b) 16 ∧ ∀ k, k < (v 58 0 b).toNatClampNeg → v 21 b k = v 60 0 (16 * b + k) ∧ v 22 b k = v 59 0 (16 * b + k) ∧ v 60 0 (16 * b + k) ≤ v 12 0 5) ∧
  (cn (v 51 0 b) 9999 ∧ cn (v 53 0 b) 30 ∧ cn (v 56 0 b) 99 ∧ cn (v 57 0 b) 999 ∧ cn (v 52 0 b) 1939)
def gB (v : Nat → Nat → Nat → Int32) (R : RF) : Prop := v 2 0 1 = v 12 0 8 ∧ cn (v 12 0 8) 20 ∧ (R.2 1 = (v 12 0 8).toNatClampNeg ∧ R.2 20 = (v 12 0 8).toNatClampNeg ∧ R.2 21 = (v 12 0 8).toNatClampNeg ∧ R.2 22 = (v 12 0 8).toNatClampNeg) ∧
  (∀ b, b < (v 12 0 8).toNatClampNeg → (R.1 23 0 b = some b ∧ R.1 1 b 4 = some b ∧ R.1 1 b 5 = some b ∧ R.1 1 b 6 = some b) ∧ bE v b) ∧
  (∀ b, (v 12 0 8).toNatClampNeg ≤ b → b < 20 → v 58 0 b = 0)
def gL (v : Nat → Nat → Nat → Int32) (_ : RF) : Prop := v 4 0 1 = v 12 0 21 ∧ cn (v 12 0 21) 100 ∧ (∀ i, i < (v 12 0 21).toNatClampNeg → v 29 0 i = v 61 0 i ∧ cn (v 61 0 i) 255) ∧
  v 4 0 2 = (lw (v 61 0) (v 12 0 21).toNatClampNeg).1 ∧ v 4 0 7 = nI (lw (v 61 0) (v 12 0 21).toNatClampNeg).2.length ∧
  ∀ p x, (lw (v 61 0) (v 12 0 21).toNatClampNeg).2[p]? = some x → v 30 0 p = x.1 ∧ v 31 0 p = x.2.1 ∧ v 32 0 p = x.2.2.1 ∧ v 33 0 p = x.2.2.2
def gU (v : Nat → Nat → Nat → Int32) (R : RF) : Prop := v 11 0 6 = v 12 0 28 ∧ cn (v 12 0 28) 8 ∧ R.2 40 = R.2 10 ∧
  ∀ u, u < (v 12 0 28).toNatClampNeg → ∃ o, (R.1 42 0 u = some o ∧ o < R.2 10 ∧ R.1 10 o 0 = some o) ∧ (v 10 o 1 = v 67 0 u ∧ v 10 o 2 = v 68 0 u ∧ v 10 o 3 = v 69 0 u) ∧
    (∀ t, t < 5 → v 40 o t = v 66 0 (5 * u + t) ∧ tn (v 66 0 (5 * u + t))) ∧ (cn (v 67 0 u) 99 ∧ tn (v 68 0 u) ∧ cn (v 69 0 u) 999)
def gT (v : Nat → Nat → Nat → Int32) (_ : RF) : Prop := v 7 0 0 = v 12 0 37 ∧ v 7 0 1 = v 12 0 38 ∧ cn (v 12 0 37) 49 ∧ cn (v 12 0 38) 4095
def gK (v : Nat → Nat → Nat → Int32) (R : RF) : Prop := v 11 0 10 = v 12 0 39 ∧ cn (v 12 0 39) 6 ∧ R.2 0 = (v 12 0 39).toNatClampNeg ∧
  ∀ k, k < (v 12 0 39).toNatClampNeg → R.1 43 0 k = some k ∧
    (v 0 k 4 = nI (bl (v 51 0) (v 53 0) (v 72 0 k) (v 73 0 k) (v 74 0 k) (v 75 0 k) (v 76 0 k).toNatClampNeg).length ∧
     v 0 k 5 = hdI (bl (v 51 0) (v 53 0) (v 72 0 k) (v 73 0 k) (v 74 0 k) (v 75 0 k) (v 76 0 k).toNatClampNeg) ∧
     v 0 k 6 = nI (andL (bl (v 51 0) (v 53 0) (v 72 0 k) (v 73 0 k) (v 74 0 k) (v 75 0 k) (v 76 0 k).toNatClampNeg)) ∧
     v 0 k 7 = nI (orL (bl (v 51 0) (v 53 0) (v 72 0 k) (v 73 0 k) (v 74 0 k) (v 75 0 k) (v 76 0 k).toNatClampNeg))) ∧
    (v 76 0 k = nI (v 76 0 k).toNatClampNeg ∧ (v 76 0 k).toNatClampNeg < 2 ^ (v 12 0 8).toNatClampNeg ∧ fb_ct (fun i => (v 76 0 k).toNatClampNeg.testBit i) 20 ≤ 12) ∧ (cn (v 72 0 k) 99999 ∧ cn (v 73 0 k) 9999 ∧ cn (v 74 0 k) 100 ∧ cn (v 75 0 k) 100)
def gC (v : Nat → Nat → Nat → Int32) (_ : RF) : Prop := v 3 0 5 = v 12 0 54 ∧ cn (v 12 0 54) 30 ∧
  (∀ c, c < 30 → (v 24 0 c = v 79 0 c ∧ v 25 0 c = v 80 0 c ∧ v 26 0 c = v 81 0 c ∧ v 27 0 c = v 82 0 c) ∧ cn (v 79 0 c) 7 ∧ cn (v 81 0 c) 4) ∧ ∀ p, p < 5 → v 28 0 p = v 83 0 p ∧ cn (v 83 0 p) 9
def gS (v : Nat → Nat → Nat → Int32) (R : RF) : Prop := ∀ s, s < 4 → (R.1 44 0 s = some s ∧ R.1 9 s 3 = some s) ∧
  ((v 9 s 0 = 1 ∧ v 45 0 s = -1) ∨ (v 9 s 0 = 0 ∧ v 9 s 1 = v 45 0 s ∧ cn (v 45 0 s) 2 ∧ v 9 s 2 = v 46 0 s ∧ cn (v 46 0 s) 60 ∧ ∀ i, i < (v 46 0 s).toNatClampNeg → v 39 s i = v 47 0 (60 * s + i)))
def gF (v : Nat → Nat → Nat → Int32) (_ : RF) : Prop := v 11 0 15 = v 12 0 4
/-- THE RELATION -/
def RQ (h : HP) : Prop := gR h.2.2 ∧ gW (vw dW h) h.2.2 ∧ gP (vw dP h) h.2.2 ∧ gB (vw dB h) h.2.2 ∧ gL (vw dL h) h.2.2 ∧ gU (vw dU h) h.2.2 ∧ gT (vw dT h) h.2.2 ∧ gK (vw dK h) h.2.2 ∧ gC (vw dC h) h.2.2 ∧ gS (vw dS h) h.2.2 ∧ gF (vw dF h) h.2.2
theorem rf_11_1 {h : HP} (G : gR h.2.2) : gr h 11 0 1 = some 0 := G.1
theorem rf_11_3 {h : HP} (G : gR h.2.2) : gr h 11 0 3 = some 0 := G.2.1
theorem rf_11_4 {h : HP} (G : gR h.2.2) : gr h 11 0 4 = some 0 := G.2.2.1
theorem rf_11_5 {h : HP} (G : gR h.2.2) : gr h 11 0 5 = some 0 := G.2.2.2.1
theorem rf_11_7 {h : HP} (G : gR h.2.2) : gr h 11 0 7 = some 0 := G.2.2.2.2.1
theorem rf_11_8 {h : HP} (G : gR h.2.2) : gr h 11 0 8 = some 0 := G.2.2.2.2.2.1
theorem rf_11_9 {h : HP} (G : gR h.2.2) : gr h 11 0 9 = some 0 := G.2.2.2.2.2.2.1
theorem rf_11_11 {h : HP} (G : gR h.2.2) : gr h 11 0 11 = some 0 := G.2.2.2.2.2.2.2.1
theorem rf_11_12 {h : HP} (G : gR h.2.2) : gr h 11 0 12 = some 0 := G.2.2.2.2.2.2.2.2.1
theorem rf_11_13 {h : HP} (G : gR h.2.2) : gr h 11 0 13 = some 0 := G.2.2.2.2.2.2.2.2.2.1
theorem rf_11_14 {h : HP} (G : gR h.2.2) : gr h 11 0 14 = some 0 := G.2.2.2.2.2.2.2.2.2.2.1
theorem rf_2_0 {h : HP} (G : gR h.2.2) : gr h 2 0 0 = some 0 := G.2.2.2.2.2.2.2.2.2.2.2.1
theorem rf_3_0 {h : HP} (G : gR h.2.2) : gr h 3 0 0 = some 0 := G.2.2.2.2.2.2.2.2.2.2.2.2.1
theorem rf_3_1 {h : HP} (G : gR h.2.2) : gr h 3 0 1 = some 0 := G.2.2.2.2.2.2.2.2.2.2.2.2.2.1
theorem rf_3_2 {h : HP} (G : gR h.2.2) : gr h 3 0 2 = some 0 := G.2.2.2.2.2.2.2.2.2.2.2.2.2.2.1
theorem rf_3_3 {h : HP} (G : gR h.2.2) : gr h 3 0 3 = some 0 := G.2.2.2.2.2.2.2.2.2.2.2.2.2.2.2.1
theorem rf_3_4 {h : HP} (G : gR h.2.2) : gr h 3 0 4 = some 0 := G.2.2.2.2.2.2.2.2.2.2.2.2.2.2.2.2.1
theorem rf_4_0 {h : HP} (G : gR h.2.2) : gr h 4 0 0 = some 0 := G.2.2.2.2.2.2.2.2.2.2.2.2.2.2.2.2.2.1
theorem rf_4_3 {h : HP} (G : gR h.2.2) : gr h 4 0 3 = some 0 := G.2.2.2.2.2.2.2.2.2.2.2.2.2.2.2.2.2.2.1
theorem rf_4_4 {h : HP} (G : gR h.2.2) : gr h 4 0 4 = some 0 := G.2.2.2.2.2.2.2.2.2.2.2.2.2.2.2.2.2.2.2.1
theorem rf_4_5 {h : HP} (G : gR h.2.2) : gr h 4 0 5 = some 0 := G.2.2.2.2.2.2.2.2.2.2.2.2.2.2.2.2.2.2.2.2.1
theorem rf_4_6 {h : HP} (G : gR h.2.2) : gr h 4 0 6 = some 0 := G.2.2.2.2.2.2.2.2.2.2.2.2.2.2.2.2.2.2.2.2.2.1
theorem rf_4_8 {h : HP} (G : gR h.2.2) : gr h 4 0 8 = some 0 := G.2.2.2.2.2.2.2.2.2.2.2.2.2.2.2.2.2.2.2.2.2.2.1
theorem rf_5_0 {h : HP} (G : gR h.2.2) : gr h 5 0 0 = some 0 := G.2.2.2.2.2.2.2.2.2.2.2.2.2.2.2.2.2.2.2.2.2.2.2.1
theorem rf_5_1 {h : HP} (G : gR h.2.2) : gr h 5 0 1 = some 0 := G.2.2.2.2.2.2.2.2.2.2.2.2.2.2.2.2.2.2.2.2.2.2.2.2.1
theorem rf_6_0 {h : HP} (G : gR h.2.2) : gr h 6 0 0 = some 0 := G.2.2.2.2.2.2.2.2.2.2.2.2.2.2.2.2.2.2.2.2.2.2.2.2.2.1
theorem rf_8_0 {h : HP} (G : gR h.2.2) : gr h 8 0 0 = some 0 := G.2.2.2.2.2.2.2.2.2.2.2.2.2.2.2.2.2.2.2.2.2.2.2.2.2.2.1
theorem rf_12_0 {h : HP} (G : gR h.2.2) : gr h 12 0 0 = some 0 := G.2.2.2.2.2.2.2.2.2.2.2.2.2.2.2.2.2.2.2.2.2.2.2.2.2.2.2.1
theorem rf_12_1 {h : HP} (G : gR h.2.2) : gr h 12 0 1 = some 0 := G.2.2.2.2.2.2.2.2.2.2.2.2.2.2.2.2.2.2.2.2.2.2.2.2.2.2.2.2.1
theorem rf_12_2 {h : HP} (G : gR h.2.2) : gr h 12 0 2 = some 0 := G.2.2.2.2.2.2.2.2.2.2.2.2.2.2.2.2.2.2.2.2.2.2.2.2.2.2.2.2.2.1
theorem rf_12_3 {h : HP} (G : gR h.2.2) : gr h 12 0 3 = some 0 := G.2.2.2.2.2.2.2.2.2.2.2.2.2.2.2.2.2.2.2.2.2.2.2.2.2.2.2.2.2.2.1
theorem rf_12_7 {h : HP} (G : gR h.2.2) : gr h 12 0 7 = some 0 := G.2.2.2.2.2.2.2.2.2.2.2.2.2.2.2.2.2.2.2.2.2.2.2.2.2.2.2.2.2.2.2.1
theorem rf_12_9 {h : HP} (G : gR h.2.2) : gr h 12 0 9 = some 0 := G.2.2.2.2.2.2.2.2.2.2.2.2.2.2.2.2.2.2.2.2.2.2.2.2.2.2.2.2.2.2.2.2.1
theorem rf_12_10 {h : HP} (G : gR h.2.2) : gr h 12 0 10 = some 0 := G.2.2.2.2.2.2.2.2.2.2.2.2.2.2.2.2.2.2.2.2.2.2.2.2.2.2.2.2.2.2.2.2.2.1
theorem rf_12_11 {h : HP} (G : gR h.2.2) : gr h 12 0 11 = some 0 := G.2.2.2.2.2.2.2.2.2.2.2.2.2.2.2.2.2.2.2.2.2.2.2.2.2.2.2.2.2.2.2.2.2.2.1
theorem rf_12_12 {h : HP} (G : gR h.2.2) : gr h 12 0 12 = some 0 := G.2.2.2.2.2.2.2.2.2.2.2.2.2.2.2.2.2.2.2.2.2.2.2.2.2.2.2.2.2.2.2.2.2.2.2.1
theorem rf_12_13 {h : HP} (G : gR h.2.2) : gr h 12 0 13 = some 0 := G.2.2.2.2.2.2.2.2.2.2.2.2.2.2.2.2.2.2.2.2.2.2.2.2.2.2.2.2.2.2.2.2.2.2.2.2.1
theorem rf_12_14 {h : HP} (G : gR h.2.2) : gr h 12 0 14 = some 0 := G.2.2.2.2.2.2.2.2.2.2.2.2.2.2.2.2.2.2.2.2.2.2.2.2.2.2.2.2.2.2.2.2.2.2.2.2.2.1
theorem rf_12_15 {h : HP} (G : gR h.2.2) : gr h 12 0 15 = some 0 := G.2.2.2.2.2.2.2.2.2.2.2.2.2.2.2.2.2.2.2.2.2.2.2.2.2.2.2.2.2.2.2.2.2.2.2.2.2.2.1
theorem rf_12_16 {h : HP} (G : gR h.2.2) : gr h 12 0 16 = some 0 := G.2.2.2.2.2.2.2.2.2.2.2.2.2.2.2.2.2.2.2.2.2.2.2.2.2.2.2.2.2.2.2.2.2.2.2.2.2.2.2.1
theorem rf_12_17 {h : HP} (G : gR h.2.2) : gr h 12 0 17 = some 0 := G.2.2.2.2.2.2.2.2.2.2.2.2.2.2.2.2.2.2.2.2.2.2.2.2.2.2.2.2.2.2.2.2.2.2.2.2.2.2.2.2.1
theorem rf_12_18 {h : HP} (G : gR h.2.2) : gr h 12 0 18 = some 0 := G.2.2.2.2.2.2.2.2.2.2.2.2.2.2.2.2.2.2.2.2.2.2.2.2.2.2.2.2.2.2.2.2.2.2.2.2.2.2.2.2.2.1
theorem rf_12_19 {h : HP} (G : gR h.2.2) : gr h 12 0 19 = some 0 := G.2.2.2.2.2.2.2.2.2.2.2.2.2.2.2.2.2.2.2.2.2.2.2.2.2.2.2.2.2.2.2.2.2.2.2.2.2.2.2.2.2.2.1
theorem rf_12_20 {h : HP} (G : gR h.2.2) : gr h 12 0 20 = some 0 := G.2.2.2.2.2.2.2.2.2.2.2.2.2.2.2.2.2.2.2.2.2.2.2.2.2.2.2.2.2.2.2.2.2.2.2.2.2.2.2.2.2.2.2.1
theorem rf_12_24 {h : HP} (G : gR h.2.2) : gr h 12 0 24 = some 0 := G.2.2.2.2.2.2.2.2.2.2.2.2.2.2.2.2.2.2.2.2.2.2.2.2.2.2.2.2.2.2.2.2.2.2.2.2.2.2.2.2.2.2.2.2.1
theorem rf_12_25 {h : HP} (G : gR h.2.2) : gr h 12 0 25 = some 0 := G.2.2.2.2.2.2.2.2.2.2.2.2.2.2.2.2.2.2.2.2.2.2.2.2.2.2.2.2.2.2.2.2.2.2.2.2.2.2.2.2.2.2.2.2.2.1
theorem rf_12_26 {h : HP} (G : gR h.2.2) : gr h 12 0 26 = some 0 := G.2.2.2.2.2.2.2.2.2.2.2.2.2.2.2.2.2.2.2.2.2.2.2.2.2.2.2.2.2.2.2.2.2.2.2.2.2.2.2.2.2.2.2.2.2.2.1
theorem rf_12_27 {h : HP} (G : gR h.2.2) : gr h 12 0 27 = some 0 := G.2.2.2.2.2.2.2.2.2.2.2.2.2.2.2.2.2.2.2.2.2.2.2.2.2.2.2.2.2.2.2.2.2.2.2.2.2.2.2.2.2.2.2.2.2.2.2.1
theorem rf_12_29 {h : HP} (G : gR h.2.2) : gr h 12 0 29 = some 0 := G.2.2.2.2.2.2.2.2.2.2.2.2.2.2.2.2.2.2.2.2.2.2.2.2.2.2.2.2.2.2.2.2.2.2.2.2.2.2.2.2.2.2.2.2.2.2.2.2.1
theorem rf_12_30 {h : HP} (G : gR h.2.2) : gr h 12 0 30 = some 0 := G.2.2.2.2.2.2.2.2.2.2.2.2.2.2.2.2.2.2.2.2.2.2.2.2.2.2.2.2.2.2.2.2.2.2.2.2.2.2.2.2.2.2.2.2.2.2.2.2.2.1
theorem rf_12_31 {h : HP} (G : gR h.2.2) : gr h 12 0 31 = some 0 := G.2.2.2.2.2.2.2.2.2.2.2.2.2.2.2.2.2.2.2.2.2.2.2.2.2.2.2.2.2.2.2.2.2.2.2.2.2.2.2.2.2.2.2.2.2.2.2.2.2.2.1
theorem rf_12_32 {h : HP} (G : gR h.2.2) : gr h 12 0 32 = some 0 := G.2.2.2.2.2.2.2.2.2.2.2.2.2.2.2.2.2.2.2.2.2.2.2.2.2.2.2.2.2.2.2.2.2.2.2.2.2.2.2.2.2.2.2.2.2.2.2.2.2.2.2.1
theorem rf_12_33 {h : HP} (G : gR h.2.2) : gr h 12 0 33 = some 0 := G.2.2.2.2.2.2.2.2.2.2.2.2.2.2.2.2.2.2.2.2.2.2.2.2.2.2.2.2.2.2.2.2.2.2.2.2.2.2.2.2.2.2.2.2.2.2.2.2.2.2.2.2.1
theorem rf_12_34 {h : HP} (G : gR h.2.2) : gr h 12 0 34 = some 0 := G.2.2.2.2.2.2.2.2.2.2.2.2.2.2.2.2.2.2.2.2.2.2.2.2.2.2.2.2.2.2.2.2.2.2.2.2.2.2.2.2.2.2.2.2.2.2.2.2.2.2.2.2.2.1
theorem rf_12_40 {h : HP} (G : gR h.2.2) : gr h 12 0 40 = some 0 := G.2.2.2.2.2.2.2.2.2.2.2.2.2.2.2.2.2.2.2.2.2.2.2.2.2.2.2.2.2.2.2.2.2.2.2.2.2.2.2.2.2.2.2.2.2.2.2.2.2.2.2.2.2.2.1
theorem rf_12_41 {h : HP} (G : gR h.2.2) : gr h 12 0 41 = some 0 := G.2.2.2.2.2.2.2.2.2.2.2.2.2.2.2.2.2.2.2.2.2.2.2.2.2.2.2.2.2.2.2.2.2.2.2.2.2.2.2.2.2.2.2.2.2.2.2.2.2.2.2.2.2.2.2.1
theorem rf_12_42 {h : HP} (G : gR h.2.2) : gr h 12 0 42 = some 0 := G.2.2.2.2.2.2.2.2.2.2.2.2.2.2.2.2.2.2.2.2.2.2.2.2.2.2.2.2.2.2.2.2.2.2.2.2.2.2.2.2.2.2.2.2.2.2.2.2.2.2.2.2.2.2.2.2.1
theorem rf_12_43 {h : HP} (G : gR h.2.2) : gr h 12 0 43 = some 0 := G.2.2.2.2.2.2.2.2.2.2.2.2.2.2.2.2.2.2.2.2.2.2.2.2.2.2.2.2.2.2.2.2.2.2.2.2.2.2.2.2.2.2.2.2.2.2.2.2.2.2.2.2.2.2.2.2.2.1
theorem rf_12_44 {h : HP} (G : gR h.2.2) : gr h 12 0 44 = some 0 := G.2.2.2.2.2.2.2.2.2.2.2.2.2.2.2.2.2.2.2.2.2.2.2.2.2.2.2.2.2.2.2.2.2.2.2.2.2.2.2.2.2.2.2.2.2.2.2.2.2.2.2.2.2.2.2.2.2.2.1
theorem rf_12_49 {h : HP} (G : gR h.2.2) : gr h 12 0 49 = some 0 := G.2.2.2.2.2.2.2.2.2.2.2.2.2.2.2.2.2.2.2.2.2.2.2.2.2.2.2.2.2.2.2.2.2.2.2.2.2.2.2.2.2.2.2.2.2.2.2.2.2.2.2.2.2.2.2.2.2.2.2.1
theorem rf_12_53 {h : HP} (G : gR h.2.2) : gr h 12 0 53 = some 0 := G.2.2.2.2.2.2.2.2.2.2.2.2.2.2.2.2.2.2.2.2.2.2.2.2.2.2.2.2.2.2.2.2.2.2.2.2.2.2.2.2.2.2.2.2.2.2.2.2.2.2.2.2.2.2.2.2.2.2.2.2.1
theorem rf_12_55 {h : HP} (G : gR h.2.2) : gr h 12 0 55 = some 0 := G.2.2.2.2.2.2.2.2.2.2.2.2.2.2.2.2.2.2.2.2.2.2.2.2.2.2.2.2.2.2.2.2.2.2.2.2.2.2.2.2.2.2.2.2.2.2.2.2.2.2.2.2.2.2.2.2.2.2.2.2.2.1
theorem rf_12_56 {h : HP} (G : gR h.2.2) : gr h 12 0 56 = some 0 := G.2.2.2.2.2.2.2.2.2.2.2.2.2.2.2.2.2.2.2.2.2.2.2.2.2.2.2.2.2.2.2.2.2.2.2.2.2.2.2.2.2.2.2.2.2.2.2.2.2.2.2.2.2.2.2.2.2.2.2.2.2.2.1
theorem rf_12_57 {h : HP} (G : gR h.2.2) : gr h 12 0 57 = some 0 := G.2.2.2.2.2.2.2.2.2.2.2.2.2.2.2.2.2.2.2.2.2.2.2.2.2.2.2.2.2.2.2.2.2.2.2.2.2.2.2.2.2.2.2.2.2.2.2.2.2.2.2.2.2.2.2.2.2.2.2.2.2.2.2.1
theorem rf_12_58 {h : HP} (G : gR h.2.2) : gr h 12 0 58 = some 0 := G.2.2.2.2.2.2.2.2.2.2.2.2.2.2.2.2.2.2.2.2.2.2.2.2.2.2.2.2.2.2.2.2.2.2.2.2.2.2.2.2.2.2.2.2.2.2.2.2.2.2.2.2.2.2.2.2.2.2.2.2.2.2.2.2.1
theorem rf_12_59 {h : HP} (G : gR h.2.2) : gr h 12 0 59 = some 0 := G.2.2.2.2.2.2.2.2.2.2.2.2.2.2.2.2.2.2.2.2.2.2.2.2.2.2.2.2.2.2.2.2.2.2.2.2.2.2.2.2.2.2.2.2.2.2.2.2.2.2.2.2.2.2.2.2.2.2.2.2.2.2.2.2.2.1
theorem rn_11 {h : HP} (G : gR h.2.2) : gn h 11 = 1 := G.2.2.2.2.2.2.2.2.2.2.2.2.2.2.2.2.2.2.2.2.2.2.2.2.2.2.2.2.2.2.2.2.2.2.2.2.2.2.2.2.2.2.2.2.2.2.2.2.2.2.2.2.2.2.2.2.2.2.2.2.2.2.2.2.2.2.1
theorem rn_12 {h : HP} (G : gR h.2.2) : gn h 12 = 1 := G.2.2.2.2.2.2.2.2.2.2.2.2.2.2.2.2.2.2.2.2.2.2.2.2.2.2.2.2.2.2.2.2.2.2.2.2.2.2.2.2.2.2.2.2.2.2.2.2.2.2.2.2.2.2.2.2.2.2.2.2.2.2.2.2.2.2.2
theorem la_dW : ∀ k s, dW k s = true → la k s = true := by
  intro k s e
  unfold dW at e
  simp only [Bool.or_eq_true, Bool.and_eq_true, Nat.beq_eq] at e
  rcases e with ⟨rfl, rfl⟩ | ⟨rfl, rfl⟩ <;> rfl
theorem la_dP : ∀ k s, dP k s = true → la k s = true := by
  intro k s e
  unfold dP at e
  simp only [Bool.or_eq_true, Bool.and_eq_true, Nat.beq_eq] at e
  rcases e with ⟨rfl, rfl⟩ | ⟨rfl, rfl⟩ | rfl | rfl <;> rfl
theorem la_dB : ∀ k s, dB k s = true → la k s = true := by
  intro k s e
  unfold dB at e
  simp only [Bool.or_eq_true, Bool.and_eq_true, Nat.beq_eq] at e
  rcases e with ⟨rfl, rfl | rfl | rfl | rfl | rfl | rfl | rfl | rfl⟩ | ⟨rfl, rfl⟩ | ⟨rfl, rfl | rfl⟩ | rfl | rfl | rfl | rfl | rfl | rfl | rfl | rfl | rfl | rfl | rfl | rfl | rfl | rfl <;> rfl
theorem la_dL : ∀ k s, dL k s = true → la k s = true := by
  intro k s e
  unfold dL at e
  simp only [Bool.or_eq_true, Bool.and_eq_true, Nat.beq_eq] at e
  rcases e with ⟨rfl, rfl | rfl | rfl⟩ | ⟨rfl, rfl⟩ | rfl | rfl | rfl | rfl | rfl | rfl <;> rfl
theorem la_dU : ∀ k s, dU k s = true → la k s = true := by
  intro k s e
  unfold dU at e
  simp only [Bool.or_eq_true, Bool.and_eq_true, Nat.beq_eq] at e
  rcases e with ⟨rfl, rfl | rfl | rfl⟩ | ⟨rfl, rfl⟩ | ⟨rfl, rfl⟩ | rfl | rfl | rfl | rfl | rfl <;> rfl
theorem la_dT : ∀ k s, dT k s = true → la k s = true := by
  intro k s e
  unfold dT at e
  simp only [Bool.or_eq_true, Bool.and_eq_true, Nat.beq_eq] at e
  rcases e with ⟨rfl, rfl | rfl⟩ | ⟨rfl, rfl | rfl⟩ <;> rfl
theorem la_dK : ∀ k s, dK k s = true → la k s = true := by
  intro k s e
  unfold dK at e
  simp only [Bool.or_eq_true, Bool.and_eq_true, Nat.beq_eq] at e
  rcases e with rfl | ⟨rfl, rfl⟩ | ⟨rfl, rfl | rfl⟩ | rfl | rfl | rfl | rfl | rfl | rfl | rfl <;> rfl
theorem la_dC : ∀ k s, dC k s = true → la k s = true := by
  intro k s e
  unfold dC at e
  simp only [Bool.or_eq_true, Bool.and_eq_true, Nat.beq_eq] at e
  rcases e with ⟨rfl, rfl⟩ | ⟨rfl, rfl⟩ | rfl | rfl | rfl | rfl | rfl | rfl | rfl | rfl | rfl | rfl <;> rfl
theorem la_dS : ∀ k s, dS k s = true → la k s = true := by
  intro k s e
  unfold dS at e
  simp only [Bool.or_eq_true, Bool.and_eq_true, Nat.beq_eq] at e
  rcases e with ⟨rfl, rfl | rfl | rfl⟩ | rfl | rfl | rfl | rfl <;> rfl
theorem la_dF : ∀ k s, dF k s = true → la k s = true := by
  intro k s e
  unfold dF at e
  simp only [Bool.or_eq_true, Bool.and_eq_true, Nat.beq_eq] at e
  rcases e with ⟨rfl, rfl⟩ | ⟨rfl, rfl⟩ <;> rfl
theorem gW_si {h : HP} {k s : Nat} (i : Nat) (v : Int32) (hk : dW k s = false) : gW (vw dW (si h k i s v)) (si h k i s v).2.2 = gW (vw dW h) h.2.2 := by rw [vw_si h i v hk]; rfl
theorem gP_si {h : HP} {k s : Nat} (i : Nat) (v : Int32) (hk : dP k s = false) : gP (vw dP (si h k i s v)) (si h k i s v).2.2 = gP (vw dP h) h.2.2 := by rw [vw_si h i v hk]; rfl
theorem gB_si {h : HP} {k s : Nat} (i : Nat) (v : Int32) (hk : dB k s = false) : gB (vw dB (si h k i s v)) (si h k i s v).2.2 = gB (vw dB h) h.2.2 := by rw [vw_si h i v hk]; rfl
theorem gL_si {h : HP} {k s : Nat} (i : Nat) (v : Int32) (hk : dL k s = false) : gL (vw dL (si h k i s v)) (si h k i s v).2.2 = gL (vw dL h) h.2.2 := by rw [vw_si h i v hk]; rfl
theorem gU_si {h : HP} {k s : Nat} (i : Nat) (v : Int32) (hk : dU k s = false) : gU (vw dU (si h k i s v)) (si h k i s v).2.2 = gU (vw dU h) h.2.2 := by rw [vw_si h i v hk]; rfl
theorem gT_si {h : HP} {k s : Nat} (i : Nat) (v : Int32) (hk : dT k s = false) : gT (vw dT (si h k i s v)) (si h k i s v).2.2 = gT (vw dT h) h.2.2 := by rw [vw_si h i v hk]; rfl
theorem gK_si {h : HP} {k s : Nat} (i : Nat) (v : Int32) (hk : dK k s = false) : gK (vw dK (si h k i s v)) (si h k i s v).2.2 = gK (vw dK h) h.2.2 := by rw [vw_si h i v hk]; rfl
theorem gC_si {h : HP} {k s : Nat} (i : Nat) (v : Int32) (hk : dC k s = false) : gC (vw dC (si h k i s v)) (si h k i s v).2.2 = gC (vw dC h) h.2.2 := by rw [vw_si h i v hk]; rfl
theorem gS_si {h : HP} {k s : Nat} (i : Nat) (v : Int32) (hk : dS k s = false) : gS (vw dS (si h k i s v)) (si h k i s v).2.2 = gS (vw dS h) h.2.2 := by rw [vw_si h i v hk]; rfl
theorem gF_si {h : HP} {k s : Nat} (i : Nat) (v : Int32) (hk : dF k s = false) : gF (vw dF (si h k i s v)) (si h k i s v).2.2 = gF (vw dF h) h.2.2 := by rw [vw_si h i v hk]; rfl
theorem gW_sik {h : HP} {k s : Nat} (i : Nat) (v : Int32) (hk : kW k = false) : gW (vw dW (si h k i s v)) (si h k i s v).2.2 = gW (vw dW h) h.2.2 := gW_si i v (kW_d k hk s)
theorem gP_sik {h : HP} {k s : Nat} (i : Nat) (v : Int32) (hk : kP k = false) : gP (vw dP (si h k i s v)) (si h k i s v).2.2 = gP (vw dP h) h.2.2 := gP_si i v (kP_d k hk s)
theorem gB_sik {h : HP} {k s : Nat} (i : Nat) (v : Int32) (hk : kB k = false) : gB (vw dB (si h k i s v)) (si h k i s v).2.2 = gB (vw dB h) h.2.2 := gB_si i v (kB_d k hk s)
theorem gL_sik {h : HP} {k s : Nat} (i : Nat) (v : Int32) (hk : kL k = false) : gL (vw dL (si h k i s v)) (si h k i s v).2.2 = gL (vw dL h) h.2.2 := gL_si i v (kL_d k hk s)
theorem gU_sik {h : HP} {k s : Nat} (i : Nat) (v : Int32) (hk : kU k = false) : gU (vw dU (si h k i s v)) (si h k i s v).2.2 = gU (vw dU h) h.2.2 := gU_si i v (kU_d k hk s)
theorem gT_sik {h : HP} {k s : Nat} (i : Nat) (v : Int32) (hk : kT k = false) : gT (vw dT (si h k i s v)) (si h k i s v).2.2 = gT (vw dT h) h.2.2 := gT_si i v (kT_d k hk s)
theorem gK_sik {h : HP} {k s : Nat} (i : Nat) (v : Int32) (hk : kK k = false) : gK (vw dK (si h k i s v)) (si h k i s v).2.2 = gK (vw dK h) h.2.2 := gK_si i v (kK_d k hk s)
theorem gC_sik {h : HP} {k s : Nat} (i : Nat) (v : Int32) (hk : kC k = false) : gC (vw dC (si h k i s v)) (si h k i s v).2.2 = gC (vw dC h) h.2.2 := gC_si i v (kC_d k hk s)
theorem gS_sik {h : HP} {k s : Nat} (i : Nat) (v : Int32) (hk : kS k = false) : gS (vw dS (si h k i s v)) (si h k i s v).2.2 = gS (vw dS h) h.2.2 := gS_si i v (kS_d k hk s)
theorem gF_sik {h : HP} {k s : Nat} (i : Nat) (v : Int32) (hk : kF k = false) : gF (vw dF (si h k i s v)) (si h k i s v).2.2 = gF (vw dF h) h.2.2 := gF_si i v (kF_d k hk s)
/-- scratch alone has changed -/
def SQ (h h' : HP) : Prop := EX (fun k s => !la k s) h h'
theorem mk_la : ∀ k s, mk k s = true → la k s = true := by
  intro k s e
  unfold mk at e
  simp only [Bool.or_eq_true, Bool.and_eq_true, Nat.beq_eq] at e
  rcases e with ⟨rfl, rfl | rfl | rfl | rfl | rfl | rfl | rfl | rfl | rfl | rfl⟩ | rfl | rfl | rfl | rfl | rfl | rfl | rfl | rfl | rfl | rfl | rfl | rfl | rfl | rfl | rfl | rfl | rfl | rfl | rfl | rfl | rfl | rfl | rfl | rfl | rfl | rfl | rfl | rfl | rfl | rfl <;> rfl
theorem SQ.vq {h h' : HP} (q : SQ h h') {D : Nat → Nat → Bool} (hD : ∀ k s, D k s = true → la k s = true) : vw D h' = vw D h :=
  vw_ex q (fun k s e => by show (!la k s) = false; rw [hD k s e]; rfl)
theorem SQ.rl {h h' : HP} (q : SQ h h') (R : RQ h) : RQ h' := by
  unfold RQ at *
  rw [q.vq la_dW, q.vq la_dP, q.vq la_dB, q.vq la_dL, q.vq la_dU, q.vq la_dT, q.vq la_dK, q.vq la_dC, q.vq la_dS, q.vq la_dF, q.1]
  exact R
theorem SQ.mq {h h' : HP} (q : SQ h h') : ms h' = ms h := by
  funext k s
  unfold ms
  by_cases e : mk k s = true
  · rw [if_pos e, if_pos e]
    exact q.2.1 k 0 s (by show (!la k s) = false; rw [mk_la k s e]; rfl)
  · rw [if_neg e, if_neg e]
theorem SQ.r (h : HP) : SQ h h := EX.rfl' h
theorem SQ.t {h h1 h2 : HP} (a : SQ h h1) (b : SQ h1 h2) : SQ h h2 := EX.trans a b
theorem SQ.si {h h1 : HP} (a : SQ h h1) {k s : Nat} (i : Nat) (v : Int32) (hk : la k s = false) : SQ h (si h1 k i s v) := EX.si a i v (by show (!la k s) = true; rw [hk]; rfl)
theorem SQ.sL {h h1 : HP} (a : SQ h h1) {k s : Nat} (i : Nat) (v : Int64) (hk : la k s = false) : SQ h (sL h1 k i s v) := EX.sL a i v (by show (!la k s) = true; rw [hk]; rfl)
theorem SQ.srow {h h1 : HP} (a : SQ h h1) {k : Nat} (i : Nat) (f : Nat → Int32) (hk : ∀ s, la k s = false) : SQ h (srow h1 k i f) := EX.srow a i f (fun s => by show (!la k s) = true; rw [hk s]; rfl)
theorem EX.sq {S : Nat → Nat → Bool} {h h1 : HP} (a : EX S h h1) (hS : ∀ k s, S k s = true → la k s = false) : SQ h h1 := by
  refine EX.mono a (fun k s e => ?_)
  cases hq : S k s with
  | false => rfl
  | true => rw [hS k s hq] at e; cases e
/-! the parts of the relation by name -/
/-- the lasting numbers of the reference, as they may be -/
def MW (m : Nat → Nat → Int32) : Prop := ∃ h, RQ h ∧ ms h = m
theorem RQ.m {h : HP} (R : RQ h) : MW (ms h) := ⟨h, R, rfl⟩
def WK (m : Nat → Nat → Int32) : Nat := (m 12 5).toNatClampNeg
def NP (m : Nat → Nat → Int32) : Nat := (m 12 6).toNatClampNeg
def NB (m : Nat → Nat → Int32) : Nat := (m 12 8).toNatClampNeg
def NT (m : Nat → Nat → Int32) : Nat := (m 12 21).toNatClampNeg
def NU (m : Nat → Nat → Int32) : Nat := (m 12 28).toNatClampNeg
def NK (m : Nat → Nat → Int32) : Nat := (m 12 39).toNatClampNeg
def NC (m : Nat → Nat → Int32) : Nat := (m 12 54).toNatClampNeg
def chN (m : Nat → Nat → Int32) (b : Nat) : Nat := (m 58 b).toNatClampNeg
theorem RQ.w {h : HP} (R : RQ h) : gW (vw dW h) h.2.2 := R.2.1
theorem RQ.p {h : HP} (R : RQ h) : gP (vw dP h) h.2.2 := R.2.2.1
theorem RQ.b {h : HP} (R : RQ h) : gB (vw dB h) h.2.2 := R.2.2.2.1
theorem RQ.l {h : HP} (R : RQ h) : gL (vw dL h) h.2.2 := R.2.2.2.2.1
theorem RQ.u {h : HP} (R : RQ h) : gU (vw dU h) h.2.2 := R.2.2.2.2.2.1
theorem RQ.t {h : HP} (R : RQ h) : gT (vw dT h) h.2.2 := R.2.2.2.2.2.2.1
theorem RQ.k {h : HP} (R : RQ h) : gK (vw dK h) h.2.2 := R.2.2.2.2.2.2.2.1
theorem RQ.c {h : HP} (R : RQ h) : gC (vw dC h) h.2.2 := R.2.2.2.2.2.2.2.2.1
theorem RQ.s {h : HP} (R : RQ h) : gS (vw dS h) h.2.2 := R.2.2.2.2.2.2.2.2.2.1
theorem RQ.f {h : HP} (R : RQ h) : gF (vw dF h) h.2.2 := R.2.2.2.2.2.2.2.2.2.2
/-! the class's numbers are the reference's -/
theorem cw_wk {h : HP} (R : RQ h) : gi h 11 0 0 = ms h 12 5 := R.w.1
theorem cw_np {h : HP} (R : RQ h) : gi h 11 0 2 = ms h 12 6 := R.p.1
theorem cw_nb {h : HP} (R : RQ h) : gi h 2 0 1 = ms h 12 8 := R.b.1
theorem cw_nt {h : HP} (R : RQ h) : gi h 4 0 1 = ms h 12 21 := R.l.1
theorem cw_nu {h : HP} (R : RQ h) : gi h 11 0 6 = ms h 12 28 := R.u.1
theorem cw_nk {h : HP} (R : RQ h) : gi h 11 0 10 = ms h 12 39 := R.k.1
theorem cw_nc {h : HP} (R : RQ h) : gi h 3 0 5 = ms h 12 54 := R.c.1
theorem cw_fi {h : HP} (R : RQ h) : gi h 11 0 15 = ms h 12 4 := R.f
theorem cw_t0 {h : HP} (R : RQ h) : gi h 7 0 0 = ms h 12 37 := R.t.1
theorem cw_t1 {h : HP} (R : RQ h) : gi h 7 0 1 = ms h 12 38 := R.t.2.1
theorem v_wk {m : Nat → Nat → Int32} (W : MW m) : m 12 5 = nI (WK m) := by obtain ⟨h, R, rfl⟩ := W; exact R.w.2.1
theorem v_np {m : Nat → Nat → Int32} (W : MW m) : m 12 6 = nI (NP m) := by obtain ⟨h, R, rfl⟩ := W; exact R.p.2.1.1
theorem v_nb {m : Nat → Nat → Int32} (W : MW m) : m 12 8 = nI (NB m) := by obtain ⟨h, R, rfl⟩ := W; exact R.b.2.1.1
theorem v_nt {m : Nat → Nat → Int32} (W : MW m) : m 12 21 = nI (NT m) := by obtain ⟨h, R, rfl⟩ := W; exact R.l.2.1.1
theorem v_nu {m : Nat → Nat → Int32} (W : MW m) : m 12 28 = nI (NU m) := by obtain ⟨h, R, rfl⟩ := W; exact R.u.2.1.1
theorem v_nk {m : Nat → Nat → Int32} (W : MW m) : m 12 39 = nI (NK m) := by obtain ⟨h, R, rfl⟩ := W; exact R.k.2.1.1
theorem v_nc {m : Nat → Nat → Int32} (W : MW m) : m 12 54 = nI (NC m) := by obtain ⟨h, R, rfl⟩ := W; exact R.c.2.1.1
theorem b_wk {m : Nat → Nat → Int32} (W : MW m) : WK m ≤ 199 := by obtain ⟨h, R, rfl⟩ := W; exact R.w.2.2
theorem b_np {m : Nat → Nat → Int32} (W : MW m) : NP m ≤ 8 := by obtain ⟨h, R, rfl⟩ := W; exact R.p.2.1.2
theorem b_nb {m : Nat → Nat → Int32} (W : MW m) : NB m ≤ 20 := by obtain ⟨h, R, rfl⟩ := W; exact R.b.2.1.2
theorem b_nt {m : Nat → Nat → Int32} (W : MW m) : NT m ≤ 100 := by obtain ⟨h, R, rfl⟩ := W; exact R.l.2.1.2
theorem b_nu {m : Nat → Nat → Int32} (W : MW m) : NU m ≤ 8 := by obtain ⟨h, R, rfl⟩ := W; exact R.u.2.1.2
theorem b_nk {m : Nat → Nat → Int32} (W : MW m) : NK m ≤ 6 := by obtain ⟨h, R, rfl⟩ := W; exact R.k.2.1.2
theorem b_nc {m : Nat → Nat → Int32} (W : MW m) : NC m ≤ 30 := by obtain ⟨h, R, rfl⟩ := W; exact R.c.2.1.2
/-! bells -/
theorem rb_23 {h : HP} (R : RQ h) {b : Nat} (hb : b < NB (ms h)) : gr h 23 0 b = some b := (R.b.2.2.2.1 b hb).1.1
theorem rb_4 {h : HP} (R : RQ h) {b : Nat} (hb : b < NB (ms h)) : gr h 1 b 4 = some b := (R.b.2.2.2.1 b hb).1.2.1
theorem rb_5 {h : HP} (R : RQ h) {b : Nat} (hb : b < NB (ms h)) : gr h 1 b 5 = some b := (R.b.2.2.2.1 b hb).1.2.2.1
theorem rb_6 {h : HP} (R : RQ h) {b : Nat} (hb : b < NB (ms h)) : gr h 1 b 6 = some b := (R.b.2.2.2.1 b hb).1.2.2.2
theorem cb_0 {h : HP} (R : RQ h) {b : Nat} (hb : b < NB (ms h)) : gi h 1 b 0 = ms h 50 b := (R.b.2.2.2.1 b hb).2.1.1
theorem cb_1 {h : HP} (R : RQ h) {b : Nat} (hb : b < NB (ms h)) : gi h 1 b 1 = ms h 51 b := (R.b.2.2.2.1 b hb).2.1.2.1
theorem cb_2 {h : HP} (R : RQ h) {b : Nat} (hb : b < NB (ms h)) : gi h 1 b 2 = ms h 52 b := (R.b.2.2.2.1 b hb).2.1.2.2.1
theorem cb_3 {h : HP} (R : RQ h) {b : Nat} (hb : b < NB (ms h)) : gi h 1 b 3 = ms h 53 b := (R.b.2.2.2.1 b hb).2.1.2.2.2.1
theorem cb_7 {h : HP} (R : RQ h) {b : Nat} (hb : b < NB (ms h)) : gi h 1 b 7 = ms h 58 b := (R.b.2.2.2.1 b hb).2.1.2.2.2.2.1
theorem cb_8 {h : HP} (R : RQ h) {b : Nat} (hb : b < NB (ms h)) : gi h 1 b 8 = ms h 55 b := (R.b.2.2.2.1 b hb).2.1.2.2.2.2.2.1
theorem cb_9 {h : HP} (R : RQ h) {b : Nat} (hb : b < NB (ms h)) : gi h 1 b 9 = ms h 56 b := (R.b.2.2.2.1 b hb).2.1.2.2.2.2.2.2.1
theorem cb_10 {h : HP} (R : RQ h) {b : Nat} (hb : b < NB (ms h)) : gi h 1 b 10 = ms h 57 b := (R.b.2.2.2.1 b hb).2.1.2.2.2.2.2.2.2
theorem cb_20 {h : HP} (R : RQ h) {b t : Nat} (hb : b < NB (ms h)) (ht : t < 5) : gi h 20 b t = ms h 54 (5 * b + t) := ((R.b.2.2.2.1 b hb).2.2.1 t ht).1
theorem tb_54 {m : Nat → Nat → Int32} (W : MW m) {b t : Nat} (hb : b < NB m) (ht : t < 5) : tn (m 54 (5 * b + t)) := by obtain ⟨h, R, rfl⟩ := W; exact ((R.b.2.2.2.1 b hb).2.2.1 t ht).2
theorem v_ch {m : Nat → Nat → Int32} (W : MW m) {b : Nat} (hb : b < NB m) : m 58 b = nI (chN m b) := by obtain ⟨h, R, rfl⟩ := W; exact (R.b.2.2.2.1 b hb).2.2.2.1.1.1
theorem b_ch {m : Nat → Nat → Int32} (W : MW m) {b : Nat} (hb : b < NB m) : chN m b ≤ 16 := by obtain ⟨h, R, rfl⟩ := W; exact (R.b.2.2.2.1 b hb).2.2.2.1.1.2
theorem cb_21 {h : HP} (R : RQ h) {b k : Nat} (hb : b < NB (ms h)) (hk : k < chN (ms h) b) : gi h 21 b k = ms h 60 (16 * b + k) := ((R.b.2.2.2.1 b hb).2.2.2.1.2 k hk).1
theorem cb_22 {h : HP} (R : RQ h) {b k : Nat} (hb : b < NB (ms h)) (hk : k < chN (ms h) b) : gi h 22 b k = ms h 59 (16 * b + k) := ((R.b.2.2.2.1 b hb).2.2.2.1.2 k hk).2.1
theorem b_60 {m : Nat → Nat → Int32} (W : MW m) {b k : Nat} (hb : b < NB m) (hk : k < chN m b) : m 60 (16 * b + k) ≤ m 12 5 := by obtain ⟨h, R, rfl⟩ := W; exact ((R.b.2.2.2.1 b hb).2.2.2.1.2 k hk).2.2
theorem n_51 {m : Nat → Nat → Int32} (W : MW m) {b : Nat} (hb : b < NB m) : cn (m 51 b) 9999 := by obtain ⟨h, R, rfl⟩ := W; exact (R.b.2.2.2.1 b hb).2.2.2.2.1
theorem n_53 {m : Nat → Nat → Int32} (W : MW m) {b : Nat} (hb : b < NB m) : cn (m 53 b) 30 := by obtain ⟨h, R, rfl⟩ := W; exact (R.b.2.2.2.1 b hb).2.2.2.2.2.1
theorem n_56 {m : Nat → Nat → Int32} (W : MW m) {b : Nat} (hb : b < NB m) : cn (m 56 b) 99 := by obtain ⟨h, R, rfl⟩ := W; exact (R.b.2.2.2.1 b hb).2.2.2.2.2.2.1
theorem n_57 {m : Nat → Nat → Int32} (W : MW m) {b : Nat} (hb : b < NB m) : cn (m 57 b) 999 := by obtain ⟨h, R, rfl⟩ := W; exact (R.b.2.2.2.1 b hb).2.2.2.2.2.2.2.1
theorem v_58 {m : Nat → Nat → Int32} (W : MW m) {b : Nat} (h1 : NB m ≤ b) (h2 : b < 20) : m 58 b = 0 := by obtain ⟨h, R, rfl⟩ := W; exact R.b.2.2.2.2 b h1 h2
/-! parishes, claims, laws, sheets -/
theorem cp_41 {h : HP} (R : RQ h) {p : Nat} (hp : p < 8) : gi h 41 0 p = ms h 49 p := (R.p.2.2 p hp).1
theorem n_49 {m : Nat → Nat → Int32} (W : MW m) {p : Nat} (hp : p < 8) : cn (m 49 p) 3 := by obtain ⟨h, R, rfl⟩ := W; exact (R.p.2.2 p hp).2
theorem cc_24 {h : HP} (R : RQ h) {c : Nat} (hc : c < 30) : gi h 24 0 c = ms h 79 c := (R.c.2.2.1 c hc).1.1
theorem cc_25 {h : HP} (R : RQ h) {c : Nat} (hc : c < 30) : gi h 25 0 c = ms h 80 c := (R.c.2.2.1 c hc).1.2.1
theorem cc_26 {h : HP} (R : RQ h) {c : Nat} (hc : c < 30) : gi h 26 0 c = ms h 81 c := (R.c.2.2.1 c hc).1.2.2.1
theorem cc_27 {h : HP} (R : RQ h) {c : Nat} (hc : c < 30) : gi h 27 0 c = ms h 82 c := (R.c.2.2.1 c hc).1.2.2.2
theorem n_79 {m : Nat → Nat → Int32} (W : MW m) {c : Nat} (hc : c < 30) : cn (m 79 c) 7 := by obtain ⟨h, R, rfl⟩ := W; exact (R.c.2.2.1 c hc).2.1
theorem n_81 {m : Nat → Nat → Int32} (W : MW m) {c : Nat} (hc : c < 30) : cn (m 81 c) 4 := by obtain ⟨h, R, rfl⟩ := W; exact (R.c.2.2.1 c hc).2.2
theorem cc_28 {h : HP} (R : RQ h) {p : Nat} (hp : p < 5) : gi h 28 0 p = ms h 83 p := (R.c.2.2.2 p hp).1
theorem n_83 {m : Nat → Nat → Int32} (W : MW m) {p : Nat} (hp : p < 5) : cn (m 83 p) 9 := by obtain ⟨h, R, rfl⟩ := W; exact (R.c.2.2.2 p hp).2
theorem rs_44 {h : HP} (R : RQ h) {s : Nat} (hs : s < 4) : gr h 44 0 s = some s := (R.s s hs).1.1
theorem rs_9 {h : HP} (R : RQ h) {s : Nat} (hs : s < 4) : gr h 9 s 3 = some s := (R.s s hs).1.2
theorem n_37 {m : Nat → Nat → Int32} (W : MW m) : cn (m 12 37) 49 := by obtain ⟨h, R, rfl⟩ := W; exact R.t.2.2.1
theorem n_38 {m : Nat → Nat → Int32} (W : MW m) : cn (m 12 38) 4095 := by obtain ⟨h, R, rfl⟩ := W; exact R.t.2.2.2
/-- a sheet is lost on both sides, or stands on both -/
theorem sh_c {h : HP} (R : RQ h) {s : Nat} (hs : s < 4) : (gi h 9 s 0 = 1 ∧ ms h 45 s = -1) ∨ (gi h 9 s 0 = 0 ∧ gi h 9 s 1 = ms h 45 s ∧ cn (ms h 45 s) 2 ∧ gi h 9 s 2 = ms h 46 s ∧ cn (ms h 46 s) 60 ∧ ∀ i, i < (ms h 46 s).toNatClampNeg → gi h 39 s i = ms h 47 (60 * s + i)) := (R.s s hs).2
/-- writes of the class are not seen in the reference's numbers -/
theorem ms_si {h : HP} {k s : Nat} (i : Nat) (v : Int32) (hk : mk k s = false) : ms (si h k i s v) = ms h := by
  funext k1 s1
  unfold ms
  by_cases e : mk k1 s1 = true
  · rw [if_pos e, if_pos e, gi_si, if_neg]
    rintro ⟨rfl, -, rfl⟩
    rw [hk] at e
    cases e
  · rw [if_neg e, if_neg e]
theorem ms_sik {h : HP} {k s : Nat} (i : Nat) (v : Int32) (hk : kM k = false) : ms (si h k i s v) = ms h := ms_si i v (kM_d k hk s)
theorem ms_pt {h : HP} {k i s k1 s1 : Nat} (v : Int32) (hm : mk k1 s1 = true) : ms (si h k i s v) k1 s1 = if k1 = k ∧ 0 = i ∧ s1 = s then v else ms h k1 s1 := by
  unfold ms
  rw [if_pos hm, if_pos hm, gi_si]
theorem ms_ptk {h : HP} {k i s k1 s1 : Nat} (v : Int32) (hm : fM k1 = true) : ms (si h k i s v) k1 s1 = if k1 = k ∧ 0 = i ∧ s1 = s then v else ms h k1 s1 := ms_pt v (fM_d k1 hm s1)
