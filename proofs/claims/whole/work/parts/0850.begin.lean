/-! stage III: the heap behind both constructors -/
def hz : HP := (fun _ _ _ => 0, fun _ _ _ => 0, fun _ _ _ => none, fun _ => 0)
def hd1 : HP := (F_X11_init 0 (nw hz 11)).getD hz
def hd2 : HP := (F_X12_init 0 (nw hd1 12)).getD hz
theorem hd1_s : (F_X11_init 0 (nw hz 11)).isSome = true := by decide +kernel
theorem hd1_e : F_X11_init 0 (nw hz 11) = some hd1 := by
  unfold hd1
  cases h : F_X11_init 0 (nw hz 11) with
  | none => have := hd1_s; rw [h] at this; cases this
  | some d => rfl
theorem hd2_s : (F_X12_init 0 (nw hd1 12)).isSome = true := by decide +kernel
theorem hd2_e : F_X12_init 0 (nw hd1 12) = some hd2 := by
  unfold hd2
  cases h : F_X12_init 0 (nw hd1 12) with
  | none => have := hd2_s; rw [h] at this; cases this
  | some d => rfl
theorem rq_begin : RQ hd2 := by
  have z6 : (gi hd2 12 0 28).toNatClampNeg = 0 := by decide +kernel
  have z8 : (gi hd2 12 0 8).toNatClampNeg = 0 := by decide +kernel
  have z21 : (gi hd2 12 0 21).toNatClampNeg = 0 := by decide +kernel
  have z39 : (gi hd2 12 0 39).toNatClampNeg = 0 := by decide +kernel
  have a58 : ∀ b, b < 20 → gi hd2 58 0 b = 0 := by decide +kernel
  have cW : gi hd2 11 0 0 = gi hd2 12 0 5 ∧ cn (gi hd2 12 0 5) 199 := by unfold cn; decide +kernel
  have cP : gi hd2 11 0 2 = gi hd2 12 0 6 ∧ cn (gi hd2 12 0 6) 8 ∧ ∀ p, p < 8 → gi hd2 41 0 p = gi hd2 49 0 p ∧ cn (gi hd2 49 0 p) 3 := by unfold cn; decide +kernel
  have cB : gi hd2 2 0 1 = gi hd2 12 0 8 ∧ cn (gi hd2 12 0 8) 20 ∧ (gn hd2 1 = (gi hd2 12 0 8).toNatClampNeg ∧ gn hd2 20 = (gi hd2 12 0 8).toNatClampNeg ∧ gn hd2 21 = (gi hd2 12 0 8).toNatClampNeg ∧ gn hd2 22 = (gi hd2 12 0 8).toNatClampNeg) := by unfold cn; decide +kernel
  have cL : gi hd2 4 0 1 = gi hd2 12 0 21 ∧ cn (gi hd2 12 0 21) 100 ∧ gi hd2 4 0 2 = -1 ∧ gi hd2 4 0 7 = nI 0 := by unfold cn; decide +kernel
  have cU : gi hd2 11 0 6 = gi hd2 12 0 28 ∧ cn (gi hd2 12 0 28) 8 ∧ gn hd2 40 = gn hd2 10 := by unfold cn; decide +kernel
  have cT : gi hd2 7 0 0 = gi hd2 12 0 37 ∧ gi hd2 7 0 1 = gi hd2 12 0 38 ∧ cn (gi hd2 12 0 37) 49 ∧ cn (gi hd2 12 0 38) 4095 := by unfold cn; decide +kernel
  have cK : gi hd2 11 0 10 = gi hd2 12 0 39 ∧ cn (gi hd2 12 0 39) 6 ∧ gn hd2 0 = (gi hd2 12 0 39).toNatClampNeg := by unfold cn; decide +kernel
  have cC : gi hd2 3 0 5 = gi hd2 12 0 54 ∧ cn (gi hd2 12 0 54) 30 ∧ (∀ c, c < 30 → (gi hd2 24 0 c = gi hd2 79 0 c ∧ gi hd2 25 0 c = gi hd2 80 0 c ∧ gi hd2 26 0 c = gi hd2 81 0 c ∧ gi hd2 27 0 c = gi hd2 82 0 c) ∧ cn (gi hd2 79 0 c) 7 ∧ cn (gi hd2 81 0 c) 4) ∧ ∀ p, p < 5 → gi hd2 28 0 p = gi hd2 83 0 p ∧ cn (gi hd2 83 0 p) 9 := by unfold cn; decide +kernel
  have cS : ∀ s, s < 4 → (gr hd2 44 0 s = some s ∧ gr hd2 9 s 3 = some s) ∧ (gi hd2 9 s 0 = 1 ∧ gi hd2 45 0 s = -1) := by decide +kernel
  have cF : gi hd2 11 0 15 = gi hd2 12 0 4 := by decide +kernel
  have el : lw (vw dL hd2 61 0) (vw dL hd2 12 0 21).toNatClampNeg = (-1, []) := by
    rw [show (vw dL hd2 12 0 21).toNatClampNeg = 0 from z21]
    rfl
  have cR : gR hd2.2.2 := by
    unfold gR
    repeat' apply And.intro
    all_goals decide +kernel
  refine ⟨cR, cW, cP, ⟨cB.1, cB.2.1, cB.2.2, fun b hb => ?_, fun b _ hb => a58 b hb⟩, ⟨cL.1, cL.2.1, fun i hi => ?_, ?_, ?_, fun p x hp => ?_⟩, ⟨cU.1, cU.2.1, cU.2.2, fun u hu => ?_⟩, cT, ⟨cK.1, cK.2.1, cK.2.2, fun k hk => ?_⟩, cC, fun s hs => ⟨(cS s hs).1, Or.inl (cS s hs).2⟩, cF⟩
  · have hb' : b < (gi hd2 12 0 8).toNatClampNeg := hb
    omega
  · have hi' : i < (gi hd2 12 0 21).toNatClampNeg := hi
    omega
  · rw [el]; exact cL.2.2.1
  · rw [el]; exact cL.2.2.2
  · rw [el] at hp
    cases hp
  · have hu' : u < (gi hd2 12 0 28).toNatClampNeg := hu
    omega
  · have hk' : k < (gi hd2 12 0 39).toNatClampNeg := hk
    omega
