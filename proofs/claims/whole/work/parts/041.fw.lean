/-! the world of a pure heap -/
def fv (h : HP) (φ : Nat → Nat → Nat) (k i s c : Nat) : Value := if c = 1 then .long (gl h k i s) else if c < 4 then .int (gi h k i s) else va_rf ((gr h k i s).map (φ (c - 4)))
def ac (h : HP) (φ : Nat → Nat → Nat) (k i c : Nat) : (Nat → Int32) ⊕ (Nat → Int64) ⊕ (Nat → UInt32) ⊕ (Nat → UInt64) ⊕ (Nat → Option Nat) :=
  if c = 1 then .inr (.inl (gl h k i)) else if c < 4 then .inl (gi h k i) else .inr (.inr (.inr (.inr (fun s => (gr h k i s).map (φ (c - 4))))))
def ce (cA : Nat → ClassId) (φ : Nat → Nat → Nat) (h : HP) (k i : Nat) : va_E := match KT k with
  | .inl cs => .inr (k, cs.mapIdx (fun s c => fv h φ k i s c))
  | .inr q => .inl (cA q.1, q.2, ac h φ k i q.1)
def kc (k s : Nat) : Nat := match KT k with
  | .inl cs => cs.getD s 0
  | .inr q => q.1
def RO (h : HP) : Prop := ∀ k i s j, i < gn h k → gr h k i s = some j → 4 ≤ kc k s → j < gn h (kc k s - 4)
def HW (D : va_G) (cA : Nat → ClassId) (A : Nat → Prop) (φ : Nat → Nat → Nat) (h : HP) (H : Heap) : Prop :=
  ∃ ws : va_W, va_P D classes ws H ∧ va_D A ws ∧ (∀ k i, i < gn h k → ∃ q : Nat, ws[q]? = some (φ k i, ce cA φ h k i)) ∧ (∀ (q : Nat) (x : Nat × va_E), ws[q]? = some x → ∃ k i, i < gn h k ∧ x.1 = φ k i) ∧
    (∀ k i k' i', i < gn h k → i' < gn h k' → φ k i = φ k' i' → k = k' ∧ i = i') ∧ RO h
def Ar (φ : Nat → Nat → Nat) (h : HP) (sz : Nat) : Nat → Prop := fun q => (∃ k i, i < gn h k ∧ q = φ k i) ∨ sz ≤ q
theorem ce_obj {cA : Nat → ClassId} {φ : Nat → Nat → Nat} {h : HP} {k i : Nat} {cs : List Nat} (hk : KT k = .inl cs) : ce cA φ h k i = .inr (k, cs.mapIdx (fun s c => fv h φ k i s c)) := by unfold ce; rw [hk]
theorem ce_arr {cA : Nat → ClassId} {φ : Nat → Nat → Nat} {h : HP} {k i c n : Nat} (hk : KT k = .inr (c, n)) : ce cA φ h k i = .inl (cA c, n, ac h φ k i c) := by unfold ce; rw [hk]
theorem kc_obj {k s c : Nat} {cs : List Nat} (hk : KT k = .inl cs) (hc : cs[s]? = some c) : kc k s = c := by unfold kc; rw [hk]; simp [List.getD, hc]
theorem kc_arr {k s c n : Nat} (hk : KT k = .inr (c, n)) : kc k s = c := by unfold kc; rw [hk]
/-! reading through updates -/
theorem up3_at {α : Type} (f : Nat → Nat → Nat → α) (k i s : Nat) (v : α) : up3 f k i s v k i = va_up (f k i) s v := by simp [up3]
theorem up3_off {α : Type} (f : Nat → Nat → Nat → α) {k i k1 i1 : Nat} (s : Nat) (v : α) (hn : ¬ (k1 = k ∧ i1 = i)) : up3 f k i s v k1 i1 = f k1 i1 := by unfold up3; rw [if_neg hn]
theorem gn_si (h : HP) (k i s : Nat) (v : Int32) : gn (si h k i s v) = gn h := rfl
theorem gn_sl (h : HP) (k i s : Nat) (v : Int64) : gn (sL h k i s v) = gn h := rfl
theorem gn_sr (h : HP) (k i s : Nat) (v : Option Nat) : gn (sr h k i s v) = gn h := rfl
theorem gn_srow (h : HP) (k i : Nat) (f : Nat → Int32) : gn (srow h k i f) = gn h := rfl
theorem gi_si (h : HP) (k i s : Nat) (v : Int32) (k1 i1 s1 : Nat) : gi (si h k i s v) k1 i1 s1 = if k1 = k ∧ i1 = i ∧ s1 = s then v else gi h k1 i1 s1 := by
  unfold gi si up3 va_up
  by_cases h1 : k1 = k ∧ i1 = i
  · obtain ⟨rfl, rfl⟩ := h1
    simp
  · rw [if_neg (fun q => h1 ⟨q.1, q.2.1⟩)]
    simp [h1]
theorem gl_sl (h : HP) (k i s : Nat) (v : Int64) (k1 i1 s1 : Nat) : gl (sL h k i s v) k1 i1 s1 = if k1 = k ∧ i1 = i ∧ s1 = s then v else gl h k1 i1 s1 := by
  unfold gl sL up3 va_up
  by_cases h1 : k1 = k ∧ i1 = i
  · obtain ⟨rfl, rfl⟩ := h1
    simp
  · rw [if_neg (fun q => h1 ⟨q.1, q.2.1⟩)]
    simp [h1]
theorem gr_sr (h : HP) (k i s : Nat) (v : Option Nat) (k1 i1 s1 : Nat) : gr (sr h k i s v) k1 i1 s1 = if k1 = k ∧ i1 = i ∧ s1 = s then v else gr h k1 i1 s1 := by
  unfold gr sr up3 va_up
  by_cases h1 : k1 = k ∧ i1 = i
  · obtain ⟨rfl, rfl⟩ := h1
    simp
  · rw [if_neg (fun q => h1 ⟨q.1, q.2.1⟩)]
    simp [h1]
theorem gi_srow (h : HP) (k i : Nat) (f : Nat → Int32) (k1 i1 s1 : Nat) : gi (srow h k i f) k1 i1 s1 = if k1 = k ∧ i1 = i then f s1 else gi h k1 i1 s1 := by
  unfold gi srow
  by_cases h1 : k1 = k ∧ i1 = i <;> simp [h1]
theorem gl_si (h : HP) (k i s : Nat) (v : Int32) (k1 i1 s1 : Nat) : gl (si h k i s v) k1 i1 s1 = gl h k1 i1 s1 := rfl
theorem gr_si (h : HP) (k i s : Nat) (v : Int32) (k1 i1 s1 : Nat) : gr (si h k i s v) k1 i1 s1 = gr h k1 i1 s1 := rfl
theorem gi_sl (h : HP) (k i s : Nat) (v : Int64) (k1 i1 s1 : Nat) : gi (sL h k i s v) k1 i1 s1 = gi h k1 i1 s1 := rfl
theorem gr_sl (h : HP) (k i s : Nat) (v : Int64) (k1 i1 s1 : Nat) : gr (sL h k i s v) k1 i1 s1 = gr h k1 i1 s1 := rfl
theorem gi_sr (h : HP) (k i s : Nat) (v : Option Nat) (k1 i1 s1 : Nat) : gi (sr h k i s v) k1 i1 s1 = gi h k1 i1 s1 := rfl
theorem gl_sr (h : HP) (k i s : Nat) (v : Option Nat) (k1 i1 s1 : Nat) : gl (sr h k i s v) k1 i1 s1 = gl h k1 i1 s1 := rfl
theorem gl_srow (h : HP) (k i : Nat) (f : Nat → Int32) (k1 i1 s1 : Nat) : gl (srow h k i f) k1 i1 s1 = gl h k1 i1 s1 := rfl
theorem gr_srow (h : HP) (k i : Nat) (f : Nat → Int32) (k1 i1 s1 : Nat) : gr (srow h k i f) k1 i1 s1 = gr h k1 i1 s1 := rfl
/-- two heaps that say the same of a cell -/
theorem ce_congr {cA : Nat → ClassId} {φ : Nat → Nat → Nat} {h h' : HP} {k i : Nat} (h1 : gi h' k i = gi h k i) (h2 : gl h' k i = gl h k i) (h3 : gr h' k i = gr h k i) : ce cA φ h' k i = ce cA φ h k i := by
  unfold ce
  cases KT k with
  | inl cs =>
    simp only []
    congr 3
    funext s c
    unfold fv
    rw [h1, h2, h3]
  | inr q =>
    simp only []
    unfold ac
    rw [h1, h2, h3]
theorem map_phi {φ φ' : Nat → Nat → Nat} {h : HP} {k i s : Nat} (hr : RO h) (hi : i < gn h k) (he : ∀ k i, i < gn h k → φ' k i = φ k i) (h4 : 4 ≤ kc k s) : (gr h k i s).map (φ' (kc k s - 4)) = (gr h k i s).map (φ (kc k s - 4)) := by
  cases hg : gr h k i s with
  | none => rfl
  | some j =>
    have := hr k i s j hi hg h4
    simp [he _ _ this]
theorem ce_phi {cA : Nat → ClassId} {φ φ' : Nat → Nat → Nat} {h : HP} {k i : Nat} (hr : RO h) (hi : i < gn h k) (he : ∀ k i, i < gn h k → φ' k i = φ k i) : ce cA φ' h k i = ce cA φ h k i := by
  cases hk : KT k with
  | inl cs =>
    rw [ce_obj hk, ce_obj hk]
    congr 2
    apply List.ext_getElem?
    intro s
    rw [List.getElem?_mapIdx, List.getElem?_mapIdx]
    cases hc : cs[s]? with
    | none => rfl
    | some c =>
      show some (fv h φ' k i s c) = some (fv h φ k i s c)
      congr 1
      unfold fv
      by_cases h1 : c = 1
      · rw [if_pos h1, if_pos h1]
      · rw [if_neg h1, if_neg h1]
        by_cases h4 : c < 4
        · rw [if_pos h4, if_pos h4]
        · rw [if_neg h4, if_neg h4]
          have e := kc_obj hk hc
          have := map_phi (s := s) hr hi he (by omega)
          rw [e] at this
          rw [this]
  | inr q =>
    obtain ⟨c, n⟩ := q
    rw [ce_arr hk, ce_arr hk]
    congr 3
    unfold ac
    by_cases h1 : c = 1
    · rw [if_pos h1, if_pos h1]
    · rw [if_neg h1, if_neg h1]
      by_cases h4 : c < 4
      · rw [if_pos h4, if_pos h4]
      · rw [if_neg h4, if_neg h4]
        congr 4
        funext s
        have e := kc_arr (s := s) hk
        have := map_phi (s := s) hr hi he (by omega)
        rw [e] at this
        exact this
/-- one cell changes -/
theorem HW.set {D : va_G} {cA : Nat → ClassId} {A : Nat → Prop} {φ : Nat → Nat → Nat} {h h' : HP} {H1 : Heap} {ws : va_W} {k i q0 : Nat} {e : va_E}
    (hcomp : ∀ k i, i < gn h k → ∃ q : Nat, ws[q]? = some (φ k i, ce cA φ h k i)) (hsnd : ∀ (q : Nat) (x : Nat × va_E), ws[q]? = some x → ∃ k i, i < gn h k ∧ x.1 = φ k i)
    (hinj : ∀ k i k' i', i < gn h k → i' < gn h k' → φ k i = φ k' i' → k = k' ∧ i = i') (hi : i < gn h k) (hq : ws[q0]? = some (φ k i, ce cA φ h k i))
    (hP1 : va_P D classes (ws.set q0 (φ k i, e)) H1) (hD1 : va_D A (ws.set q0 (φ k i, e))) (hn : gn h' = gn h) (he : e = ce cA φ h' k i) (hoff : ∀ k1 i1, ¬ (k1 = k ∧ i1 = i) → ce cA φ h' k1 i1 = ce cA φ h k1 i1) (hr : RO h') : HW D cA A φ h' H1 := by
  have hlt : q0 < ws.length := (List.getElem?_eq_some_iff.mp hq).1
  refine ⟨_, hP1, hD1, ?_, ?_, ?_, hr⟩
  · intro k1 i1 h1
    rw [hn] at h1
    by_cases hc : k1 = k ∧ i1 = i
    · obtain ⟨rfl, rfl⟩ := hc
      exact ⟨q0, by rw [List.getElem?_set_self hlt, he]⟩
    · obtain ⟨q, hq1⟩ := hcomp k1 i1 h1
      refine ⟨q, ?_⟩
      have hne : q0 ≠ q := by
        intro e0
        subst e0
        have e1 := Option.some.inj (hq1.symm.trans hq)
        exact hc (hinj _ _ _ _ h1 hi (congrArg Prod.fst e1))
      rw [List.getElem?_set_ne hne, hq1, hoff _ _ hc]
  · intro q x hx
    rw [hn]
    by_cases hc : q0 = q
    · subst hc
      rw [List.getElem?_set_self hlt] at hx
      exact ⟨k, i, hi, by rw [← Option.some.inj hx]⟩
    · rw [List.getElem?_set_ne hc] at hx
      exact hsnd q x hx
  · intro k1 i1 k2 i2 h1 h2 h3
    rw [hn] at h1 h2
    exact hinj _ _ _ _ h1 h2 h3
theorem off_si {cA : Nat → ClassId} {φ : Nat → Nat → Nat} (h : HP) (k i s : Nat) (v : Int32) : ∀ k1 i1, ¬ (k1 = k ∧ i1 = i) → ce cA φ (si h k i s v) k1 i1 = ce cA φ h k1 i1 := fun k1 i1 hn => ce_congr (by show up3 h.1 k i s v k1 i1 = h.1 k1 i1; exact up3_off _ _ _ hn) rfl rfl
theorem off_sl {cA : Nat → ClassId} {φ : Nat → Nat → Nat} (h : HP) (k i s : Nat) (v : Int64) : ∀ k1 i1, ¬ (k1 = k ∧ i1 = i) → ce cA φ (sL h k i s v) k1 i1 = ce cA φ h k1 i1 := fun k1 i1 hn => ce_congr rfl (by show up3 h.2.1 k i s v k1 i1 = h.2.1 k1 i1; exact up3_off _ _ _ hn) rfl
theorem off_sr {cA : Nat → ClassId} {φ : Nat → Nat → Nat} (h : HP) (k i s : Nat) (v : Option Nat) : ∀ k1 i1, ¬ (k1 = k ∧ i1 = i) → ce cA φ (sr h k i s v) k1 i1 = ce cA φ h k1 i1 := fun k1 i1 hn => ce_congr rfl rfl (by show up3 h.2.2.1 k i s v k1 i1 = h.2.2.1 k1 i1; exact up3_off _ _ _ hn)
theorem off_srow {cA : Nat → ClassId} {φ : Nat → Nat → Nat} (h : HP) (k i : Nat) (f : Nat → Int32) : ∀ k1 i1, ¬ (k1 = k ∧ i1 = i) → ce cA φ (srow h k i f) k1 i1 = ce cA φ h k1 i1 := fun k1 i1 hn => ce_congr (by funext s; rw [gi_srow, if_neg hn]) rfl rfl
theorem RO_si {h : HP} (hr : RO h) (k i s : Nat) (v : Int32) : RO (si h k i s v) := hr
theorem RO_sl {h : HP} (hr : RO h) (k i s : Nat) (v : Int64) : RO (sL h k i s v) := hr
theorem RO_srow {h : HP} (hr : RO h) (k i : Nat) (f : Nat → Int32) : RO (srow h k i f) := hr
theorem RO_sr {h : HP} (hr : RO h) (k i s j : Nat) (hj : 4 ≤ kc k s → j < gn h (kc k s - 4)) : RO (sr h k i s (some j)) := by
  intro k1 i1 s1 j1 h1 h2 h3
  rw [gn_sr] at h1 ⊢
  rw [gr_sr] at h2
  split at h2
  · rename_i hc
    obtain ⟨rfl, rfl, rfl⟩ := hc
    cases h2
    exact hj h3
  · exact hr k1 i1 s1 j1 h1 h2 h3
theorem fs_si {φ : Nat → Nat → Nat} (h : HP) (k i s : Nat) (v : Int32) {cs : List Nat} {c : Nat} (hc : cs[s]? = some c) (h1 : ¬ c = 1) (h4 : c < 4) : (cs.mapIdx (fun s c => fv h φ k i s c)).set s (.int v) = cs.mapIdx (fun s1 c => fv (si h k i s v) φ k i s1 c) := by
  apply List.ext_getElem?
  intro j
  rw [List.getElem?_set]
  by_cases e : s = j
  · subst e
    have hlt : s < cs.length := (List.getElem?_eq_some_iff.mp hc).1
    have hg : cs[s] = c := (List.getElem?_eq_some_iff.mp hc).2
    simp [List.getElem?_mapIdx, hlt, fv, h1, h4, gi_si, hg]
  · rw [if_neg e, List.getElem?_mapIdx, List.getElem?_mapIdx]
    cases cs[j]? with
    | none => rfl
    | some d => simp [fv, gi_si, gl_si, gr_si, show ¬ j = s from fun q => e q.symm]
theorem fs_sl {φ : Nat → Nat → Nat} (h : HP) (k i s : Nat) (v : Int64) {cs : List Nat} (hc : cs[s]? = some 1) : (cs.mapIdx (fun s c => fv h φ k i s c)).set s (.long v) = cs.mapIdx (fun s1 c => fv (sL h k i s v) φ k i s1 c) := by
  apply List.ext_getElem?
  intro j
  rw [List.getElem?_set]
  by_cases e : s = j
  · subst e
    have hlt : s < cs.length := (List.getElem?_eq_some_iff.mp hc).1
    have hg : cs[s] = 1 := (List.getElem?_eq_some_iff.mp hc).2
    simp [List.getElem?_mapIdx, hlt, fv, gl_sl, hg]
  · rw [if_neg e, List.getElem?_mapIdx, List.getElem?_mapIdx]
    cases cs[j]? with
    | none => rfl
    | some d => simp [fv, gi_sl, gl_sl, gr_sl, show ¬ j = s from fun q => e q.symm]
theorem fs_sr {φ : Nat → Nat → Nat} (h : HP) (k i s j : Nat) {cs : List Nat} {c : Nat} (hc : cs[s]? = some (c + 4)) : (cs.mapIdx (fun s c => fv h φ k i s c)).set s (.ref (φ c j)) = cs.mapIdx (fun s1 c => fv (sr h k i s (some j)) φ k i s1 c) := by
  apply List.ext_getElem?
  intro t
  rw [List.getElem?_set]
  by_cases e : s = t
  · subst e
    have hlt : s < cs.length := (List.getElem?_eq_some_iff.mp hc).1
    have hg : cs[s] = c + 4 := (List.getElem?_eq_some_iff.mp hc).2
    simp [List.getElem?_mapIdx, hlt, fv, gr_sr, va_rf, hg]
  · rw [if_neg e, List.getElem?_mapIdx, List.getElem?_mapIdx]
    cases cs[t]? with
    | none => rfl
    | some d => simp [fv, gi_sr, gl_sr, gr_sr, show ¬ t = s from fun q => e q.symm]
