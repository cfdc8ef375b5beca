/-! new cells -/
def dv (c : Nat) : Value := if c = 1 then .long 0 else if c < 4 then .int 0 else .null
theorem gn_nw (h : HP) (k k1 : Nat) : gn (nw h k) k1 = if k1 = k then gn h k + 1 else gn h k1 := rfl
theorem gi_nw (h : HP) (k k1 i1 s1 : Nat) : gi (nw h k) k1 i1 s1 = if k1 = k ∧ i1 = gn h k then 0 else gi h k1 i1 s1 := by
  show (if k1 = k ∧ i1 = gn h k then fun _ => 0 else h.1 k1 i1) s1 = _
  split <;> rfl
theorem gl_nw (h : HP) (k k1 i1 s1 : Nat) : gl (nw h k) k1 i1 s1 = if k1 = k ∧ i1 = gn h k then 0 else gl h k1 i1 s1 := by
  show (if k1 = k ∧ i1 = gn h k then fun _ => 0 else h.2.1 k1 i1) s1 = _
  split <;> rfl
theorem gr_nw (h : HP) (k k1 i1 s1 : Nat) : gr (nw h k) k1 i1 s1 = if k1 = k ∧ i1 = gn h k then none else gr h k1 i1 s1 := by
  show (if k1 = k ∧ i1 = gn h k then fun _ => none else h.2.2.1 k1 i1) s1 = _
  split <;> rfl
theorem gn_nw_le (h : HP) (k k1 : Nat) : gn h k1 ≤ gn (nw h k) k1 := by
  rw [gn_nw]
  split
  · rename_i e; subst e; omega
  · omega
theorem gn_nw_lt (h : HP) (k : Nat) : gn h k < gn (nw h k) k := by
  rw [gn_nw, if_pos rfl]; omega
theorem RO_nw {h : HP} (hr : RO h) (k : Nat) : RO (nw h k) := by
  intro k1 i1 s1 j h1 h2 h3
  rw [gr_nw] at h2
  split at h2
  · cases h2
  · rename_i hn
    have h1' : i1 < gn h k1 := by
      rw [gn_nw] at h1
      split at h1
      · rename_i e
        subst e
        have : ¬ i1 = gn h k1 := fun q => hn ⟨rfl, q⟩
        omega
      · exact h1
    exact Nat.lt_of_lt_of_le (hr k1 i1 s1 j h1' h2 h3) (gn_nw_le ..)
theorem HW.push {D : va_G} {cA : Nat → ClassId} {A : Nat → Prop} {φ : Nat → Nat → Nat} {h : HP} {H1 : Heap} {ws : va_W} {k q : Nat} {e : va_E}
    (hcomp : ∀ k i, i < gn h k → ∃ q : Nat, ws[q]? = some (φ k i, ce cA φ h k i)) (hsnd : ∀ (q : Nat) (x : Nat × va_E), ws[q]? = some x → ∃ k i, i < gn h k ∧ x.1 = φ k i)
    (hinj : ∀ k i k' i', i < gn h k → i' < gn h k' → φ k i = φ k' i' → k = k' ∧ i = i') (hro : RO h)
    (hP1 : va_P D classes (ws ++ [(q, e)]) H1) (hD1 : va_D A (ws ++ [(q, e)])) (he : ∀ u : Nat → Nat → Nat, e = ce cA u (nw h k) k (gn h k)) :
    ∃ u : Nat → Nat → Nat, (∀ k1 i1, i1 < gn h k1 → u k1 i1 = φ k1 i1) ∧ u k (gn h k) = q ∧ HW D cA A u (nw h k) H1 := by
  have hnew : ∀ k1 i1, i1 < gn (nw h k) k1 → ¬ (k1 = k ∧ i1 = gn h k) → i1 < gn h k1 := by
    intro k1 i1 h1 hn
    rw [gn_nw] at h1
    split at h1
    · rename_i e
      subst e
      have : ¬ i1 = gn h k1 := fun q => hn ⟨rfl, q⟩
      omega
    · exact h1
  have hq : ∀ k1 i1, i1 < gn h k1 → φ k1 i1 ≠ q := by
    intro k1 i1 h1 hc
    obtain ⟨t, ht⟩ := hcomp k1 i1 h1
    have hlt : t < ws.length := (List.getElem?_eq_some_iff.mp ht).1
    have := hD1.1 t ws.length (φ k1 i1, ce cA φ h k1 i1) (q, e) (by rw [List.getElem?_append_left hlt]; exact ht) (by rw [List.getElem?_append_right (Nat.le_refl _)]; simp) hc
    omega
  have hu : ∀ k1 i1, i1 < gn h k1 → (fun k1 i1 => if k1 = k ∧ i1 = gn h k then q else φ k1 i1) k1 i1 = φ k1 i1 := by
    intro k1 i1 h1
    show (if k1 = k ∧ i1 = gn h k then q else φ k1 i1) = φ k1 i1
    rw [if_neg]
    rintro ⟨rfl, rfl⟩
    omega
  have hat : (fun k1 i1 => if k1 = k ∧ i1 = gn h k then q else φ k1 i1) k (gn h k) = q := by
    show (if k = k ∧ gn h k = gn h k then q else φ k (gn h k)) = q
    rw [if_pos ⟨rfl, rfl⟩]
  generalize (fun k1 i1 => if k1 = k ∧ i1 = gn h k then q else φ k1 i1) = u at hu hat
  refine ⟨u, hu, hat, _, hP1, hD1, ?_, ?_, ?_, RO_nw hro k⟩
  · intro k1 i1 h1
    by_cases hc : k1 = k ∧ i1 = gn h k
    · obtain ⟨rfl, rfl⟩ := hc
      exact ⟨ws.length, by rw [List.getElem?_append_right (Nat.le_refl _), hat, ← he u]; simp⟩
    · have h2 := hnew k1 i1 h1 hc
      obtain ⟨t, ht⟩ := hcomp k1 i1 h2
      have hlt : t < ws.length := (List.getElem?_eq_some_iff.mp ht).1
      refine ⟨t, ?_⟩
      rw [List.getElem?_append_left hlt, ht, hu k1 i1 h2]
      congr 2
      rw [← ce_phi (φ := φ) (φ' := u) hro h2 hu]
      refine (ce_congr ?_ ?_ ?_).symm
      · funext s1; rw [gi_nw, if_neg hc]
      · funext s1; rw [gl_nw, if_neg hc]
      · funext s1; rw [gr_nw, if_neg hc]
  · intro t x hx
    by_cases hlt : t < ws.length
    · rw [List.getElem?_append_left hlt] at hx
      obtain ⟨k1, i1, h1, h2⟩ := hsnd t x hx
      exact ⟨k1, i1, Nat.lt_of_lt_of_le h1 (gn_nw_le ..), by rw [hu k1 i1 h1]; exact h2⟩
    · rw [List.getElem?_append_right (by omega)] at hx
      have hz : t - ws.length < 1 := (List.getElem?_eq_some_iff.mp hx).1
      rw [show t - ws.length = 0 by omega] at hx
      cases hx
      exact ⟨k, gn h k, gn_nw_lt .., hat.symm⟩
  · intro k1 i1 k2 i2 h1 h2 h3
    by_cases hc : k1 = k ∧ i1 = gn h k <;> by_cases hd : k2 = k ∧ i2 = gn h k
    · exact ⟨hc.1.trans hd.1.symm, hc.2.trans hd.2.symm⟩
    · obtain ⟨rfl, rfl⟩ := hc
      have h4 := hnew k2 i2 h2 hd
      rw [hat, hu k2 i2 h4] at h3
      exact absurd h3.symm (hq k2 i2 h4)
    · obtain ⟨rfl, rfl⟩ := hd
      have h4 := hnew k1 i1 h1 hc
      rw [hat, hu k1 i1 h4] at h3
      exact absurd h3 (hq k1 i1 h4)
    · have h4 := hnew k1 i1 h1 hc
      have h5 := hnew k2 i2 h2 hd
      rw [hu k1 i1 h4, hu k2 i2 h5] at h3
      exact hinj _ _ _ _ h4 h5 h3
def FN (own : String) (idx k N : Nat) : Prop := ∃ (C : String) (T : u_T) (cs : List Nat) (ty0 : Nat → FieldType), KT k = .inl cs ∧ classes[k]? = some (C, T, N) ∧ (∀ w ∈ u_ws C T N, w ∈ AL) ∧ (∀ k, k < N → parseFieldDescriptor (T k).2.2.1 = some (ty0 k)) ∧ Cond.classLink own idx C ∈ AL ∧ Cond.instantiable C N ∈ AL ∧ Cond.initialized C ∈ AL ∧ ∀ j, j < N → defaultValue (ty0 j) = vp_V (cs.map dv) j
theorem ce_new {cA : Nat → ClassId} {h : HP} {k : Nat} {cs : List Nat} (hk : KT k = .inl cs) (u : Nat → Nat → Nat) : ce cA u (nw h k) k (gn h k) = .inr (k, cs.map dv) := by
  rw [ce_obj hk]
  congr 2
  apply List.ext_getElem?
  intro j
  rw [List.getElem?_mapIdx, List.getElem?_map]
  cases cs[j]? with
  | none => rfl
  | some c =>
    show some (fv (nw h k) u k (gn h k) j c) = some (dv c)
    unfold fv dv
    have e1 : gi (nw h k) k (gn h k) j = 0 := by rw [gi_nw, if_pos ⟨rfl, rfl⟩]
    have e2 : gl (nw h k) k (gn h k) j = 0 := by rw [gl_nw, if_pos ⟨rfl, rfl⟩]
    have e3 : gr (nw h k) k (gn h k) j = none := by rw [gr_nw, if_pos ⟨rfl, rfl⟩]
    rw [e1, e2, e3]
    rfl
theorem ce_newa {cA : Nat → ClassId} {h : HP} {k c n : Nat} (hk : KT k = .inr (c, n)) (u : Nat → Nat → Nat) : ce cA u (nw h k) k (gn h k) = .inl (cA c, n, if c = 1 then .inr (.inl (fun _ => 0)) else if c < 4 then .inl (fun _ => 0) else .inr (.inr (.inr (.inr (fun _ => none))))) := by
  rw [ce_arr hk]
  congr 3
  unfold ac
  have e1 : gi (nw h k) k (gn h k) = fun _ => 0 := by funext s1; rw [gi_nw, if_pos ⟨rfl, rfl⟩]
  have e2 : gl (nw h k) k (gn h k) = fun _ => 0 := by funext s1; rw [gl_nw, if_pos ⟨rfl, rfl⟩]
  have e3 : gr (nw h k) k (gn h k) = fun _ => none := by funext s1; rw [gr_nw, if_pos ⟨rfl, rfl⟩]
  rw [e1, e2, e3]
  rfl
section AC
variable {p : Program} {l : Launch} {e : Env} {R : Room} {s : State} {m : MethodId} {args : Array Value} {below : List Frame} {meth : Method} {c : Code} {H : Heap} {locs : List Loc} {cells slots : Nat} {Q : State → Prop} {cc : ByteArray} {pc : Nat} {ls : Array Slot} {rest : List Value} {D : va_G} {cA : Nat → ClassId} {A : Nat → Prop} {φ : Nat → Nat → Nat} {h : HP} {own : String} {nL : Nat} {k idx : Nat}
theorem r_new (X : CX p s m args c cc own nL D cA A) (hW : HW D cA A φ h H) (hS : va_S A s.heap H locs) {N : Nat} (hf : FN own idx k N) (hcs : cells + 1 ≤ R.cells ∧ slots + N ≤ R.slots) (hdg : decode cc pc = .ok (.new idx, 3))
    (kk : ∀ (u : Nat → Nat → Nat) (H1 : Heap), (∀ k1 i1, i1 < gn h k1 → u k1 i1 = φ k1 i1) → HW D cA A u (nw h k) H1 → va_S A s.heap H1 locs → W p l e R s m args below meth c H1 locs (cells + 1) (slots + N) Q (F0 m (pc + 3) ls (.ref (u k (gn h k)) :: rest))) : W p l e R s m args below meth c H locs cells slots Q (F0 m pc ls rest) := by
  obtain ⟨hx, hb, -, hown, hts, ⟨hK, -⟩, -, hA⟩ := X
  obtain ⟨ws, hP, hD, hcomp, hsnd, hinj, hro⟩ := hW
  obtain ⟨C, T, cs, ty0, hk, hcl, hin, hty, w1, w2, w3, hdf⟩ := hf
  refine va_new (fs := cs.map dv) hx hb hts hin ty0 hty hown (hts _ w1) (hts _ w2) (hts _ w3) hK hP hD hS hA hcl hdf hcs.1 hcs.2 hdg (fun q H1 hP1 hD1 hS1 => ?_)
  obtain ⟨u, hu, hq, hW1⟩ := HW.push (k := k) hcomp hsnd hinj hro hP1 hD1 (fun u => (ce_new hk u).symm)
  subst hq
  exact kk u H1 hu hW1 hS1
theorem r_newi (X : CX p s m args c cc own nL D cA A) (hW : HW D cA A φ h H) (hS : va_S A s.heap H locs) {N : Nat} {n : Int32} (hk : KT k = .inr (0, N)) (hn : ¬ n < 0) (hN : n.toNatClampNeg = N) (hby : N * 4 ≤ 536870912) (hcs : cells + 1 ≤ R.cells ∧ slots + N ≤ R.slots) (hdg : decode cc pc = .ok (.newarray .int, 2)) (hw : Cond.arrayClass .int ∈ AL)
    (kk : ∀ (u : Nat → Nat → Nat) (H1 : Heap), (∀ k1 i1, i1 < gn h k1 → u k1 i1 = φ k1 i1) → HW D cA A u (nw h k) H1 → va_S A s.heap H1 locs → W p l e R s m args below meth c H1 locs (cells + 1) (slots + N) Q (F0 m (pc + 2) ls (.ref (u k (gn h k)) :: rest))) : W p l e R s m args below meth c H locs cells slots Q (F0 m pc ls (.int n :: rest)) := by
  obtain ⟨hx, hb, -, hown, hts, ⟨hK, -⟩, -, hA⟩ := X
  obtain ⟨ws, hP, hD, hcomp, hsnd, hinj, hro⟩ := hW
  refine va_newa (atype := .int) (ty := .int) (a0 := (N, .inl (fun _ => 0))) hx hb (hts _ hw) rfl hK hP hD hS hA (fun _ => rfl) hn hN hby hcs.1 hcs.2 hdg (fun q cB H1 hK1 hP1 hD1 hS1 => ?_)
  have ec : cB = cA 0 := by
    have h1 := (hK1.2 7 (cB, .int) rfl).2
    have h2 := (hK.2 0 (cA 0, .int) rfl).2
    exact Option.some.inj (h1.symm.trans h2)
  subst ec
  obtain ⟨u, hu, hq, hW1⟩ := HW.push (k := k) hcomp hsnd hinj hro hP1 hD1 (fun u => (ce_newa hk u).symm)
  subst hq
  exact kk u H1 hu hW1 hS1
theorem r_newl (X : CX p s m args c cc own nL D cA A) (hW : HW D cA A φ h H) (hS : va_S A s.heap H locs) {N : Nat} {n : Int32} (hk : KT k = .inr (1, N)) (hn : ¬ n < 0) (hN : n.toNatClampNeg = N) (hby : N * 8 ≤ 536870912) (hcs : cells + 1 ≤ R.cells ∧ slots + N ≤ R.slots) (hdg : decode cc pc = .ok (.newarray .long, 2)) (hw : Cond.arrayClass .long ∈ AL)
    (kk : ∀ (u : Nat → Nat → Nat) (H1 : Heap), (∀ k1 i1, i1 < gn h k1 → u k1 i1 = φ k1 i1) → HW D cA A u (nw h k) H1 → va_S A s.heap H1 locs → W p l e R s m args below meth c H1 locs (cells + 1) (slots + N) Q (F0 m (pc + 2) ls (.ref (u k (gn h k)) :: rest))) : W p l e R s m args below meth c H locs cells slots Q (F0 m pc ls (.int n :: rest)) := by
  obtain ⟨hx, hb, -, hown, hts, ⟨hK, -⟩, -, hA⟩ := X
  obtain ⟨ws, hP, hD, hcomp, hsnd, hinj, hro⟩ := hW
  refine va_newa (atype := .long) (ty := .long) (a0 := (N, .inr (.inl (fun _ => 0)))) hx hb (hts _ hw) rfl hK hP hD hS hA (fun _ => rfl) hn hN hby hcs.1 hcs.2 hdg (fun q cB H1 hK1 hP1 hD1 hS1 => ?_)
  have ec : cB = cA 1 := by
    have h1 := (hK1.2 7 (cB, .long) rfl).2
    have h2 := (hK.2 1 (cA 1, .long) rfl).2
    exact Option.some.inj (h1.symm.trans h2)
  subst ec
  obtain ⟨u, hu, hq, hW1⟩ := HW.push (k := k) hcomp hsnd hinj hro hP1 hD1 (fun u => (ce_newa hk u).symm)
  subst hq
  exact kk u H1 hu hW1 hS1
theorem r_newc (X : CX p s m args c cc own nL D cA A) (hW : HW D cA A φ h H) (hS : va_S A s.heap H locs) {N : Nat} {n : Int32} (hk : KT k = .inr (2, N)) (hn : ¬ n < 0) (hN : n.toNatClampNeg = N) (hby : N * 2 ≤ 536870912) (hcs : cells + 1 ≤ R.cells ∧ slots + N ≤ R.slots) (hdg : decode cc pc = .ok (.newarray .char, 2)) (hw : Cond.arrayClass .char ∈ AL)
    (kk : ∀ (u : Nat → Nat → Nat) (H1 : Heap), (∀ k1 i1, i1 < gn h k1 → u k1 i1 = φ k1 i1) → HW D cA A u (nw h k) H1 → va_S A s.heap H1 locs → W p l e R s m args below meth c H1 locs (cells + 1) (slots + N) Q (F0 m (pc + 2) ls (.ref (u k (gn h k)) :: rest))) : W p l e R s m args below meth c H locs cells slots Q (F0 m pc ls (.int n :: rest)) := by
  obtain ⟨hx, hb, -, hown, hts, ⟨hK, -⟩, -, hA⟩ := X
  obtain ⟨ws, hP, hD, hcomp, hsnd, hinj, hro⟩ := hW
  refine va_newa (atype := .char) (ty := .char) (a0 := (N, .inl (fun _ => 0))) hx hb (hts _ hw) rfl hK hP hD hS hA (fun _ => rfl) hn hN hby hcs.1 hcs.2 hdg (fun q cB H1 hK1 hP1 hD1 hS1 => ?_)
  have ec : cB = cA 2 := by
    have h1 := (hK1.2 7 (cB, .char) rfl).2
    have h2 := (hK.2 2 (cA 2, .char) rfl).2
    exact Option.some.inj (h1.symm.trans h2)
  subst ec
  obtain ⟨u, hu, hq, hW1⟩ := HW.push (k := k) hcomp hsnd hinj hro hP1 hD1 (fun u => (ce_newa hk u).symm)
  subst hq
  exact kk u H1 hu hW1 hS1
theorem r_newr (X : CX p s m args c cc own nL D cA A) (hW : HW D cA A φ h H) (hS : va_S A s.heap H locs) {N kr t0 : Nat} {n : Int32} {C : String} (hk : KT k = .inr (kr + 4, N)) (ht : (tysL cA)[t0]? = some (cA (kr + 4), .object C)) (hao : NX s → va_AO C s) (hn : ¬ n < 0) (hN : n.toNatClampNeg = N) (hby : N * 4 ≤ 536870912) (hcs : cells + 1 ≤ R.cells ∧ slots + N ≤ R.slots) (hdg : decode cc pc = .ok (.anewarray idx, 3)) (hw : Cond.classLink own idx C ∈ AL)
    (kk : ∀ (u : Nat → Nat → Nat) (H1 : Heap), (∀ k1 i1, i1 < gn h k1 → u k1 i1 = φ k1 i1) → HW D cA A u (nw h k) H1 → va_S A s.heap H1 locs → W p l e R s m args below meth c H1 locs (cells + 1) (slots + N) Q (F0 m (pc + 3) ls (.ref (u k (gn h k)) :: rest))) : W p l e R s m args below meth c H locs cells slots Q (F0 m pc ls (.int n :: rest)) := by
  obtain ⟨hx, hb, -, hown, hts, ⟨hK, hN0⟩, -, hA⟩ := X
  obtain ⟨ws, hP, hD, hcomp, hsnd, hinj, hro⟩ := hW
  refine va_newq hx hb hown (hts _ hw) (hao hN0) hK hP hD hS hA hn hN hby hcs.1 hcs.2 hdg (fun q cB H1 hK1 hP1 hD1 hS1 => ?_)
  have ec : cB = cA (kr + 4) := by
    obtain ⟨_, _, _, _, _, h1⟩ := (hK1.2 7 (cB, .object C) rfl).2
    obtain ⟨_, _, _, _, _, h2⟩ := (hK.2 t0 _ ht).2
    exact Option.some.inj (h1.symm.trans h2)
  subst ec
  obtain ⟨u, hu, hq, hW1⟩ := HW.push (k := k) hcomp hsnd hinj hro hP1 hD1 (fun u => by rw [ce_newa hk u, if_neg (by omega), if_neg (by omega)])
  subst hq
  exact kk u H1 hu hW1 hS1
/-- the static row -/
theorem r_fig (X : CX p s m args c cc own nL D cA A) (hS : va_S A s.heap H locs) (hw : Cond.fieldLink own idx RX5 "FIGURES" "[J" ∈ AL) (hdg : decode cc pc = .ok (.getstatic idx, 3))
    (kk : ∀ ta : Nat, va_T .long ta 8 (fun j => .long (FIG j)) A s s.heap → W p l e R s m args below meth c H locs cells slots Q (F0 m (pc + 3) ls (.ref ta :: rest))) : W p l e R s m args below meth c H locs cells slots Q (F0 m pc ls rest) := by
  obtain ⟨hx, hb, -, hown, hts, -, ⟨ta, hz, ht⟩, hA⟩ := X
  exact va_gets hx hb hz hS hown (hts _ hw) (fun _ h9 => h9) hdg (kk ta ht)
theorem r_figld (X : CX p s m args c cc own nL D cA A) (hS : va_S A s.heap H locs) {ta : Nat} (ht : va_T .long ta 8 (fun j => .long (FIG j)) A s s.heap) {j : Int32} (hj : ib j 8 = true) (hdg : decode cc pc = .ok (.laload, 1))
    (kk : W p l e R s m args below meth c H locs cells slots Q (F0 m (pc + 1) ls (.long (FIG j.toNatClampNeg) :: rest))) : W p l e R s m args below meth c H locs cells slots Q (F0 m pc ls (.int j :: .ref ta :: rest)) :=
  va_tl X.1 X.2.1 ht hS (ib_in hj) (v := .long (FIG j.toNatClampNeg)) rfl hdg kk
end AC
