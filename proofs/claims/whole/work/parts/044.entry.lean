/-! a method's entry and its returns -/
section EN
variable {p : Program} {l : Launch} {e : Env} {R : Room} {s : State} {m : MethodId} {args : Array Value} {below : List Frame} {meth : Method} {c : Code} {H : Heap} {locs : List Loc} {Q : State → Prop} {cc : ByteArray} {pc : Nat} {ls : Array Slot} {rest : List Value} {D : va_G} {cA : Nat → ClassId} {A : Nat → Prop} {φ u : Nat → Nat → Nat} {h h' : HP} {own : String} {nL mc ms : Nat} {ret : Option FieldType} {sz : Nat}
theorem HW.start (hW : HW D cA (fun _ => True) φ h H) (sz : Nat) : HW D cA (Ar φ h sz) φ h H := hW.weaken (fun _ hq => Or.inl hq)
/-- what a method's walk starts from -/
theorem en_of {y : MethodName} {rm : Room} {s₁ : State} {maxL : Nat} (B : BodyLoose p l y (headSpec (Cond.code y cc maxL ret :: AL) rm) cc maxL ret e s m args below meth c s₁) (hml : c.maxLocals = maxL) (hown : s.vm.findClass y.cls = some m.cls) (hv : Pr D cA φ h sz s) :
    CX p s m args c cc y.cls maxL D cA (Ar φ h sz) ∧ HW D cA (Ar φ h sz) φ h s.heap ∧ va_S (Ar φ h sz) s.heap s.heap [] ∧ meth.sig.returnType = ret ∧ meth.locks = false := by
  obtain ⟨hsz, hW, hK, hST⟩ := hv
  have hts := atoms_spec (ws := Cond.code y cc maxL ret :: AL) B.pre
  exact ⟨⟨B.exec, B.bytes, hml, hown, fun w hw => hts w (List.mem_cons_of_mem _ hw), hK, hST, fun q hq => Or.inr (by rw [← hsz]; exact hq)⟩, hW.start sz, va_S.rf, B.returns, B.notSynchronized⟩
theorem rt_i (X : CX p s m args c cc own nL D cA (Ar φ h sz)) (hW : HW D cA (Ar φ h sz) φ h' H) (hS : va_S (Ar φ h sz) s.heap H locs) (hr : meth.sig.returnType = some .int) (hlk : meth.locks = false) {v : Int32} (hdg : decode cc pc = .ok (.ireturn, 1)) :
    W p l e R s m args below meth c H locs 0 0 (MQ below (va_Qi (fun (r1 : Int32) (_ : Unit) => r1 = v) (fun _ t => HW D cA (Ar φ h sz) φ h' t.heap) (Ar φ h sz)) args s 0 0 (Ar φ h sz)) (F0 m pc ls [.int v]) :=
  W.iret (v := v) X.1 X.2.1 hr (fun t ht _ => ⟨⟨v, (), rfl, rfl, by cases ht; exact hW⟩, hS.F ht⟩) hS.2.2 hdg hlk
theorem rt_z (X : CX p s m args c cc own nL D cA (Ar φ h sz)) (hW : HW D cA (Ar φ h sz) φ h' H) (hS : va_S (Ar φ h sz) s.heap H locs) (hr : meth.sig.returnType = some .boolean) (hlk : meth.locks = false) {v : Int32} (hv : v = 0 ∨ v = 1) (hdg : decode cc pc = .ok (.ireturn, 1)) :
    W p l e R s m args below meth c H locs 0 0 (MQ below (va_Qi (fun (r1 : Int32) (_ : Unit) => r1 = v) (fun _ t => HW D cA (Ar φ h sz) φ h' t.heap) (Ar φ h sz)) args s 0 0 (Ar φ h sz)) (F0 m pc ls [.int v]) :=
  W.zret (v := v) X.1 X.2.1 hr (by rcases hv with rfl | rfl <;> rfl) (fun t ht _ => ⟨⟨v, (), rfl, rfl, by cases ht; exact hW⟩, hS.F ht⟩) hS.2.2 hdg hlk
theorem rt_l (X : CX p s m args c cc own nL D cA (Ar φ h sz)) (hW : HW D cA (Ar φ h sz) φ h' H) (hS : va_S (Ar φ h sz) s.heap H locs) (hr : meth.sig.returnType = some .long) (hlk : meth.locks = false) {v : Int64} (hdg : decode cc pc = .ok (.lreturn, 1)) :
    W p l e R s m args below meth c H locs 0 0 (MQ below (va_Ql (fun (r1 : Int64) (_ : Unit) => r1 = v) (fun _ t => HW D cA (Ar φ h sz) φ h' t.heap) (Ar φ h sz)) args s 0 0 (Ar φ h sz)) (F0 m pc ls [.long v]) :=
  W.lret (v := v) X.1 X.2.1 hr (fun t ht _ => ⟨⟨v, (), rfl, rfl, by cases ht; exact hW⟩, hS.F ht⟩) hS.2.2 hdg hlk
theorem rt_v (X : CX p s m args c cc own nL D cA (Ar φ h sz)) (hW : HW D cA (Ar φ h sz) φ h' H) (hS : va_S (Ar φ h sz) s.heap H locs) (hr : meth.sig.returnType = none) (hlk : meth.locks = false) (hdg : decode cc pc = .ok (.return_, 1)) :
    W p l e R s m args below meth c H locs 0 0 (MQ below (va_Qv (fun (_ : Unit) => True) (fun _ t => HW D cA (Ar φ h sz) φ h' t.heap) (Ar φ h sz)) args s 0 0 (Ar φ h sz)) (F0 m pc ls []) :=
  W.vret X.1 X.2.1 hr (fun t ht _ => ⟨⟨(), rfl, trivial, by cases ht; exact hW⟩, hS.F ht⟩) hS.2.2 hdg hlk
theorem rt_r (X : CX p s m args c cc own nL D cA (Ar φ h sz)) (hW : HW D cA (Ar φ h sz) φ h' H) (hS : va_S (Ar φ h sz) s.heap H locs) {ty : FieldType} (hr : meth.sig.returnType = some (.array ty)) (hlk : meth.locks = false) {kr r : Nat} (hlt : r < gn h' kr) (hdg : decode cc pc = .ok (.areturn, 1)) :
    W p l e R s m args below meth c H locs 0 0 (MQ below (va_Qr (fun (_ : Unit) => r < gn h' kr) (fun _ a t => a = φ kr r ∧ HW D cA (Ar φ h sz) φ h' t.heap) (Ar φ h sz)) args s 0 0 (Ar φ h sz)) (F0 m pc ls [.ref (φ kr r)]) :=
  W.aret (v := .ref (φ kr r)) X.1 X.2.1 hr (Or.inr ⟨ty, rfl⟩) (Or.inr ⟨_, rfl⟩) (fun t ht _ => ⟨⟨(), φ kr r, rfl, hlt, rfl, by cases ht; exact hW⟩, hS.F ht⟩) hS.2.2 hdg hlk
theorem rt_ia (X : CX p s m args c cc own nL D cA (Ar φ h sz)) (hW : HW D cA (Ar φ h sz) u h' H) (hS : va_S (Ar φ h sz) s.heap H locs) (hu : ∀ k i, i < gn h k → u k i = φ k i) (hr : meth.sig.returnType = some .int) (hlk : meth.locks = false) {v : Int32} (hdg : decode cc pc = .ok (.ireturn, 1)) :
    W p l e R s m args below meth c H locs mc ms (MQ below (va_Qi (fun (r1 : Int32) (u : Nat → Nat → Nat) => r1 = v ∧ (∀ k i, i < gn h k → u k i = φ k i)) (fun u t => HW D cA (Ar φ h sz) u h' t.heap) (Ar φ h sz)) args s mc ms (Ar φ h sz)) (F0 m pc ls [.int v]) :=
  W.iret (v := v) X.1 X.2.1 hr (fun t ht _ => ⟨⟨v, u, rfl, ⟨rfl, hu⟩, by cases ht; exact hW⟩, hS.F ht⟩) hS.2.2 hdg hlk
theorem rt_va (X : CX p s m args c cc own nL D cA (Ar φ h sz)) (hW : HW D cA (Ar φ h sz) u h' H) (hS : va_S (Ar φ h sz) s.heap H locs) (hu : ∀ k i, i < gn h k → u k i = φ k i) (hr : meth.sig.returnType = none) (hlk : meth.locks = false) (hdg : decode cc pc = .ok (.return_, 1)) :
    W p l e R s m args below meth c H locs mc ms (MQ below (va_Qv (fun (u : Nat → Nat → Nat) => (∀ k i, i < gn h k → u k i = φ k i)) (fun u t => HW D cA (Ar φ h sz) u h' t.heap) (Ar φ h sz)) args s mc ms (Ar φ h sz)) (F0 m pc ls []) :=
  W.vret X.1 X.2.1 hr (fun t ht _ => ⟨⟨u, rfl, hu, by cases ht; exact hW⟩, hS.F ht⟩) hS.2.2 hdg hlk
end EN
/-! what a pure reading of the heap asks -/
def ga (h : HP) (k i n : Nat) (j : Int32) : Option Int32 := if ib j n = true then some (gi h k i j.toNatClampNeg) else none
def gal (h : HP) (k i n : Nat) (j : Int32) : Option Int64 := if ib j n = true then some (gl h k i j.toNatClampNeg) else none
def gar (h : HP) (k i n : Nat) (j : Int32) : Option Nat := if ib j n = true then gr h k i j.toNatClampNeg else none
def sa (h : HP) (k i n : Nat) (j v : Int32) : Option HP := if ib j n = true then some (si h k i j.toNatClampNeg v) else none
def sal (h : HP) (k i n : Nat) (j : Int32) (v : Int64) : Option HP := if ib j n = true then some (sL h k i j.toNatClampNeg v) else none
def sar (h : HP) (k i n : Nat) (j : Int32) (o : Nat) : Option HP := if ib j n = true then some (sr h k i j.toNatClampNeg (some o)) else none
def fg (j : Int32) : Option Int64 := if ib j 8 = true then some (FIG j.toNatClampNeg) else none
/-- a number that a boolean can be -/
def bz (v : Int32) : Option Int32 := if v = 0 ∨ v = 1 then some v else none
def dz (x y : Int32) : Option Int32 := if y = 0 then none else some (x / y)
def rz (x y : Int32) : Option Int32 := if y = 0 then none else some (x - x / y * y)
def dzl (x y : Int64) : Option Int64 := if y = 0 then none else some (x / y)
def rzl (x y : Int64) : Option Int64 := if y = 0 then none else some (x - x / y * y)
def nm {α β : Type} (e : α) (f : α → β) : β := f e
def loopN {σ ρ : Type} : Nat → (σ → Option (σ ⊕ ρ)) → σ → Option ρ
  | 0, _, _ => none
  | n + 1, f, s => match f s with
    | none => none
    | some (.inl s') => loopN n f s'
    | some (.inr r) => some r
/-- loops that the document bounds: far above what any run needs -/
def LF : Nat := 1000000
theorem bn {α β : Type} {o : Option α} {f : α → Option β} {r : β} (h : o.bind f = some r) : ∃ a, o = some a ∧ f a = some r := Option.bind_eq_some_iff.mp h
theorem ga_s {h : HP} {k i n : Nat} {j v : Int32} (e : ga h k i n j = some v) : ib j n = true ∧ v = gi h k i j.toNatClampNeg := by
  unfold ga at e
  split at e
  · exact ⟨‹_›, (Option.some.inj e).symm⟩
  · cases e
theorem gal_s {h : HP} {k i n : Nat} {j : Int32} {v : Int64} (e : gal h k i n j = some v) : ib j n = true ∧ v = gl h k i j.toNatClampNeg := by
  unfold gal at e
  split at e
  · exact ⟨‹_›, (Option.some.inj e).symm⟩
  · cases e
theorem gar_s {h : HP} {k i n : Nat} {j : Int32} {v : Nat} (e : gar h k i n j = some v) : ib j n = true ∧ gr h k i j.toNatClampNeg = some v := by
  unfold gar at e
  split at e
  · exact ⟨‹_›, e⟩
  · cases e
theorem sa_s {h h1 : HP} {k i n : Nat} {j v : Int32} (e : sa h k i n j v = some h1) : ib j n = true ∧ h1 = si h k i j.toNatClampNeg v := by
  unfold sa at e
  split at e
  · exact ⟨‹_›, (Option.some.inj e).symm⟩
  · cases e
theorem sal_s {h h1 : HP} {k i n : Nat} {j : Int32} {v : Int64} (e : sal h k i n j v = some h1) : ib j n = true ∧ h1 = sL h k i j.toNatClampNeg v := by
  unfold sal at e
  split at e
  · exact ⟨‹_›, (Option.some.inj e).symm⟩
  · cases e
theorem sar_s {h h1 : HP} {k i n o : Nat} {j : Int32} (e : sar h k i n j o = some h1) : ib j n = true ∧ h1 = sr h k i j.toNatClampNeg (some o) := by
  unfold sar at e
  split at e
  · exact ⟨‹_›, (Option.some.inj e).symm⟩
  · cases e
theorem fg_s {j : Int32} {v : Int64} (e : fg j = some v) : ib j 8 = true ∧ v = FIG j.toNatClampNeg := by
  unfold fg at e
  split at e
  · exact ⟨‹_›, (Option.some.inj e).symm⟩
  · cases e
theorem bz_s {v r : Int32} (e : bz v = some r) : (v = 0 ∨ v = 1) ∧ r = v := by
  unfold bz at e
  split at e
  · exact ⟨‹_›, (Option.some.inj e).symm⟩
  · cases e
theorem dz_s {x y r : Int32} (e : dz x y = some r) : ¬ y = 0 ∧ r = x / y := by
  unfold dz at e
  split at e
  · cases e
  · exact ⟨‹_›, (Option.some.inj e).symm⟩
theorem rz_s {x y r : Int32} (e : rz x y = some r) : ¬ y = 0 ∧ r = x - x / y * y := by
  unfold rz at e
  split at e
  · cases e
  · exact ⟨‹_›, (Option.some.inj e).symm⟩
theorem dzl_s {x y r : Int64} (e : dzl x y = some r) : ¬ y = 0 ∧ r = x / y := by
  unfold dzl at e
  split at e
  · cases e
  · exact ⟨‹_›, (Option.some.inj e).symm⟩
theorem rzl_s {x y r : Int64} (e : rzl x y = some r) : ¬ y = 0 ∧ r = x - x / y * y := by
  unfold rzl at e
  split at e
  · cases e
  · exact ⟨‹_›, (Option.some.inj e).symm⟩
/-- a loop of the machine by a loop of the pure reading: Z says 'the machine, at the loop's head with this state, comes to the end that the result belongs to' -/
theorem loop_w {σ ρ : Type} {f : σ → Option (σ ⊕ ρ)} {Z : σ → Prop} {K : ρ → Prop} (hb : ∀ s v, f s = some v → (match v with | .inl s' => Z s' | .inr r => K r) → Z s) : ∀ (n : Nat) (s : σ) (r : ρ), loopN n f s = some r → K r → Z s := by
  intro n
  induction n with
  | zero => intro s r h; cases h
  | succ n ih =>
    intro s r h hk
    unfold loopN at h
    cases hf : f s with
    | none => rw [hf] at h; cases h
    | some v =>
      rw [hf] at h
      cases v with
      | inl s' => exact hb s _ hf (ih s' r h hk)
      | inr r' => exact hb s _ hf (by cases h; exact hk)
