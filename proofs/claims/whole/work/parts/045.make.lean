/-! a contract out of a walk -/
theorem en_fr {m : MethodId} {args : Array Value} {vs : List Value} (ha : args = vs.toArray) {n : Nat} (hn : (lg_sl vs).length ≤ n) : ∃ ls : Array Slot, entryFrame m args n = F0 m 0 ls [] ∧ lv_has ls n (lv_args 0 vs) := by
  subst ha
  exact ⟨_, lg_entry_eq .., lv_entry vs hn⟩
/-- a contract out of a walk, for any method that no entry of the machine's own table stands for -/
theorem Met_ofWF {l : Launch} {y : MethodName} {ws ws' : List Cond} {rm : Room} {Pc : Array Value → State → Prop} {Qc : Array Value → State → Outcome → State → Prop} {mc ms : Nat} {free : Addr → Prop} {cc : ByteArray} {maxL : Nat} {ret : Option FieldType}
    (hy : plainFor y = true) (hw : ws = Cond.code y cc maxL ret :: ws')
    (body : ∀ p e s m args below meth c s₁, BodyLoose p l y (headSpec ws rm) cc maxL ret e s m args below meth c s₁ → c.maxLocals = maxL → Pc args s →
      W p l e (headSpec ws rm).room s m args below meth c s.heap [] 0 0 (MQ below Qc args s mc ms free) (entryFrame m args maxL)) : Met l y ws rm Pc Qc mc ms free := by
  refine MetFree.of_bodySF (code := cc) (maxLocals := maxL) (ret := ret) hy ?_ ?_
  · intro args s m h hn
    obtain ⟨meth, c, h1, h2, h3, h4, h5, h6, -, -⟩ := Cond.code_spec hn (atoms_spec (ws := ws) h _ (by rw [hw]; exact List.mem_cons_self))
    exact ⟨meth, c, h1, h2, h3, h4, h5, h6⟩
  · intro p e s m args below meth c s₁ B hml hP _
    have hh0 : s₁.heap = s.heap := by rw [B.state]; rfl
    obtain ⟨t, a1, o, b1, b2, b3⟩ := body p e s m args below meth c s₁ B hml hP s₁ hh0 (Stand.of_body B)
    exact ⟨t, o, a1, b1, b2, ⟨b3.1, b3.2⟩⟩
section MK
variable {l : Launch} {D : va_G} {cA : Nat → ClassId} {y : MethodName} {cc : ByteArray} {n fr lo mc ms kr : Nat} {As : (Nat → Nat → Nat) → List Value} {h h' : HP}
theorem mk_I {r : Int32} (hy : plainFor y = true) (hn : ∀ φ, (lg_sl (As φ)).length ≤ n)
    (body : ∀ (p : Program) (e : Env) (s : State) (m : MethodId) (args : Array Value) (below : List Frame) (meth : Method) (c : Code) (ls : Array Slot) (φ : Nat → Nat → Nat) (A : Nat → Prop) (Q : State → Prop), CX p s m args c cc y.cls n D cA A → HW D cA A φ h s.heap → va_S A s.heap s.heap [] → lv_has ls n (lv_args 0 (As φ)) →
      (∀ (H1 : Heap) (locs1 : List Loc) (ls1 : Array Slot) (pc1 : Nat), HW D cA A φ h' H1 → va_S A s.heap H1 locs1 → decode cc pc1 = .ok (.ireturn, 1) → W p l e (rmo fr lo 0 0) s m args below meth c H1 locs1 0 0 Q (F0 m pc1 ls1 [.int r])) →
      W p l e (rmo fr lo 0 0) s m args below meth c s.heap [] 0 0 Q (F0 m 0 ls [])) : MI l D cA y cc n (some .int) fr lo As h r h' := by
  intro φ sz
  refine Met_ofWF (cc := cc) (maxL := n) (ret := some .int) hy rfl ?_
  intro p e s m args below meth c s₁ B hml hv
  obtain ⟨ha, hv⟩ := hv
  obtain ⟨X, hW, hS, hr, hlk⟩ := en_of B hml (findClass_of_methodNamed B.named) hv
  obtain ⟨ls, hls, hl⟩ := en_fr (m := m) ha (hn φ)
  rw [hls]
  exact body p e s m args below meth c ls φ _ _ X hW hS hl (fun H1 locs1 ls1 pc1 hW1 hS1 hd => rt_i X hW1 hS1 hr hlk hd)
theorem mk_Z {r : Int32} (hy : plainFor y = true) (hn : ∀ φ, (lg_sl (As φ)).length ≤ n)
    (body : ∀ (p : Program) (e : Env) (s : State) (m : MethodId) (args : Array Value) (below : List Frame) (meth : Method) (c : Code) (ls : Array Slot) (φ : Nat → Nat → Nat) (A : Nat → Prop) (Q : State → Prop), CX p s m args c cc y.cls n D cA A → HW D cA A φ h s.heap → va_S A s.heap s.heap [] → lv_has ls n (lv_args 0 (As φ)) →
      (∀ (H1 : Heap) (locs1 : List Loc) (ls1 : Array Slot) (pc1 : Nat), HW D cA A φ h' H1 → va_S A s.heap H1 locs1 → (r = 0 ∨ r = 1) → decode cc pc1 = .ok (.ireturn, 1) → W p l e (rmo fr lo 0 0) s m args below meth c H1 locs1 0 0 Q (F0 m pc1 ls1 [.int r])) →
      W p l e (rmo fr lo 0 0) s m args below meth c s.heap [] 0 0 Q (F0 m 0 ls [])) : MI l D cA y cc n (some .boolean) fr lo As h r h' := by
  intro φ sz
  refine Met_ofWF (cc := cc) (maxL := n) (ret := some .boolean) hy rfl ?_
  intro p e s m args below meth c s₁ B hml hv
  obtain ⟨ha, hv⟩ := hv
  obtain ⟨X, hW, hS, hr, hlk⟩ := en_of B hml (findClass_of_methodNamed B.named) hv
  obtain ⟨ls, hls, hl⟩ := en_fr (m := m) ha (hn φ)
  rw [hls]
  exact body p e s m args below meth c ls φ _ _ X hW hS hl (fun H1 locs1 ls1 pc1 hW1 hS1 hz hd => rt_z X hW1 hS1 hr hlk hz hd)
theorem mk_L {r : Int64} (hy : plainFor y = true) (hn : ∀ φ, (lg_sl (As φ)).length ≤ n)
    (body : ∀ (p : Program) (e : Env) (s : State) (m : MethodId) (args : Array Value) (below : List Frame) (meth : Method) (c : Code) (ls : Array Slot) (φ : Nat → Nat → Nat) (A : Nat → Prop) (Q : State → Prop), CX p s m args c cc y.cls n D cA A → HW D cA A φ h s.heap → va_S A s.heap s.heap [] → lv_has ls n (lv_args 0 (As φ)) →
      (∀ (H1 : Heap) (locs1 : List Loc) (ls1 : Array Slot) (pc1 : Nat), HW D cA A φ h' H1 → va_S A s.heap H1 locs1 → decode cc pc1 = .ok (.lreturn, 1) → W p l e (rmo fr lo 0 0) s m args below meth c H1 locs1 0 0 Q (F0 m pc1 ls1 [.long r])) →
      W p l e (rmo fr lo 0 0) s m args below meth c s.heap [] 0 0 Q (F0 m 0 ls [])) : ML l D cA y cc n (some .long) fr lo As h r h' := by
  intro φ sz
  refine Met_ofWF (cc := cc) (maxL := n) (ret := some .long) hy rfl ?_
  intro p e s m args below meth c s₁ B hml hv
  obtain ⟨ha, hv⟩ := hv
  obtain ⟨X, hW, hS, hr, hlk⟩ := en_of B hml (findClass_of_methodNamed B.named) hv
  obtain ⟨ls, hls, hl⟩ := en_fr (m := m) ha (hn φ)
  rw [hls]
  exact body p e s m args below meth c ls φ _ _ X hW hS hl (fun H1 locs1 ls1 pc1 hW1 hS1 hd => rt_l X hW1 hS1 hr hlk hd)
theorem mk_V (hy : plainFor y = true) (hn : ∀ φ, (lg_sl (As φ)).length ≤ n)
    (body : ∀ (p : Program) (e : Env) (s : State) (m : MethodId) (args : Array Value) (below : List Frame) (meth : Method) (c : Code) (ls : Array Slot) (φ : Nat → Nat → Nat) (A : Nat → Prop) (Q : State → Prop), CX p s m args c cc y.cls n D cA A → HW D cA A φ h s.heap → va_S A s.heap s.heap [] → lv_has ls n (lv_args 0 (As φ)) →
      (∀ (H1 : Heap) (locs1 : List Loc) (ls1 : Array Slot) (pc1 : Nat), HW D cA A φ h' H1 → va_S A s.heap H1 locs1 → decode cc pc1 = .ok (.return_, 1) → W p l e (rmo fr lo 0 0) s m args below meth c H1 locs1 0 0 Q (F0 m pc1 ls1 [])) →
      W p l e (rmo fr lo 0 0) s m args below meth c s.heap [] 0 0 Q (F0 m 0 ls [])) : MV l D cA y cc n none fr lo As h h' := by
  intro φ sz
  refine Met_ofWF (cc := cc) (maxL := n) (ret := none) hy rfl ?_
  intro p e s m args below meth c s₁ B hml hv
  obtain ⟨ha, hv⟩ := hv
  obtain ⟨X, hW, hS, hr, hlk⟩ := en_of B hml (findClass_of_methodNamed B.named) hv
  obtain ⟨ls, hls, hl⟩ := en_fr (m := m) ha (hn φ)
  rw [hls]
  exact body p e s m args below meth c ls φ _ _ X hW hS hl (fun H1 locs1 ls1 pc1 hW1 hS1 hd => rt_v X hW1 hS1 hr hlk hd)
theorem mk_R {r : Nat} {ty : FieldType} (hy : plainFor y = true) (hn : ∀ φ, (lg_sl (As φ)).length ≤ n)
    (body : ∀ (p : Program) (e : Env) (s : State) (m : MethodId) (args : Array Value) (below : List Frame) (meth : Method) (c : Code) (ls : Array Slot) (φ : Nat → Nat → Nat) (A : Nat → Prop) (Q : State → Prop), CX p s m args c cc y.cls n D cA A → HW D cA A φ h s.heap → va_S A s.heap s.heap [] → lv_has ls n (lv_args 0 (As φ)) →
      (∀ (H1 : Heap) (locs1 : List Loc) (ls1 : Array Slot) (pc1 : Nat), HW D cA A φ h' H1 → va_S A s.heap H1 locs1 → r < gn h' kr → decode cc pc1 = .ok (.areturn, 1) → W p l e (rmo fr lo 0 0) s m args below meth c H1 locs1 0 0 Q (F0 m pc1 ls1 [.ref (φ kr r)])) →
      W p l e (rmo fr lo 0 0) s m args below meth c s.heap [] 0 0 Q (F0 m 0 ls [])) : MR l D cA y cc n (some (.array ty)) fr lo kr As h r h' := by
  intro φ sz
  refine Met_ofWF (cc := cc) (maxL := n) (ret := some (.array ty)) hy rfl ?_
  intro p e s m args below meth c s₁ B hml hv
  obtain ⟨ha, hv⟩ := hv
  obtain ⟨X, hW, hS, hr, hlk⟩ := en_of B hml (findClass_of_methodNamed B.named) hv
  obtain ⟨ls, hls, hl⟩ := en_fr (m := m) ha (hn φ)
  rw [hls]
  exact body p e s m args below meth c ls φ _ _ X hW hS hl (fun H1 locs1 ls1 pc1 hW1 hS1 hlt hd => rt_r X hW1 hS1 hr hlk hlt hd)
theorem mk_Ia {r : Int32} (hy : plainFor y = true) (hn : ∀ φ, (lg_sl (As φ)).length ≤ n)
    (body : ∀ (p : Program) (e : Env) (s : State) (m : MethodId) (args : Array Value) (below : List Frame) (meth : Method) (c : Code) (ls : Array Slot) (φ : Nat → Nat → Nat) (A : Nat → Prop) (Q : State → Prop), CX p s m args c cc y.cls n D cA A → HW D cA A φ h s.heap → va_S A s.heap s.heap [] → lv_has ls n (lv_args 0 (As φ)) →
      (∀ (u : Nat → Nat → Nat) (H1 : Heap) (locs1 : List Loc) (ls1 : Array Slot) (pc1 : Nat), (∀ k i, i < gn h k → u k i = φ k i) → HW D cA A u h' H1 → va_S A s.heap H1 locs1 → decode cc pc1 = .ok (.ireturn, 1) → W p l e (rmo fr lo mc ms) s m args below meth c H1 locs1 mc ms Q (F0 m pc1 ls1 [.int r])) →
      W p l e (rmo fr lo mc ms) s m args below meth c s.heap [] 0 0 Q (F0 m 0 ls [])) : MIa l D cA y cc n (some .int) fr lo mc ms As h r h' := by
  intro φ sz
  refine Met_ofWF (cc := cc) (maxL := n) (ret := some .int) hy rfl ?_
  intro p e s m args below meth c s₁ B hml hv
  obtain ⟨ha, hv⟩ := hv
  obtain ⟨X, hW, hS, hr, hlk⟩ := en_of B hml (findClass_of_methodNamed B.named) hv
  obtain ⟨ls, hls, hl⟩ := en_fr (m := m) ha (hn φ)
  rw [hls]
  exact body p e s m args below meth c ls φ _ _ X hW hS hl (fun u H1 locs1 ls1 pc1 hu hW1 hS1 hd => rt_ia X hW1 hS1 hu hr hlk hd)
theorem mk_Va (hy : plainFor y = true) (hn : ∀ φ, (lg_sl (As φ)).length ≤ n)
    (body : ∀ (p : Program) (e : Env) (s : State) (m : MethodId) (args : Array Value) (below : List Frame) (meth : Method) (c : Code) (ls : Array Slot) (φ : Nat → Nat → Nat) (A : Nat → Prop) (Q : State → Prop), CX p s m args c cc y.cls n D cA A → HW D cA A φ h s.heap → va_S A s.heap s.heap [] → lv_has ls n (lv_args 0 (As φ)) → meth.name = y.name →
      (∀ (u : Nat → Nat → Nat) (H1 : Heap) (locs1 : List Loc) (ls1 : Array Slot) (pc1 : Nat), (∀ k i, i < gn h k → u k i = φ k i) → HW D cA A u h' H1 → va_S A s.heap H1 locs1 → decode cc pc1 = .ok (.return_, 1) → W p l e (rmo fr lo mc ms) s m args below meth c H1 locs1 mc ms Q (F0 m pc1 ls1 [])) →
      W p l e (rmo fr lo mc ms) s m args below meth c s.heap [] 0 0 Q (F0 m 0 ls [])) : MVa l D cA y cc n none fr lo mc ms As h h' := by
  intro φ sz
  refine Met_ofWF (cc := cc) (maxL := n) (ret := none) hy rfl ?_
  intro p e s m args below meth c s₁ B hml hv
  obtain ⟨ha, hv⟩ := hv
  obtain ⟨X, hW, hS, hr, hlk⟩ := en_of B hml (findClass_of_methodNamed B.named) hv
  obtain ⟨ls, hls, hl⟩ := en_fr (m := m) ha (hn φ)
  rw [hls]
  exact body p e s m args below meth c ls φ _ _ X hW hS hl (name_of_methodNamed B.named B.method).1 (fun u H1 locs1 ls1 pc1 hu hW1 hS1 hd => rt_va X hW1 hS1 hu hr hlk hd)
end MK
