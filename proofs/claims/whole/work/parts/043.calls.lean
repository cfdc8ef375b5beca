/-! contracts and calls over a pure heap -/
def Pr (D : va_G) (cA : Nat → ClassId) (φ : Nat → Nat → Nat) (h : HP) (sz : Nat) (U : State) : Prop := U.heap.size = sz ∧ HW D cA (fun _ => True) φ h U.heap ∧ KX D cA U ∧ ST (Ar φ h sz) U U.heap
abbrev rmo (fr lo mc ms : Nat) : Room := { frames := fr, cells := mc, slots := ms, locals := lo }
/-- an int method that makes nothing -/
def MI (l : Launch) (D : va_G) (cA : Nat → ClassId) (y : MethodName) (cc : ByteArray) (n : Nat) (ret : Option FieldType) (fr lo : Nat) (As : (Nat → Nat → Nat) → List Value) (h : HP) (r : Int32) (h' : HP) : Prop :=
  ∀ (φ : Nat → Nat → Nat) (sz : Nat), Met l y (Cond.code y cc n ret :: AL) (rmo fr lo 0 0) (va_Pc (As φ) (Pr D cA φ h sz)) (va_Qi (fun (r1 : Int32) (_ : Unit) => r1 = r) (fun _ t => HW D cA (Ar φ h sz) φ h' t.heap) (Ar φ h sz)) 0 0 (Ar φ h sz)
def ML (l : Launch) (D : va_G) (cA : Nat → ClassId) (y : MethodName) (cc : ByteArray) (n : Nat) (ret : Option FieldType) (fr lo : Nat) (As : (Nat → Nat → Nat) → List Value) (h : HP) (r : Int64) (h' : HP) : Prop :=
  ∀ (φ : Nat → Nat → Nat) (sz : Nat), Met l y (Cond.code y cc n ret :: AL) (rmo fr lo 0 0) (va_Pc (As φ) (Pr D cA φ h sz)) (va_Ql (fun (r1 : Int64) (_ : Unit) => r1 = r) (fun _ t => HW D cA (Ar φ h sz) φ h' t.heap) (Ar φ h sz)) 0 0 (Ar φ h sz)
def MV (l : Launch) (D : va_G) (cA : Nat → ClassId) (y : MethodName) (cc : ByteArray) (n : Nat) (ret : Option FieldType) (fr lo : Nat) (As : (Nat → Nat → Nat) → List Value) (h : HP) (h' : HP) : Prop :=
  ∀ (φ : Nat → Nat → Nat) (sz : Nat), Met l y (Cond.code y cc n ret :: AL) (rmo fr lo 0 0) (va_Pc (As φ) (Pr D cA φ h sz)) (va_Qv (fun (_ : Unit) => True) (fun _ t => HW D cA (Ar φ h sz) φ h' t.heap) (Ar φ h sz)) 0 0 (Ar φ h sz)
/-- a method that answers a cell: the one of the kind kr with the number r -/
def MR (l : Launch) (D : va_G) (cA : Nat → ClassId) (y : MethodName) (cc : ByteArray) (n : Nat) (ret : Option FieldType) (fr lo kr : Nat) (As : (Nat → Nat → Nat) → List Value) (h : HP) (r : Nat) (h' : HP) : Prop :=
  ∀ (φ : Nat → Nat → Nat) (sz : Nat), Met l y (Cond.code y cc n ret :: AL) (rmo fr lo 0 0) (va_Pc (As φ) (Pr D cA φ h sz)) (va_Qr (fun (_ : Unit) => r < gn h' kr) (fun _ a t => a = φ kr r ∧ HW D cA (Ar φ h sz) φ h' t.heap) (Ar φ h sz)) 0 0 (Ar φ h sz)
/-- a method that may make cells: at most mc of ms slots -/
def MIa (l : Launch) (D : va_G) (cA : Nat → ClassId) (y : MethodName) (cc : ByteArray) (n : Nat) (ret : Option FieldType) (fr lo mc ms : Nat) (As : (Nat → Nat → Nat) → List Value) (h : HP) (r : Int32) (h' : HP) : Prop :=
  ∀ (φ : Nat → Nat → Nat) (sz : Nat), Met l y (Cond.code y cc n ret :: AL) (rmo fr lo mc ms) (va_Pc (As φ) (Pr D cA φ h sz)) (va_Qi (fun (r1 : Int32) (u : Nat → Nat → Nat) => r1 = r ∧ (∀ k i, i < gn h k → u k i = φ k i)) (fun u t => HW D cA (Ar φ h sz) u h' t.heap) (Ar φ h sz)) mc ms (Ar φ h sz)
def MVa (l : Launch) (D : va_G) (cA : Nat → ClassId) (y : MethodName) (cc : ByteArray) (n : Nat) (ret : Option FieldType) (fr lo mc ms : Nat) (As : (Nat → Nat → Nat) → List Value) (h : HP) (h' : HP) : Prop :=
  ∀ (φ : Nat → Nat → Nat) (sz : Nat), Met l y (Cond.code y cc n ret :: AL) (rmo fr lo mc ms) (va_Pc (As φ) (Pr D cA φ h sz)) (va_Qv (fun (u : Nat → Nat → Nat) => (∀ k i, i < gn h k → u k i = φ k i)) (fun u t => HW D cA (Ar φ h sz) u h' t.heap) (Ar φ h sz)) mc ms (Ar φ h sz)
theorem HW.weaken {D : va_G} {cA : Nat → ClassId} {A B : Nat → Prop} {φ : Nat → Nat → Nat} {h : HP} {H : Heap} (hW : HW D cA A φ h H) (hAB : ∀ q, (∃ k i, i < gn h k ∧ q = φ k i) → B q) : HW D cA B φ h H := by
  obtain ⟨ws, hP, hD, hcomp, hsnd, hinj, hro⟩ := hW
  refine ⟨ws, hP, ⟨hD.1, fun q x hx => ?_⟩, hcomp, hsnd, hinj, hro⟩
  obtain ⟨k, i, h1, h2⟩ := hsnd q x hx
  exact hAB _ ⟨k, i, h1, h2⟩
theorem HW.inA {D : va_G} {cA : Nat → ClassId} {A : Nat → Prop} {φ : Nat → Nat → Nat} {h : HP} {H : Heap} (hW : HW D cA A φ h H) {k i : Nat} (hi : i < gn h k) : A (φ k i) := by
  obtain ⟨ws, hP, hD, hcomp, hsnd, hinj, hro⟩ := hW
  obtain ⟨q, hq⟩ := hcomp k i hi
  exact hD.2 q _ hq
theorem Ar_sub {D : va_G} {cA : Nat → ClassId} {A : Nat → Prop} {φ : Nat → Nat → Nat} {h : HP} {H H0 : Heap} {locs : List Loc} (hW : HW D cA A φ h H) (hS : va_S A H0 H locs) (hA : ∀ q, H0.size ≤ q → A q) : ∀ q, Ar φ h H.size q → A q := by
  intro q hq
  rcases hq with ⟨k, i, h1, rfl⟩ | hq
  · exact hW.inA h1
  · exact hA q (Nat.le_trans hS.1 hq)
theorem Pr_blind {D : va_G} {cA : Nat → ClassId} {φ : Nat → Nat → Nat} {h : HP} {sz : Nat} (As : List Value) : FrameBlind (va_Pc As (Pr D cA φ h sz)) := by
  intro a U g mk q
  obtain ⟨h0, h1, h2, h3, h4⟩ := q
  refine ⟨h0, h1, h2, KX.same (s := U) rfl h3, ?_⟩
  obtain ⟨ta, hz, ht⟩ := h4
  exact ⟨ta, va_Z.moved (u := U) (U := U.calling g mk a) (Vm.Alike.refl U.vm) hz, va_T.moved (u := U) (U := U.calling g mk a) (Vm.Alike.refl U.vm) ht⟩
theorem Pr_of {p : Program} {s : State} {m : MethodId} {args : Array Value} {c : Code} {cc : ByteArray} {own : String} {nL : Nat} {D : va_G} {cA : Nat → ClassId} {A : Nat → Prop} {φ : Nat → Nat → Nat} {h : HP} {H : Heap} {locs : List Loc} (X : CX p s m args c cc own nL D cA A) (hW : HW D cA A φ h H) (hS : va_S A s.heap H locs) : ∀ U : State, U.heap = H → s.WarmedH U.vm → Pr D cA φ h H.size U := by
  intro U hU hw
  obtain ⟨-, -, -, -, -, hK, ⟨ta, hz, ht⟩, hA⟩ := X
  have hsub := Ar_sub hW hS hA
  have hq : ∀ a : Nat, a < s.heap.size → ¬ A a → H[a]? = s.heap[a]? := hS.2.1
  refine ⟨by rw [hU], by rw [hU]; exact hW.weaken (fun _ _ => trivial), hK.moved hw, ta, ?_, ?_⟩
  · rw [hU]; exact ((hz.kept hq).moved hw.alike).narrow hsub
  · rw [hU]; exact ((ht.kept hq).moved hw.alike).narrow hsub
/-- the words of a call -/
def CV (own : String) (idx : Nat) (y : MethodName) (cc : ByteArray) (n : Nat) (ret : Option FieldType) (np : Nat) : Prop := Cond.methodLink own idx y ∈ AL ∧ Cond.instanceMethod y ∈ AL ∧ Cond.selects y.cls y y ∈ AL ∧ Cond.initialized y.cls ∈ AL ∧ Cond.code y cc n ret ∈ AL ∧ (y.cls ≠ "java/lang/invoke/MethodHandle" ∧ y.cls ≠ "java/lang/invoke/VarHandle" ∧ (parseMethodDescriptor y.desc).map (fun d => d.parameters.length) = some np)
def CS (own : String) (idx : Nat) (y : MethodName) (cc : ByteArray) (n : Nat) (ret : Option FieldType) (np : Nat) : Prop := Cond.methodLink own idx y ∈ AL ∧ Cond.static y ∈ AL ∧ Cond.initialized y.cls ∈ AL ∧ Cond.code y cc n ret ∈ AL ∧ (y.cls ≠ "java/lang/invoke/MethodHandle" ∧ y.cls ≠ "java/lang/invoke/VarHandle" ∧ (parseMethodDescriptor y.desc).map (fun d => d.parameters.length) = some np)
def CN (own : String) (idx : Nat) (y : MethodName) (cc : ByteArray) (n : Nat) (ret : Option FieldType) (np : Nat) : Prop := (own, idx, y) ∈ NM ∧ Cond.static y ∈ AL ∧ Cond.initialized y.cls ∈ AL ∧ Cond.code y cc n ret ∈ AL ∧ (y.cls ≠ "java/lang/invoke/MethodHandle" ∧ y.cls ≠ "java/lang/invoke/VarHandle" ∧ (parseMethodDescriptor y.desc).map (fun d => d.parameters.length) = some np)
def CI (own : String) (idx : Nat) (y : MethodName) (cc : ByteArray) (n : Nat) (np : Nat) : Prop := Cond.methodLink own idx y ∈ AL ∧ Cond.instanceMethod y ∈ AL ∧ Cond.initialized y.cls ∈ AL ∧ Cond.code y cc n none ∈ AL ∧ y.name = "<init>" ∧ (y.cls ≠ "java/lang/invoke/MethodHandle" ∧ y.cls ≠ "java/lang/invoke/VarHandle" ∧ (parseMethodDescriptor y.desc).map (fun d => d.parameters.length) = some np)
def CIN (own : String) (idx : Nat) (y : MethodName) (cc : ByteArray) (n : Nat) (np : Nat) : Prop := (own, idx, y) ∈ NM ∧ Cond.instanceMethod y ∈ AL ∧ Cond.initialized y.cls ∈ AL ∧ Cond.code y cc n none ∈ AL ∧ y.name = "<init>" ∧ (y.cls ≠ "java/lang/invoke/MethodHandle" ∧ y.cls ≠ "java/lang/invoke/VarHandle" ∧ (parseMethodDescriptor y.desc).map (fun d => d.parameters.length) = some np)
theorem AL_in {y : MethodName} {cc : ByteArray} {n : Nat} {ret : Option FieldType} (h : Cond.code y cc n ret ∈ AL) : GoodIn AL (Cond.code y cc n ret :: AL) := by
  intro w hw
  rcases List.mem_cons.mp hw with rfl | hw
  · exact ⟨h, good_of_word (AL_good h)⟩
  · exact ⟨hw, good_of_word (AL_good hw)⟩
/-- what a call of any sort comes to: the run -/
def RN (p : Program) (l : Launch) (e : Env) (R : Room) (s : State) (m : MethodId) (args : Array Value) (below : List Frame) (meth : Method) (c : Code) (H : Heap) (locs : List Loc) (cells slots : Nat) (cc : ByteArray) (pc idx : Nat) (ls : Array Slot) (rest : List Value) (y : MethodName) (ccy : ByteArray) (n : Nat) (ret : Option FieldType) (fr lo : Nat) (As : List Value) (st0 : List Value) (Pc : Array Value → State → Prop) : Prop :=
  ∀ (Qc : Array Value → State → Outcome → State → Prop) (mc ms : Nat) (free : Addr → Prop), cells + mc ≤ R.cells ∧ slots + ms ≤ R.slots → Met l y (Cond.code y ccy n ret :: AL) (rmo fr lo mc ms) Pc Qc mc ms free → va_Run p l e R s m args below meth c H locs cells slots mc ms (F0 m pc ls st0) rest (Qc As.toArray) free
section CL
variable {p : Program} {l : Launch} {e : Env} {R : Room} {s : State} {m : MethodId} {args : Array Value} {below : List Frame} {meth : Method} {c : Code} {H : Heap} {locs : List Loc} {cells slots : Nat} {Q : State → Prop} {cc : ByteArray} {pc : Nat} {ls : Array Slot} {rest : List Value} {D : va_G} {cA : Nat → ClassId} {A : Nat → Prop} {φ : Nat → Nat → Nat} {h h' : HP} {own : String} {nL : Nat} {k i sl idx : Nat} {y : MethodName} {ccy : ByteArray} {n np fr lo : Nat} {ret : Option FieldType} {As st0 : List Value}
theorem HW.recv (hK : va_K D classes (tysL cA) s) (hW : HW D cA A φ h H) {C : vw_C} {cs : List Nat} (hi : i < gn h k) (hk : KT k = .inl cs) (hc : classes[k]? = some C) : ∃ cellB : Cell, H[φ k i]? = some cellB ∧ cellB.vm.isStatics = false ∧ s.vm.findClass C.1 = some cellB.cls := by
  obtain ⟨ws, hP, hD, hcomp, hsnd, hinj, hro⟩ := hW
  obtain ⟨q, hq⟩ := hcomp k i hi
  rw [ce_obj hk] at hq
  exact va_recv hK hP hc hq
theorem rn_V (X : CX p s m args c cc own nL D cA A) (hW : HW D cA A φ h H) (hS : va_S A s.heap H locs) (hw : CV own idx y ccy n ret np) {C : vw_C} {cs : List Nat} (hi : i < gn h k) (hk : KT k = .inl cs) (hc : classes[k]? = some C) (hy : y.cls = C.1)
    (hR : fr + 1 ≤ R.frames ∧ 8 + (n + 11) + lo ≤ R.locals) (hn : As.length = np) (hsz : ls.size = nL) (hst : st0 = As.reverse ++ .ref (φ k i) :: rest) (hr : (rest.map fun v => v.category).sum ≤ 8) (hdg : decode cc pc = .ok (.invokevirtual idx, 3)) :
    RN p l e R s m args below meth c H locs cells slots cc pc idx ls rest y ccy n ret fr lo (.ref (φ k i) :: As) st0 (va_Pc (.ref (φ k i) :: As) (Pr D cA φ h H.size)) := by
  intro Qc mc ms free hcs hM
  have hP := Pr_of X hW hS
  obtain ⟨hx, hb, hml, hown, hts, ⟨hK, -⟩, -, hA⟩ := X
  obtain ⟨w1, w2, w3, w4, w5, w6⟩ := hw
  refine va_runV (C := y.cls) (cc := cc) (nL := nL) (Ts := AL) (own := own) ⟨hx, hb, hml, hown, hts⟩ hM ⟨callB_of np hts (AL_in w5) rfl rfl rfl (hts _ w4) (hts _ w1) w6 hR, hts _ w2, hts _ w3⟩ ⟨Pr_blind _, ?_, fun U hU hw => ⟨rfl, hP U hU hw⟩⟩ rfl hn hsz hst (lv_room hr) hdg hcs
  rw [hy]
  exact hW.recv hK hi hk hc
theorem rn_S (X : CX p s m args c cc own nL D cA A) (hW : HW D cA A φ h H) (hS : va_S A s.heap H locs) (hw : CS own idx y ccy n ret np)
    (hR : fr + 1 ≤ R.frames ∧ 8 + (n + 11) + lo ≤ R.locals) (hn : As.length = np) (hsz : ls.size = nL) (hst : st0 = As.reverse ++ rest) (hr : (rest.map fun v => v.category).sum ≤ 8) (hdg : decode cc pc = .ok (.invokestatic idx, 3)) :
    RN p l e R s m args below meth c H locs cells slots cc pc idx ls rest y ccy n ret fr lo As st0 (va_Pc As (Pr D cA φ h H.size)) := by
  intro Qc mc ms free hcs hM
  have hP := Pr_of X hW hS
  obtain ⟨hx, hb, hml, hown, hts, ⟨hK, -⟩, -, hA⟩ := X
  obtain ⟨w1, w2, w4, w5, w6⟩ := hw
  exact va_runS (cc := cc) (nL := nL) (Ts := AL) (own := own) ⟨hx, hb, hml, hown, hts⟩ hM ⟨callB_of np hts (AL_in w5) rfl rfl rfl (hts _ w4) (hts _ w1) w6 hR, hts _ w2⟩ ⟨Pr_blind _, fun U hU hw => ⟨rfl, hP U hU hw⟩⟩ rfl hn hsz hst (lv_room hr) hdg hcs
theorem rn_N (X : CX p s m args c cc own nL D cA A) (hW : HW D cA A φ h H) (hS : va_S A s.heap H locs) (hw : CN own idx y ccy n ret np)
    (hR : fr + 1 ≤ R.frames ∧ 8 + (n + 11) + lo ≤ R.locals) (hn : As.length = np) (hsz : ls.size = nL) (hst : st0 = As.reverse ++ rest) (hr : (rest.map fun v => v.category).sum ≤ 8) (hdg : decode cc pc = .ok (.invokestatic idx, 3)) :
    RN p l e R s m args below meth c H locs cells slots cc pc idx ls rest y ccy n ret fr lo As st0 (va_Pc As (Pr D cA φ h H.size)) := by
  intro Qc mc ms free hcs hM
  have hP := Pr_of X hW hS
  obtain ⟨hx, hb, hml, hown, hts, ⟨hK, hN⟩, -, hA⟩ := X
  obtain ⟨w1, w2, w4, w5, w6⟩ := hw
  exact va_runSN (cc := cc) (nL := nL) (Ts := AL) (own := own) ⟨hx, hb, hml, hown, hts⟩ hM ⟨va_cnB np hts (AL_in w5) rfl rfl rfl (hN.1 _ w1) (hts _ w4) w6 hR, hts _ w2, trivial⟩ ⟨Pr_blind _, fun U hU hw => ⟨rfl, hP U hU hw⟩⟩ rfl hn hsz hst (lv_room hr) hdg hcs
theorem rn_I (X : CX p s m args c cc own nL D cA A) (hW : HW D cA A φ h H) (hS : va_S A s.heap H locs) (hw : CI own idx y ccy n np) 
    (hR : fr + 1 ≤ R.frames ∧ 8 + (n + 11) + lo ≤ R.locals) (hn : As.length = np) (hsz : ls.size = nL) (hst : st0 = As.reverse ++ .ref (φ k i) :: rest) (hr : (rest.map fun v => v.category).sum ≤ 8) (hdg : decode cc pc = .ok (.invokespecial idx, 3)) :
    RN p l e R s m args below meth c H locs cells slots cc pc idx ls rest y ccy n none fr lo (.ref (φ k i) :: As) st0 (va_Pc (.ref (φ k i) :: As) (Pr D cA φ h H.size)) := by
  intro Qc mc ms free hcs hM
  have hP := Pr_of X hW hS
  obtain ⟨hx, hb, hml, hown, hts, ⟨hK, -⟩, -, hA⟩ := X
  obtain ⟨w1, w2, w4, w5, w7, w6⟩ := hw
  exact va_runI (cc := cc) (nL := nL) (Ts := AL) (own := own) ⟨hx, hb, hml, hown, hts⟩ hM ⟨callB_of np hts (AL_in w5) rfl rfl rfl (hts _ w4) (hts _ w1) w6 hR, w7, hts _ w2⟩ ⟨Pr_blind _, fun U hU hw => ⟨rfl, hP U hU hw⟩⟩ rfl hn hsz hst (lv_room hr) hdg hcs
theorem rn_IN (X : CX p s m args c cc own nL D cA A) (hW : HW D cA A φ h H) (hS : va_S A s.heap H locs) (hw : CIN own idx y ccy n np) 
    (hR : fr + 1 ≤ R.frames ∧ 8 + (n + 11) + lo ≤ R.locals) (hn : As.length = np) (hsz : ls.size = nL) (hst : st0 = As.reverse ++ .ref (φ k i) :: rest) (hr : (rest.map fun v => v.category).sum ≤ 8) (hdg : decode cc pc = .ok (.invokespecial idx, 3)) :
    RN p l e R s m args below meth c H locs cells slots cc pc idx ls rest y ccy n none fr lo (.ref (φ k i) :: As) st0 (va_Pc (.ref (φ k i) :: As) (Pr D cA φ h H.size)) := by
  intro Qc mc ms free hcs hM
  have hP := Pr_of X hW hS
  obtain ⟨hx, hb, hml, hown, hts, ⟨hK, hN⟩, -, hA⟩ := X
  obtain ⟨w1, w2, w4, w5, w7, w6⟩ := hw
  exact va_runIN (cc := cc) (nL := nL) (Ts := AL) (own := own) ⟨hx, hb, hml, hown, hts⟩ hM ⟨va_cnB np hts (AL_in w5) rfl rfl rfl (hN.1 _ w1) (hts _ w4) w6 hR, w7, hts _ w2⟩ ⟨Pr_blind _, fun U hU hw => ⟨rfl, hP U hU hw⟩⟩ rfl hn hsz hst (lv_room hr) hdg hcs
/-! behind the call -/
theorem rc_i (X : CX p s m args c cc own nL D cA A) (hW : HW D cA A φ h H) (hS : va_S A s.heap H locs) {r : Int32} {Af : (Nat → Nat → Nat) → List Value} (hcs : cells ≤ R.cells ∧ slots ≤ R.slots) (hr : RN p l e R s m args below meth c H locs cells slots cc pc idx ls rest y ccy n ret fr lo (Af φ) st0 (va_Pc (Af φ) (Pr D cA φ h H.size))) (hM : MI l D cA y ccy n ret fr lo Af h r h')
    (kk : ∀ (H1 : Heap) (locs1 : List Loc), HW D cA A φ h' H1 → va_S A s.heap H1 locs1 → W p l e R s m args below meth c H1 locs1 cells slots Q (F0 m (pc + 3) ls (.int r :: rest))) : W p l e R s m args below meth c H locs cells slots Q (F0 m pc ls st0) := by
  have hsub := Ar_sub hW hS X.2.2.2.2.2.2.2
  refine va_calli (hr _ 0 0 _ hcs (hM φ H.size)) hS (fun q _ h => hsub q h) hsub (fun r1 u t H1 locs1 ht hvm hw hB hz1 hk1 hS1 => ?_)
  subst hw
  rw [ht] at hB
  exact kk H1 locs1 (hB.weaken (fun q ⟨k, i, h1, h2⟩ => by rw [h2]; exact hsub _ (hB.inA h1))) hS1
theorem rc_l (X : CX p s m args c cc own nL D cA A) (hW : HW D cA A φ h H) (hS : va_S A s.heap H locs) {r : Int64} {Af : (Nat → Nat → Nat) → List Value} (hcs : cells ≤ R.cells ∧ slots ≤ R.slots) (hr : RN p l e R s m args below meth c H locs cells slots cc pc idx ls rest y ccy n ret fr lo (Af φ) st0 (va_Pc (Af φ) (Pr D cA φ h H.size))) (hM : ML l D cA y ccy n ret fr lo Af h r h')
    (kk : ∀ (H1 : Heap) (locs1 : List Loc), HW D cA A φ h' H1 → va_S A s.heap H1 locs1 → W p l e R s m args below meth c H1 locs1 cells slots Q (F0 m (pc + 3) ls (.long r :: rest))) : W p l e R s m args below meth c H locs cells slots Q (F0 m pc ls st0) := by
  have hsub := Ar_sub hW hS X.2.2.2.2.2.2.2
  refine va_calll (hr _ 0 0 _ hcs (hM φ H.size)) hS (fun q _ h => hsub q h) hsub (fun r1 u t H1 locs1 ht hvm hw hB hz1 hk1 hS1 => ?_)
  subst hw
  rw [ht] at hB
  exact kk H1 locs1 (hB.weaken (fun q ⟨k, i, h1, h2⟩ => by rw [h2]; exact hsub _ (hB.inA h1))) hS1
theorem rc_v (X : CX p s m args c cc own nL D cA A) (hW : HW D cA A φ h H) (hS : va_S A s.heap H locs) {Af : (Nat → Nat → Nat) → List Value} (hcs : cells ≤ R.cells ∧ slots ≤ R.slots) (hr : RN p l e R s m args below meth c H locs cells slots cc pc idx ls rest y ccy n ret fr lo (Af φ) st0 (va_Pc (Af φ) (Pr D cA φ h H.size))) (hM : MV l D cA y ccy n ret fr lo Af h h')
    (kk : ∀ (H1 : Heap) (locs1 : List Loc), HW D cA A φ h' H1 → va_S A s.heap H1 locs1 → W p l e R s m args below meth c H1 locs1 cells slots Q (F0 m (pc + 3) ls rest)) : W p l e R s m args below meth c H locs cells slots Q (F0 m pc ls st0) := by
  have hsub := Ar_sub hW hS X.2.2.2.2.2.2.2
  refine va_callv (hr _ 0 0 _ hcs (hM φ H.size)) hS (fun q _ h => hsub q h) hsub (fun u t H1 locs1 ht hvm hw hB hz1 hk1 hS1 => ?_)
  rw [ht] at hB
  exact kk H1 locs1 (hB.weaken (fun q ⟨k, i, h1, h2⟩ => by rw [h2]; exact hsub _ (hB.inA h1))) hS1
theorem rc_r (X : CX p s m args c cc own nL D cA A) (hW : HW D cA A φ h H) (hS : va_S A s.heap H locs) {r kr : Nat} {Af : (Nat → Nat → Nat) → List Value} (hcs : cells ≤ R.cells ∧ slots ≤ R.slots) (hr : RN p l e R s m args below meth c H locs cells slots cc pc idx ls rest y ccy n ret fr lo (Af φ) st0 (va_Pc (Af φ) (Pr D cA φ h H.size))) (hM : MR l D cA y ccy n ret fr lo kr Af h r h')
    (kk : ∀ (H1 : Heap) (locs1 : List Loc), HW D cA A φ h' H1 → va_S A s.heap H1 locs1 → r < gn h' kr → W p l e R s m args below meth c H1 locs1 cells slots Q (F0 m (pc + 3) ls (.ref (φ kr r) :: rest))) : W p l e R s m args below meth c H locs cells slots Q (F0 m pc ls st0) := by
  have hsub := Ar_sub hW hS X.2.2.2.2.2.2.2
  refine va_callr (hr _ 0 0 _ hcs (hM φ H.size)) hS (fun q _ h => hsub q h) hsub (fun u a t H1 locs1 ht hvm hw hB hz1 hk1 hS1 => ?_)
  obtain ⟨rfl, hB⟩ := hB
  rw [ht] at hB
  exact kk H1 locs1 (hB.weaken (fun q ⟨k, i, h1, h2⟩ => by rw [h2]; exact hsub _ (hB.inA h1))) hS1 hw
theorem rc_ia (X : CX p s m args c cc own nL D cA A) (hW : HW D cA A φ h H) (hS : va_S A s.heap H locs) {r : Int32} {mc ms : Nat} {Af : (Nat → Nat → Nat) → List Value} (hcs : cells + mc ≤ R.cells ∧ slots + ms ≤ R.slots) (hr : RN p l e R s m args below meth c H locs cells slots cc pc idx ls rest y ccy n ret fr lo (Af φ) st0 (va_Pc (Af φ) (Pr D cA φ h H.size))) (hM : MIa l D cA y ccy n ret fr lo mc ms Af h r h')
    (kk : ∀ (u : Nat → Nat → Nat) (H1 : Heap) (locs1 : List Loc), (∀ k i, i < gn h k → u k i = φ k i) → HW D cA A u h' H1 → va_S A s.heap H1 locs1 → W p l e R s m args below meth c H1 locs1 (cells + mc) (slots + ms) Q (F0 m (pc + 3) ls (.int r :: rest))) : W p l e R s m args below meth c H locs cells slots Q (F0 m pc ls st0) := by
  have hsub := Ar_sub hW hS X.2.2.2.2.2.2.2
  refine va_calli (hr _ mc ms _ hcs (hM φ H.size)) hS (fun q _ h => hsub q h) hsub (fun r1 u t H1 locs1 ht hvm hw hB hz1 hk1 hS1 => ?_)
  obtain ⟨rfl, hu⟩ := hw
  rw [ht] at hB
  exact kk u H1 locs1 hu (hB.weaken (fun q ⟨k, i, h1, h2⟩ => by rw [h2]; exact hsub _ (hB.inA h1))) hS1
theorem rc_va (X : CX p s m args c cc own nL D cA A) (hW : HW D cA A φ h H) (hS : va_S A s.heap H locs) {mc ms : Nat} {Af : (Nat → Nat → Nat) → List Value} (hcs : cells + mc ≤ R.cells ∧ slots + ms ≤ R.slots) (hr : RN p l e R s m args below meth c H locs cells slots cc pc idx ls rest y ccy n ret fr lo (Af φ) st0 (va_Pc (Af φ) (Pr D cA φ h H.size))) (hM : MVa l D cA y ccy n ret fr lo mc ms Af h h')
    (kk : ∀ (u : Nat → Nat → Nat) (H1 : Heap) (locs1 : List Loc), (∀ k i, i < gn h k → u k i = φ k i) → HW D cA A u h' H1 → va_S A s.heap H1 locs1 → W p l e R s m args below meth c H1 locs1 (cells + mc) (slots + ms) Q (F0 m (pc + 3) ls rest)) : W p l e R s m args below meth c H locs cells slots Q (F0 m pc ls st0) := by
  have hsub := Ar_sub hW hS X.2.2.2.2.2.2.2
  refine va_callv (hr _ mc ms _ hcs (hM φ H.size)) hS (fun q _ h => hsub q h) hsub (fun u t H1 locs1 ht hvm hw hB hz1 hk1 hS1 => ?_)
  rw [ht] at hB
  exact kk u H1 locs1 hw (hB.weaken (fun q ⟨k, i, h1, h2⟩ => by rw [h2]; exact hsub _ (hB.inA h1))) hS1
end CL
