/-! rows of the machine over a pure heap -/
def NM : List (String × Nat × MethodName) := [(RX11, 15, yX2_init), (RX11, 22, yX4_init), (RX11, 35, yX5_init), (RX11, 42, yX7_init), (RX11, 55, yX6_init), (RX11, 62, yX8_init), (RX11, 69, yX3_init), (RX11, 80, yX9_init), (RX2, 21, yX11_isFrom), (RX4, 95, yX11_isFrom)]
def NX (U : State) : Prop := (∀ q ∈ NM, va_Nw (.methodLinkNest q.1 q.2.1 q.2.2 RX11) U) ∧ va_AO RX1 U ∧ va_AO RX10 U ∧ va_AO RX0 U ∧ va_AO RX9 U
def KX (D : va_G) (cA : Nat → ClassId) (U : State) : Prop := va_K D classes (tysL cA) U ∧ NX U
theorem KX.moved {D : va_G} {cA : Nat → ClassId} {s U : State} (hW : s.WarmedH U.vm) (h : KX D cA s) : KX D cA U :=
  ⟨va_K.moved hW.alike h.1, fun q hq => va_Nw.warmM hW (h.2.1 q hq), va_AO.moved hW.alike h.2.2.1, va_AO.moved hW.alike h.2.2.2.1, va_AO.moved hW.alike h.2.2.2.2.1, va_AO.moved hW.alike h.2.2.2.2.2⟩
theorem KX.same {D : va_G} {cA : Nat → ClassId} {s U : State} (hv : s.vm = U.vm) (h : KX D cA s) : KX D cA U := by
  have ha : s.vm.Alike U.vm := by rw [hv]; exact Vm.Alike.refl U.vm
  exact ⟨va_K.moved ha h.1, fun q hq => va_Nw.same rfl hv (h.2.1 q hq), va_AO.moved ha h.2.2.1, va_AO.moved ha h.2.2.2.1, va_AO.moved ha h.2.2.2.2.1, va_AO.moved ha h.2.2.2.2.2⟩
def FIG (j : Nat) : Int64 := match j with
  | 0 => 1801088541
  | 1 => 85766121
  | 2 => 4084101
  | 3 => 194481
  | 4 => 9261
  | 5 => 441
  | 6 => 21
  | _ => 1
/-- the static row of the class -/
def ST (A : Nat → Prop) (U : State) (H : Heap) : Prop := ∃ ta : Nat, va_Z RX5 "FIGURES" "[J" (.ref ta) A U H ∧ va_T .long ta 8 (fun j => .long (FIG j)) A U H
abbrev CX (p : Program) (s : State) (m : MethodId) (args : Array Value) (c : Code) (cc : ByteArray) (own : String) (nL : Nat) (D : va_G) (cA : Nat → ClassId) (A : Nat → Prop) : Prop :=
  p.tables.exec = Jvm.exec ∧ c.code = cc ∧ c.maxLocals = nL ∧ s.vm.findClass own = some m.cls ∧ (∀ w ∈ AL, w.before args s = true) ∧ KX D cA s ∧ ST A s s.heap ∧ (∀ q, s.heap.size ≤ q → A q)
/-- a field of a kind of object, as an instruction of the class 'own' names it -/
def FL (own : String) (idx k sl cd : Nat) : Prop := ∃ (C : String) (T : u_T) (N : Nat) (cs : List Nat), KT k = .inl cs ∧ cs[sl]? = some cd ∧ classes[k]? = some (C, T, N) ∧ sl < N ∧ (∀ w ∈ u_ws C T N, w ∈ AL) ∧ Cond.fieldLink own idx (T sl).1 (T sl).2.1 (T sl).2.2.1 ∈ AL
/-- and one that is written -/
def FP (own : String) (idx k sl cd : Nat) (ty : FieldType) (fin : Bool) : Prop := ∃ (C : String) (T : u_T) (N : Nat) (cs : List Nat) (ty0 : Nat → FieldType), KT k = .inl cs ∧ cs[sl]? = some cd ∧ classes[k]? = some (C, T, N) ∧ sl < N ∧ (∀ w ∈ u_ws C T N, w ∈ AL) ∧ Cond.fieldLink own idx (T sl).1 (T sl).2.1 (T sl).2.2.1 ∈ AL ∧
  (∀ k, k < N → parseFieldDescriptor (T k).2.2.1 = some (ty0 k)) ∧ (∀ a, a < N → ∀ b, b < N → a ≠ b → (T a).2.1 ≠ (T b).2.1) ∧ (T sl).2.2.2 = fin ∧ parseFieldDescriptor (T sl).2.2.1 = some ty ∧ (fin = true → (T sl).1 = own)
def ib (j : Int32) (n : Nat) : Bool := decide (¬ (j < 0 ∨ n ≤ j.toNatClampNeg))
section RW
variable {p : Program} {l : Launch} {e : Env} {R : Room} {s : State} {m : MethodId} {args : Array Value} {below : List Frame} {meth : Method} {c : Code} {H : Heap} {locs : List Loc} {cells slots : Nat} {Q : State → Prop} {cc : ByteArray} {pc : Nat} {ls : Array Slot} {rest : List Value} {D : va_G} {cA : Nat → ClassId} {A : Nat → Prop} {φ : Nat → Nat → Nat} {h : HP} {own : String} {nL : Nat} {k i sl idx : Nat}
theorem r_get (X : CX p s m args c cc own nL D cA A) (hW : HW D cA A φ h H) (hi : i < gn h k) {cd : Nat} (hf : FL own idx k sl cd) (hdg : decode cc pc = .ok (.getfield idx, 3))
    (kk : W p l e R s m args below meth c H locs cells slots Q (F0 m (pc + 3) ls (fv h φ k i sl cd :: rest))) : W p l e R s m args below meth c H locs cells slots Q (F0 m pc ls (.ref (φ k i) :: rest)) := by
  obtain ⟨hx, hb, -, hown, hts, ⟨hK, -⟩, -⟩ := X
  obtain ⟨ws, hP, hD, hcomp, -, -, -⟩ := hW
  obtain ⟨C, T, N, cs, hk, hc, hcl, hN, hin, hlink⟩ := hf
  obtain ⟨q, hq⟩ := hcomp k i hi
  rw [ce_obj hk] at hq
  exact va_get (D := D) hx hb hts hin hown hK hP q hq hcl sl hN (hts _ hlink) (fun _ h9 => h9) (v := fv h φ k i sl cd) (by rw [List.getElem?_mapIdx, hc]; rfl) hdg kk
theorem r_geti (X : CX p s m args c cc own nL D cA A) (hW : HW D cA A φ h H) (hi : i < gn h k) (hf : FL own idx k sl 0) (hdg : decode cc pc = .ok (.getfield idx, 3))
    (kk : W p l e R s m args below meth c H locs cells slots Q (F0 m (pc + 3) ls (.int (gi h k i sl) :: rest))) : W p l e R s m args below meth c H locs cells slots Q (F0 m pc ls (.ref (φ k i) :: rest)) := r_get X hW hi hf hdg kk
theorem r_getl (X : CX p s m args c cc own nL D cA A) (hW : HW D cA A φ h H) (hi : i < gn h k) (hf : FL own idx k sl 1) (hdg : decode cc pc = .ok (.getfield idx, 3))
    (kk : W p l e R s m args below meth c H locs cells slots Q (F0 m (pc + 3) ls (.long (gl h k i sl) :: rest))) : W p l e R s m args below meth c H locs cells slots Q (F0 m pc ls (.ref (φ k i) :: rest)) := r_get X hW hi hf hdg kk
/-- a field that holds a cell: it is of the kind kr, and it stands -/
theorem r_getr (X : CX p s m args c cc own nL D cA A) (hW : HW D cA A φ h H) (hi : i < gn h k) {kr j : Nat} (hf : FL own idx k sl (kr + 4)) (hj : gr h k i sl = some j) (hdg : decode cc pc = .ok (.getfield idx, 3))
    (kk : j < gn h kr → W p l e R s m args below meth c H locs cells slots Q (F0 m (pc + 3) ls (.ref (φ kr j) :: rest))) : W p l e R s m args below meth c H locs cells slots Q (F0 m pc ls (.ref (φ k i) :: rest)) := by
  have hlt : j < gn h kr := by
    obtain ⟨ws, -, -, -, -, -, hr⟩ := hW
    obtain ⟨C, T, N, cs, hk, hc, -⟩ := hf
    have e := kc_obj hk hc
    have := hr k i sl j hi hj (by omega)
    rw [e] at this
    exact this
  refine r_get X hW hi hf hdg ?_
  have e : fv h φ k i sl (kr + 4) = .ref (φ kr j) := by
    unfold fv
    rw [if_neg (by omega), if_neg (by omega), hj]
    rfl
  rw [e]
  exact kk hlt
theorem r_puti (X : CX p s m args c cc own nL D cA A) (hW : HW D cA A φ h H) (hS : va_S A s.heap H locs) (hi : i < gn h k) {v : Int32} {ty : FieldType} (hf : FP own idx k sl 0 ty false) (hn : narrow ty (.int v) = .int v) (hfit : fits ty (.int v) = true) (hdg : decode cc pc = .ok (.putfield idx, 3))
    (kk : ∀ (H1 : Heap) (locs1 : List Loc), HW D cA A φ (si h k i sl v) H1 → va_S A s.heap H1 locs1 → W p l e R s m args below meth c H1 locs1 cells slots Q (F0 m (pc + 3) ls rest)) : W p l e R s m args below meth c H locs cells slots Q (F0 m pc ls (.int v :: .ref (φ k i) :: rest)) := by
  obtain ⟨hx, hb, -, hown, hts, ⟨hK, -⟩, -⟩ := X
  obtain ⟨ws, hP, hD, hcomp, hsnd, hinj, hro⟩ := hW
  obtain ⟨C, T, N, cs, ty0, hk, hc, hcl, hN, hin, hlink, hty, hnm, hfin, hd, -⟩ := hf
  obtain ⟨q, hq⟩ := hcomp k i hi
  have hq' := hq
  rw [ce_obj hk] at hq'
  refine va_put (D := D) hx hb hts hin ty0 hty hnm hown hK hP hD hS q hq' hcl sl hN (hts _ hlink) (fun _ h9 => h9) hfin hd hn hfit (by rw [List.length_mapIdx]; exact (List.getElem?_eq_some_iff.mp hc).1) hdg (fun H1 locs1 hP1 hD1 hS1 => ?_)
  rw [fs_si h k i sl v hc (by omega) (by omega)] at hP1 hD1
  exact kk H1 locs1 (HW.set hcomp hsnd hinj hi hq hP1 hD1 (gn_si ..) (ce_obj hk).symm (off_si h k i sl v) (RO_si hro k i sl v)) hS1
theorem r_putiF (X : CX p s m args c cc own nL D cA A) (hW : HW D cA A φ h H) (hS : va_S A s.heap H locs) (hin2 : meth.name = "<init>") (hi : i < gn h k) {v : Int32} {ty : FieldType} (hf : FP own idx k sl 0 ty true) (hn : narrow ty (.int v) = .int v) (hfit : fits ty (.int v) = true) (hdg : decode cc pc = .ok (.putfield idx, 3))
    (kk : ∀ (H1 : Heap) (locs1 : List Loc), HW D cA A φ (si h k i sl v) H1 → va_S A s.heap H1 locs1 → W p l e R s m args below meth c H1 locs1 cells slots Q (F0 m (pc + 3) ls rest)) : W p l e R s m args below meth c H locs cells slots Q (F0 m pc ls (.int v :: .ref (φ k i) :: rest)) := by
  obtain ⟨hx, hb, -, hown, hts, ⟨hK, -⟩, -⟩ := X
  obtain ⟨ws, hP, hD, hcomp, hsnd, hinj, hro⟩ := hW
  obtain ⟨C, T, N, cs, ty0, hk, hc, hcl, hN, hin, hlink, hty, hnm, hfin, hd, hdecl⟩ := hf
  obtain ⟨q, hq⟩ := hcomp k i hi
  have hq' := hq
  rw [ce_obj hk] at hq'
  refine va_putF (D := D) hx hb hts hin ty0 hty hnm hown hK hP hD hS q hq' hcl sl hN (hts _ hlink) (fun _ h9 => h9) hfin hin2 (hdecl rfl) hd hn hfit (by rw [List.length_mapIdx]; exact (List.getElem?_eq_some_iff.mp hc).1) hdg (fun H1 locs1 hP1 hD1 hS1 => ?_)
  rw [fs_si h k i sl v hc (by omega) (by omega)] at hP1 hD1
  exact kk H1 locs1 (HW.set hcomp hsnd hinj hi hq hP1 hD1 (gn_si ..) (ce_obj hk).symm (off_si h k i sl v) (RO_si hro k i sl v)) hS1
theorem r_putl (X : CX p s m args c cc own nL D cA A) (hW : HW D cA A φ h H) (hS : va_S A s.heap H locs) (hi : i < gn h k) {v : Int64} (hf : FP own idx k sl 1 .long false) (hdg : decode cc pc = .ok (.putfield idx, 3))
    (kk : ∀ (H1 : Heap) (locs1 : List Loc), HW D cA A φ (sL h k i sl v) H1 → va_S A s.heap H1 locs1 → W p l e R s m args below meth c H1 locs1 cells slots Q (F0 m (pc + 3) ls rest)) : W p l e R s m args below meth c H locs cells slots Q (F0 m pc ls (.long v :: .ref (φ k i) :: rest)) := by
  obtain ⟨hx, hb, -, hown, hts, ⟨hK, -⟩, -⟩ := X
  obtain ⟨ws, hP, hD, hcomp, hsnd, hinj, hro⟩ := hW
  obtain ⟨C, T, N, cs, ty0, hk, hc, hcl, hN, hin, hlink, hty, hnm, hfin, hd, -⟩ := hf
  obtain ⟨q, hq⟩ := hcomp k i hi
  have hq' := hq
  rw [ce_obj hk] at hq'
  refine va_put (D := D) hx hb hts hin ty0 hty hnm hown hK hP hD hS q hq' hcl sl hN (hts _ hlink) (fun _ h9 => h9) hfin hd rfl rfl (by rw [List.length_mapIdx]; exact (List.getElem?_eq_some_iff.mp hc).1) hdg (fun H1 locs1 hP1 hD1 hS1 => ?_)
  rw [fs_sl h k i sl v hc] at hP1 hD1
  exact kk H1 locs1 (HW.set hcomp hsnd hinj hi hq hP1 hD1 (gn_sl ..) (ce_obj hk).symm (off_sl h k i sl v) (RO_sl hro k i sl v)) hS1
theorem r_putrF (X : CX p s m args c cc own nL D cA A) (hW : HW D cA A φ h H) (hS : va_S A s.heap H locs) (hin2 : meth.name = "<init>") (hi : i < gn h k) {kr j : Nat} {ty : FieldType} (hj : j < gn h kr) (hf : FP own idx k sl (kr + 4) ty true) (hn : narrow ty (.ref (φ kr j)) = .ref (φ kr j)) (hfit : fits ty (.ref (φ kr j)) = true) (hdg : decode cc pc = .ok (.putfield idx, 3))
    (kk : ∀ (H1 : Heap) (locs1 : List Loc), HW D cA A φ (sr h k i sl (some j)) H1 → va_S A s.heap H1 locs1 → W p l e R s m args below meth c H1 locs1 cells slots Q (F0 m (pc + 3) ls rest)) : W p l e R s m args below meth c H locs cells slots Q (F0 m pc ls (.ref (φ kr j) :: .ref (φ k i) :: rest)) := by
  obtain ⟨hx, hb, -, hown, hts, ⟨hK, -⟩, -⟩ := X
  obtain ⟨ws, hP, hD, hcomp, hsnd, hinj, hro⟩ := hW
  obtain ⟨C, T, N, cs, ty0, hk, hc, hcl, hN, hin, hlink, hty, hnm, hfin, hd, hdecl⟩ := hf
  obtain ⟨q, hq⟩ := hcomp k i hi
  have hq' := hq
  rw [ce_obj hk] at hq'
  refine va_putF (D := D) hx hb hts hin ty0 hty hnm hown hK hP hD hS q hq' hcl sl hN (hts _ hlink) (fun _ h9 => h9) hfin hin2 (hdecl rfl) hd hn hfit (by rw [List.length_mapIdx]; exact (List.getElem?_eq_some_iff.mp hc).1) hdg (fun H1 locs1 hP1 hD1 hS1 => ?_)
  rw [fs_sr h k i sl j hc] at hP1 hD1
  exact kk H1 locs1 (HW.set hcomp hsnd hinj hi hq hP1 hD1 (gn_sr ..) (ce_obj hk).symm (off_sr h k i sl (some j)) (RO_sr hro _ _ _ _ (fun _ => by rw [kc_obj hk hc]; exact hj))) hS1
/-- an index within a row -/
theorem ib_in {j : Int32} {n : Nat} (h : ib j n = true) : vp_in j n := by
  unfold ib at h
  unfold vp_in
  exact of_decide_eq_true h
theorem r_iald (X : CX p s m args c cc own nL D cA A) (hW : HW D cA A φ h H) (hi : i < gn h k) {n : Nat} {j : Int32} (hk : KT k = .inr (0, n)) (hj : ib j n = true) (hdg : decode cc pc = .ok (.iaload, 1))
    (kk : W p l e R s m args below meth c H locs cells slots Q (F0 m (pc + 1) ls (.int (gi h k i j.toNatClampNeg) :: rest))) : W p l e R s m args below meth c H locs cells slots Q (F0 m pc ls (.int j :: .ref (φ k i) :: rest)) := by
  obtain ⟨hx, hb, -, hown, hts, ⟨hK, -⟩, -⟩ := X
  obtain ⟨ws, hP, hD, hcomp, -, -, -⟩ := hW
  obtain ⟨q, hq⟩ := hcomp k i hi
  rw [ce_arr hk] at hq
  exact va_iald hx hb hK hP q 0 (f := gi h k i) hq rfl (ib_in hj) hdg kk
theorem r_cald (X : CX p s m args c cc own nL D cA A) (hW : HW D cA A φ h H) (hi : i < gn h k) {n : Nat} {j : Int32} (hk : KT k = .inr (2, n)) (hj : ib j n = true) (hdg : decode cc pc = .ok (.caload, 1))
    (kk : W p l e R s m args below meth c H locs cells slots Q (F0 m (pc + 1) ls (.int (gi h k i j.toNatClampNeg) :: rest))) : W p l e R s m args below meth c H locs cells slots Q (F0 m pc ls (.int j :: .ref (φ k i) :: rest)) := by
  obtain ⟨hx, hb, -, hown, hts, ⟨hK, -⟩, -⟩ := X
  obtain ⟨ws, hP, hD, hcomp, -, -, -⟩ := hW
  obtain ⟨q, hq⟩ := hcomp k i hi
  rw [ce_arr hk] at hq
  exact va_cald hx hb hK hP q 2 (f := gi h k i) hq rfl (ib_in hj) hdg kk
theorem r_lald (X : CX p s m args c cc own nL D cA A) (hW : HW D cA A φ h H) (hi : i < gn h k) {n : Nat} {j : Int32} (hk : KT k = .inr (1, n)) (hj : ib j n = true) (hdg : decode cc pc = .ok (.laload, 1))
    (kk : W p l e R s m args below meth c H locs cells slots Q (F0 m (pc + 1) ls (.long (gl h k i j.toNatClampNeg) :: rest))) : W p l e R s m args below meth c H locs cells slots Q (F0 m pc ls (.int j :: .ref (φ k i) :: rest)) := by
  obtain ⟨hx, hb, -, hown, hts, ⟨hK, -⟩, -⟩ := X
  obtain ⟨ws, hP, hD, hcomp, -, -, -⟩ := hW
  obtain ⟨q, hq⟩ := hcomp k i hi
  rw [ce_arr hk] at hq
  exact va_lald hx hb hK hP q 1 (f := gl h k i) hq rfl (ib_in hj) hdg kk
/-- a row of cells of the kind kr; t0: the place of its class among the array classes -/
theorem r_aald (X : CX p s m args c cc own nL D cA A) (hW : HW D cA A φ h H) (hi : i < gn h k) {n kr t0 : Nat} {j : Int32} {C : String} (hk : KT k = .inr (kr + 4, n)) (ht : (tysL cA)[t0]? = some (cA (kr + 4), .object C)) {o : Nat} (hj : ib j n = true) (ho : gr h k i j.toNatClampNeg = some o) (hdg : decode cc pc = .ok (.aaload, 1))
    (kk : o < gn h kr → W p l e R s m args below meth c H locs cells slots Q (F0 m (pc + 1) ls (.ref (φ kr o) :: rest))) : W p l e R s m args below meth c H locs cells slots Q (F0 m pc ls (.int j :: .ref (φ k i) :: rest)) := by
  have hlt : o < gn h kr := by
    obtain ⟨ws, -, -, -, -, -, hr⟩ := hW
    have e := kc_arr (s := j.toNatClampNeg) hk
    have := hr k i _ o hi ho (by omega)
    rw [e] at this
    exact this
  obtain ⟨hx, hb, -, hown, hts, ⟨hK, -⟩, -⟩ := X
  obtain ⟨ws, hP, hD, hcomp, -, -, -⟩ := hW
  obtain ⟨q, hq⟩ := hcomp k i hi
  rw [ce_arr hk] at hq
  unfold ac at hq
  rw [if_neg (by omega), if_neg (by omega)] at hq
  refine va_aldq hx hb hK hP q t0 hq ht (ib_in hj) hdg ?_
  have e : va_rf ((gr h k i j.toNatClampNeg).map (φ (kr + 4 - 4))) = .ref (φ kr o) := by rw [ho]; rfl
  rw [e]
  exact kk hlt
theorem r_iast (X : CX p s m args c cc own nL D cA A) (hW : HW D cA A φ h H) (hS : va_S A s.heap H locs) (hi : i < gn h k) {n : Nat} {j v : Int32} (hk : KT k = .inr (0, n)) (hj : ib j n = true) (hdg : decode cc pc = .ok (.iastore, 1))
    (kk : ∀ (H1 : Heap) (locs1 : List Loc), HW D cA A φ (si h k i j.toNatClampNeg v) H1 → va_S A s.heap H1 locs1 → W p l e R s m args below meth c H1 locs1 cells slots Q (F0 m (pc + 1) ls rest)) : W p l e R s m args below meth c H locs cells slots Q (F0 m pc ls (.int v :: .int j :: .ref (φ k i) :: rest)) := by
  obtain ⟨hx, hb, -, hown, hts, ⟨hK, -⟩, -⟩ := X
  obtain ⟨ws, hP, hD, hcomp, hsnd, hinj, hro⟩ := hW
  obtain ⟨q, hq⟩ := hcomp k i hi
  have hq' := hq
  rw [ce_arr hk] at hq'
  refine va_iast hx hb hK hP hD hS q 0 (f := gi h k i) hq' rfl (ib_in hj) hdg (fun H1 locs1 hP1 hD1 hS1 => ?_)
  exact kk H1 locs1 (HW.set hcomp hsnd hinj hi hq hP1 hD1 (gn_si ..) (by rw [ce_arr hk]; show _ = Sum.inl (cA 0, n, Sum.inl (up3 h.1 k i j.toNatClampNeg v k i)); rw [up3_at]; rfl) (off_si h k i j.toNatClampNeg v) (RO_si hro k i j.toNatClampNeg v)) hS1
theorem r_cast (X : CX p s m args c cc own nL D cA A) (hW : HW D cA A φ h H) (hS : va_S A s.heap H locs) (hi : i < gn h k) {n : Nat} {j v : Int32} (hk : KT k = .inr (2, n)) (hj : ib j n = true) (hdg : decode cc pc = .ok (.castore, 1))
    (kk : ∀ (H1 : Heap) (locs1 : List Loc), HW D cA A φ (si h k i j.toNatClampNeg (vp_nar .char v)) H1 → va_S A s.heap H1 locs1 → W p l e R s m args below meth c H1 locs1 cells slots Q (F0 m (pc + 1) ls rest)) : W p l e R s m args below meth c H locs cells slots Q (F0 m pc ls (.int v :: .int j :: .ref (φ k i) :: rest)) := by
  obtain ⟨hx, hb, -, hown, hts, ⟨hK, -⟩, -⟩ := X
  obtain ⟨ws, hP, hD, hcomp, hsnd, hinj, hro⟩ := hW
  obtain ⟨q, hq⟩ := hcomp k i hi
  have hq' := hq
  rw [ce_arr hk] at hq'
  refine va_cast hx hb hK hP hD hS q 2 (f := gi h k i) hq' rfl (ib_in hj) hdg (fun H1 locs1 hP1 hD1 hS1 => ?_)
  exact kk H1 locs1 (HW.set hcomp hsnd hinj hi hq hP1 hD1 (gn_si ..) (by rw [ce_arr hk]; show _ = Sum.inl (cA 2, n, Sum.inl (up3 h.1 k i j.toNatClampNeg (vp_nar .char v) k i)); rw [up3_at]; rfl) (off_si h k i j.toNatClampNeg _) (RO_si hro k i j.toNatClampNeg _)) hS1
theorem r_last (X : CX p s m args c cc own nL D cA A) (hW : HW D cA A φ h H) (hS : va_S A s.heap H locs) (hi : i < gn h k) {n : Nat} {j : Int32} {v : Int64} (hk : KT k = .inr (1, n)) (hj : ib j n = true) (hdg : decode cc pc = .ok (.lastore, 1))
    (kk : ∀ (H1 : Heap) (locs1 : List Loc), HW D cA A φ (sL h k i j.toNatClampNeg v) H1 → va_S A s.heap H1 locs1 → W p l e R s m args below meth c H1 locs1 cells slots Q (F0 m (pc + 1) ls rest)) : W p l e R s m args below meth c H locs cells slots Q (F0 m pc ls (.long v :: .int j :: .ref (φ k i) :: rest)) := by
  obtain ⟨hx, hb, -, hown, hts, ⟨hK, -⟩, -⟩ := X
  obtain ⟨ws, hP, hD, hcomp, hsnd, hinj, hro⟩ := hW
  obtain ⟨q, hq⟩ := hcomp k i hi
  have hq' := hq
  rw [ce_arr hk] at hq'
  refine va_last hx hb hK hP hD hS q 1 (f := gl h k i) hq' rfl (ib_in hj) hdg (fun H1 locs1 hP1 hD1 hS1 => ?_)
  exact kk H1 locs1 (HW.set hcomp hsnd hinj hi hq hP1 hD1 (gn_sl ..) (by rw [ce_arr hk]; show _ = Sum.inl (cA 1, n, Sum.inr (Sum.inl (up3 h.2.1 k i j.toNatClampNeg v k i))); rw [up3_at]; rfl) (off_sl h k i j.toNatClampNeg v) (RO_sl hro k i j.toNatClampNeg v)) hS1
theorem r_aast (X : CX p s m args c cc own nL D cA A) (hW : HW D cA A φ h H) (hS : va_S A s.heap H locs) (hi : i < gn h k) {n kr t0 o : Nat} {j : Int32} {r : vw_C} {cs : List Nat} (hk : KT k = .inr (kr + 4, n)) (ht : (tysL cA)[t0]? = some (cA (kr + 4), .object r.1)) (hc : classes[kr]? = some r) (hkr : KT kr = .inl cs) (ho : o < gn h kr) (hj : ib j n = true) (hdg : decode cc pc = .ok (.aastore, 1))
    (kk : ∀ (H1 : Heap) (locs1 : List Loc), HW D cA A φ (sr h k i j.toNatClampNeg (some o)) H1 → va_S A s.heap H1 locs1 → W p l e R s m args below meth c H1 locs1 cells slots Q (F0 m (pc + 1) ls rest)) : W p l e R s m args below meth c H locs cells slots Q (F0 m pc ls (.ref (φ kr o) :: .int j :: .ref (φ k i) :: rest)) := by
  obtain ⟨hx, hb, -, hown, hts, ⟨hK, -⟩, -⟩ := X
  obtain ⟨ws, hP, hD, hcomp, hsnd, hinj, hro⟩ := hW
  obtain ⟨q, hq⟩ := hcomp k i hi
  obtain ⟨q1, hq1⟩ := hcomp kr o ho
  have hq' := hq
  rw [ce_arr hk] at hq'
  unfold ac at hq'
  rw [if_neg (by omega), if_neg (by omega)] at hq'
  rw [ce_obj hkr] at hq1
  refine va_astq hx hb hK hP hD hS q t0 q1 kr hq' ht hq1 hc (ib_in hj) hdg (fun H1 locs1 hP1 hD1 hS1 => ?_)
  refine kk H1 locs1 (HW.set hcomp hsnd hinj hi hq hP1 hD1 (gn_sr ..) ?_ (off_sr h k i j.toNatClampNeg (some o)) (RO_sr hro _ _ _ _ (fun _ => by rw [kc_arr hk]; exact ho))) hS1
  rw [ce_arr hk]
  unfold ac
  rw [if_neg (by omega), if_neg (by omega)]
  congr 7
  funext t
  rw [gr_sr]
  unfold va_up
  by_cases ht : t = j.toNatClampNeg
  · simp [ht]
  · simp [ht]
theorem r_alen (X : CX p s m args c cc own nL D cA A) (hW : HW D cA A φ h H) (hi : i < gn h k) {cd n t0 : Nat} {ty : FieldType} {v : Int32} (hk : KT k = .inr (cd, n)) (ht : (tysL cA)[t0]? = some (cA cd, ty)) (hv : Int32.ofNat n = v) (hdg : decode cc pc = .ok (.arraylength, 1))
    (kk : W p l e R s m args below meth c H locs cells slots Q (F0 m (pc + 1) ls (.int v :: rest))) : W p l e R s m args below meth c H locs cells slots Q (F0 m pc ls (.ref (φ k i) :: rest)) := by
  obtain ⟨hx, hb, -, hown, hts, ⟨hK, -⟩, -⟩ := X
  obtain ⟨ws, hP, hD, hcomp, -, -, -⟩ := hW
  obtain ⟨q, hq⟩ := hcomp k i hi
  rw [ce_arr hk] at hq
  exact va_alen hx hb hK hP q t0 hq ht hv hdg kk
end RW
