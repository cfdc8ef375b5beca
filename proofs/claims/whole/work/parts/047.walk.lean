/-! small words of the walks -/
abbrev DP : Type := (Nat → Nat → Nat → Int32) × (Nat → Nat → Nat → Int64)
def dp (h : HP) : DP := (h.1, h.2.1)
def wd (h : HP) (d : DP) : HP := (d.1, d.2, h.2.2)
theorem wd_dp {h h2 : HP} (e : h2.2.2 = h.2.2) : wd h (dp h2) = h2 := by
  unfold wd dp
  rw [← e]
theorem sj {α : Type} {a b : α} (h : some a = some b) : a = b := Option.some.inj h
theorem sj2 {α β : Type} {a b : α} {x y : β} (h : some (a, x) = some (b, y)) : a = b ∧ x = y := by
  have e := Option.some.inj h
  exact ⟨congrArg Prod.fst e, congrArg Prod.snd e⟩
theorem nmx {α β : Type} {e : α} {f : α → β} {r : β} (h : nm e f = r) : ∃ x, x = e ∧ f x = r := ⟨e, rfl, h⟩
theorem it {α : Type} {c : Prop} {d : Decidable c} {a b r : α} (hc : c) (h : (@ite α c d a b) = r) : a = r := by rw [if_pos hc] at h; exact h
theorem ie {α : Type} {c : Prop} {d : Decidable c} {a b r : α} (hc : ¬ c) (h : (@ite α c d a b) = r) : b = r := by rw [if_neg hc] at h; exact h
theorem gq {h h1 : HP} {k i : Nat} (e : h1.2.2 = h.2.2) (a : i < gn h k) : i < gn h1 k := by
  unfold gn at *
  rw [e]
  exact a
theorem qg {h h1 : HP} {k i : Nat} (e : h1.2.2 = h.2.2) (a : i < gn h1 k) : i < gn h k := by
  unfold gn at *
  rw [← e]
  exact a
theorem sq {h h1 hb : HP} (e1 : h1.2.2 = h.2.2) (e2 : hb.2.2 = h.2.2) : h1.2.2 = hb.2.2 := e1.trans e2.symm
theorem nmW {D : va_G} {cA : Nat → ClassId} {A : Nat → Prop} {φ : Nat → Nat → Nat} {h1 h2 : HP} {H : Heap} (e : h1 = h2) (hW : HW D cA A φ h2 H) : HW D cA A φ h1 H := by rw [e]; exact hW
theorem wdW {D : va_G} {cA : Nat → ClassId} {A : Nat → Prop} {φ : Nat → Nat → Nat} {h h2 : HP} {H : Heap} (e : h2.2.2 = h.2.2) (hW : HW D cA A φ h2 H) : HW D cA A φ (wd h (dp h2)) H := by rw [wd_dp e]; exact hW
section NMS
variable {p : Program} {l : Launch} {e : Env} {R : Room} {s : State} {m : MethodId} {args : Array Value} {below : List Frame} {meth : Method} {c : Code} {H : Heap} {locs : List Loc} {cells slots : Nat} {Q : State → Prop} {pc : Nat} {ls : Array Slot} {rest : List Value}
theorem nmi {x y : Int32} (e0 : y = x) (k : W p l e R s m args below meth c H locs cells slots Q (F0 m pc ls (.int y :: rest))) : W p l e R s m args below meth c H locs cells slots Q (F0 m pc ls (.int x :: rest)) := by rw [← e0]; exact k
theorem nml {x y : Int64} (e0 : y = x) (k : W p l e R s m args below meth c H locs cells slots Q (F0 m pc ls (.long y :: rest))) : W p l e R s m args below meth c H locs cells slots Q (F0 m pc ls (.long x :: rest)) := by rw [← e0]; exact k
end NMS
def u2 {a b γ : Type} (q : a × b) (f : a → b → γ) : γ := f q.1 q.2
def u3 {a b c γ : Type} (q : a × b × c) (f : a → b → c → γ) : γ := f q.1 q.2.1 q.2.2
def u4 {a b c d γ : Type} (q : a × b × c × d) (f : a → b → c → d → γ) : γ := f q.1 q.2.1 q.2.2.1 q.2.2.2
def u5 {a b c d e γ : Type} (q : a × b × c × d × e) (f : a → b → c → d → e → γ) : γ := f q.1 q.2.1 q.2.2.1 q.2.2.2.1 q.2.2.2.2
def u6 {a b c d e g γ : Type} (q : a × b × c × d × e × g) (f : a → b → c → d → e → g → γ) : γ := f q.1 q.2.1 q.2.2.1 q.2.2.2.1 q.2.2.2.2.1 q.2.2.2.2.2
theorem u2d {a b γ : Type} {x : a} {y : b} {f : a → b → γ} {r : γ} (h : u2 (x, y) f = r) : f x y = r := h
theorem u3d {a b c γ : Type} {x : a} {y : b} {z : c} {f : a → b → c → γ} {r : γ} (h : u3 (x, y, z) f = r) : f x y z = r := h
theorem u4d {a b c d γ : Type} {x : a} {y : b} {z : c} {t : d} {f : a → b → c → d → γ} {r : γ} (h : u4 (x, y, z, t) f = r) : f x y z t = r := h
theorem u5d {a b c d e γ : Type} {x : a} {y : b} {z : c} {t : d} {v : e} {f : a → b → c → d → e → γ} {r : γ} (h : u5 (x, y, z, t, v) f = r) : f x y z t v = r := h
theorem u6d {a b c d e g γ : Type} {x : a} {y : b} {z : c} {t : d} {v : e} {w : g} {f : a → b → c → d → e → g → γ} {r : γ} (h : u6 (x, y, z, t, v, w) f = r) : f x y z t v w = r := h
def ushr (x y : Int32) : Int32 := (x.toUInt32 >>> (y.toUInt32 &&& Int32.toUInt32 31)).toInt32
theorem AL_sel {y : MethodName} (j : Nat) (h : (lw_privs.map Prod.fst)[j]? = some y) : Cond.selects y.cls y y ∈ AL := by
  refine List.mem_filter.mpr ⟨List.mem_append_left _ ?_, rfl⟩
  unfold k2_sels
  have := List.mem_of_getElem? h
  obtain ⟨q, hq, e⟩ := List.mem_map.mp this
  exact List.mem_map.mpr ⟨q, hq, by rw [← e]⟩
/-- System.arraycopy of ints -/
def acpB (n0 n1 : Nat) (sp dpp n : Int32) : Bool := decide (¬ sp < 0) && decide (¬ dpp < 0) && decide (¬ n < 0) && decide (sp.toNatClampNeg + n.toNatClampNeg ≤ n0) && decide (dpp.toNatClampNeg + n.toNatClampNeg ≤ n1)
def acp (h : HP) (k0 i0 n0 : Nat) (sp : Int32) (k1 i1 n1 : Nat) (dpp n : Int32) : Option HP := if acpB n0 n1 sp dpp n = true then some (srow h k1 i1 (va_cpy (gi h k0 i0) (gi h k1 i1) sp.toNatClampNeg dpp.toNatClampNeg n.toNatClampNeg)) else none
theorem acp_s {h h1 : HP} {k0 i0 n0 k1 i1 n1 : Nat} {sp dpp n : Int32} (e : acp h k0 i0 n0 sp k1 i1 n1 dpp n = some h1) : acpB n0 n1 sp dpp n = true ∧ h1 = srow h k1 i1 (va_cpy (gi h k0 i0) (gi h k1 i1) sp.toNatClampNeg dpp.toNatClampNeg n.toNatClampNeg) := by
  unfold acp at e
  split at e
  · exact ⟨‹_›, (Option.some.inj e).symm⟩
  · cases e
section ACP
variable {p : Program} {l : Launch} {e : Env} {R : Room} {s : State} {m : MethodId} {args : Array Value} {below : List Frame} {meth : Method} {c : Code} {H : Heap} {locs : List Loc} {cells slots : Nat} {Q : State → Prop} {cc : ByteArray} {pc : Nat} {ls : Array Slot} {rest : List Value} {D : va_G} {cA : Nat → ClassId} {A : Nat → Prop} {φ : Nat → Nat → Nat} {h : HP} {own : String} {nL : Nat} {k0 i0 k1 i1 n0 n1 idx : Nat} {sp dpp n : Int32}
theorem r_acp (X : CX p s m args c cc own nL D cA A) (hW : HW D cA A φ h H) (hS : va_S A s.heap H locs) (hsz : ls.size = nL) (h0 : i0 < gn h k0) (h1 : i1 < gn h k1) (hk0 : KT k0 = .inr (0, n0)) (hk1 : KT k1 = .inr (0, n1)) (hb0 : acpB n0 n1 sp dpp n = true) (wl : Cond.methodLink own idx arraycopyName ∈ AL)
    (hfr : 1 ≤ R.frames) (hlo : (rest.map fun v => v.category).sum + (nativeFrameWords "java/lang/System" "arraycopy" 5 + 11) ≤ R.locals) (hdg : decode cc pc = .ok (.invokestatic idx, 3))
    (kk : ∀ (H1 : Heap) (locs1 : List Loc), HW D cA A φ (srow h k1 i1 (va_cpy (gi h k0 i0) (gi h k1 i1) sp.toNatClampNeg dpp.toNatClampNeg n.toNatClampNeg)) H1 → va_S A s.heap H1 locs1 → W p l e R s m args below meth c H1 locs1 cells slots Q (F0 m (pc + 3) ls rest)) :
    W p l e R s m args below meth c H locs cells slots Q (F0 m pc ls (.int n :: .int dpp :: .ref (φ k1 i1) :: .int sp :: .ref (φ k0 i0) :: rest)) := by
  obtain ⟨hx, hb, hml, hown, hts, ⟨hK, -⟩, -, hA⟩ := X
  obtain ⟨ws, hP, hD, hcomp, hsnd, hinj, hro⟩ := hW
  obtain ⟨q0, hq0⟩ := hcomp k0 i0 h0
  obtain ⟨q1, hq1⟩ := hcomp k1 i1 h1
  have hq0' := hq0
  have hq1' := hq1
  rw [ce_arr hk0] at hq0'
  rw [ce_arr hk1] at hq1'
  unfold acpB at hb0
  simp only [Bool.and_eq_true, decide_eq_true_eq] at hb0
  obtain ⟨⟨⟨⟨b1, b2⟩, b3⟩, b4⟩, b5⟩ := hb0
  refine va_copyi hx hb (hml.trans hsz.symm) hown (hts _ wl) (hts _ (AL_of 946 (by decide +kernel) rfl)) (hts _ (AL_of 945 (by decide +kernel) rfl)) (hts _ (AL_of 17 (by decide +kernel) rfl)) hK hP hD hS q0 q1 0 0 (f := gi h k0 i0) (g := gi h k1 i1) (ty := .int) hq0' hq1' rfl rfl rfl b1 b2 b3 b4 b5 (fun _ _ => rfl) hfr hlo hdg (fun H1 locs1 hP1 hD1 hS1 => ?_)
  refine kk H1 locs1 (HW.set hcomp hsnd hinj h1 hq1 hP1 hD1 (gn_srow ..) ?_ (off_srow h k1 i1 _) (RO_srow hro k1 i1 _)) hS1
  rw [ce_arr hk1]
  unfold ac
  rw [if_neg (by omega), if_pos (by omega)]
  congr 4
  funext t
  rw [gi_srow, if_pos ⟨rfl, rfl⟩]
end ACP
