/-! THE CLAIM OUT OF ONE WALK OF THE LAW'S BODY. Your part is whole_start (and what it stands on); all else here is the same for every law, but numbers. -/
def R_law : String := "BellYardsLaw"
def lw_P (b : Addr) (xs : List Int32) (args : Array Value) (s : State) : Prop := args = #[.ref b] ∧ s.IntsAt b xs ∧ xs.length ≤ 3072 ∧ (Jvm.Cond.and given_1 narrow_1).before args s = true
def lw_Q (_ : Array Value) (s : State) (o : Outcome) (t : State) : Prop := o = .returned (some (.int 1)) ∧ Framed s o t [] 600000 7302250
def lw_Z (below : List Frame) (a : Array Value) (s : State) : State → Prop := fun t => ∃ o, t.status = .running ∧ Ended t below o ∧ lw_Q a s o t
/-- the law's own end, with 1 on the stack, nothing written that was there before, its room as the claim has it -/
theorem lw_ret {p : Program} {l : Launch} {e : Env} {s : State} {m : MethodId} {below : List Frame} {meth : Method} {c : Code} {b : Nat} (hx : p.tables.exec = Jvm.exec) (hb : c.code = code) (hr : meth.sig.returnType = ret) (hlocks : meth.locks = false) {pc : Nat} {H : Heap} {ls : Array Slot} (hdg : decode code pc = .ok (.ireturn, 1)) : W p l e room_1 s m #[Value.ref b] below meth c H [] 600000 7302250 (lw_Z below #[Value.ref b] s) (F0 m pc ls [.int 1]) := by
  intro T hT X
  obtain ⟨fs, hret, hrun, hended, hW, hframe⟩ := X.leave (v := some (.int 1)) (hlocks := hlocks) (fun h => by rw [hr] at h; cases h)
  have hmeth' : T.vm.method? m = some meth := X.method'
  refine ⟨T.setFrames fs, ?_, .returned (some (.int 1)), hrun, hended, rfl, ⟨_, rfl⟩, hW, hframe⟩
  jvm_step X.here [X.here.top, hx, hb, hdg, hmeth', hr, ret, narrow_b1]
  (try refine ⟨rfl, ?_⟩); (try refine ⟨rfl, ?_⟩)
  first | (intro acts; rw [hret _ acts rfl rfl rfl]) | rw [hret _ _ rfl rfl rfl]
  exact Steps.refl _
/-- what holds at the law's entry: the machine, the code, the tables' words (any of lw_tbl by 'hts w (by decide +kernel)'), the script of L ints xs at the cell b, what the Statement gives of the start (any of its parts by flat_of_before) -/
def lw_At (p : Program) (s : State) (m : MethodId) (meth : Method) (c : Code) (b L : Nat) (xs : Nat → Int32) : Prop :=
  p.tables.exec = Jvm.exec ∧ c.code = code ∧ meth.sig.returnType = ret ∧ c.maxLocals = 4 ∧ s.vm.findClass R_law = some m.cls ∧ (∀ w ∈ lw_tbl, w.before #[Value.ref b] s = true) ∧ va_X b L xs s s.heap ∧ b < s.heap.size ∧ meth.locks = false ∧ (Jvm.Cond.and given_1 narrow_1).before #[Value.ref b] s = true
theorem cp_all : CPall RQ := ⟨p_pass, p_parish, p_moved, p_bell, p_read, p_tone, p_about, p_become, p_was, p_type, p_wipe, p_fault, p_letter, p_why, p_kept, p_list, p_gained, p_find, p_forget, p_could, p_next, p_laying, p_laid, p_tune, p_peal, p_step, p_batch, p_sets, p_held, p_melts, p_shorts, p_send, p_sent, p_claim, p_rank, p_whose, p_lands, p_sheet, p_lose, p_put, p_get, p_copy, p_write, p_count, p_digest⟩
theorem kn_int {args : Array Value} {s : State} (h : (Cond.arrayClass .int).before args s = true) : ∃ cA, ArrOfT s cA .int ∧ va_RA s cA .int := by
  obtain ⟨c, k, comp, h1, h2, h3⟩ := Cond.arrayClass_spec h
  exact ⟨c, fun n z => ⟨fun k h => (by cases h), k, h2, comp, h3⟩, h1⟩
theorem kn_long {args : Array Value} {s : State} (h : (Cond.arrayClass .long).before args s = true) : ∃ cA, ArrOfT s cA .long ∧ va_RA s cA .long := by
  obtain ⟨c, k, comp, h1, h2, h3⟩ := Cond.arrayClass_spec h
  exact ⟨c, fun n z => ⟨fun k h => (by cases h), k, h2, comp, h3⟩, h1⟩
theorem kn_char {args : Array Value} {s : State} (h : (Cond.arrayClass .char).before args s = true) : ∃ cA, ArrOfT s cA .char ∧ va_RA s cA .char := by
  obtain ⟨c, k, comp, h1, h2, h3⟩ := Cond.arrayClass_spec h
  exact ⟨c, fun n z => ⟨fun k h => (by cases h), k, h2, comp, h3⟩, h1⟩
theorem kn_obj {C : String} {args : Array Value} {s : State} (h : (Cond.arrayOver (.object C)).before args s = true) : ∃ cA, ArrOfT s cA (.object C) ∧ va_RA s cA (.object C) := by
  obtain ⟨comp, c, k, h1, h2, h3, h4, h5⟩ := Cond.arrayOver_spec h
  exact ⟨c, fun n z => ⟨fun k h => (by cases h), k, h3, comp, h4⟩, k, comp, h3, h4, h1, h5⟩
/-- the classes, their arrays and the nest's words at the law's entry -/
theorem kx_start {args : Array Value} {s : State} (hts : ∀ w ∈ lw_tbl, w.before args s = true) : ∃ (D : va_G) (cA : Nat → ClassId), KX D cA s := by
  have hta : ∀ w ∈ AL, w.before args s = true := fun w hw => hts w (AL_tbl hw)
  obtain ⟨c0, i0, k0⟩ := u_known (C := RX0) (T := TX0) (N := 8) (n := 8) hta iX0 (hts (.instantiable RX0 8) (by decide +kernel))
  obtain ⟨c1, i1, k1⟩ := u_known (C := RX1) (T := TX1) (N := 11) (n := 11) hta iX1 (hts (.instantiable RX1 11) (by decide +kernel))
  obtain ⟨c2, i2, k2⟩ := u_known (C := RX2) (T := TX2) (N := 2) (n := 2) hta iX2 (hts (.instantiable RX2 2) (by decide +kernel))
  obtain ⟨c3, i3, k3⟩ := u_known (C := RX3) (T := TX3) (N := 6) (n := 6) hta iX3 (hts (.instantiable RX3 6) (by decide +kernel))
  obtain ⟨c4, i4, k4⟩ := u_known (C := RX4) (T := TX4) (N := 11) (n := 11) hta iX4 (hts (.instantiable RX4 11) (by decide +kernel))
  obtain ⟨c5, i5, k5⟩ := u_known (C := RX5) (T := TX5) (N := 4) (n := 4) hta iX5 (hts (.instantiable RX5 4) (by decide +kernel))
  obtain ⟨c6, i6, k6⟩ := u_known (C := RX6) (T := TX6) (N := 5) (n := 5) hta iX6 (hts (.instantiable RX6 5) (by decide +kernel))
  obtain ⟨c7, i7, k7⟩ := u_known (C := RX7) (T := TX7) (N := 7) (n := 7) hta iX7 (hts (.instantiable RX7 7) (by decide +kernel))
  obtain ⟨c8, i8, k8⟩ := u_known (C := RX8) (T := TX8) (N := 5) (n := 5) hta iX8 (hts (.instantiable RX8 5) (by decide +kernel))
  obtain ⟨c9, i9, k9⟩ := u_known (C := RX9) (T := TX9) (N := 4) (n := 4) hta iX9 (hts (.instantiable RX9 4) (by decide +kernel))
  obtain ⟨c10, i10, k10⟩ := u_known (C := RX10) (T := TX10) (N := 4) (n := 4) hta iX10 (hts (.instantiable RX10 4) (by decide +kernel))
  obtain ⟨c11, i11, k11⟩ := u_known (C := RX11) (T := TX11) (N := 16) (n := 16) hta iX11 (hts (.instantiable RX11 16) (by decide +kernel))
  obtain ⟨c12, i12, k12⟩ := u_known (C := RX12) (T := TX12) (N := 60) (n := 60) hta iX12 (hts (.instantiable RX12 60) (by decide +kernel))
  have h0 : ∀ k : Nat, ∃ f : ClassId × (Nat → Nat), ∀ q : vw_C, classes[k]? = some q → u_Kn s q.1 q.2.1 q.2.2 f.1 f.2 := by
    intro k
    match k with
    | 0 => exact ⟨(c0, i0), fun q hq => by cases hq; exact k0⟩
    | 1 => exact ⟨(c1, i1), fun q hq => by cases hq; exact k1⟩
    | 2 => exact ⟨(c2, i2), fun q hq => by cases hq; exact k2⟩
    | 3 => exact ⟨(c3, i3), fun q hq => by cases hq; exact k3⟩
    | 4 => exact ⟨(c4, i4), fun q hq => by cases hq; exact k4⟩
    | 5 => exact ⟨(c5, i5), fun q hq => by cases hq; exact k5⟩
    | 6 => exact ⟨(c6, i6), fun q hq => by cases hq; exact k6⟩
    | 7 => exact ⟨(c7, i7), fun q hq => by cases hq; exact k7⟩
    | 8 => exact ⟨(c8, i8), fun q hq => by cases hq; exact k8⟩
    | 9 => exact ⟨(c9, i9), fun q hq => by cases hq; exact k9⟩
    | 10 => exact ⟨(c10, i10), fun q hq => by cases hq; exact k10⟩
    | 11 => exact ⟨(c11, i11), fun q hq => by cases hq; exact k11⟩
    | 12 => exact ⟨(c12, i12), fun q hq => by cases hq; exact k12⟩
    | k + 13 => exact ⟨(c0, i0), fun q hq => by simp [classes] at hq⟩
  obtain ⟨f, hf⟩ := Classical.axiomOfChoice h0
  obtain ⟨a0, ha0⟩ := kn_int (hts (.arrayClass .int) (by decide +kernel))
  obtain ⟨a1, ha1⟩ := kn_long (hts (.arrayClass .long) (by decide +kernel))
  obtain ⟨a2, ha2⟩ := kn_char (hts (.arrayClass .char) (by decide +kernel))
  have o1 := hts (.arrayOver (.object RX1)) (by decide +kernel)
  have o10 := hts (.arrayOver (.object RX10)) (by decide +kernel)
  have o0 := hts (.arrayOver (.object RX0)) (by decide +kernel)
  have o9 := hts (.arrayOver (.object RX9)) (by decide +kernel)
  obtain ⟨b1, hb1⟩ := kn_obj o1
  obtain ⟨b10, hb10⟩ := kn_obj o10
  obtain ⟨b0, hb0⟩ := kn_obj o0
  obtain ⟨b9, hb9⟩ := kn_obj o9
  have nm : ∀ q ∈ NM, (Cond.methodLinkNest q.1 q.2.1 q.2.2 RX11) ∈ lw_tbl := by decide +kernel
  refine ⟨(fun k => (f k).1, fun k => (f k).2), fun k => if k = 0 then a0 else if k = 1 then a1 else if k = 2 then a2 else if k = 5 then b1 else if k = 14 then b10 else if k = 4 then b0 else b9, ⟨fun k q hq => hf k q hq, fun k q hq => ?_⟩, fun q hq => va_Nw.of rfl (hts _ (nm q hq)), va_AO.of o1, va_AO.of o10, va_AO.of o0, va_AO.of o9⟩
  match k, hq with
  | 0, hq => cases hq; exact ha0
  | 1, hq => cases hq; exact ha1
  | 2, hq => cases hq; exact ha2
  | 3, hq => cases hq; exact hb1
  | 4, hq => cases hq; exact hb10
  | 5, hq => cases hq; exact hb0
  | 6, hq => cases hq; exact hb9
  | k + 7, hq => simp at hq
/-- the class's static row at the law's entry -/
theorem st_start {args : Array Value} {s : State} (hts : ∀ w ∈ lw_tbl, w.before args s = true) (hgv : (Jvm.Cond.and given_1 narrow_1).before args s = true) : ST (fun q : Nat => s.heap.size ≤ q) s s.heap := by
  have hs := flat_of_before _ hgv
  have hA : ∀ a : Nat, a < s.heap.size → ¬ (fun q : Nat => s.heap.size ≤ q) a := fun a ha => Nat.not_le.mpr ha
  obtain ⟨t, ht, hT⟩ := va_Tof (args := args) (s := s) (tm := Term.static RX5 "FIGURES" "[J") (ty := .long) (N := 8) (f := fun j => .long (FIG j)) (A := fun q : Nat => s.heap.size ≤ q) (by omega) (hs _ (by decide +kernel)) (va_eqt (hs (Cond.eq (.length (.static RX5 "FIGURES" "[J")) (.int 8)) (by decide +kernel))) (fun j hj => by
    match j, hj with
    | 0, _ => exact va_eqtl (hs (Cond.eq (.elem (.static RX5 "FIGURES" "[J") (.int 0)) (.long 1801088541)) (by decide +kernel))
    | 1, _ => exact va_eqtl (hs (Cond.eq (.elem (.static RX5 "FIGURES" "[J") (.int 1)) (.long 85766121)) (by decide +kernel))
    | 2, _ => exact va_eqtl (hs (Cond.eq (.elem (.static RX5 "FIGURES" "[J") (.int 2)) (.long 4084101)) (by decide +kernel))
    | 3, _ => exact va_eqtl (hs (Cond.eq (.elem (.static RX5 "FIGURES" "[J") (.int 3)) (.long 194481)) (by decide +kernel))
    | 4, _ => exact va_eqtl (hs (Cond.eq (.elem (.static RX5 "FIGURES" "[J") (.int 4)) (.long 9261)) (by decide +kernel))
    | 5, _ => exact va_eqtl (hs (Cond.eq (.elem (.static RX5 "FIGURES" "[J") (.int 5)) (.long 441)) (by decide +kernel))
    | 6, _ => exact va_eqtl (hs (Cond.eq (.elem (.static RX5 "FIGURES" "[J") (.int 6)) (.long 21)) (by decide +kernel))
    | 7, _ => exact va_eqtl (hs (Cond.eq (.elem (.static RX5 "FIGURES" "[J") (.int 7)) (.long 1)) (by decide +kernel))
    | j + 8, h => omega) hA
  exact ⟨t, va_Zof (hts _ (by decide +kernel)) (hts _ (by decide +kernel)) ht hA, hT⟩
set_option maxHeartbeats 4000000 in
set_option maxRecDepth 100000 in
theorem whole_start {p : Program} {e : Env} {s : State} {m : MethodId} {below : List Frame} {meth : Method} {c : Code} (l : Launch) (hflags : l.flags = flags0) {b L : Nat} {xs : Nat → Int32} (hL : L ≤ 3072) (C0 : lw_At p s m meth c b L xs) : W p l e room_1 s m #[Value.ref b] below meth c s.heap [] 0 0 (lw_Z below #[Value.ref b] s) (entryFrame m ([Value.ref b] : List Value).toArray 4) := by
  obtain ⟨hx, hb, hr, hml, hown, hts, hX, hbl, hlocks, hgv⟩ := id C0
  have hA : ∀ q : Nat, s.heap.size ≤ q → (fun q : Nat => s.heap.size ≤ q) q := fun _ h => h
  have hbA : ¬ (fun q : Nat => s.heap.size ≤ q) b := Nat.not_le.mpr hbl
  obtain ⟨D, cA, hK⟩ := kx_start hts
  have X : CX p s m #[Value.ref b] c cL_law "BellYardsLaw" 4 D cA (fun q : Nat => s.heap.size ≤ q) := ⟨hx, hb, hml, hown, fun w hw => hts w (AL_tbl hw), hK, st_start hts hgv, hA⟩
  have hW : HW D cA (fun q : Nat => s.heap.size ≤ q) (fun _ _ => 0) hz s.heap := ⟨[], fun k q h => by simp at h, ⟨fun i j p q h => by simp at h, fun k q h => by simp at h⟩, fun k i hi => absurd hi (Nat.not_lt_zero i), fun q x h => by simp at h, fun k i k' i' hi => absurd hi (Nat.not_lt_zero i), fun k i s j hi => absurd hi (Nat.not_lt_zero i)⟩
  have hS : va_S (fun q : Nat => s.heap.size ≤ q) s.heap s.heap [] := va_S.rf
  have hl := lv_entry ([.ref b]) (n := 4) (Nat.le_of_ble_eq_true rfl)
  rw [lg_entry_eq]
  generalize (lg_sl ([.ref b]) ++ List.replicate (4 - (lg_sl ([.ref b])).length) Slot.unset).toArray = ls at hl ⊢
  have hl : lv_has ls 4 [(0, .ref b)] := hl
  have n11 : 0 < gn (nw hz 11) 11 := by decide +kernel
  have m11 : 0 < gn hd1 11 := by decide +kernel
  have m12 : gn hd1 12 = 0 := by decide +kernel
  have n12 : 0 < gn (nw hd1 12) 12 := by decide +kernel
  have o11 : 0 < gn (nw hd1 12) 11 := by decide +kernel
  refine r_new X hW hS fn_L_7 ⟨Nat.le_of_ble_eq_true rfl, Nat.le_of_ble_eq_true rfl⟩ dL_law_0 (fun u H hu hW hS => ?_)
  refine stq (st1 := [.ref (u 11 0)]) rfl ?_
  refine lv_dup hx hb dL_law_3 rfl ?_
  refine rc_va (Af := fun φ => [.ref (φ 11 0)]) X hW hS ⟨Nat.le_of_ble_eq_true rfl, Nat.le_of_ble_eq_true rfl⟩ (rn_I (k := 11) (i := 0) (As := []) (rest := [.ref (u 11 0)]) X hW hS cw_L_9 ⟨Nat.le_of_ble_eq_true rfl, Nat.le_of_ble_eq_true rfl⟩ rfl hl.1 rfl (Nat.le_of_ble_eq_true rfl) dL_law_4) (ok_X11_init 0 n11 hd1_e) (fun u1 H locs hu1 hW hS => ?_)
  refine lv_astore_n (lv' := [(1, .ref (u 11 0)), (0, .ref b)]) hx hb dL_law_7 rfl hl (by decide) rfl (fun ls hl => ?_)
  refine r_new X hW hS fn_L_10 ⟨Nat.le_of_ble_eq_true rfl, Nat.le_of_ble_eq_true rfl⟩ dL_law_8 (fun u2 H hu2 hW hS => ?_)
  refine stq (st1 := [.ref (u2 12 0)]) (by rw [m12]) ?_
  refine lv_dup hx hb dL_law_11 rfl ?_
  refine rc_va (Af := fun φ => [.ref (φ 12 0)]) X hW hS ⟨Nat.le_of_ble_eq_true rfl, Nat.le_of_ble_eq_true rfl⟩ (rn_I (k := 12) (i := 0) (As := []) (rest := [.ref (u2 12 0)]) X hW hS cw_L_12 ⟨Nat.le_of_ble_eq_true rfl, Nat.le_of_ble_eq_true rfl⟩ rfl hl.1 rfl (Nat.le_of_ble_eq_true rfl) dL_law_12) (ok_X12_init 0 n12 hd2_e) (fun u3 H locs hu3 hW hS => ?_)
  refine lv_astore_n (lv' := [(2, .ref (u2 12 0)), (1, .ref (u 11 0)), (0, .ref b)]) hx hb dL_law_15 rfl hl (by decide) rfl (fun ls hl => ?_)
  refine lv_iconst (v := 0) hx hb dL_law_16 (by decide) ?_
  refine lv_istore_n (lv' := [(3, .int 0), (2, .ref (u2 12 0)), (1, .ref (u 11 0)), (0, .ref b)]) hx hb dL_law_17 rfl hl (by decide) rfl (fun ls hl => ?_)
  have e12 : u3 12 0 = u2 12 0 := hu3 12 0 n12
  have e11 : u3 11 0 = u 11 0 := ((hu3 11 0 o11).trans (hu2 11 0 m11)).trans (hu1 11 0 n11)
  have hl : lv_has ls 4 [(0, .ref b), (1, .ref (u3 11 0)), (2, .ref (u3 12 0)), (3, .int 0)] := by
    rw [e11, e12]
    exact lv_sub hl [3, 2, 1, 0] rfl
  refine W.widen (k := 76 + 64 * 0) (n := 3034 + 768 * 0) (Nat.le_of_ble_eq_true rfl) (Nat.le_of_ble_eq_true rfl) ?_
  refine law_loop X hX hbl hbA hL (fun h R => ⟨by rw [rn_11 R.1]; omega, by rw [rn_12 R.1]; omega⟩) cp_all (fun H locs ls j hj hS => ?_) (L + 1) 0 0 (by omega) (by omega) rfl u3 hd2 H locs ls rq_begin hW hS hl
  refine lv_iconst (v := 1) hx hb dL_law_1710 (by decide) ?_
  refine va_forget (fun q hq => hS.2.2 q hq) ?_
  refine W.widen (k := 600000) (n := 7302250) (by omega) (by omega) ?_
  exact lw_ret hx hb hr hlocks dL_law_1711
