theorem lm {b h2 : HP} {k i : Nat} (m : ∀ k, gn b k ≤ gn h2 k) (a : i < gn b k) : i < gn h2 k := Nat.lt_of_lt_of_le a (m k)
theorem gn_eq {h b : HP} (g : h.2.2 = b.2.2) (k : Nat) : gn h k = gn b k := by unfold gn; rw [g]
theorem mst_nw {hp b h2 : HP} {k : Nat} (g : hp.2.2 = b.2.2) (e : h2 = nw hp k) : ∀ k1, gn b k1 ≤ gn h2 k1 := fun k1 => by rw [e, ← gn_eq g k1]; exact gn_nw_le _ _ _
theorem mst_sr {hp b h2 : HP} {k i s : Nat} {v : Option Nat} (g : hp.2.2 = b.2.2) (e : h2 = sr hp k i s v) : ∀ k1, gn b k1 ≤ gn h2 k1 := fun k1 => by rw [e, ← gn_eq g k1, gn_sr]; exact Nat.le_refl _
theorem mst_tr {hp b h2 : HP} (g : hp.2.2 = b.2.2) (m : ∀ k, gn hp k ≤ gn h2 k) : ∀ k1, gn b k1 ≤ gn h2 k1 := fun k1 => by rw [← gn_eq g k1]; exact m k1
theorem hMg {h b d : HP} (m : ∀ k, gn h k ≤ gn b k) (g : d.2.2 = b.2.2) : ∀ k, gn h k ≤ gn d k := fun k => by rw [gn_eq g k]; exact m k
theorem loop_wn {σ ρ : Type} {f : σ → Option (σ ⊕ ρ)} {Z : Nat → σ → Prop} {K : ρ → Prop} (hb : ∀ n s v, f s = some v → (match v with | .inl s' => Z n s' | .inr r => K r) → Z (n + 1) s) : ∀ (n : Nat) (s : σ) (r : ρ), loopN n f s = some r → K r → Z n s := by
  intro n
  induction n with
  | zero => intro s r h; cases h
  | succ n ih =>
    intro s r h hk
    unfold loopN at h
    cases hf : f s with
    | none => rw [hf] at h; cases h
    | some v =>
      rw [hf] at h
      cases v with
      | inl s' => exact hb n s _ hf (ih s' r h hk)
      | inr r' => exact hb n s _ hf (by cases h; exact hk)
theorem stq {p : Program} {l : Launch} {e : Env} {R : Room} {s : State} {m : MethodId} {args : Array Value} {below : List Frame} {meth : Method} {c : Code} {H : Heap} {locs : List Loc} {cells slots : Nat} {Q : State → Prop} {pc : Nat} {ls : Array Slot} {st st1 : List Value} (e0 : st1 = st) (k : W p l e R s m args below meth c H locs cells slots Q (F0 m pc ls st1)) : W p l e R s m args below meth c H locs cells slots Q (F0 m pc ls st) := by rw [← e0]; exact k
def F_X2_init (i0 : Nat) (h : HP) : Option (HP) :=
  nm (gn h 23) fun o1 => nm (nw h 23) fun h3 =>
  nm (sr h3 2 i0 0 (some o1)) fun h7 =>
  some h7
set_option maxHeartbeats 4000000 in
set_option maxRecDepth 100000 in
theorem ok_X2_init {l : Launch} {D : va_G} {cA : Nat → ClassId} {h : HP}  {d : HP} (i0 : Nat) (al_0 : i0 < gn h 2) (hF : F_X2_init i0 h = some d) : MVa l D cA yX2_init cX2_init 1 none 1 30 1 20 (fun φ => [.ref (φ 2 i0)]) h d := by
  refine mk_Va (plainFor_of_name (by decide)) (fun φ => Nat.le_of_ble_eq_true rfl) ?_
  intro p e s m args below meth c ls φ0 A Q X hW hS hl hin hfin
  obtain ⟨φ, hφ⟩ : ∃ z : Nat → Nat → Nat, z = φ0 := ⟨_, rfl⟩
  have hU : ∀ k i, i < gn h k → φ k i = φ0 k i := fun k i _ => by rw [hφ]
  have hM : ∀ k, gn h k ≤ gn h k := fun k => Nat.le_refl _
  rw [← hφ] at hW hl
  have hx := X.1
  have hb := X.2.1
  have hl : lv_has ls 1 [(0, .ref (φ 2 i0))] := hl
  unfold F_X2_init at hF
  refine lv_aload_n hx hb dX2_init_0 rfl (lv_at hl 0 rfl) ?_
  refine W.objInit hx hb X.2.2.2.1 (X.2.2.2.2.1 _ (AL_of 31 (by decide +kernel) rfl)) (X.2.2.2.2.1 _ (AL_of 24 (by decide +kernel) rfl)) (X.2.2.2.2.1 _ (AL_of 25 (by decide +kernel) rfl)) rfl (by rw [X.2.2.1]; exact hl.1) rfl dX2_init_1 (Nat.le_of_ble_eq_true rfl) (Nat.le_of_ble_eq_true rfl) ?_
  refine W.eq (g2 := F0 m 4 ls []) rfl ?_
  refine lv_aload_n hx hb dX2_init_4 rfl (lv_at hl 0 rfl) ?_
  refine lv_bipush (v := 20) hx hb dX2_init_5 (by decide) ?_
  refine r_newr (k := 23) (N := 20) (kr := 1) (t0 := 3) X hW hS rfl rfl (fun q => q.2.1) (by decide) (by decide) (Nat.le_of_ble_eq_true rfl) ⟨Nat.le_of_ble_eq_true rfl, Nat.le_of_ble_eq_true rfl⟩ dX2_init_7 (AL_of 32 (by decide +kernel) rfl) (fun u H hu hW hS => ?_)
  obtain ⟨o1, e2, hF⟩ := nmx hF
  obtain ⟨h3, e4, hF⟩ := nmx hF
  have hW := nmW e4 hW
  have m5 : ∀ k, gn h k ≤ gn h3 k := mst_nw rfl e4
  have hl : lv_has ls 1 [(0, .ref (u 2 i0))] := by rw [hu 2 i0 al_0]; exact hl
  refine stq (st1 := [.ref (u 23 o1), .ref (u 2 i0)]) (by rw [e2, hu 2 i0 al_0]) ?_
  have hU : ∀ k i, i < gn h k → u k i = φ0 k i := fun k i hi => (hu k i (Nat.lt_of_lt_of_le hi (hM k))).trans (hU k i hi)
  have hM : ∀ k, gn h k ≤ gn h3 k := fun k => Nat.le_trans (hM k) (m5 k)
  have al_0 := lm m5 al_0
  have al6 : o1 < gn h3 23 := by rw [e2, e4]; exact gn_nw_lt _ _
  obtain ⟨φ, rfl⟩ : ∃ z, z = u := ⟨_, rfl⟩
  refine r_putrF X hW hS hin al_0 al6 fp_2_11 rfl rfl dX2_init_10 (fun H locs hW hS => ?_)
  obtain ⟨h7, e8, hF⟩ := nmx hF
  have hW := nmW e8 hW
  have m9 : ∀ k, gn h3 k ≤ gn h7 k := mst_sr rfl e8
  have hM : ∀ k, gn h k ≤ gn h7 k := fun k => Nat.le_trans (hM k) (m9 k)
  have al_0 := lm m9 al_0
  obtain rfl := sj hF
  refine W.widen (k := 1) (n := 20) (Nat.le_of_ble_eq_true rfl) (Nat.le_of_ble_eq_true rfl) ?_
  exact hfin φ _ _ _ _ hU hW hS dX2_init_13 -- 
set_option maxHeartbeats 4000000 in
set_option maxRecDepth 100000 in
theorem mono_X2_init {h : HP}  {d : HP} {i0 : Nat} (hF : F_X2_init i0 h = some d) : ∀ k, gn h k ≤ gn d k := by
  have hM : ∀ k, gn h k ≤ gn h k := fun k => Nat.le_refl _
  unfold F_X2_init at hF
  obtain ⟨o1, e2, hF⟩ := nmx hF
  obtain ⟨h3, e4, hF⟩ := nmx hF
  have m5 : ∀ k, gn h k ≤ gn h3 k := mst_nw rfl e4
  have hM : ∀ k, gn h k ≤ gn h3 k := fun k => Nat.le_trans (hM k) (m5 k)
  obtain ⟨h7, e8, hF⟩ := nmx hF
  have m9 : ∀ k, gn h3 k ≤ gn h7 k := mst_sr rfl e8
  have hM : ∀ k, gn h k ≤ gn h7 k := fun k => Nat.le_trans (hM k) (m9 k)
  obtain rfl := sj hF
  exact hM
def F_X4_init (i0 : Nat) (h : HP) : Option (HP) :=
  nm (gn h 29) fun o1 => nm (nw h 29) fun h3 =>
  nm (sr h3 4 i0 0 (some o1)) fun h7 =>
  nm (si h7 4 i0 2 (-1)) fun h10 =>
  nm (gn h10 30) fun o13 => nm (nw h10 30) fun h15 =>
  nm (sr h15 4 i0 3 (some o13)) fun h19 =>
  nm (gn h19 31) fun o22 => nm (nw h19 31) fun h24 =>
  nm (sr h24 4 i0 4 (some o22)) fun h28 =>
  nm (gn h28 32) fun o31 => nm (nw h28 32) fun h33 =>
  nm (sr h33 4 i0 5 (some o31)) fun h37 =>
  nm (gn h37 33) fun o40 => nm (nw h37 33) fun h42 =>
  nm (sr h42 4 i0 6 (some o40)) fun h46 =>
  nm (gn h46 34) fun o49 => nm (nw h46 34) fun h51 =>
  nm (sr h51 4 i0 8 (some o49)) fun h55 =>
  some h55
set_option maxHeartbeats 4000000 in
set_option maxRecDepth 100000 in
theorem ok_X4_init {l : Launch} {D : va_G} {cA : Nat → ClassId} {h : HP}  {d : HP} (i0 : Nat) (al_0 : i0 < gn h 4) (hF : F_X4_init i0 h = some d) : MVa l D cA yX4_init cX4_init 1 none 1 30 6 208 (fun φ => [.ref (φ 4 i0)]) h d := by
  refine mk_Va (plainFor_of_name (by decide)) (fun φ => Nat.le_of_ble_eq_true rfl) ?_
  intro p e s m args below meth c ls φ0 A Q X hW hS hl hin hfin
  obtain ⟨φ, hφ⟩ : ∃ z : Nat → Nat → Nat, z = φ0 := ⟨_, rfl⟩
  have hU : ∀ k i, i < gn h k → φ k i = φ0 k i := fun k i _ => by rw [hφ]
  have hM : ∀ k, gn h k ≤ gn h k := fun k => Nat.le_refl _
  rw [← hφ] at hW hl
  have hx := X.1
  have hb := X.2.1
  have hl : lv_has ls 1 [(0, .ref (φ 4 i0))] := hl
  unfold F_X4_init at hF
  refine lv_aload_n hx hb dX4_init_0 rfl (lv_at hl 0 rfl) ?_
  refine W.objInit hx hb X.2.2.2.1 (X.2.2.2.2.1 _ (AL_of 61 (by decide +kernel) rfl)) (X.2.2.2.2.1 _ (AL_of 24 (by decide +kernel) rfl)) (X.2.2.2.2.1 _ (AL_of 25 (by decide +kernel) rfl)) rfl (by rw [X.2.2.1]; exact hl.1) rfl dX4_init_1 (Nat.le_of_ble_eq_true rfl) (Nat.le_of_ble_eq_true rfl) ?_
  refine W.eq (g2 := F0 m 4 ls []) rfl ?_
  refine lv_aload_n hx hb dX4_init_4 rfl (lv_at hl 0 rfl) ?_
  refine lv_bipush (v := 100) hx hb dX4_init_5 (by decide) ?_
  refine r_newc (k := 29) (N := 100) X hW hS rfl (by decide) (by decide) (Nat.le_of_ble_eq_true rfl) ⟨Nat.le_of_ble_eq_true rfl, Nat.le_of_ble_eq_true rfl⟩ dX4_init_7 (AL_of 98 (by decide +kernel) rfl) (fun u H hu hW hS => ?_)
  obtain ⟨o1, e2, hF⟩ := nmx hF
  obtain ⟨h3, e4, hF⟩ := nmx hF
  have hW := nmW e4 hW
  have m5 : ∀ k, gn h k ≤ gn h3 k := mst_nw rfl e4
  have hl : lv_has ls 1 [(0, .ref (u 4 i0))] := by rw [hu 4 i0 al_0]; exact hl
  refine stq (st1 := [.ref (u 29 o1), .ref (u 4 i0)]) (by rw [e2, hu 4 i0 al_0]) ?_
  have hU : ∀ k i, i < gn h k → u k i = φ0 k i := fun k i hi => (hu k i (Nat.lt_of_lt_of_le hi (hM k))).trans (hU k i hi)
  have hM : ∀ k, gn h k ≤ gn h3 k := fun k => Nat.le_trans (hM k) (m5 k)
  have al_0 := lm m5 al_0
  have al6 : o1 < gn h3 29 := by rw [e2, e4]; exact gn_nw_lt _ _
  obtain ⟨φ, rfl⟩ : ∃ z, z = u := ⟨_, rfl⟩
  refine r_putrF X hW hS hin al_0 al6 fp_4_9 rfl rfl dX4_init_9 (fun H locs hW hS => ?_)
  obtain ⟨h7, e8, hF⟩ := nmx hF
  have hW := nmW e8 hW
  have m9 : ∀ k, gn h3 k ≤ gn h7 k := mst_sr rfl e8
  have hM : ∀ k, gn h k ≤ gn h7 k := fun k => Nat.le_trans (hM k) (m9 k)
  have al_0 := lm m9 al_0
  refine lv_aload_n hx hb dX4_init_12 rfl (lv_at hl 0 rfl) ?_
  refine lv_iconst (v := (-1)) hx hb dX4_init_13 (by decide) ?_
  refine r_puti X hW hS al_0 fp_4_15 rfl rfl dX4_init_14 (fun H locs hW hS => ?_)
  obtain ⟨h10, e11, hF⟩ := nmx hF
  have hW := nmW e11 hW
  have g12 : h10.2.2 = h7.2.2 := by rw [e11]; exact rfl
  refine lv_aload_n hx hb dX4_init_17 rfl (lv_at hl 0 rfl) ?_
  refine lv_bipush (v := 26) hx hb dX4_init_18 (by decide) ?_
  refine r_newi (k := 30) (N := 26) X hW hS rfl (by decide) (by decide) (Nat.le_of_ble_eq_true rfl) ⟨Nat.le_of_ble_eq_true rfl, Nat.le_of_ble_eq_true rfl⟩ dX4_init_20 (AL_of 55 (by decide +kernel) rfl) (fun u H hu hW hS => ?_)
  obtain ⟨o13, e14, hF⟩ := nmx hF
  obtain ⟨h15, e16, hF⟩ := nmx hF
  have hW := nmW e16 hW
  have m17 : ∀ k, gn h7 k ≤ gn h15 k := mst_nw g12 e16
  have hl : lv_has ls 1 [(0, .ref (u 4 i0))] := by rw [hu 4 i0 (gq g12 al_0)]; exact hl
  refine stq (st1 := [.ref (u 30 o13), .ref (u 4 i0)]) (by rw [e14, hu 4 i0 (gq g12 al_0)]) ?_
  have hU : ∀ k i, i < gn h k → u k i = φ0 k i := fun k i hi => (hu k i (gq g12 (Nat.lt_of_lt_of_le hi (hM k)))).trans (hU k i hi)
  have hM : ∀ k, gn h k ≤ gn h15 k := fun k => Nat.le_trans (hM k) (m17 k)
  have al_0 := lm m17 al_0
  have al18 : o13 < gn h15 30 := by rw [e14, e16]; exact gn_nw_lt _ _
  obtain ⟨φ, rfl⟩ : ∃ z, z = u := ⟨_, rfl⟩
  refine r_putrF X hW hS hin al_0 al18 fp_4_19 rfl rfl dX4_init_22 (fun H locs hW hS => ?_)
  obtain ⟨h19, e20, hF⟩ := nmx hF
  have hW := nmW e20 hW
  have m21 : ∀ k, gn h15 k ≤ gn h19 k := mst_sr rfl e20
  have hM : ∀ k, gn h k ≤ gn h19 k := fun k => Nat.le_trans (hM k) (m21 k)
  have al_0 := lm m21 al_0
  refine lv_aload_n hx hb dX4_init_25 rfl (lv_at hl 0 rfl) ?_
  refine lv_bipush (v := 26) hx hb dX4_init_26 (by decide) ?_
  refine r_newi (k := 31) (N := 26) X hW hS rfl (by decide) (by decide) (Nat.le_of_ble_eq_true rfl) ⟨Nat.le_of_ble_eq_true rfl, Nat.le_of_ble_eq_true rfl⟩ dX4_init_28 (AL_of 55 (by decide +kernel) rfl) (fun u H hu hW hS => ?_)
  obtain ⟨o22, e23, hF⟩ := nmx hF
  obtain ⟨h24, e25, hF⟩ := nmx hF
  have hW := nmW e25 hW
  have m26 : ∀ k, gn h19 k ≤ gn h24 k := mst_nw rfl e25
  have hl : lv_has ls 1 [(0, .ref (u 4 i0))] := by rw [hu 4 i0 al_0]; exact hl
  refine stq (st1 := [.ref (u 31 o22), .ref (u 4 i0)]) (by rw [e23, hu 4 i0 al_0]) ?_
  have hU : ∀ k i, i < gn h k → u k i = φ0 k i := fun k i hi => (hu k i (Nat.lt_of_lt_of_le hi (hM k))).trans (hU k i hi)
  have hM : ∀ k, gn h k ≤ gn h24 k := fun k => Nat.le_trans (hM k) (m26 k)
  have al_0 := lm m26 al_0
  have al27 : o22 < gn h24 31 := by rw [e23, e25]; exact gn_nw_lt _ _
  obtain ⟨φ, rfl⟩ : ∃ z, z = u := ⟨_, rfl⟩
  refine r_putrF X hW hS hin al_0 al27 fp_4_23 rfl rfl dX4_init_30 (fun H locs hW hS => ?_)
  obtain ⟨h28, e29, hF⟩ := nmx hF
  have hW := nmW e29 hW
  have m30 : ∀ k, gn h24 k ≤ gn h28 k := mst_sr rfl e29
  have hM : ∀ k, gn h k ≤ gn h28 k := fun k => Nat.le_trans (hM k) (m30 k)
  have al_0 := lm m30 al_0
  refine lv_aload_n hx hb dX4_init_33 rfl (lv_at hl 0 rfl) ?_
  refine lv_bipush (v := 26) hx hb dX4_init_34 (by decide) ?_
  refine r_newi (k := 32) (N := 26) X hW hS rfl (by decide) (by decide) (Nat.le_of_ble_eq_true rfl) ⟨Nat.le_of_ble_eq_true rfl, Nat.le_of_ble_eq_true rfl⟩ dX4_init_36 (AL_of 55 (by decide +kernel) rfl) (fun u H hu hW hS => ?_)
  obtain ⟨o31, e32, hF⟩ := nmx hF
  obtain ⟨h33, e34, hF⟩ := nmx hF
  have hW := nmW e34 hW
  have m35 : ∀ k, gn h28 k ≤ gn h33 k := mst_nw rfl e34
  have hl : lv_has ls 1 [(0, .ref (u 4 i0))] := by rw [hu 4 i0 al_0]; exact hl
  refine stq (st1 := [.ref (u 32 o31), .ref (u 4 i0)]) (by rw [e32, hu 4 i0 al_0]) ?_
  have hU : ∀ k i, i < gn h k → u k i = φ0 k i := fun k i hi => (hu k i (Nat.lt_of_lt_of_le hi (hM k))).trans (hU k i hi)
  have hM : ∀ k, gn h k ≤ gn h33 k := fun k => Nat.le_trans (hM k) (m35 k)
  have al_0 := lm m35 al_0
  have al36 : o31 < gn h33 32 := by rw [e32, e34]; exact gn_nw_lt _ _
  obtain ⟨φ, rfl⟩ : ∃ z, z = u := ⟨_, rfl⟩
  refine r_putrF X hW hS hin al_0 al36 fp_4_26 rfl rfl dX4_init_38 (fun H locs hW hS => ?_)
  obtain ⟨h37, e38, hF⟩ := nmx hF
  have hW := nmW e38 hW
  have m39 : ∀ k, gn h33 k ≤ gn h37 k := mst_sr rfl e38
  have hM : ∀ k, gn h k ≤ gn h37 k := fun k => Nat.le_trans (hM k) (m39 k)
  have al_0 := lm m39 al_0
  refine lv_aload_n hx hb dX4_init_41 rfl (lv_at hl 0 rfl) ?_
  refine lv_bipush (v := 26) hx hb dX4_init_42 (by decide) ?_
  refine r_newi (k := 33) (N := 26) X hW hS rfl (by decide) (by decide) (Nat.le_of_ble_eq_true rfl) ⟨Nat.le_of_ble_eq_true rfl, Nat.le_of_ble_eq_true rfl⟩ dX4_init_44 (AL_of 55 (by decide +kernel) rfl) (fun u H hu hW hS => ?_)
  obtain ⟨o40, e41, hF⟩ := nmx hF
  obtain ⟨h42, e43, hF⟩ := nmx hF
  have hW := nmW e43 hW
  have m44 : ∀ k, gn h37 k ≤ gn h42 k := mst_nw rfl e43
  have hl : lv_has ls 1 [(0, .ref (u 4 i0))] := by rw [hu 4 i0 al_0]; exact hl
  refine stq (st1 := [.ref (u 33 o40), .ref (u 4 i0)]) (by rw [e41, hu 4 i0 al_0]) ?_
  have hU : ∀ k i, i < gn h k → u k i = φ0 k i := fun k i hi => (hu k i (Nat.lt_of_lt_of_le hi (hM k))).trans (hU k i hi)
  have hM : ∀ k, gn h k ≤ gn h42 k := fun k => Nat.le_trans (hM k) (m44 k)
  have al_0 := lm m44 al_0
  have al45 : o40 < gn h42 33 := by rw [e41, e43]; exact gn_nw_lt _ _
  obtain ⟨φ, rfl⟩ : ∃ z, z = u := ⟨_, rfl⟩
  refine r_putrF X hW hS hin al_0 al45 fp_4_29 rfl rfl dX4_init_46 (fun H locs hW hS => ?_)
  obtain ⟨h46, e47, hF⟩ := nmx hF
  have hW := nmW e47 hW
  have m48 : ∀ k, gn h42 k ≤ gn h46 k := mst_sr rfl e47
  have hM : ∀ k, gn h k ≤ gn h46 k := fun k => Nat.le_trans (hM k) (m48 k)
  have al_0 := lm m48 al_0
  refine lv_aload_n hx hb dX4_init_49 rfl (lv_at hl 0 rfl) ?_
  refine lv_iconst (v := 4) hx hb dX4_init_50 (by decide) ?_
  refine r_newi (k := 34) (N := 4) X hW hS rfl (by decide) (by decide) (Nat.le_of_ble_eq_true rfl) ⟨Nat.le_of_ble_eq_true rfl, Nat.le_of_ble_eq_true rfl⟩ dX4_init_51 (AL_of 55 (by decide +kernel) rfl) (fun u H hu hW hS => ?_)
  obtain ⟨o49, e50, hF⟩ := nmx hF
  obtain ⟨h51, e52, hF⟩ := nmx hF
  have hW := nmW e52 hW
  have m53 : ∀ k, gn h46 k ≤ gn h51 k := mst_nw rfl e52
  have hl : lv_has ls 1 [(0, .ref (u 4 i0))] := by rw [hu 4 i0 al_0]; exact hl
  refine stq (st1 := [.ref (u 34 o49), .ref (u 4 i0)]) (by rw [e50, hu 4 i0 al_0]) ?_
  have hU : ∀ k i, i < gn h k → u k i = φ0 k i := fun k i hi => (hu k i (Nat.lt_of_lt_of_le hi (hM k))).trans (hU k i hi)
  have hM : ∀ k, gn h k ≤ gn h51 k := fun k => Nat.le_trans (hM k) (m53 k)
  have al_0 := lm m53 al_0
  have al54 : o49 < gn h51 34 := by rw [e50, e52]; exact gn_nw_lt _ _
  obtain ⟨φ, rfl⟩ : ∃ z, z = u := ⟨_, rfl⟩
  refine r_putrF X hW hS hin al_0 al54 fp_4_32 rfl rfl dX4_init_53 (fun H locs hW hS => ?_)
  obtain ⟨h55, e56, hF⟩ := nmx hF
  have hW := nmW e56 hW
  have m57 : ∀ k, gn h51 k ≤ gn h55 k := mst_sr rfl e56
  have hM : ∀ k, gn h k ≤ gn h55 k := fun k => Nat.le_trans (hM k) (m57 k)
  have al_0 := lm m57 al_0
  obtain rfl := sj hF
  refine W.widen (k := 6) (n := 208) (Nat.le_of_ble_eq_true rfl) (Nat.le_of_ble_eq_true rfl) ?_
  exact hfin φ _ _ _ _ hU hW hS dX4_init_56 -- 
set_option maxHeartbeats 4000000 in
set_option maxRecDepth 100000 in
theorem mono_X4_init {h : HP}  {d : HP} {i0 : Nat} (hF : F_X4_init i0 h = some d) : ∀ k, gn h k ≤ gn d k := by
  have hM : ∀ k, gn h k ≤ gn h k := fun k => Nat.le_refl _
  unfold F_X4_init at hF
  obtain ⟨o1, e2, hF⟩ := nmx hF
  obtain ⟨h3, e4, hF⟩ := nmx hF
  have m5 : ∀ k, gn h k ≤ gn h3 k := mst_nw rfl e4
  have hM : ∀ k, gn h k ≤ gn h3 k := fun k => Nat.le_trans (hM k) (m5 k)
  obtain ⟨h7, e8, hF⟩ := nmx hF
  have m9 : ∀ k, gn h3 k ≤ gn h7 k := mst_sr rfl e8
  have hM : ∀ k, gn h k ≤ gn h7 k := fun k => Nat.le_trans (hM k) (m9 k)
  obtain ⟨h10, e11, hF⟩ := nmx hF
  have g12 : h10.2.2 = h7.2.2 := by rw [e11]; exact rfl
  obtain ⟨o13, e14, hF⟩ := nmx hF
  obtain ⟨h15, e16, hF⟩ := nmx hF
  have m17 : ∀ k, gn h7 k ≤ gn h15 k := mst_nw g12 e16
  have hM : ∀ k, gn h k ≤ gn h15 k := fun k => Nat.le_trans (hM k) (m17 k)
  obtain ⟨h19, e20, hF⟩ := nmx hF
  have m21 : ∀ k, gn h15 k ≤ gn h19 k := mst_sr rfl e20
  have hM : ∀ k, gn h k ≤ gn h19 k := fun k => Nat.le_trans (hM k) (m21 k)
  obtain ⟨o22, e23, hF⟩ := nmx hF
  obtain ⟨h24, e25, hF⟩ := nmx hF
  have m26 : ∀ k, gn h19 k ≤ gn h24 k := mst_nw rfl e25
  have hM : ∀ k, gn h k ≤ gn h24 k := fun k => Nat.le_trans (hM k) (m26 k)
  obtain ⟨h28, e29, hF⟩ := nmx hF
  have m30 : ∀ k, gn h24 k ≤ gn h28 k := mst_sr rfl e29
  have hM : ∀ k, gn h k ≤ gn h28 k := fun k => Nat.le_trans (hM k) (m30 k)
  obtain ⟨o31, e32, hF⟩ := nmx hF
  obtain ⟨h33, e34, hF⟩ := nmx hF
  have m35 : ∀ k, gn h28 k ≤ gn h33 k := mst_nw rfl e34
  have hM : ∀ k, gn h k ≤ gn h33 k := fun k => Nat.le_trans (hM k) (m35 k)
  obtain ⟨h37, e38, hF⟩ := nmx hF
  have m39 : ∀ k, gn h33 k ≤ gn h37 k := mst_sr rfl e38
  have hM : ∀ k, gn h k ≤ gn h37 k := fun k => Nat.le_trans (hM k) (m39 k)
  obtain ⟨o40, e41, hF⟩ := nmx hF
  obtain ⟨h42, e43, hF⟩ := nmx hF
  have m44 : ∀ k, gn h37 k ≤ gn h42 k := mst_nw rfl e43
  have hM : ∀ k, gn h k ≤ gn h42 k := fun k => Nat.le_trans (hM k) (m44 k)
  obtain ⟨h46, e47, hF⟩ := nmx hF
  have m48 : ∀ k, gn h42 k ≤ gn h46 k := mst_sr rfl e47
  have hM : ∀ k, gn h k ≤ gn h46 k := fun k => Nat.le_trans (hM k) (m48 k)
  obtain ⟨o49, e50, hF⟩ := nmx hF
  obtain ⟨h51, e52, hF⟩ := nmx hF
  have m53 : ∀ k, gn h46 k ≤ gn h51 k := mst_nw rfl e52
  have hM : ∀ k, gn h k ≤ gn h51 k := fun k => Nat.le_trans (hM k) (m53 k)
  obtain ⟨h55, e56, hF⟩ := nmx hF
  have m57 : ∀ k, gn h51 k ≤ gn h55 k := mst_sr rfl e56
  have hM : ∀ k, gn h k ≤ gn h55 k := fun k => Nat.le_trans (hM k) (m57 k)
  obtain rfl := sj hF
  exact hM
def F_X5_init (i0 : Nat) (h : HP) : Option (HP) :=
  nm (gn h 35) fun o1 => nm (nw h 35) fun h3 =>
  nm (sr h3 5 i0 0 (some o1)) fun h7 =>
  nm (gn h7 36) fun o10 => nm (nw h7 36) fun h12 =>
  nm (sr h12 5 i0 1 (some o10)) fun h16 =>
  some h16
set_option maxHeartbeats 4000000 in
set_option maxRecDepth 100000 in
theorem ok_X5_init {l : Launch} {D : va_G} {cA : Nat → ClassId} {h : HP}  {d : HP} (i0 : Nat) (al_0 : i0 < gn h 5) (hF : F_X5_init i0 h = some d) : MVa l D cA yX5_init cX5_init 1 none 1 30 2 264 (fun φ => [.ref (φ 5 i0)]) h d := by
  refine mk_Va (plainFor_of_name (by decide)) (fun φ => Nat.le_of_ble_eq_true rfl) ?_
  intro p e s m args below meth c ls φ0 A Q X hW hS hl hin hfin
  obtain ⟨φ, hφ⟩ : ∃ z : Nat → Nat → Nat, z = φ0 := ⟨_, rfl⟩
  have hU : ∀ k i, i < gn h k → φ k i = φ0 k i := fun k i _ => by rw [hφ]
  have hM : ∀ k, gn h k ≤ gn h k := fun k => Nat.le_refl _
  rw [← hφ] at hW hl
  have hx := X.1
  have hb := X.2.1
  have hl : lv_has ls 1 [(0, .ref (φ 5 i0))] := hl
  unfold F_X5_init at hF
  refine lv_aload_n hx hb dX5_init_0 rfl (lv_at hl 0 rfl) ?_
  refine W.objInit hx hb X.2.2.2.1 (X.2.2.2.2.1 _ (AL_of 106 (by decide +kernel) rfl)) (X.2.2.2.2.1 _ (AL_of 24 (by decide +kernel) rfl)) (X.2.2.2.2.1 _ (AL_of 25 (by decide +kernel) rfl)) rfl (by rw [X.2.2.1]; exact hl.1) rfl dX5_init_1 (Nat.le_of_ble_eq_true rfl) (Nat.le_of_ble_eq_true rfl) ?_
  refine W.eq (g2 := F0 m 4 ls []) rfl ?_
  refine lv_aload_n hx hb dX5_init_4 rfl (lv_at hl 0 rfl) ?_
  refine lv_sipush (v := 256) hx hb dX5_init_5 (by decide) ?_
  refine r_newl (k := 35) (N := 256) X hW hS rfl (by decide) (by decide) (Nat.le_of_ble_eq_true rfl) ⟨Nat.le_of_ble_eq_true rfl, Nat.le_of_ble_eq_true rfl⟩ dX5_init_8 (AL_of 120 (by decide +kernel) rfl) (fun u H hu hW hS => ?_)
  obtain ⟨o1, e2, hF⟩ := nmx hF
  obtain ⟨h3, e4, hF⟩ := nmx hF
  have hW := nmW e4 hW
  have m5 : ∀ k, gn h k ≤ gn h3 k := mst_nw rfl e4
  have hl : lv_has ls 1 [(0, .ref (u 5 i0))] := by rw [hu 5 i0 al_0]; exact hl
  refine stq (st1 := [.ref (u 35 o1), .ref (u 5 i0)]) (by rw [e2, hu 5 i0 al_0]) ?_
  have hU : ∀ k i, i < gn h k → u k i = φ0 k i := fun k i hi => (hu k i (Nat.lt_of_lt_of_le hi (hM k))).trans (hU k i hi)
  have hM : ∀ k, gn h k ≤ gn h3 k := fun k => Nat.le_trans (hM k) (m5 k)
  have al_0 := lm m5 al_0
  have al6 : o1 < gn h3 35 := by rw [e2, e4]; exact gn_nw_lt _ _
  obtain ⟨φ, rfl⟩ : ∃ z, z = u := ⟨_, rfl⟩
  refine r_putrF X hW hS hin al_0 al6 fp_5_11 rfl rfl dX5_init_10 (fun H locs hW hS => ?_)
  obtain ⟨h7, e8, hF⟩ := nmx hF
  have hW := nmW e8 hW
  have m9 : ∀ k, gn h3 k ≤ gn h7 k := mst_sr rfl e8
  have hM : ∀ k, gn h k ≤ gn h7 k := fun k => Nat.le_trans (hM k) (m9 k)
  have al_0 := lm m9 al_0
  refine lv_aload_n hx hb dX5_init_13 rfl (lv_at hl 0 rfl) ?_
  refine lv_bipush (v := 8) hx hb dX5_init_14 (by decide) ?_
  refine r_newl (k := 36) (N := 8) X hW hS rfl (by decide) (by decide) (Nat.le_of_ble_eq_true rfl) ⟨Nat.le_of_ble_eq_true rfl, Nat.le_of_ble_eq_true rfl⟩ dX5_init_16 (AL_of 120 (by decide +kernel) rfl) (fun u H hu hW hS => ?_)
  obtain ⟨o10, e11, hF⟩ := nmx hF
  obtain ⟨h12, e13, hF⟩ := nmx hF
  have hW := nmW e13 hW
  have m14 : ∀ k, gn h7 k ≤ gn h12 k := mst_nw rfl e13
  have hl : lv_has ls 1 [(0, .ref (u 5 i0))] := by rw [hu 5 i0 al_0]; exact hl
  refine stq (st1 := [.ref (u 36 o10), .ref (u 5 i0)]) (by rw [e11, hu 5 i0 al_0]) ?_
  have hU : ∀ k i, i < gn h k → u k i = φ0 k i := fun k i hi => (hu k i (Nat.lt_of_lt_of_le hi (hM k))).trans (hU k i hi)
  have hM : ∀ k, gn h k ≤ gn h12 k := fun k => Nat.le_trans (hM k) (m14 k)
  have al_0 := lm m14 al_0
  have al15 : o10 < gn h12 36 := by rw [e11, e13]; exact gn_nw_lt _ _
  obtain ⟨φ, rfl⟩ : ∃ z, z = u := ⟨_, rfl⟩
  refine r_putrF X hW hS hin al_0 al15 fp_5_15 rfl rfl dX5_init_18 (fun H locs hW hS => ?_)
  obtain ⟨h16, e17, hF⟩ := nmx hF
  have hW := nmW e17 hW
  have m18 : ∀ k, gn h12 k ≤ gn h16 k := mst_sr rfl e17
  have hM : ∀ k, gn h k ≤ gn h16 k := fun k => Nat.le_trans (hM k) (m18 k)
  have al_0 := lm m18 al_0
  obtain rfl := sj hF
  refine W.widen (k := 2) (n := 264) (Nat.le_of_ble_eq_true rfl) (Nat.le_of_ble_eq_true rfl) ?_
  exact hfin φ _ _ _ _ hU hW hS dX5_init_21 -- 
set_option maxHeartbeats 4000000 in
set_option maxRecDepth 100000 in
theorem mono_X5_init {h : HP}  {d : HP} {i0 : Nat} (hF : F_X5_init i0 h = some d) : ∀ k, gn h k ≤ gn d k := by
  have hM : ∀ k, gn h k ≤ gn h k := fun k => Nat.le_refl _
  unfold F_X5_init at hF
  obtain ⟨o1, e2, hF⟩ := nmx hF
  obtain ⟨h3, e4, hF⟩ := nmx hF
  have m5 : ∀ k, gn h k ≤ gn h3 k := mst_nw rfl e4
  have hM : ∀ k, gn h k ≤ gn h3 k := fun k => Nat.le_trans (hM k) (m5 k)
  obtain ⟨h7, e8, hF⟩ := nmx hF
  have m9 : ∀ k, gn h3 k ≤ gn h7 k := mst_sr rfl e8
  have hM : ∀ k, gn h k ≤ gn h7 k := fun k => Nat.le_trans (hM k) (m9 k)
  obtain ⟨o10, e11, hF⟩ := nmx hF
  obtain ⟨h12, e13, hF⟩ := nmx hF
  have m14 : ∀ k, gn h7 k ≤ gn h12 k := mst_nw rfl e13
  have hM : ∀ k, gn h k ≤ gn h12 k := fun k => Nat.le_trans (hM k) (m14 k)
  obtain ⟨h16, e17, hF⟩ := nmx hF
  have m18 : ∀ k, gn h12 k ≤ gn h16 k := mst_sr rfl e17
  have hM : ∀ k, gn h k ≤ gn h16 k := fun k => Nat.le_trans (hM k) (m18 k)
  obtain rfl := sj hF
  exact hM
def F_X7_init (i0 : Nat) (h : HP) : Option (HP) :=
  nm (si h 7 i0 0 20) fun h1 =>
  nm (si h1 7 i0 1 2741) fun h4 =>
  some h4
set_option maxHeartbeats 4000000 in
set_option maxRecDepth 100000 in
theorem ok_X7_init {l : Launch} {D : va_G} {cA : Nat → ClassId} {h : HP}  {d : HP} (i0 : Nat) (al_0 : i0 < gn h 7) (hF : F_X7_init i0 h = some d) : MVa l D cA yX7_init cX7_init 1 none 1 30 0 0 (fun φ => [.ref (φ 7 i0)]) h d := by
  refine mk_Va (plainFor_of_name (by decide)) (fun φ => Nat.le_of_ble_eq_true rfl) ?_
  intro p e s m args below meth c ls φ0 A Q X hW hS hl hin hfin
  obtain ⟨φ, hφ⟩ : ∃ z : Nat → Nat → Nat, z = φ0 := ⟨_, rfl⟩
  have hU : ∀ k i, i < gn h k → φ k i = φ0 k i := fun k i _ => by rw [hφ]
  have hM : ∀ k, gn h k ≤ gn h k := fun k => Nat.le_refl _
  rw [← hφ] at hW hl
  have hx := X.1
  have hb := X.2.1
  have hl : lv_has ls 1 [(0, .ref (φ 7 i0))] := hl
  unfold F_X7_init at hF
  refine lv_aload_n hx hb dX7_init_0 rfl (lv_at hl 0 rfl) ?_
  refine W.objInit hx hb X.2.2.2.1 (X.2.2.2.2.1 _ (AL_of 126 (by decide +kernel) rfl)) (X.2.2.2.2.1 _ (AL_of 24 (by decide +kernel) rfl)) (X.2.2.2.2.1 _ (AL_of 25 (by decide +kernel) rfl)) rfl (by rw [X.2.2.1]; exact hl.1) rfl dX7_init_1 (Nat.le_of_ble_eq_true rfl) (Nat.le_of_ble_eq_true rfl) ?_
  refine W.eq (g2 := F0 m 4 ls []) rfl ?_
  refine lv_aload_n hx hb dX7_init_4 rfl (lv_at hl 0 rfl) ?_
  refine lv_bipush (v := 20) hx hb dX7_init_5 (by decide) ?_
  refine r_puti X hW hS al_0 fp_7_9 rfl rfl dX7_init_7 (fun H locs hW hS => ?_)
  obtain ⟨h1, e2, hF⟩ := nmx hF
  have hW := nmW e2 hW
  have g3 : h1.2.2 = h.2.2 := by rw [e2]; exact rfl
  refine lv_aload_n hx hb dX7_init_10 rfl (lv_at hl 0 rfl) ?_
  refine lv_sipush (v := 2741) hx hb dX7_init_11 (by decide) ?_
  refine r_puti X hW hS (gq g3 al_0) fp_7_15 rfl rfl dX7_init_14 (fun H locs hW hS => ?_)
  obtain ⟨h4, e5, hF⟩ := nmx hF
  have hW := nmW e5 hW
  have g6 : h4.2.2 = h.2.2 := by rw [e5]; exact g3
  obtain rfl := sj hF
  refine W.widen (k := 0) (n := 0) (Nat.le_of_ble_eq_true rfl) (Nat.le_of_ble_eq_true rfl) ?_
  exact hfin φ _ _ _ _ hU hW hS dX7_init_17 -- g6
set_option maxHeartbeats 4000000 in
set_option maxRecDepth 100000 in
theorem mono_X7_init {h : HP}  {d : HP} {i0 : Nat} (hF : F_X7_init i0 h = some d) : ∀ k, gn h k ≤ gn d k := by
  have hM : ∀ k, gn h k ≤ gn h k := fun k => Nat.le_refl _
  unfold F_X7_init at hF
  obtain ⟨h1, e2, hF⟩ := nmx hF
  have g3 : h1.2.2 = h.2.2 := by rw [e2]; exact rfl
  obtain ⟨h4, e5, hF⟩ := nmx hF
  have g6 : h4.2.2 = h.2.2 := by rw [e5]; exact g3
  obtain rfl := sj hF
  exact hMg hM g6
def F_X6_init (i0 : Nat) (h : HP) : Option (HP) :=
  nm (gn h 37) fun o1 => nm (nw h 37) fun h3 =>
  nm (sr h3 6 i0 0 (some o1)) fun h7 =>
  some h7
set_option maxHeartbeats 4000000 in
set_option maxRecDepth 100000 in
theorem ok_X6_init {l : Launch} {D : va_G} {cA : Nat → ClassId} {h : HP}  {d : HP} (i0 : Nat) (al_0 : i0 < gn h 6) (hF : F_X6_init i0 h = some d) : MVa l D cA yX6_init cX6_init 1 none 1 30 1 20 (fun φ => [.ref (φ 6 i0)]) h d := by
  refine mk_Va (plainFor_of_name (by decide)) (fun φ => Nat.le_of_ble_eq_true rfl) ?_
  intro p e s m args below meth c ls φ0 A Q X hW hS hl hin hfin
  obtain ⟨φ, hφ⟩ : ∃ z : Nat → Nat → Nat, z = φ0 := ⟨_, rfl⟩
  have hU : ∀ k i, i < gn h k → φ k i = φ0 k i := fun k i _ => by rw [hφ]
  have hM : ∀ k, gn h k ≤ gn h k := fun k => Nat.le_refl _
  rw [← hφ] at hW hl
  have hx := X.1
  have hb := X.2.1
  have hl : lv_has ls 1 [(0, .ref (φ 6 i0))] := hl
  unfold F_X6_init at hF
  refine lv_aload_n hx hb dX6_init_0 rfl (lv_at hl 0 rfl) ?_
  refine W.objInit hx hb X.2.2.2.1 (X.2.2.2.2.1 _ (AL_of 158 (by decide +kernel) rfl)) (X.2.2.2.2.1 _ (AL_of 24 (by decide +kernel) rfl)) (X.2.2.2.2.1 _ (AL_of 25 (by decide +kernel) rfl)) rfl (by rw [X.2.2.1]; exact hl.1) rfl dX6_init_1 (Nat.le_of_ble_eq_true rfl) (Nat.le_of_ble_eq_true rfl) ?_
  refine W.eq (g2 := F0 m 4 ls []) rfl ?_
  refine lv_aload_n hx hb dX6_init_4 rfl (lv_at hl 0 rfl) ?_
  refine lv_bipush (v := 20) hx hb dX6_init_5 (by decide) ?_
  refine r_newi (k := 37) (N := 20) X hW hS rfl (by decide) (by decide) (Nat.le_of_ble_eq_true rfl) ⟨Nat.le_of_ble_eq_true rfl, Nat.le_of_ble_eq_true rfl⟩ dX6_init_7 (AL_of 55 (by decide +kernel) rfl) (fun u H hu hW hS => ?_)
  obtain ⟨o1, e2, hF⟩ := nmx hF
  obtain ⟨h3, e4, hF⟩ := nmx hF
  have hW := nmW e4 hW
  have m5 : ∀ k, gn h k ≤ gn h3 k := mst_nw rfl e4
  have hl : lv_has ls 1 [(0, .ref (u 6 i0))] := by rw [hu 6 i0 al_0]; exact hl
  refine stq (st1 := [.ref (u 37 o1), .ref (u 6 i0)]) (by rw [e2, hu 6 i0 al_0]) ?_
  have hU : ∀ k i, i < gn h k → u k i = φ0 k i := fun k i hi => (hu k i (Nat.lt_of_lt_of_le hi (hM k))).trans (hU k i hi)
  have hM : ∀ k, gn h k ≤ gn h3 k := fun k => Nat.le_trans (hM k) (m5 k)
  have al_0 := lm m5 al_0
  have al6 : o1 < gn h3 37 := by rw [e2, e4]; exact gn_nw_lt _ _
  obtain ⟨φ, rfl⟩ : ∃ z, z = u := ⟨_, rfl⟩
  refine r_putrF X hW hS hin al_0 al6 fp_6_9 rfl rfl dX6_init_9 (fun H locs hW hS => ?_)
  obtain ⟨h7, e8, hF⟩ := nmx hF
  have hW := nmW e8 hW
  have m9 : ∀ k, gn h3 k ≤ gn h7 k := mst_sr rfl e8
  have hM : ∀ k, gn h k ≤ gn h7 k := fun k => Nat.le_trans (hM k) (m9 k)
  have al_0 := lm m9 al_0
  obtain rfl := sj hF
  refine W.widen (k := 1) (n := 20) (Nat.le_of_ble_eq_true rfl) (Nat.le_of_ble_eq_true rfl) ?_
  exact hfin φ _ _ _ _ hU hW hS dX6_init_12 -- 
set_option maxHeartbeats 4000000 in
set_option maxRecDepth 100000 in
theorem mono_X6_init {h : HP}  {d : HP} {i0 : Nat} (hF : F_X6_init i0 h = some d) : ∀ k, gn h k ≤ gn d k := by
  have hM : ∀ k, gn h k ≤ gn h k := fun k => Nat.le_refl _
  unfold F_X6_init at hF
  obtain ⟨o1, e2, hF⟩ := nmx hF
  obtain ⟨h3, e4, hF⟩ := nmx hF
  have m5 : ∀ k, gn h k ≤ gn h3 k := mst_nw rfl e4
  have hM : ∀ k, gn h k ≤ gn h3 k := fun k => Nat.le_trans (hM k) (m5 k)
  obtain ⟨h7, e8, hF⟩ := nmx hF
  have m9 : ∀ k, gn h3 k ≤ gn h7 k := mst_sr rfl e8
  have hM : ∀ k, gn h k ≤ gn h7 k := fun k => Nat.le_trans (hM k) (m9 k)
  obtain rfl := sj hF
  exact hM
def F_X8_init (i0 : Nat) (h : HP) : Option (HP) :=
  nm (gn h 38) fun o1 => nm (nw h 38) fun h3 =>
  nm (sr h3 8 i0 0 (some o1)) fun h7 =>
  some h7
set_option maxHeartbeats 4000000 in
set_option maxRecDepth 100000 in
theorem ok_X8_init {l : Launch} {D : va_G} {cA : Nat → ClassId} {h : HP}  {d : HP} (i0 : Nat) (al_0 : i0 < gn h 8) (hF : F_X8_init i0 h = some d) : MVa l D cA yX8_init cX8_init 1 none 1 30 1 10 (fun φ => [.ref (φ 8 i0)]) h d := by
  refine mk_Va (plainFor_of_name (by decide)) (fun φ => Nat.le_of_ble_eq_true rfl) ?_
  intro p e s m args below meth c ls φ0 A Q X hW hS hl hin hfin
  obtain ⟨φ, hφ⟩ : ∃ z : Nat → Nat → Nat, z = φ0 := ⟨_, rfl⟩
  have hU : ∀ k i, i < gn h k → φ k i = φ0 k i := fun k i _ => by rw [hφ]
  have hM : ∀ k, gn h k ≤ gn h k := fun k => Nat.le_refl _
  rw [← hφ] at hW hl
  have hx := X.1
  have hb := X.2.1
  have hl : lv_has ls 1 [(0, .ref (φ 8 i0))] := hl
  unfold F_X8_init at hF
  refine lv_aload_n hx hb dX8_init_0 rfl (lv_at hl 0 rfl) ?_
  refine W.objInit hx hb X.2.2.2.1 (X.2.2.2.2.1 _ (AL_of 184 (by decide +kernel) rfl)) (X.2.2.2.2.1 _ (AL_of 24 (by decide +kernel) rfl)) (X.2.2.2.2.1 _ (AL_of 25 (by decide +kernel) rfl)) rfl (by rw [X.2.2.1]; exact hl.1) rfl dX8_init_1 (Nat.le_of_ble_eq_true rfl) (Nat.le_of_ble_eq_true rfl) ?_
  refine W.eq (g2 := F0 m 4 ls []) rfl ?_
  refine lv_aload_n hx hb dX8_init_4 rfl (lv_at hl 0 rfl) ?_
  refine lv_bipush (v := 10) hx hb dX8_init_5 (by decide) ?_
  refine r_newi (k := 38) (N := 10) X hW hS rfl (by decide) (by decide) (Nat.le_of_ble_eq_true rfl) ⟨Nat.le_of_ble_eq_true rfl, Nat.le_of_ble_eq_true rfl⟩ dX8_init_7 (AL_of 55 (by decide +kernel) rfl) (fun u H hu hW hS => ?_)
  obtain ⟨o1, e2, hF⟩ := nmx hF
  obtain ⟨h3, e4, hF⟩ := nmx hF
  have hW := nmW e4 hW
  have m5 : ∀ k, gn h k ≤ gn h3 k := mst_nw rfl e4
  have hl : lv_has ls 1 [(0, .ref (u 8 i0))] := by rw [hu 8 i0 al_0]; exact hl
  refine stq (st1 := [.ref (u 38 o1), .ref (u 8 i0)]) (by rw [e2, hu 8 i0 al_0]) ?_
  have hU : ∀ k i, i < gn h k → u k i = φ0 k i := fun k i hi => (hu k i (Nat.lt_of_lt_of_le hi (hM k))).trans (hU k i hi)
  have hM : ∀ k, gn h k ≤ gn h3 k := fun k => Nat.le_trans (hM k) (m5 k)
  have al_0 := lm m5 al_0
  have al6 : o1 < gn h3 38 := by rw [e2, e4]; exact gn_nw_lt _ _
  obtain ⟨φ, rfl⟩ : ∃ z, z = u := ⟨_, rfl⟩
  refine r_putrF X hW hS hin al_0 al6 fp_8_9 rfl rfl dX8_init_9 (fun H locs hW hS => ?_)
  obtain ⟨h7, e8, hF⟩ := nmx hF
  have hW := nmW e8 hW
  have m9 : ∀ k, gn h3 k ≤ gn h7 k := mst_sr rfl e8
  have hM : ∀ k, gn h k ≤ gn h7 k := fun k => Nat.le_trans (hM k) (m9 k)
  have al_0 := lm m9 al_0
  obtain rfl := sj hF
  refine W.widen (k := 1) (n := 10) (Nat.le_of_ble_eq_true rfl) (Nat.le_of_ble_eq_true rfl) ?_
  exact hfin φ _ _ _ _ hU hW hS dX8_init_12 -- 
set_option maxHeartbeats 4000000 in
set_option maxRecDepth 100000 in
theorem mono_X8_init {h : HP}  {d : HP} {i0 : Nat} (hF : F_X8_init i0 h = some d) : ∀ k, gn h k ≤ gn d k := by
  have hM : ∀ k, gn h k ≤ gn h k := fun k => Nat.le_refl _
  unfold F_X8_init at hF
  obtain ⟨o1, e2, hF⟩ := nmx hF
  obtain ⟨h3, e4, hF⟩ := nmx hF
  have m5 : ∀ k, gn h k ≤ gn h3 k := mst_nw rfl e4
  have hM : ∀ k, gn h k ≤ gn h3 k := fun k => Nat.le_trans (hM k) (m5 k)
  obtain ⟨h7, e8, hF⟩ := nmx hF
  have m9 : ∀ k, gn h3 k ≤ gn h7 k := mst_sr rfl e8
  have hM : ∀ k, gn h k ≤ gn h7 k := fun k => Nat.le_trans (hM k) (m9 k)
  obtain rfl := sj hF
  exact hM
def F_X3_init (i0 : Nat) (h : HP) : Option (HP) :=
  nm (gn h 24) fun o1 => nm (nw h 24) fun h3 =>
  nm (sr h3 3 i0 0 (some o1)) fun h7 =>
  nm (gn h7 25) fun o10 => nm (nw h7 25) fun h12 =>
  nm (sr h12 3 i0 1 (some o10)) fun h16 =>
  nm (gn h16 26) fun o19 => nm (nw h16 26) fun h21 =>
  nm (sr h21 3 i0 2 (some o19)) fun h25 =>
  nm (gn h25 27) fun o28 => nm (nw h25 27) fun h30 =>
  nm (sr h30 3 i0 3 (some o28)) fun h34 =>
  nm (gn h34 28) fun o37 => nm (nw h34 28) fun h39 =>
  (sa h39 28 o37 5 0 0).bind fun h43 =>
  (sa h43 28 o37 5 1 1).bind fun h47 =>
  (sa h47 28 o37 5 2 2).bind fun h51 =>
  (sa h51 28 o37 5 3 3).bind fun h55 =>
  (sa h55 28 o37 5 4 4).bind fun h59 =>
  nm (sr h59 3 i0 4 (some o37)) fun h63 =>
  some h63
set_option maxHeartbeats 4000000 in
set_option maxRecDepth 100000 in
theorem ok_X3_init {l : Launch} {D : va_G} {cA : Nat → ClassId} {h : HP}  {d : HP} (i0 : Nat) (al_0 : i0 < gn h 3) (hF : F_X3_init i0 h = some d) : MVa l D cA yX3_init cX3_init 1 none 1 30 5 125 (fun φ => [.ref (φ 3 i0)]) h d := by
  refine mk_Va (plainFor_of_name (by decide)) (fun φ => Nat.le_of_ble_eq_true rfl) ?_
  intro p e s m args below meth c ls φ0 A Q X hW hS hl hin hfin
  obtain ⟨φ, hφ⟩ : ∃ z : Nat → Nat → Nat, z = φ0 := ⟨_, rfl⟩
  have hU : ∀ k i, i < gn h k → φ k i = φ0 k i := fun k i _ => by rw [hφ]
  have hM : ∀ k, gn h k ≤ gn h k := fun k => Nat.le_refl _
  rw [← hφ] at hW hl
  have hx := X.1
  have hb := X.2.1
  have hl : lv_has ls 1 [(0, .ref (φ 3 i0))] := hl
  unfold F_X3_init at hF
  refine lv_aload_n hx hb dX3_init_0 rfl (lv_at hl 0 rfl) ?_
  refine W.objInit hx hb X.2.2.2.1 (X.2.2.2.2.1 _ (AL_of 209 (by decide +kernel) rfl)) (X.2.2.2.2.1 _ (AL_of 24 (by decide +kernel) rfl)) (X.2.2.2.2.1 _ (AL_of 25 (by decide +kernel) rfl)) rfl (by rw [X.2.2.1]; exact hl.1) rfl dX3_init_1 (Nat.le_of_ble_eq_true rfl) (Nat.le_of_ble_eq_true rfl) ?_
  refine W.eq (g2 := F0 m 4 ls []) rfl ?_
  refine lv_aload_n hx hb dX3_init_4 rfl (lv_at hl 0 rfl) ?_
  refine lv_bipush (v := 30) hx hb dX3_init_5 (by decide) ?_
  refine r_newi (k := 24) (N := 30) X hW hS rfl (by decide) (by decide) (Nat.le_of_ble_eq_true rfl) ⟨Nat.le_of_ble_eq_true rfl, Nat.le_of_ble_eq_true rfl⟩ dX3_init_7 (AL_of 55 (by decide +kernel) rfl) (fun u H hu hW hS => ?_)
  obtain ⟨o1, e2, hF⟩ := nmx hF
  obtain ⟨h3, e4, hF⟩ := nmx hF
  have hW := nmW e4 hW
  have m5 : ∀ k, gn h k ≤ gn h3 k := mst_nw rfl e4
  have hl : lv_has ls 1 [(0, .ref (u 3 i0))] := by rw [hu 3 i0 al_0]; exact hl
  refine stq (st1 := [.ref (u 24 o1), .ref (u 3 i0)]) (by rw [e2, hu 3 i0 al_0]) ?_
  have hU : ∀ k i, i < gn h k → u k i = φ0 k i := fun k i hi => (hu k i (Nat.lt_of_lt_of_le hi (hM k))).trans (hU k i hi)
  have hM : ∀ k, gn h k ≤ gn h3 k := fun k => Nat.le_trans (hM k) (m5 k)
  have al_0 := lm m5 al_0
  have al6 : o1 < gn h3 24 := by rw [e2, e4]; exact gn_nw_lt _ _
  obtain ⟨φ, rfl⟩ : ∃ z, z = u := ⟨_, rfl⟩
  refine r_putrF X hW hS hin al_0 al6 fp_3_9 rfl rfl dX3_init_9 (fun H locs hW hS => ?_)
  obtain ⟨h7, e8, hF⟩ := nmx hF
  have hW := nmW e8 hW
  have m9 : ∀ k, gn h3 k ≤ gn h7 k := mst_sr rfl e8
  have hM : ∀ k, gn h k ≤ gn h7 k := fun k => Nat.le_trans (hM k) (m9 k)
  have al_0 := lm m9 al_0
  refine lv_aload_n hx hb dX3_init_12 rfl (lv_at hl 0 rfl) ?_
  refine lv_bipush (v := 30) hx hb dX3_init_13 (by decide) ?_
  refine r_newi (k := 25) (N := 30) X hW hS rfl (by decide) (by decide) (Nat.le_of_ble_eq_true rfl) ⟨Nat.le_of_ble_eq_true rfl, Nat.le_of_ble_eq_true rfl⟩ dX3_init_15 (AL_of 55 (by decide +kernel) rfl) (fun u H hu hW hS => ?_)
  obtain ⟨o10, e11, hF⟩ := nmx hF
  obtain ⟨h12, e13, hF⟩ := nmx hF
  have hW := nmW e13 hW
  have m14 : ∀ k, gn h7 k ≤ gn h12 k := mst_nw rfl e13
  have hl : lv_has ls 1 [(0, .ref (u 3 i0))] := by rw [hu 3 i0 al_0]; exact hl
  refine stq (st1 := [.ref (u 25 o10), .ref (u 3 i0)]) (by rw [e11, hu 3 i0 al_0]) ?_
  have hU : ∀ k i, i < gn h k → u k i = φ0 k i := fun k i hi => (hu k i (Nat.lt_of_lt_of_le hi (hM k))).trans (hU k i hi)
  have hM : ∀ k, gn h k ≤ gn h12 k := fun k => Nat.le_trans (hM k) (m14 k)
  have al_0 := lm m14 al_0
  have al15 : o10 < gn h12 25 := by rw [e11, e13]; exact gn_nw_lt _ _
  obtain ⟨φ, rfl⟩ : ∃ z, z = u := ⟨_, rfl⟩
  refine r_putrF X hW hS hin al_0 al15 fp_3_15 rfl rfl dX3_init_17 (fun H locs hW hS => ?_)
  obtain ⟨h16, e17, hF⟩ := nmx hF
  have hW := nmW e17 hW
  have m18 : ∀ k, gn h12 k ≤ gn h16 k := mst_sr rfl e17
  have hM : ∀ k, gn h k ≤ gn h16 k := fun k => Nat.le_trans (hM k) (m18 k)
  have al_0 := lm m18 al_0
  refine lv_aload_n hx hb dX3_init_20 rfl (lv_at hl 0 rfl) ?_
  refine lv_bipush (v := 30) hx hb dX3_init_21 (by decide) ?_
  refine r_newi (k := 26) (N := 30) X hW hS rfl (by decide) (by decide) (Nat.le_of_ble_eq_true rfl) ⟨Nat.le_of_ble_eq_true rfl, Nat.le_of_ble_eq_true rfl⟩ dX3_init_23 (AL_of 55 (by decide +kernel) rfl) (fun u H hu hW hS => ?_)
  obtain ⟨o19, e20, hF⟩ := nmx hF
  obtain ⟨h21, e22, hF⟩ := nmx hF
  have hW := nmW e22 hW
  have m23 : ∀ k, gn h16 k ≤ gn h21 k := mst_nw rfl e22
  have hl : lv_has ls 1 [(0, .ref (u 3 i0))] := by rw [hu 3 i0 al_0]; exact hl
  refine stq (st1 := [.ref (u 26 o19), .ref (u 3 i0)]) (by rw [e20, hu 3 i0 al_0]) ?_
  have hU : ∀ k i, i < gn h k → u k i = φ0 k i := fun k i hi => (hu k i (Nat.lt_of_lt_of_le hi (hM k))).trans (hU k i hi)
  have hM : ∀ k, gn h k ≤ gn h21 k := fun k => Nat.le_trans (hM k) (m23 k)
  have al_0 := lm m23 al_0
  have al24 : o19 < gn h21 26 := by rw [e20, e22]; exact gn_nw_lt _ _
  obtain ⟨φ, rfl⟩ : ∃ z, z = u := ⟨_, rfl⟩
  refine r_putrF X hW hS hin al_0 al24 fp_3_18 rfl rfl dX3_init_25 (fun H locs hW hS => ?_)
  obtain ⟨h25, e26, hF⟩ := nmx hF
  have hW := nmW e26 hW
  have m27 : ∀ k, gn h21 k ≤ gn h25 k := mst_sr rfl e26
  have hM : ∀ k, gn h k ≤ gn h25 k := fun k => Nat.le_trans (hM k) (m27 k)
  have al_0 := lm m27 al_0
  refine lv_aload_n hx hb dX3_init_28 rfl (lv_at hl 0 rfl) ?_
  refine lv_bipush (v := 30) hx hb dX3_init_29 (by decide) ?_
  refine r_newi (k := 27) (N := 30) X hW hS rfl (by decide) (by decide) (Nat.le_of_ble_eq_true rfl) ⟨Nat.le_of_ble_eq_true rfl, Nat.le_of_ble_eq_true rfl⟩ dX3_init_31 (AL_of 55 (by decide +kernel) rfl) (fun u H hu hW hS => ?_)
  obtain ⟨o28, e29, hF⟩ := nmx hF
  obtain ⟨h30, e31, hF⟩ := nmx hF
  have hW := nmW e31 hW
  have m32 : ∀ k, gn h25 k ≤ gn h30 k := mst_nw rfl e31
  have hl : lv_has ls 1 [(0, .ref (u 3 i0))] := by rw [hu 3 i0 al_0]; exact hl
  refine stq (st1 := [.ref (u 27 o28), .ref (u 3 i0)]) (by rw [e29, hu 3 i0 al_0]) ?_
  have hU : ∀ k i, i < gn h k → u k i = φ0 k i := fun k i hi => (hu k i (Nat.lt_of_lt_of_le hi (hM k))).trans (hU k i hi)
  have hM : ∀ k, gn h k ≤ gn h30 k := fun k => Nat.le_trans (hM k) (m32 k)
  have al_0 := lm m32 al_0
  have al33 : o28 < gn h30 27 := by rw [e29, e31]; exact gn_nw_lt _ _
  obtain ⟨φ, rfl⟩ : ∃ z, z = u := ⟨_, rfl⟩
  refine r_putrF X hW hS hin al_0 al33 fp_3_21 rfl rfl dX3_init_33 (fun H locs hW hS => ?_)
  obtain ⟨h34, e35, hF⟩ := nmx hF
  have hW := nmW e35 hW
  have m36 : ∀ k, gn h30 k ≤ gn h34 k := mst_sr rfl e35
  have hM : ∀ k, gn h k ≤ gn h34 k := fun k => Nat.le_trans (hM k) (m36 k)
  have al_0 := lm m36 al_0
  refine lv_aload_n hx hb dX3_init_36 rfl (lv_at hl 0 rfl) ?_
  refine lv_iconst (v := 5) hx hb dX3_init_37 (by decide) ?_
  refine r_newi (k := 28) (N := 5) X hW hS rfl (by decide) (by decide) (Nat.le_of_ble_eq_true rfl) ⟨Nat.le_of_ble_eq_true rfl, Nat.le_of_ble_eq_true rfl⟩ dX3_init_38 (AL_of 55 (by decide +kernel) rfl) (fun u H hu hW hS => ?_)
  obtain ⟨o37, e38, hF⟩ := nmx hF
  obtain ⟨h39, e40, hF⟩ := nmx hF
  have hW := nmW e40 hW
  have m41 : ∀ k, gn h34 k ≤ gn h39 k := mst_nw rfl e40
  have hl : lv_has ls 1 [(0, .ref (u 3 i0))] := by rw [hu 3 i0 al_0]; exact hl
  refine stq (st1 := [.ref (u 28 o37), .ref (u 3 i0)]) (by rw [e38, hu 3 i0 al_0]) ?_
  have hU : ∀ k i, i < gn h k → u k i = φ0 k i := fun k i hi => (hu k i (Nat.lt_of_lt_of_le hi (hM k))).trans (hU k i hi)
  have hM : ∀ k, gn h k ≤ gn h39 k := fun k => Nat.le_trans (hM k) (m41 k)
  have al_0 := lm m41 al_0
  have al42 : o37 < gn h39 28 := by rw [e38, e40]; exact gn_nw_lt _ _
  obtain ⟨φ, rfl⟩ : ∃ z, z = u := ⟨_, rfl⟩
  refine lv_dup hx hb dX3_init_40 rfl ?_
  refine lv_iconst (v := 0) hx hb dX3_init_41 (by decide) ?_
  refine lv_iconst (v := 0) hx hb dX3_init_42 (by decide) ?_
  obtain ⟨h43, e44, hF⟩ := bn hF
  obtain ⟨b45, e44⟩ := sa_s e44
  refine r_iast X hW hS al42 rfl b45 dX3_init_43 (fun H locs hW hS => ?_)
  have hW := nmW e44 hW
  have g46 : h43.2.2 = h39.2.2 := by rw [e44]; exact rfl
  refine lv_dup hx hb dX3_init_44 rfl ?_
  refine lv_iconst (v := 1) hx hb dX3_init_45 (by decide) ?_
  refine lv_iconst (v := 1) hx hb dX3_init_46 (by decide) ?_
  obtain ⟨h47, e48, hF⟩ := bn hF
  obtain ⟨b49, e48⟩ := sa_s e48
  refine r_iast X hW hS (gq g46 al42) rfl b49 dX3_init_47 (fun H locs hW hS => ?_)
  have hW := nmW e48 hW
  have g50 : h47.2.2 = h39.2.2 := by rw [e48]; exact g46
  refine lv_dup hx hb dX3_init_48 rfl ?_
  refine lv_iconst (v := 2) hx hb dX3_init_49 (by decide) ?_
  refine lv_iconst (v := 2) hx hb dX3_init_50 (by decide) ?_
  obtain ⟨h51, e52, hF⟩ := bn hF
  obtain ⟨b53, e52⟩ := sa_s e52
  refine r_iast X hW hS (gq g50 al42) rfl b53 dX3_init_51 (fun H locs hW hS => ?_)
  have hW := nmW e52 hW
  have g54 : h51.2.2 = h39.2.2 := by rw [e52]; exact g50
  refine lv_dup hx hb dX3_init_52 rfl ?_
  refine lv_iconst (v := 3) hx hb dX3_init_53 (by decide) ?_
  refine lv_iconst (v := 3) hx hb dX3_init_54 (by decide) ?_
  obtain ⟨h55, e56, hF⟩ := bn hF
  obtain ⟨b57, e56⟩ := sa_s e56
  refine r_iast X hW hS (gq g54 al42) rfl b57 dX3_init_55 (fun H locs hW hS => ?_)
  have hW := nmW e56 hW
  have g58 : h55.2.2 = h39.2.2 := by rw [e56]; exact g54
  refine lv_dup hx hb dX3_init_56 rfl ?_
  refine lv_iconst (v := 4) hx hb dX3_init_57 (by decide) ?_
  refine lv_iconst (v := 4) hx hb dX3_init_58 (by decide) ?_
  obtain ⟨h59, e60, hF⟩ := bn hF
  obtain ⟨b61, e60⟩ := sa_s e60
  refine r_iast X hW hS (gq g58 al42) rfl b61 dX3_init_59 (fun H locs hW hS => ?_)
  have hW := nmW e60 hW
  have g62 : h59.2.2 = h39.2.2 := by rw [e60]; exact g58
  refine r_putrF X hW hS hin (gq g62 al_0) (gq g62 al42) fp_3_24 rfl rfl dX3_init_60 (fun H locs hW hS => ?_)
  obtain ⟨h63, e64, hF⟩ := nmx hF
  have hW := nmW e64 hW
  have m65 : ∀ k, gn h39 k ≤ gn h63 k := mst_sr g62 e64
  have hM : ∀ k, gn h k ≤ gn h63 k := fun k => Nat.le_trans (hM k) (m65 k)
  have al_0 := lm m65 al_0
  obtain rfl := sj hF
  refine W.widen (k := 5) (n := 125) (Nat.le_of_ble_eq_true rfl) (Nat.le_of_ble_eq_true rfl) ?_
  exact hfin φ _ _ _ _ hU hW hS dX3_init_63 -- 
set_option maxHeartbeats 4000000 in
set_option maxRecDepth 100000 in
theorem mono_X3_init {h : HP}  {d : HP} {i0 : Nat} (hF : F_X3_init i0 h = some d) : ∀ k, gn h k ≤ gn d k := by
  have hM : ∀ k, gn h k ≤ gn h k := fun k => Nat.le_refl _
  unfold F_X3_init at hF
  obtain ⟨o1, e2, hF⟩ := nmx hF
  obtain ⟨h3, e4, hF⟩ := nmx hF
  have m5 : ∀ k, gn h k ≤ gn h3 k := mst_nw rfl e4
  have hM : ∀ k, gn h k ≤ gn h3 k := fun k => Nat.le_trans (hM k) (m5 k)
  obtain ⟨h7, e8, hF⟩ := nmx hF
  have m9 : ∀ k, gn h3 k ≤ gn h7 k := mst_sr rfl e8
  have hM : ∀ k, gn h k ≤ gn h7 k := fun k => Nat.le_trans (hM k) (m9 k)
  obtain ⟨o10, e11, hF⟩ := nmx hF
  obtain ⟨h12, e13, hF⟩ := nmx hF
  have m14 : ∀ k, gn h7 k ≤ gn h12 k := mst_nw rfl e13
  have hM : ∀ k, gn h k ≤ gn h12 k := fun k => Nat.le_trans (hM k) (m14 k)
  obtain ⟨h16, e17, hF⟩ := nmx hF
  have m18 : ∀ k, gn h12 k ≤ gn h16 k := mst_sr rfl e17
  have hM : ∀ k, gn h k ≤ gn h16 k := fun k => Nat.le_trans (hM k) (m18 k)
  obtain ⟨o19, e20, hF⟩ := nmx hF
  obtain ⟨h21, e22, hF⟩ := nmx hF
  have m23 : ∀ k, gn h16 k ≤ gn h21 k := mst_nw rfl e22
  have hM : ∀ k, gn h k ≤ gn h21 k := fun k => Nat.le_trans (hM k) (m23 k)
  obtain ⟨h25, e26, hF⟩ := nmx hF
  have m27 : ∀ k, gn h21 k ≤ gn h25 k := mst_sr rfl e26
  have hM : ∀ k, gn h k ≤ gn h25 k := fun k => Nat.le_trans (hM k) (m27 k)
  obtain ⟨o28, e29, hF⟩ := nmx hF
  obtain ⟨h30, e31, hF⟩ := nmx hF
  have m32 : ∀ k, gn h25 k ≤ gn h30 k := mst_nw rfl e31
  have hM : ∀ k, gn h k ≤ gn h30 k := fun k => Nat.le_trans (hM k) (m32 k)
  obtain ⟨h34, e35, hF⟩ := nmx hF
  have m36 : ∀ k, gn h30 k ≤ gn h34 k := mst_sr rfl e35
  have hM : ∀ k, gn h k ≤ gn h34 k := fun k => Nat.le_trans (hM k) (m36 k)
  obtain ⟨o37, e38, hF⟩ := nmx hF
  obtain ⟨h39, e40, hF⟩ := nmx hF
  have m41 : ∀ k, gn h34 k ≤ gn h39 k := mst_nw rfl e40
  have hM : ∀ k, gn h k ≤ gn h39 k := fun k => Nat.le_trans (hM k) (m41 k)
  obtain ⟨h43, e44, hF⟩ := bn hF
  obtain ⟨b45, e44⟩ := sa_s e44
  have g46 : h43.2.2 = h39.2.2 := by rw [e44]; exact rfl
  obtain ⟨h47, e48, hF⟩ := bn hF
  obtain ⟨b49, e48⟩ := sa_s e48
  have g50 : h47.2.2 = h39.2.2 := by rw [e48]; exact g46
  obtain ⟨h51, e52, hF⟩ := bn hF
  obtain ⟨b53, e52⟩ := sa_s e52
  have g54 : h51.2.2 = h39.2.2 := by rw [e52]; exact g50
  obtain ⟨h55, e56, hF⟩ := bn hF
  obtain ⟨b57, e56⟩ := sa_s e56
  have g58 : h55.2.2 = h39.2.2 := by rw [e56]; exact g54
  obtain ⟨h59, e60, hF⟩ := bn hF
  obtain ⟨b61, e60⟩ := sa_s e60
  have g62 : h59.2.2 = h39.2.2 := by rw [e60]; exact g58
  obtain ⟨h63, e64, hF⟩ := nmx hF
  have m65 : ∀ k, gn h39 k ≤ gn h63 k := mst_sr g62 e64
  have hM : ∀ k, gn h k ≤ gn h63 k := fun k => Nat.le_trans (hM k) (m65 k)
  obtain rfl := sj hF
  exact hM
def F_X9_init (i0 : Nat) (h : HP) : Option (HP) :=
  nm (si h 9 i0 0 1) fun h1 =>
  nm (gn h1 39) fun o4 => nm (nw h1 39) fun h6 =>
  nm (sr h6 9 i0 3 (some o4)) fun h10 =>
  some h10
set_option maxHeartbeats 4000000 in
set_option maxRecDepth 100000 in
theorem ok_X9_init {l : Launch} {D : va_G} {cA : Nat → ClassId} {h : HP}  {d : HP} (i0 : Nat) (al_0 : i0 < gn h 9) (hF : F_X9_init i0 h = some d) : MVa l D cA yX9_init cX9_init 1 none 1 30 1 60 (fun φ => [.ref (φ 9 i0)]) h d := by
  refine mk_Va (plainFor_of_name (by decide)) (fun φ => Nat.le_of_ble_eq_true rfl) ?_
  intro p e s m args below meth c ls φ0 A Q X hW hS hl hin hfin
  obtain ⟨φ, hφ⟩ : ∃ z : Nat → Nat → Nat, z = φ0 := ⟨_, rfl⟩
  have hU : ∀ k i, i < gn h k → φ k i = φ0 k i := fun k i _ => by rw [hφ]
  have hM : ∀ k, gn h k ≤ gn h k := fun k => Nat.le_refl _
  rw [← hφ] at hW hl
  have hx := X.1
  have hb := X.2.1
  have hl : lv_has ls 1 [(0, .ref (φ 9 i0))] := hl
  unfold F_X9_init at hF
  refine lv_aload_n hx hb dX9_init_0 rfl (lv_at hl 0 rfl) ?_
  refine W.objInit hx hb X.2.2.2.1 (X.2.2.2.2.1 _ (AL_of 237 (by decide +kernel) rfl)) (X.2.2.2.2.1 _ (AL_of 24 (by decide +kernel) rfl)) (X.2.2.2.2.1 _ (AL_of 25 (by decide +kernel) rfl)) rfl (by rw [X.2.2.1]; exact hl.1) rfl dX9_init_1 (Nat.le_of_ble_eq_true rfl) (Nat.le_of_ble_eq_true rfl) ?_
  refine W.eq (g2 := F0 m 4 ls []) rfl ?_
  refine lv_aload_n hx hb dX9_init_4 rfl (lv_at hl 0 rfl) ?_
  refine lv_iconst (v := 1) hx hb dX9_init_5 (by decide) ?_
  refine r_puti X hW hS al_0 fp_9_9 rfl rfl dX9_init_6 (fun H locs hW hS => ?_)
  obtain ⟨h1, e2, hF⟩ := nmx hF
  have hW := nmW e2 hW
  have g3 : h1.2.2 = h.2.2 := by rw [e2]; exact rfl
  refine lv_aload_n hx hb dX9_init_9 rfl (lv_at hl 0 rfl) ?_
  refine lv_bipush (v := 60) hx hb dX9_init_10 (by decide) ?_
  refine r_newi (k := 39) (N := 60) X hW hS rfl (by decide) (by decide) (Nat.le_of_ble_eq_true rfl) ⟨Nat.le_of_ble_eq_true rfl, Nat.le_of_ble_eq_true rfl⟩ dX9_init_12 (AL_of 55 (by decide +kernel) rfl) (fun u H hu hW hS => ?_)
  obtain ⟨o4, e5, hF⟩ := nmx hF
  obtain ⟨h6, e7, hF⟩ := nmx hF
  have hW := nmW e7 hW
  have m8 : ∀ k, gn h k ≤ gn h6 k := mst_nw g3 e7
  have hl : lv_has ls 1 [(0, .ref (u 9 i0))] := by rw [hu 9 i0 (gq g3 al_0)]; exact hl
  refine stq (st1 := [.ref (u 39 o4), .ref (u 9 i0)]) (by rw [e5, hu 9 i0 (gq g3 al_0)]) ?_
  have hU : ∀ k i, i < gn h k → u k i = φ0 k i := fun k i hi => (hu k i (gq g3 (Nat.lt_of_lt_of_le hi (hM k)))).trans (hU k i hi)
  have hM : ∀ k, gn h k ≤ gn h6 k := fun k => Nat.le_trans (hM k) (m8 k)
  have al_0 := lm m8 al_0
  have al9 : o4 < gn h6 39 := by rw [e5, e7]; exact gn_nw_lt _ _
  obtain ⟨φ, rfl⟩ : ∃ z, z = u := ⟨_, rfl⟩
  refine r_putrF X hW hS hin al_0 al9 fp_9_15 rfl rfl dX9_init_14 (fun H locs hW hS => ?_)
  obtain ⟨h10, e11, hF⟩ := nmx hF
  have hW := nmW e11 hW
  have m12 : ∀ k, gn h6 k ≤ gn h10 k := mst_sr rfl e11
  have hM : ∀ k, gn h k ≤ gn h10 k := fun k => Nat.le_trans (hM k) (m12 k)
  have al_0 := lm m12 al_0
  obtain rfl := sj hF
  refine W.widen (k := 1) (n := 60) (Nat.le_of_ble_eq_true rfl) (Nat.le_of_ble_eq_true rfl) ?_
  exact hfin φ _ _ _ _ hU hW hS dX9_init_17 -- 
set_option maxHeartbeats 4000000 in
set_option maxRecDepth 100000 in
theorem mono_X9_init {h : HP}  {d : HP} {i0 : Nat} (hF : F_X9_init i0 h = some d) : ∀ k, gn h k ≤ gn d k := by
  have hM : ∀ k, gn h k ≤ gn h k := fun k => Nat.le_refl _
  unfold F_X9_init at hF
  obtain ⟨h1, e2, hF⟩ := nmx hF
  have g3 : h1.2.2 = h.2.2 := by rw [e2]; exact rfl
  obtain ⟨o4, e5, hF⟩ := nmx hF
  obtain ⟨h6, e7, hF⟩ := nmx hF
  have m8 : ∀ k, gn h k ≤ gn h6 k := mst_nw g3 e7
  have hM : ∀ k, gn h k ≤ gn h6 k := fun k => Nat.le_trans (hM k) (m8 k)
  obtain ⟨h10, e11, hF⟩ := nmx hF
  have m12 : ∀ k, gn h6 k ≤ gn h10 k := mst_sr rfl e11
  have hM : ∀ k, gn h k ≤ gn h10 k := fun k => Nat.le_trans (hM k) (m12 k)
  obtain rfl := sj hF
  exact hM
def F_X11_init (i0 : Nat) (h : HP) : Option (HP) :=
  nm (gn h 41) fun o1 => nm (nw h 41) fun h3 =>
  nm (sr h3 11 i0 1 (some o1)) fun h7 =>
  nm (gn h7 2) fun o10 => nm (nw h7 2) fun h12 =>
  (F_X2_init o10 h12).bind fun h17 =>
  nm (sr h17 11 i0 3 (some o10)) fun h19 =>
  nm (gn h19 4) fun o22 => nm (nw h19 4) fun h24 =>
  (F_X4_init o22 h24).bind fun h29 =>
  nm (sr h29 11 i0 4 (some o22)) fun h31 =>
  nm (gn h31 42) fun o34 => nm (nw h31 42) fun h36 =>
  nm (sr h36 11 i0 5 (some o34)) fun h40 =>
  nm (gn h40 5) fun o43 => nm (nw h40 5) fun h45 =>
  (F_X5_init o43 h45).bind fun h50 =>
  nm (sr h50 11 i0 7 (some o43)) fun h52 =>
  nm (gn h52 7) fun o55 => nm (nw h52 7) fun h57 =>
  (F_X7_init o55 h57).bind fun h62 =>
  nm (sr h62 11 i0 8 (some o55)) fun h64 =>
  nm (gn h64 43) fun o67 => nm (nw h64 43) fun h69 =>
  nm (sr h69 11 i0 9 (some o67)) fun h73 =>
  nm (gn h73 6) fun o76 => nm (nw h73 6) fun h78 =>
  (F_X6_init o76 h78).bind fun h83 =>
  nm (sr h83 11 i0 11 (some o76)) fun h85 =>
  nm (gn h85 8) fun o88 => nm (nw h85 8) fun h90 =>
  (F_X8_init o88 h90).bind fun h95 =>
  nm (sr h95 11 i0 12 (some o88)) fun h97 =>
  nm (gn h97 3) fun o100 => nm (nw h97 3) fun h102 =>
  (F_X3_init o100 h102).bind fun h107 =>
  nm (sr h107 11 i0 13 (some o100)) fun h109 =>
  nm (gn h109 44) fun o112 => nm (nw h109 44) fun h114 =>
  nm (sr h114 11 i0 14 (some o112)) fun h118 =>
  (gr h118 11 i0 14).bind fun o121 =>
  nm (gn h118 9) fun o124 => nm (nw h118 9) fun h126 =>
  (F_X9_init o124 h126).bind fun h131 =>
  (sar h131 44 o121 4 0 o124).bind fun h133 =>
  (gr h133 11 i0 14).bind fun o137 =>
  nm (gn h133 9) fun o140 => nm (nw h133 9) fun h142 =>
  (F_X9_init o140 h142).bind fun h147 =>
  (sar h147 44 o137 4 1 o140).bind fun h149 =>
  (gr h149 11 i0 14).bind fun o153 =>
  nm (gn h149 9) fun o156 => nm (nw h149 9) fun h158 =>
  (F_X9_init o156 h158).bind fun h163 =>
  (sar h163 44 o153 4 2 o156).bind fun h165 =>
  (gr h165 11 i0 14).bind fun o169 =>
  nm (gn h165 9) fun o172 => nm (nw h165 9) fun h174 =>
  (F_X9_init o172 h174).bind fun h179 =>
  (sar h179 44 o169 4 3 o172).bind fun h181 =>
  some h181
set_option maxHeartbeats 4000000 in
set_option maxRecDepth 100000 in
theorem ok_X11_init {l : Launch} {D : va_G} {cA : Nat → ClassId} {h : HP}  {d : HP} (i0 : Nat) (al_0 : i0 < gn h 11) (hF : F_X11_init i0 h = some d) : MVa l D cA yX11_init cX11_init 2 none 2 50 35 969 (fun φ => [.ref (φ 11 i0)]) h d := by
  refine mk_Va (plainFor_of_name (by decide)) (fun φ => Nat.le_of_ble_eq_true rfl) ?_
  intro p e s m args below meth c ls φ0 A Q X hW hS hl hin hfin
  obtain ⟨φ, hφ⟩ : ∃ z : Nat → Nat → Nat, z = φ0 := ⟨_, rfl⟩
  have hU : ∀ k i, i < gn h k → φ k i = φ0 k i := fun k i _ => by rw [hφ]
  have hM : ∀ k, gn h k ≤ gn h k := fun k => Nat.le_refl _
  rw [← hφ] at hW hl
  have hx := X.1
  have hb := X.2.1
  have hl : lv_has ls 2 [(0, .ref (φ 11 i0))] := hl
  unfold F_X11_init at hF
  refine lv_aload_n hx hb dX11_init_0 rfl (lv_at hl 0 rfl) ?_
  refine W.objInit hx hb X.2.2.2.1 (X.2.2.2.2.1 _ (AL_of 23 (by decide +kernel) rfl)) (X.2.2.2.2.1 _ (AL_of 24 (by decide +kernel) rfl)) (X.2.2.2.2.1 _ (AL_of 25 (by decide +kernel) rfl)) rfl (by rw [X.2.2.1]; exact hl.1) rfl dX11_init_1 (Nat.le_of_ble_eq_true rfl) (Nat.le_of_ble_eq_true rfl) ?_
  refine W.eq (g2 := F0 m 4 ls []) rfl ?_
  refine lv_aload_n hx hb dX11_init_4 rfl (lv_at hl 0 rfl) ?_
  refine lv_bipush (v := 8) hx hb dX11_init_5 (by decide) ?_
  refine r_newi (k := 41) (N := 8) X hW hS rfl (by decide) (by decide) (Nat.le_of_ble_eq_true rfl) ⟨Nat.le_of_ble_eq_true rfl, Nat.le_of_ble_eq_true rfl⟩ dX11_init_7 (AL_of 55 (by decide +kernel) rfl) (fun u H hu hW hS => ?_)
  obtain ⟨o1, e2, hF⟩ := nmx hF
  obtain ⟨h3, e4, hF⟩ := nmx hF
  have hW := nmW e4 hW
  have m5 : ∀ k, gn h k ≤ gn h3 k := mst_nw rfl e4
  have hl : lv_has ls 2 [(0, .ref (u 11 i0))] := by rw [hu 11 i0 al_0]; exact hl
  refine stq (st1 := [.ref (u 41 o1), .ref (u 11 i0)]) (by rw [e2, hu 11 i0 al_0]) ?_
  have hU : ∀ k i, i < gn h k → u k i = φ0 k i := fun k i hi => (hu k i (Nat.lt_of_lt_of_le hi (hM k))).trans (hU k i hi)
  have hM : ∀ k, gn h k ≤ gn h3 k := fun k => Nat.le_trans (hM k) (m5 k)
  have al_0 := lm m5 al_0
  have al6 : o1 < gn h3 41 := by rw [e2, e4]; exact gn_nw_lt _ _
  obtain ⟨φ, rfl⟩ : ∃ z, z = u := ⟨_, rfl⟩
  refine r_putrF X hW hS hin al_0 al6 fp_11_9 rfl rfl dX11_init_9 (fun H locs hW hS => ?_)
  obtain ⟨h7, e8, hF⟩ := nmx hF
  have hW := nmW e8 hW
  have m9 : ∀ k, gn h3 k ≤ gn h7 k := mst_sr rfl e8
  have hM : ∀ k, gn h k ≤ gn h7 k := fun k => Nat.le_trans (hM k) (m9 k)
  have al_0 := lm m9 al_0
  refine lv_aload_n hx hb dX11_init_12 rfl (lv_at hl 0 rfl) ?_
  refine r_new X hW hS fn_11_13 ⟨Nat.le_of_ble_eq_true rfl, Nat.le_of_ble_eq_true rfl⟩ dX11_init_13 (fun u H hu hW hS => ?_)
  obtain ⟨o10, e11, hF⟩ := nmx hF
  obtain ⟨h12, e13, hF⟩ := nmx hF
  have hW := nmW e13 hW
  have m14 : ∀ k, gn h7 k ≤ gn h12 k := mst_nw rfl e13
  have hl : lv_has ls 2 [(0, .ref (u 11 i0))] := by rw [hu 11 i0 al_0]; exact hl
  refine stq (st1 := [.ref (u 2 o10), .ref (u 11 i0)]) (by rw [e11, hu 11 i0 al_0]) ?_
  have hU : ∀ k i, i < gn h k → u k i = φ0 k i := fun k i hi => (hu k i (Nat.lt_of_lt_of_le hi (hM k))).trans (hU k i hi)
  have hM : ∀ k, gn h k ≤ gn h12 k := fun k => Nat.le_trans (hM k) (m14 k)
  have al_0 := lm m14 al_0
  have al15 : o10 < gn h12 2 := by rw [e11, e13]; exact gn_nw_lt _ _
  obtain ⟨φ, rfl⟩ : ∃ z, z = u := ⟨_, rfl⟩
  refine lv_dup hx hb dX11_init_16 rfl ?_
  obtain ⟨h17, e16, hF⟩ := bn hF
  refine rc_va (Af := fun φ => [.ref (φ 2 o10)]) X hW hS ⟨Nat.le_of_ble_eq_true rfl, Nat.le_of_ble_eq_true rfl⟩ (rn_IN (k := 2) (i := o10) (As := []) (rest := [.ref (φ 2 o10), .ref (φ 11 i0)]) X hW hS cw_11_15 ⟨Nat.le_of_ble_eq_true rfl, Nat.le_of_ble_eq_true rfl⟩ rfl hl.1 rfl (Nat.le_of_ble_eq_true rfl) dX11_init_17) (ok_X2_init o10 al15 e16) (fun u H locs hu hW hS => ?_)
  have m18 : ∀ k, gn h12 k ≤ gn h17 k := mst_tr rfl (mono_X2_init e16)
  have hl : lv_has ls 2 [(0, .ref (u 11 i0))] := by rw [hu 11 i0 al_0]; exact hl
  refine stq (st1 := [.ref (u 2 o10), .ref (u 11 i0)]) (by rw [hu 2 o10 al15, hu 11 i0 al_0]) ?_
  have hU : ∀ k i, i < gn h k → u k i = φ0 k i := fun k i hi => (hu k i (Nat.lt_of_lt_of_le hi (hM k))).trans (hU k i hi)
  have hM : ∀ k, gn h k ≤ gn h17 k := fun k => Nat.le_trans (hM k) (m18 k)
  have al_0 := lm m18 al_0
  have al15 := lm m18 al15
  obtain ⟨φ, rfl⟩ : ∃ z, z = u := ⟨_, rfl⟩
  refine r_putrF X hW hS hin al_0 al15 fp_11_16 rfl rfl dX11_init_20 (fun H locs hW hS => ?_)
  obtain ⟨h19, e20, hF⟩ := nmx hF
  have hW := nmW e20 hW
  have m21 : ∀ k, gn h17 k ≤ gn h19 k := mst_sr rfl e20
  have hM : ∀ k, gn h k ≤ gn h19 k := fun k => Nat.le_trans (hM k) (m21 k)
  have al_0 := lm m21 al_0
  refine lv_aload_n hx hb dX11_init_23 rfl (lv_at hl 0 rfl) ?_
  refine r_new X hW hS fn_11_20 ⟨Nat.le_of_ble_eq_true rfl, Nat.le_of_ble_eq_true rfl⟩ dX11_init_24 (fun u H hu hW hS => ?_)
  obtain ⟨o22, e23, hF⟩ := nmx hF
  obtain ⟨h24, e25, hF⟩ := nmx hF
  have hW := nmW e25 hW
  have m26 : ∀ k, gn h19 k ≤ gn h24 k := mst_nw rfl e25
  have hl : lv_has ls 2 [(0, .ref (u 11 i0))] := by rw [hu 11 i0 al_0]; exact hl
  refine stq (st1 := [.ref (u 4 o22), .ref (u 11 i0)]) (by rw [e23, hu 11 i0 al_0]) ?_
  have hU : ∀ k i, i < gn h k → u k i = φ0 k i := fun k i hi => (hu k i (Nat.lt_of_lt_of_le hi (hM k))).trans (hU k i hi)
  have hM : ∀ k, gn h k ≤ gn h24 k := fun k => Nat.le_trans (hM k) (m26 k)
  have al_0 := lm m26 al_0
  have al27 : o22 < gn h24 4 := by rw [e23, e25]; exact gn_nw_lt _ _
  obtain ⟨φ, rfl⟩ : ∃ z, z = u := ⟨_, rfl⟩
  refine lv_dup hx hb dX11_init_27 rfl ?_
  obtain ⟨h29, e28, hF⟩ := bn hF
  refine rc_va (Af := fun φ => [.ref (φ 4 o22)]) X hW hS ⟨Nat.le_of_ble_eq_true rfl, Nat.le_of_ble_eq_true rfl⟩ (rn_IN (k := 4) (i := o22) (As := []) (rest := [.ref (φ 4 o22), .ref (φ 11 i0)]) X hW hS cw_11_22 ⟨Nat.le_of_ble_eq_true rfl, Nat.le_of_ble_eq_true rfl⟩ rfl hl.1 rfl (Nat.le_of_ble_eq_true rfl) dX11_init_28) (ok_X4_init o22 al27 e28) (fun u H locs hu hW hS => ?_)
  have m30 : ∀ k, gn h24 k ≤ gn h29 k := mst_tr rfl (mono_X4_init e28)
  have hl : lv_has ls 2 [(0, .ref (u 11 i0))] := by rw [hu 11 i0 al_0]; exact hl
  refine stq (st1 := [.ref (u 4 o22), .ref (u 11 i0)]) (by rw [hu 4 o22 al27, hu 11 i0 al_0]) ?_
  have hU : ∀ k i, i < gn h k → u k i = φ0 k i := fun k i hi => (hu k i (Nat.lt_of_lt_of_le hi (hM k))).trans (hU k i hi)
  have hM : ∀ k, gn h k ≤ gn h29 k := fun k => Nat.le_trans (hM k) (m30 k)
  have al_0 := lm m30 al_0
  have al27 := lm m30 al27
  obtain ⟨φ, rfl⟩ : ∃ z, z = u := ⟨_, rfl⟩
  refine r_putrF X hW hS hin al_0 al27 fp_11_23 rfl rfl dX11_init_31 (fun H locs hW hS => ?_)
  obtain ⟨h31, e32, hF⟩ := nmx hF
  have hW := nmW e32 hW
  have m33 : ∀ k, gn h29 k ≤ gn h31 k := mst_sr rfl e32
  have hM : ∀ k, gn h k ≤ gn h31 k := fun k => Nat.le_trans (hM k) (m33 k)
  have al_0 := lm m33 al_0
  refine lv_aload_n hx hb dX11_init_34 rfl (lv_at hl 0 rfl) ?_
  refine lv_bipush (v := 8) hx hb dX11_init_35 (by decide) ?_
  refine r_newr (k := 42) (N := 8) (kr := 10) (t0 := 4) X hW hS rfl rfl (fun q => q.2.2.1) (by decide) (by decide) (Nat.le_of_ble_eq_true rfl) ⟨Nat.le_of_ble_eq_true rfl, Nat.le_of_ble_eq_true rfl⟩ dX11_init_37 (AL_of 99 (by decide +kernel) rfl) (fun u H hu hW hS => ?_)
  obtain ⟨o34, e35, hF⟩ := nmx hF
  obtain ⟨h36, e37, hF⟩ := nmx hF
  have hW := nmW e37 hW
  have m38 : ∀ k, gn h31 k ≤ gn h36 k := mst_nw rfl e37
  have hl : lv_has ls 2 [(0, .ref (u 11 i0))] := by rw [hu 11 i0 al_0]; exact hl
  refine stq (st1 := [.ref (u 42 o34), .ref (u 11 i0)]) (by rw [e35, hu 11 i0 al_0]) ?_
  have hU : ∀ k i, i < gn h k → u k i = φ0 k i := fun k i hi => (hu k i (Nat.lt_of_lt_of_le hi (hM k))).trans (hU k i hi)
  have hM : ∀ k, gn h k ≤ gn h36 k := fun k => Nat.le_trans (hM k) (m38 k)
  have al_0 := lm m38 al_0
  have al39 : o34 < gn h36 42 := by rw [e35, e37]; exact gn_nw_lt _ _
  obtain ⟨φ, rfl⟩ : ∃ z, z = u := ⟨_, rfl⟩
  refine r_putrF X hW hS hin al_0 al39 fp_11_29 rfl rfl dX11_init_40 (fun H locs hW hS => ?_)
  obtain ⟨h40, e41, hF⟩ := nmx hF
  have hW := nmW e41 hW
  have m42 : ∀ k, gn h36 k ≤ gn h40 k := mst_sr rfl e41
  have hM : ∀ k, gn h k ≤ gn h40 k := fun k => Nat.le_trans (hM k) (m42 k)
  have al_0 := lm m42 al_0
  refine lv_aload_n hx hb dX11_init_43 rfl (lv_at hl 0 rfl) ?_
  refine r_new X hW hS fn_11_33 ⟨Nat.le_of_ble_eq_true rfl, Nat.le_of_ble_eq_true rfl⟩ dX11_init_44 (fun u H hu hW hS => ?_)
  obtain ⟨o43, e44, hF⟩ := nmx hF
  obtain ⟨h45, e46, hF⟩ := nmx hF
  have hW := nmW e46 hW
  have m47 : ∀ k, gn h40 k ≤ gn h45 k := mst_nw rfl e46
  have hl : lv_has ls 2 [(0, .ref (u 11 i0))] := by rw [hu 11 i0 al_0]; exact hl
  refine stq (st1 := [.ref (u 5 o43), .ref (u 11 i0)]) (by rw [e44, hu 11 i0 al_0]) ?_
  have hU : ∀ k i, i < gn h k → u k i = φ0 k i := fun k i hi => (hu k i (Nat.lt_of_lt_of_le hi (hM k))).trans (hU k i hi)
  have hM : ∀ k, gn h k ≤ gn h45 k := fun k => Nat.le_trans (hM k) (m47 k)
  have al_0 := lm m47 al_0
  have al48 : o43 < gn h45 5 := by rw [e44, e46]; exact gn_nw_lt _ _
  obtain ⟨φ, rfl⟩ : ∃ z, z = u := ⟨_, rfl⟩
  refine lv_dup hx hb dX11_init_47 rfl ?_
  obtain ⟨h50, e49, hF⟩ := bn hF
  refine rc_va (Af := fun φ => [.ref (φ 5 o43)]) X hW hS ⟨Nat.le_of_ble_eq_true rfl, Nat.le_of_ble_eq_true rfl⟩ (rn_IN (k := 5) (i := o43) (As := []) (rest := [.ref (φ 5 o43), .ref (φ 11 i0)]) X hW hS cw_11_35 ⟨Nat.le_of_ble_eq_true rfl, Nat.le_of_ble_eq_true rfl⟩ rfl hl.1 rfl (Nat.le_of_ble_eq_true rfl) dX11_init_48) (ok_X5_init o43 al48 e49) (fun u H locs hu hW hS => ?_)
  have m51 : ∀ k, gn h45 k ≤ gn h50 k := mst_tr rfl (mono_X5_init e49)
  have hl : lv_has ls 2 [(0, .ref (u 11 i0))] := by rw [hu 11 i0 al_0]; exact hl
  refine stq (st1 := [.ref (u 5 o43), .ref (u 11 i0)]) (by rw [hu 5 o43 al48, hu 11 i0 al_0]) ?_
  have hU : ∀ k i, i < gn h k → u k i = φ0 k i := fun k i hi => (hu k i (Nat.lt_of_lt_of_le hi (hM k))).trans (hU k i hi)
  have hM : ∀ k, gn h k ≤ gn h50 k := fun k => Nat.le_trans (hM k) (m51 k)
  have al_0 := lm m51 al_0
  have al48 := lm m51 al48
  obtain ⟨φ, rfl⟩ : ∃ z, z = u := ⟨_, rfl⟩
  refine r_putrF X hW hS hin al_0 al48 fp_11_36 rfl rfl dX11_init_51 (fun H locs hW hS => ?_)
  obtain ⟨h52, e53, hF⟩ := nmx hF
  have hW := nmW e53 hW
  have m54 : ∀ k, gn h50 k ≤ gn h52 k := mst_sr rfl e53
  have hM : ∀ k, gn h k ≤ gn h52 k := fun k => Nat.le_trans (hM k) (m54 k)
  have al_0 := lm m54 al_0
  refine lv_aload_n hx hb dX11_init_54 rfl (lv_at hl 0 rfl) ?_
  refine r_new X hW hS fn_11_40 ⟨Nat.le_of_ble_eq_true rfl, Nat.le_of_ble_eq_true rfl⟩ dX11_init_55 (fun u H hu hW hS => ?_)
  obtain ⟨o55, e56, hF⟩ := nmx hF
  obtain ⟨h57, e58, hF⟩ := nmx hF
  have hW := nmW e58 hW
  have m59 : ∀ k, gn h52 k ≤ gn h57 k := mst_nw rfl e58
  have hl : lv_has ls 2 [(0, .ref (u 11 i0))] := by rw [hu 11 i0 al_0]; exact hl
  refine stq (st1 := [.ref (u 7 o55), .ref (u 11 i0)]) (by rw [e56, hu 11 i0 al_0]) ?_
  have hU : ∀ k i, i < gn h k → u k i = φ0 k i := fun k i hi => (hu k i (Nat.lt_of_lt_of_le hi (hM k))).trans (hU k i hi)
  have hM : ∀ k, gn h k ≤ gn h57 k := fun k => Nat.le_trans (hM k) (m59 k)
  have al_0 := lm m59 al_0
  have al60 : o55 < gn h57 7 := by rw [e56, e58]; exact gn_nw_lt _ _
  obtain ⟨φ, rfl⟩ : ∃ z, z = u := ⟨_, rfl⟩
  refine lv_dup hx hb dX11_init_58 rfl ?_
  obtain ⟨h62, e61, hF⟩ := bn hF
  refine rc_va (Af := fun φ => [.ref (φ 7 o55)]) X hW hS ⟨Nat.le_of_ble_eq_true rfl, Nat.le_of_ble_eq_true rfl⟩ (rn_IN (k := 7) (i := o55) (As := []) (rest := [.ref (φ 7 o55), .ref (φ 11 i0)]) X hW hS cw_11_42 ⟨Nat.le_of_ble_eq_true rfl, Nat.le_of_ble_eq_true rfl⟩ rfl hl.1 rfl (Nat.le_of_ble_eq_true rfl) dX11_init_59) (ok_X7_init o55 al60 e61) (fun u H locs hu hW hS => ?_)
  have m63 : ∀ k, gn h57 k ≤ gn h62 k := mst_tr rfl (mono_X7_init e61)
  have hl : lv_has ls 2 [(0, .ref (u 11 i0))] := by rw [hu 11 i0 al_0]; exact hl
  refine stq (st1 := [.ref (u 7 o55), .ref (u 11 i0)]) (by rw [hu 7 o55 al60, hu 11 i0 al_0]) ?_
  have hU : ∀ k i, i < gn h k → u k i = φ0 k i := fun k i hi => (hu k i (Nat.lt_of_lt_of_le hi (hM k))).trans (hU k i hi)
  have hM : ∀ k, gn h k ≤ gn h62 k := fun k => Nat.le_trans (hM k) (m63 k)
  have al_0 := lm m63 al_0
  have al60 := lm m63 al60
  obtain ⟨φ, rfl⟩ : ∃ z, z = u := ⟨_, rfl⟩
  refine r_putrF X hW hS hin al_0 al60 fp_11_43 rfl rfl dX11_init_62 (fun H locs hW hS => ?_)
  obtain ⟨h64, e65, hF⟩ := nmx hF
  have hW := nmW e65 hW
  have m66 : ∀ k, gn h62 k ≤ gn h64 k := mst_sr rfl e65
  have hM : ∀ k, gn h k ≤ gn h64 k := fun k => Nat.le_trans (hM k) (m66 k)
  have al_0 := lm m66 al_0
  refine lv_aload_n hx hb dX11_init_65 rfl (lv_at hl 0 rfl) ?_
  refine lv_bipush (v := 6) hx hb dX11_init_66 (by decide) ?_
  refine r_newr (k := 43) (N := 6) (kr := 0) (t0 := 5) X hW hS rfl rfl (fun q => q.2.2.2.1) (by decide) (by decide) (Nat.le_of_ble_eq_true rfl) ⟨Nat.le_of_ble_eq_true rfl, Nat.le_of_ble_eq_true rfl⟩ dX11_init_68 (AL_of 151 (by decide +kernel) rfl) (fun u H hu hW hS => ?_)
  obtain ⟨o67, e68, hF⟩ := nmx hF
  obtain ⟨h69, e70, hF⟩ := nmx hF
  have hW := nmW e70 hW
  have m71 : ∀ k, gn h64 k ≤ gn h69 k := mst_nw rfl e70
  have hl : lv_has ls 2 [(0, .ref (u 11 i0))] := by rw [hu 11 i0 al_0]; exact hl
  refine stq (st1 := [.ref (u 43 o67), .ref (u 11 i0)]) (by rw [e68, hu 11 i0 al_0]) ?_
  have hU : ∀ k i, i < gn h k → u k i = φ0 k i := fun k i hi => (hu k i (Nat.lt_of_lt_of_le hi (hM k))).trans (hU k i hi)
  have hM : ∀ k, gn h k ≤ gn h69 k := fun k => Nat.le_trans (hM k) (m71 k)
  have al_0 := lm m71 al_0
  have al72 : o67 < gn h69 43 := by rw [e68, e70]; exact gn_nw_lt _ _
  obtain ⟨φ, rfl⟩ : ∃ z, z = u := ⟨_, rfl⟩
  refine r_putrF X hW hS hin al_0 al72 fp_11_49 rfl rfl dX11_init_71 (fun H locs hW hS => ?_)
  obtain ⟨h73, e74, hF⟩ := nmx hF
  have hW := nmW e74 hW
  have m75 : ∀ k, gn h69 k ≤ gn h73 k := mst_sr rfl e74
  have hM : ∀ k, gn h k ≤ gn h73 k := fun k => Nat.le_trans (hM k) (m75 k)
  have al_0 := lm m75 al_0
  refine lv_aload_n hx hb dX11_init_74 rfl (lv_at hl 0 rfl) ?_
  refine r_new X hW hS fn_11_53 ⟨Nat.le_of_ble_eq_true rfl, Nat.le_of_ble_eq_true rfl⟩ dX11_init_75 (fun u H hu hW hS => ?_)
  obtain ⟨o76, e77, hF⟩ := nmx hF
  obtain ⟨h78, e79, hF⟩ := nmx hF
  have hW := nmW e79 hW
  have m80 : ∀ k, gn h73 k ≤ gn h78 k := mst_nw rfl e79
  have hl : lv_has ls 2 [(0, .ref (u 11 i0))] := by rw [hu 11 i0 al_0]; exact hl
  refine stq (st1 := [.ref (u 6 o76), .ref (u 11 i0)]) (by rw [e77, hu 11 i0 al_0]) ?_
  have hU : ∀ k i, i < gn h k → u k i = φ0 k i := fun k i hi => (hu k i (Nat.lt_of_lt_of_le hi (hM k))).trans (hU k i hi)
  have hM : ∀ k, gn h k ≤ gn h78 k := fun k => Nat.le_trans (hM k) (m80 k)
  have al_0 := lm m80 al_0
  have al81 : o76 < gn h78 6 := by rw [e77, e79]; exact gn_nw_lt _ _
  obtain ⟨φ, rfl⟩ : ∃ z, z = u := ⟨_, rfl⟩
  refine lv_dup hx hb dX11_init_78 rfl ?_
  obtain ⟨h83, e82, hF⟩ := bn hF
  refine rc_va (Af := fun φ => [.ref (φ 6 o76)]) X hW hS ⟨Nat.le_of_ble_eq_true rfl, Nat.le_of_ble_eq_true rfl⟩ (rn_IN (k := 6) (i := o76) (As := []) (rest := [.ref (φ 6 o76), .ref (φ 11 i0)]) X hW hS cw_11_55 ⟨Nat.le_of_ble_eq_true rfl, Nat.le_of_ble_eq_true rfl⟩ rfl hl.1 rfl (Nat.le_of_ble_eq_true rfl) dX11_init_79) (ok_X6_init o76 al81 e82) (fun u H locs hu hW hS => ?_)
  have m84 : ∀ k, gn h78 k ≤ gn h83 k := mst_tr rfl (mono_X6_init e82)
  have hl : lv_has ls 2 [(0, .ref (u 11 i0))] := by rw [hu 11 i0 al_0]; exact hl
  refine stq (st1 := [.ref (u 6 o76), .ref (u 11 i0)]) (by rw [hu 6 o76 al81, hu 11 i0 al_0]) ?_
  have hU : ∀ k i, i < gn h k → u k i = φ0 k i := fun k i hi => (hu k i (Nat.lt_of_lt_of_le hi (hM k))).trans (hU k i hi)
  have hM : ∀ k, gn h k ≤ gn h83 k := fun k => Nat.le_trans (hM k) (m84 k)
  have al_0 := lm m84 al_0
  have al81 := lm m84 al81
  obtain ⟨φ, rfl⟩ : ∃ z, z = u := ⟨_, rfl⟩
  refine r_putrF X hW hS hin al_0 al81 fp_11_56 rfl rfl dX11_init_82 (fun H locs hW hS => ?_)
  obtain ⟨h85, e86, hF⟩ := nmx hF
  have hW := nmW e86 hW
  have m87 : ∀ k, gn h83 k ≤ gn h85 k := mst_sr rfl e86
  have hM : ∀ k, gn h k ≤ gn h85 k := fun k => Nat.le_trans (hM k) (m87 k)
  have al_0 := lm m87 al_0
  refine lv_aload_n hx hb dX11_init_85 rfl (lv_at hl 0 rfl) ?_
  refine r_new X hW hS fn_11_60 ⟨Nat.le_of_ble_eq_true rfl, Nat.le_of_ble_eq_true rfl⟩ dX11_init_86 (fun u H hu hW hS => ?_)
  obtain ⟨o88, e89, hF⟩ := nmx hF
  obtain ⟨h90, e91, hF⟩ := nmx hF
  have hW := nmW e91 hW
  have m92 : ∀ k, gn h85 k ≤ gn h90 k := mst_nw rfl e91
  have hl : lv_has ls 2 [(0, .ref (u 11 i0))] := by rw [hu 11 i0 al_0]; exact hl
  refine stq (st1 := [.ref (u 8 o88), .ref (u 11 i0)]) (by rw [e89, hu 11 i0 al_0]) ?_
  have hU : ∀ k i, i < gn h k → u k i = φ0 k i := fun k i hi => (hu k i (Nat.lt_of_lt_of_le hi (hM k))).trans (hU k i hi)
  have hM : ∀ k, gn h k ≤ gn h90 k := fun k => Nat.le_trans (hM k) (m92 k)
  have al_0 := lm m92 al_0
  have al93 : o88 < gn h90 8 := by rw [e89, e91]; exact gn_nw_lt _ _
  obtain ⟨φ, rfl⟩ : ∃ z, z = u := ⟨_, rfl⟩
  refine lv_dup hx hb dX11_init_89 rfl ?_
  obtain ⟨h95, e94, hF⟩ := bn hF
  refine rc_va (Af := fun φ => [.ref (φ 8 o88)]) X hW hS ⟨Nat.le_of_ble_eq_true rfl, Nat.le_of_ble_eq_true rfl⟩ (rn_IN (k := 8) (i := o88) (As := []) (rest := [.ref (φ 8 o88), .ref (φ 11 i0)]) X hW hS cw_11_62 ⟨Nat.le_of_ble_eq_true rfl, Nat.le_of_ble_eq_true rfl⟩ rfl hl.1 rfl (Nat.le_of_ble_eq_true rfl) dX11_init_90) (ok_X8_init o88 al93 e94) (fun u H locs hu hW hS => ?_)
  have m96 : ∀ k, gn h90 k ≤ gn h95 k := mst_tr rfl (mono_X8_init e94)
  have hl : lv_has ls 2 [(0, .ref (u 11 i0))] := by rw [hu 11 i0 al_0]; exact hl
  refine stq (st1 := [.ref (u 8 o88), .ref (u 11 i0)]) (by rw [hu 8 o88 al93, hu 11 i0 al_0]) ?_
  have hU : ∀ k i, i < gn h k → u k i = φ0 k i := fun k i hi => (hu k i (Nat.lt_of_lt_of_le hi (hM k))).trans (hU k i hi)
  have hM : ∀ k, gn h k ≤ gn h95 k := fun k => Nat.le_trans (hM k) (m96 k)
  have al_0 := lm m96 al_0
  have al93 := lm m96 al93
  obtain ⟨φ, rfl⟩ : ∃ z, z = u := ⟨_, rfl⟩
  refine r_putrF X hW hS hin al_0 al93 fp_11_63 rfl rfl dX11_init_93 (fun H locs hW hS => ?_)
  obtain ⟨h97, e98, hF⟩ := nmx hF
  have hW := nmW e98 hW
  have m99 : ∀ k, gn h95 k ≤ gn h97 k := mst_sr rfl e98
  have hM : ∀ k, gn h k ≤ gn h97 k := fun k => Nat.le_trans (hM k) (m99 k)
  have al_0 := lm m99 al_0
  refine lv_aload_n hx hb dX11_init_96 rfl (lv_at hl 0 rfl) ?_
  refine r_new X hW hS fn_11_67 ⟨Nat.le_of_ble_eq_true rfl, Nat.le_of_ble_eq_true rfl⟩ dX11_init_97 (fun u H hu hW hS => ?_)
  obtain ⟨o100, e101, hF⟩ := nmx hF
  obtain ⟨h102, e103, hF⟩ := nmx hF
  have hW := nmW e103 hW
  have m104 : ∀ k, gn h97 k ≤ gn h102 k := mst_nw rfl e103
  have hl : lv_has ls 2 [(0, .ref (u 11 i0))] := by rw [hu 11 i0 al_0]; exact hl
  refine stq (st1 := [.ref (u 3 o100), .ref (u 11 i0)]) (by rw [e101, hu 11 i0 al_0]) ?_
  have hU : ∀ k i, i < gn h k → u k i = φ0 k i := fun k i hi => (hu k i (Nat.lt_of_lt_of_le hi (hM k))).trans (hU k i hi)
  have hM : ∀ k, gn h k ≤ gn h102 k := fun k => Nat.le_trans (hM k) (m104 k)
  have al_0 := lm m104 al_0
  have al105 : o100 < gn h102 3 := by rw [e101, e103]; exact gn_nw_lt _ _
  obtain ⟨φ, rfl⟩ : ∃ z, z = u := ⟨_, rfl⟩
  refine lv_dup hx hb dX11_init_100 rfl ?_
  obtain ⟨h107, e106, hF⟩ := bn hF
  refine rc_va (Af := fun φ => [.ref (φ 3 o100)]) X hW hS ⟨Nat.le_of_ble_eq_true rfl, Nat.le_of_ble_eq_true rfl⟩ (rn_IN (k := 3) (i := o100) (As := []) (rest := [.ref (φ 3 o100), .ref (φ 11 i0)]) X hW hS cw_11_69 ⟨Nat.le_of_ble_eq_true rfl, Nat.le_of_ble_eq_true rfl⟩ rfl hl.1 rfl (Nat.le_of_ble_eq_true rfl) dX11_init_101) (ok_X3_init o100 al105 e106) (fun u H locs hu hW hS => ?_)
  have m108 : ∀ k, gn h102 k ≤ gn h107 k := mst_tr rfl (mono_X3_init e106)
  have hl : lv_has ls 2 [(0, .ref (u 11 i0))] := by rw [hu 11 i0 al_0]; exact hl
  refine stq (st1 := [.ref (u 3 o100), .ref (u 11 i0)]) (by rw [hu 3 o100 al105, hu 11 i0 al_0]) ?_
  have hU : ∀ k i, i < gn h k → u k i = φ0 k i := fun k i hi => (hu k i (Nat.lt_of_lt_of_le hi (hM k))).trans (hU k i hi)
  have hM : ∀ k, gn h k ≤ gn h107 k := fun k => Nat.le_trans (hM k) (m108 k)
  have al_0 := lm m108 al_0
  have al105 := lm m108 al105
  obtain ⟨φ, rfl⟩ : ∃ z, z = u := ⟨_, rfl⟩
  refine r_putrF X hW hS hin al_0 al105 fp_11_70 rfl rfl dX11_init_104 (fun H locs hW hS => ?_)
  obtain ⟨h109, e110, hF⟩ := nmx hF
  have hW := nmW e110 hW
  have m111 : ∀ k, gn h107 k ≤ gn h109 k := mst_sr rfl e110
  have hM : ∀ k, gn h k ≤ gn h109 k := fun k => Nat.le_trans (hM k) (m111 k)
  have al_0 := lm m111 al_0
  refine lv_aload_n hx hb dX11_init_107 rfl (lv_at hl 0 rfl) ?_
  refine lv_iconst (v := 4) hx hb dX11_init_108 (by decide) ?_
  refine r_newr (k := 44) (N := 4) (kr := 9) (t0 := 6) X hW hS rfl rfl (fun q => q.2.2.2.2) (by decide) (by decide) (Nat.le_of_ble_eq_true rfl) ⟨Nat.le_of_ble_eq_true rfl, Nat.le_of_ble_eq_true rfl⟩ dX11_init_109 (AL_of 231 (by decide +kernel) rfl) (fun u H hu hW hS => ?_)
  obtain ⟨o112, e113, hF⟩ := nmx hF
  obtain ⟨h114, e115, hF⟩ := nmx hF
  have hW := nmW e115 hW
  have m116 : ∀ k, gn h109 k ≤ gn h114 k := mst_nw rfl e115
  have hl : lv_has ls 2 [(0, .ref (u 11 i0))] := by rw [hu 11 i0 al_0]; exact hl
  refine stq (st1 := [.ref (u 44 o112), .ref (u 11 i0)]) (by rw [e113, hu 11 i0 al_0]) ?_
  have hU : ∀ k i, i < gn h k → u k i = φ0 k i := fun k i hi => (hu k i (Nat.lt_of_lt_of_le hi (hM k))).trans (hU k i hi)
  have hM : ∀ k, gn h k ≤ gn h114 k := fun k => Nat.le_trans (hM k) (m116 k)
  have al_0 := lm m116 al_0
  have al117 : o112 < gn h114 44 := by rw [e113, e115]; exact gn_nw_lt _ _
  obtain ⟨φ, rfl⟩ : ∃ z, z = u := ⟨_, rfl⟩
  refine r_putrF X hW hS hin al_0 al117 fp_11_76 rfl rfl dX11_init_112 (fun H locs hW hS => ?_)
  obtain ⟨h118, e119, hF⟩ := nmx hF
  have hW := nmW e119 hW
  have m120 : ∀ k, gn h114 k ≤ gn h118 k := mst_sr rfl e119
  have hM : ∀ k, gn h k ≤ gn h118 k := fun k => Nat.le_trans (hM k) (m120 k)
  have al_0 := lm m120 al_0
  refine lv_iconst (v := 0) hx hb dX11_init_115 (by decide) ?_
  refine lv_istore_n (lv' := [(1, .int 0), (0, .ref (φ 11 i0))]) hx hb dX11_init_116 rfl hl (by decide) rfl (fun ls hl => ?_)
  refine lv_iload_n hx hb dX11_init_117 rfl (lv_at hl 0 rfl) ?_
  refine lv_iconst (v := 4) hx hb dX11_init_118 (by decide) ?_
  refine lv_icmp_ge (tgt := 141) hx hb dX11_init_119 (by decide) (fun c189 => absurd c189 (by decide)) (fun _ => ?_)
  refine lv_aload_n hx hb dX11_init_122 rfl (lv_at hl 1 rfl) ?_
  obtain ⟨o121, e122, hF⟩ := bn hF
  refine r_getr X hW al_0 fl_11_76 e122 dX11_init_123 (fun al123 => ?_)
  refine lv_iload_n hx hb dX11_init_126 rfl (lv_at hl 0 rfl) ?_
  refine r_new X hW hS fn_11_74 ⟨Nat.le_of_ble_eq_true rfl, Nat.le_of_ble_eq_true rfl⟩ dX11_init_127 (fun u H hu hW hS => ?_)
  obtain ⟨o124, e125, hF⟩ := nmx hF
  obtain ⟨h126, e127, hF⟩ := nmx hF
  have hW := nmW e127 hW
  have m128 : ∀ k, gn h118 k ≤ gn h126 k := mst_nw rfl e127
  have hl : lv_has ls 2 [(1, .int 0), (0, .ref (u 11 i0))] := by rw [hu 11 i0 al_0]; exact hl
  refine stq (st1 := [.ref (u 9 o124), .int 0, .ref (u 44 o121)]) (by rw [e125, hu 44 o121 al123]) ?_
  have hU : ∀ k i, i < gn h k → u k i = φ0 k i := fun k i hi => (hu k i (Nat.lt_of_lt_of_le hi (hM k))).trans (hU k i hi)
  have hM : ∀ k, gn h k ≤ gn h126 k := fun k => Nat.le_trans (hM k) (m128 k)
  have al_0 := lm m128 al_0
  have al123 := lm m128 al123
  have al129 : o124 < gn h126 9 := by rw [e125, e127]; exact gn_nw_lt _ _
  obtain ⟨φ, rfl⟩ : ∃ z, z = u := ⟨_, rfl⟩
  refine lv_dup hx hb dX11_init_130 rfl ?_
  obtain ⟨h131, e130, hF⟩ := bn hF
  refine rc_va (Af := fun φ => [.ref (φ 9 o124)]) X hW hS ⟨Nat.le_of_ble_eq_true rfl, Nat.le_of_ble_eq_true rfl⟩ (rn_IN (k := 9) (i := o124) (As := []) (rest := [.ref (φ 9 o124), .int 0, .ref (φ 44 o121)]) X hW hS cw_11_80 ⟨Nat.le_of_ble_eq_true rfl, Nat.le_of_ble_eq_true rfl⟩ rfl hl.1 rfl (Nat.le_of_ble_eq_true rfl) dX11_init_131) (ok_X9_init o124 al129 e130) (fun u H locs hu hW hS => ?_)
  have m132 : ∀ k, gn h126 k ≤ gn h131 k := mst_tr rfl (mono_X9_init e130)
  have hl : lv_has ls 2 [(1, .int 0), (0, .ref (u 11 i0))] := by rw [hu 11 i0 al_0]; exact hl
  refine stq (st1 := [.ref (u 9 o124), .int 0, .ref (u 44 o121)]) (by rw [hu 9 o124 al129, hu 44 o121 al123]) ?_
  have hU : ∀ k i, i < gn h k → u k i = φ0 k i := fun k i hi => (hu k i (Nat.lt_of_lt_of_le hi (hM k))).trans (hU k i hi)
  have hM : ∀ k, gn h k ≤ gn h131 k := fun k => Nat.le_trans (hM k) (m132 k)
  have al_0 := lm m132 al_0
  have al129 := lm m132 al129
  have al123 := lm m132 al123
  obtain ⟨φ, rfl⟩ : ∃ z, z = u := ⟨_, rfl⟩
  obtain ⟨h133, e134, hF⟩ := bn hF
  obtain ⟨b135, e134⟩ := sar_s e134
  refine r_aast (t0 := 6) X hW hS al123 rfl rfl rfl rfl al129 b135 dX11_init_134 (fun H locs hW hS => ?_)
  have hW := nmW e134 hW
  have m136 : ∀ k, gn h131 k ≤ gn h133 k := mst_sr rfl e134
  have hM : ∀ k, gn h k ≤ gn h133 k := fun k => Nat.le_trans (hM k) (m136 k)
  have al_0 := lm m136 al_0
  refine lv_iinc (v := 1) (lv' := [(1, .int 1), (0, .ref (φ 11 i0))]) hx hb dX11_init_135 hl (k := 0) rfl (by decide) (by decide) rfl (fun ls hl => ?_)
  refine lv_goto (tgt := 117) hx hb dX11_init_138 (by decide) ?_
  refine lv_iload_n hx hb dX11_init_117 rfl (lv_at hl 0 rfl) ?_
  refine lv_iconst (v := 4) hx hb dX11_init_118 (by decide) ?_
  refine lv_icmp_ge (tgt := 141) hx hb dX11_init_119 (by decide) (fun c188 => absurd c188 (by decide)) (fun _ => ?_)
  refine lv_aload_n hx hb dX11_init_122 rfl (lv_at hl 1 rfl) ?_
  obtain ⟨o137, e138, hF⟩ := bn hF
  refine r_getr X hW al_0 fl_11_76 e138 dX11_init_123 (fun al139 => ?_)
  refine lv_iload_n hx hb dX11_init_126 rfl (lv_at hl 0 rfl) ?_
  refine r_new X hW hS fn_11_74 ⟨Nat.le_of_ble_eq_true rfl, Nat.le_of_ble_eq_true rfl⟩ dX11_init_127 (fun u H hu hW hS => ?_)
  obtain ⟨o140, e141, hF⟩ := nmx hF
  obtain ⟨h142, e143, hF⟩ := nmx hF
  have hW := nmW e143 hW
  have m144 : ∀ k, gn h133 k ≤ gn h142 k := mst_nw rfl e143
  have hl : lv_has ls 2 [(1, .int 1), (0, .ref (u 11 i0))] := by rw [hu 11 i0 al_0]; exact hl
  refine stq (st1 := [.ref (u 9 o140), .int 1, .ref (u 44 o137)]) (by rw [e141, hu 44 o137 al139]) ?_
  have hU : ∀ k i, i < gn h k → u k i = φ0 k i := fun k i hi => (hu k i (Nat.lt_of_lt_of_le hi (hM k))).trans (hU k i hi)
  have hM : ∀ k, gn h k ≤ gn h142 k := fun k => Nat.le_trans (hM k) (m144 k)
  have al_0 := lm m144 al_0
  have al139 := lm m144 al139
  have al145 : o140 < gn h142 9 := by rw [e141, e143]; exact gn_nw_lt _ _
  obtain ⟨φ, rfl⟩ : ∃ z, z = u := ⟨_, rfl⟩
  refine lv_dup hx hb dX11_init_130 rfl ?_
  obtain ⟨h147, e146, hF⟩ := bn hF
  refine rc_va (Af := fun φ => [.ref (φ 9 o140)]) X hW hS ⟨Nat.le_of_ble_eq_true rfl, Nat.le_of_ble_eq_true rfl⟩ (rn_IN (k := 9) (i := o140) (As := []) (rest := [.ref (φ 9 o140), .int 1, .ref (φ 44 o137)]) X hW hS cw_11_80 ⟨Nat.le_of_ble_eq_true rfl, Nat.le_of_ble_eq_true rfl⟩ rfl hl.1 rfl (Nat.le_of_ble_eq_true rfl) dX11_init_131) (ok_X9_init o140 al145 e146) (fun u H locs hu hW hS => ?_)
  have m148 : ∀ k, gn h142 k ≤ gn h147 k := mst_tr rfl (mono_X9_init e146)
  have hl : lv_has ls 2 [(1, .int 1), (0, .ref (u 11 i0))] := by rw [hu 11 i0 al_0]; exact hl
  refine stq (st1 := [.ref (u 9 o140), .int 1, .ref (u 44 o137)]) (by rw [hu 9 o140 al145, hu 44 o137 al139]) ?_
  have hU : ∀ k i, i < gn h k → u k i = φ0 k i := fun k i hi => (hu k i (Nat.lt_of_lt_of_le hi (hM k))).trans (hU k i hi)
  have hM : ∀ k, gn h k ≤ gn h147 k := fun k => Nat.le_trans (hM k) (m148 k)
  have al_0 := lm m148 al_0
  have al145 := lm m148 al145
  have al139 := lm m148 al139
  obtain ⟨φ, rfl⟩ : ∃ z, z = u := ⟨_, rfl⟩
  obtain ⟨h149, e150, hF⟩ := bn hF
  obtain ⟨b151, e150⟩ := sar_s e150
  refine r_aast (t0 := 6) X hW hS al139 rfl rfl rfl rfl al145 b151 dX11_init_134 (fun H locs hW hS => ?_)
  have hW := nmW e150 hW
  have m152 : ∀ k, gn h147 k ≤ gn h149 k := mst_sr rfl e150
  have hM : ∀ k, gn h k ≤ gn h149 k := fun k => Nat.le_trans (hM k) (m152 k)
  have al_0 := lm m152 al_0
  refine lv_iinc (v := 2) (lv' := [(1, .int 2), (0, .ref (φ 11 i0))]) hx hb dX11_init_135 hl (k := 0) rfl (by decide) (by decide) rfl (fun ls hl => ?_)
  refine lv_goto (tgt := 117) hx hb dX11_init_138 (by decide) ?_
  refine lv_iload_n hx hb dX11_init_117 rfl (lv_at hl 0 rfl) ?_
  refine lv_iconst (v := 4) hx hb dX11_init_118 (by decide) ?_
  refine lv_icmp_ge (tgt := 141) hx hb dX11_init_119 (by decide) (fun c187 => absurd c187 (by decide)) (fun _ => ?_)
  refine lv_aload_n hx hb dX11_init_122 rfl (lv_at hl 1 rfl) ?_
  obtain ⟨o153, e154, hF⟩ := bn hF
  refine r_getr X hW al_0 fl_11_76 e154 dX11_init_123 (fun al155 => ?_)
  refine lv_iload_n hx hb dX11_init_126 rfl (lv_at hl 0 rfl) ?_
  refine r_new X hW hS fn_11_74 ⟨Nat.le_of_ble_eq_true rfl, Nat.le_of_ble_eq_true rfl⟩ dX11_init_127 (fun u H hu hW hS => ?_)
  obtain ⟨o156, e157, hF⟩ := nmx hF
  obtain ⟨h158, e159, hF⟩ := nmx hF
  have hW := nmW e159 hW
  have m160 : ∀ k, gn h149 k ≤ gn h158 k := mst_nw rfl e159
  have hl : lv_has ls 2 [(1, .int 2), (0, .ref (u 11 i0))] := by rw [hu 11 i0 al_0]; exact hl
  refine stq (st1 := [.ref (u 9 o156), .int 2, .ref (u 44 o153)]) (by rw [e157, hu 44 o153 al155]) ?_
  have hU : ∀ k i, i < gn h k → u k i = φ0 k i := fun k i hi => (hu k i (Nat.lt_of_lt_of_le hi (hM k))).trans (hU k i hi)
  have hM : ∀ k, gn h k ≤ gn h158 k := fun k => Nat.le_trans (hM k) (m160 k)
  have al_0 := lm m160 al_0
  have al155 := lm m160 al155
  have al161 : o156 < gn h158 9 := by rw [e157, e159]; exact gn_nw_lt _ _
  obtain ⟨φ, rfl⟩ : ∃ z, z = u := ⟨_, rfl⟩
  refine lv_dup hx hb dX11_init_130 rfl ?_
  obtain ⟨h163, e162, hF⟩ := bn hF
  refine rc_va (Af := fun φ => [.ref (φ 9 o156)]) X hW hS ⟨Nat.le_of_ble_eq_true rfl, Nat.le_of_ble_eq_true rfl⟩ (rn_IN (k := 9) (i := o156) (As := []) (rest := [.ref (φ 9 o156), .int 2, .ref (φ 44 o153)]) X hW hS cw_11_80 ⟨Nat.le_of_ble_eq_true rfl, Nat.le_of_ble_eq_true rfl⟩ rfl hl.1 rfl (Nat.le_of_ble_eq_true rfl) dX11_init_131) (ok_X9_init o156 al161 e162) (fun u H locs hu hW hS => ?_)
  have m164 : ∀ k, gn h158 k ≤ gn h163 k := mst_tr rfl (mono_X9_init e162)
  have hl : lv_has ls 2 [(1, .int 2), (0, .ref (u 11 i0))] := by rw [hu 11 i0 al_0]; exact hl
  refine stq (st1 := [.ref (u 9 o156), .int 2, .ref (u 44 o153)]) (by rw [hu 9 o156 al161, hu 44 o153 al155]) ?_
  have hU : ∀ k i, i < gn h k → u k i = φ0 k i := fun k i hi => (hu k i (Nat.lt_of_lt_of_le hi (hM k))).trans (hU k i hi)
  have hM : ∀ k, gn h k ≤ gn h163 k := fun k => Nat.le_trans (hM k) (m164 k)
  have al_0 := lm m164 al_0
  have al161 := lm m164 al161
  have al155 := lm m164 al155
  obtain ⟨φ, rfl⟩ : ∃ z, z = u := ⟨_, rfl⟩
  obtain ⟨h165, e166, hF⟩ := bn hF
  obtain ⟨b167, e166⟩ := sar_s e166
  refine r_aast (t0 := 6) X hW hS al155 rfl rfl rfl rfl al161 b167 dX11_init_134 (fun H locs hW hS => ?_)
  have hW := nmW e166 hW
  have m168 : ∀ k, gn h163 k ≤ gn h165 k := mst_sr rfl e166
  have hM : ∀ k, gn h k ≤ gn h165 k := fun k => Nat.le_trans (hM k) (m168 k)
  have al_0 := lm m168 al_0
  refine lv_iinc (v := 3) (lv' := [(1, .int 3), (0, .ref (φ 11 i0))]) hx hb dX11_init_135 hl (k := 0) rfl (by decide) (by decide) rfl (fun ls hl => ?_)
  refine lv_goto (tgt := 117) hx hb dX11_init_138 (by decide) ?_
  refine lv_iload_n hx hb dX11_init_117 rfl (lv_at hl 0 rfl) ?_
  refine lv_iconst (v := 4) hx hb dX11_init_118 (by decide) ?_
  refine lv_icmp_ge (tgt := 141) hx hb dX11_init_119 (by decide) (fun c186 => absurd c186 (by decide)) (fun _ => ?_)
  refine lv_aload_n hx hb dX11_init_122 rfl (lv_at hl 1 rfl) ?_
  obtain ⟨o169, e170, hF⟩ := bn hF
  refine r_getr X hW al_0 fl_11_76 e170 dX11_init_123 (fun al171 => ?_)
  refine lv_iload_n hx hb dX11_init_126 rfl (lv_at hl 0 rfl) ?_
  refine r_new X hW hS fn_11_74 ⟨Nat.le_of_ble_eq_true rfl, Nat.le_of_ble_eq_true rfl⟩ dX11_init_127 (fun u H hu hW hS => ?_)
  obtain ⟨o172, e173, hF⟩ := nmx hF
  obtain ⟨h174, e175, hF⟩ := nmx hF
  have hW := nmW e175 hW
  have m176 : ∀ k, gn h165 k ≤ gn h174 k := mst_nw rfl e175
  have hl : lv_has ls 2 [(1, .int 3), (0, .ref (u 11 i0))] := by rw [hu 11 i0 al_0]; exact hl
  refine stq (st1 := [.ref (u 9 o172), .int 3, .ref (u 44 o169)]) (by rw [e173, hu 44 o169 al171]) ?_
  have hU : ∀ k i, i < gn h k → u k i = φ0 k i := fun k i hi => (hu k i (Nat.lt_of_lt_of_le hi (hM k))).trans (hU k i hi)
  have hM : ∀ k, gn h k ≤ gn h174 k := fun k => Nat.le_trans (hM k) (m176 k)
  have al_0 := lm m176 al_0
  have al171 := lm m176 al171
  have al177 : o172 < gn h174 9 := by rw [e173, e175]; exact gn_nw_lt _ _
  obtain ⟨φ, rfl⟩ : ∃ z, z = u := ⟨_, rfl⟩
  refine lv_dup hx hb dX11_init_130 rfl ?_
  obtain ⟨h179, e178, hF⟩ := bn hF
  refine rc_va (Af := fun φ => [.ref (φ 9 o172)]) X hW hS ⟨Nat.le_of_ble_eq_true rfl, Nat.le_of_ble_eq_true rfl⟩ (rn_IN (k := 9) (i := o172) (As := []) (rest := [.ref (φ 9 o172), .int 3, .ref (φ 44 o169)]) X hW hS cw_11_80 ⟨Nat.le_of_ble_eq_true rfl, Nat.le_of_ble_eq_true rfl⟩ rfl hl.1 rfl (Nat.le_of_ble_eq_true rfl) dX11_init_131) (ok_X9_init o172 al177 e178) (fun u H locs hu hW hS => ?_)
  have m180 : ∀ k, gn h174 k ≤ gn h179 k := mst_tr rfl (mono_X9_init e178)
  have hl : lv_has ls 2 [(1, .int 3), (0, .ref (u 11 i0))] := by rw [hu 11 i0 al_0]; exact hl
  refine stq (st1 := [.ref (u 9 o172), .int 3, .ref (u 44 o169)]) (by rw [hu 9 o172 al177, hu 44 o169 al171]) ?_
  have hU : ∀ k i, i < gn h k → u k i = φ0 k i := fun k i hi => (hu k i (Nat.lt_of_lt_of_le hi (hM k))).trans (hU k i hi)
  have hM : ∀ k, gn h k ≤ gn h179 k := fun k => Nat.le_trans (hM k) (m180 k)
  have al_0 := lm m180 al_0
  have al177 := lm m180 al177
  have al171 := lm m180 al171
  obtain ⟨φ, rfl⟩ : ∃ z, z = u := ⟨_, rfl⟩
  obtain ⟨h181, e182, hF⟩ := bn hF
  obtain ⟨b183, e182⟩ := sar_s e182
  refine r_aast (t0 := 6) X hW hS al171 rfl rfl rfl rfl al177 b183 dX11_init_134 (fun H locs hW hS => ?_)
  have hW := nmW e182 hW
  have m184 : ∀ k, gn h179 k ≤ gn h181 k := mst_sr rfl e182
  have hM : ∀ k, gn h k ≤ gn h181 k := fun k => Nat.le_trans (hM k) (m184 k)
  have al_0 := lm m184 al_0
  refine lv_iinc (v := 4) (lv' := [(1, .int 4), (0, .ref (φ 11 i0))]) hx hb dX11_init_135 hl (k := 0) rfl (by decide) (by decide) rfl (fun ls hl => ?_)
  refine lv_goto (tgt := 117) hx hb dX11_init_138 (by decide) ?_
  refine lv_iload_n hx hb dX11_init_117 rfl (lv_at hl 0 rfl) ?_
  refine lv_iconst (v := 4) hx hb dX11_init_118 (by decide) ?_
  refine lv_icmp_ge (tgt := 141) hx hb dX11_init_119 (by decide) (fun _ => ?_) (fun c185 => absurd (by decide) c185)
  obtain rfl := sj hF
  refine W.widen (k := 35) (n := 969) (Nat.le_of_ble_eq_true rfl) (Nat.le_of_ble_eq_true rfl) ?_
  exact hfin φ _ _ _ _ hU hW hS dX11_init_141 -- 
set_option maxHeartbeats 4000000 in
set_option maxRecDepth 100000 in
theorem mono_X11_init {h : HP}  {d : HP} {i0 : Nat} (hF : F_X11_init i0 h = some d) : ∀ k, gn h k ≤ gn d k := by
  have hM : ∀ k, gn h k ≤ gn h k := fun k => Nat.le_refl _
  unfold F_X11_init at hF
  obtain ⟨o1, e2, hF⟩ := nmx hF
  obtain ⟨h3, e4, hF⟩ := nmx hF
  have m5 : ∀ k, gn h k ≤ gn h3 k := mst_nw rfl e4
  have hM : ∀ k, gn h k ≤ gn h3 k := fun k => Nat.le_trans (hM k) (m5 k)
  obtain ⟨h7, e8, hF⟩ := nmx hF
  have m9 : ∀ k, gn h3 k ≤ gn h7 k := mst_sr rfl e8
  have hM : ∀ k, gn h k ≤ gn h7 k := fun k => Nat.le_trans (hM k) (m9 k)
  obtain ⟨o10, e11, hF⟩ := nmx hF
  obtain ⟨h12, e13, hF⟩ := nmx hF
  have m14 : ∀ k, gn h7 k ≤ gn h12 k := mst_nw rfl e13
  have hM : ∀ k, gn h k ≤ gn h12 k := fun k => Nat.le_trans (hM k) (m14 k)
  obtain ⟨h17, e16, hF⟩ := bn hF
  have m18 : ∀ k, gn h12 k ≤ gn h17 k := mst_tr rfl (mono_X2_init e16)
  have hM : ∀ k, gn h k ≤ gn h17 k := fun k => Nat.le_trans (hM k) (m18 k)
  obtain ⟨h19, e20, hF⟩ := nmx hF
  have m21 : ∀ k, gn h17 k ≤ gn h19 k := mst_sr rfl e20
  have hM : ∀ k, gn h k ≤ gn h19 k := fun k => Nat.le_trans (hM k) (m21 k)
  obtain ⟨o22, e23, hF⟩ := nmx hF
  obtain ⟨h24, e25, hF⟩ := nmx hF
  have m26 : ∀ k, gn h19 k ≤ gn h24 k := mst_nw rfl e25
  have hM : ∀ k, gn h k ≤ gn h24 k := fun k => Nat.le_trans (hM k) (m26 k)
  obtain ⟨h29, e28, hF⟩ := bn hF
  have m30 : ∀ k, gn h24 k ≤ gn h29 k := mst_tr rfl (mono_X4_init e28)
  have hM : ∀ k, gn h k ≤ gn h29 k := fun k => Nat.le_trans (hM k) (m30 k)
  obtain ⟨h31, e32, hF⟩ := nmx hF
  have m33 : ∀ k, gn h29 k ≤ gn h31 k := mst_sr rfl e32
  have hM : ∀ k, gn h k ≤ gn h31 k := fun k => Nat.le_trans (hM k) (m33 k)
  obtain ⟨o34, e35, hF⟩ := nmx hF
  obtain ⟨h36, e37, hF⟩ := nmx hF
  have m38 : ∀ k, gn h31 k ≤ gn h36 k := mst_nw rfl e37
  have hM : ∀ k, gn h k ≤ gn h36 k := fun k => Nat.le_trans (hM k) (m38 k)
  obtain ⟨h40, e41, hF⟩ := nmx hF
  have m42 : ∀ k, gn h36 k ≤ gn h40 k := mst_sr rfl e41
  have hM : ∀ k, gn h k ≤ gn h40 k := fun k => Nat.le_trans (hM k) (m42 k)
  obtain ⟨o43, e44, hF⟩ := nmx hF
  obtain ⟨h45, e46, hF⟩ := nmx hF
  have m47 : ∀ k, gn h40 k ≤ gn h45 k := mst_nw rfl e46
  have hM : ∀ k, gn h k ≤ gn h45 k := fun k => Nat.le_trans (hM k) (m47 k)
  obtain ⟨h50, e49, hF⟩ := bn hF
  have m51 : ∀ k, gn h45 k ≤ gn h50 k := mst_tr rfl (mono_X5_init e49)
  have hM : ∀ k, gn h k ≤ gn h50 k := fun k => Nat.le_trans (hM k) (m51 k)
  obtain ⟨h52, e53, hF⟩ := nmx hF
  have m54 : ∀ k, gn h50 k ≤ gn h52 k := mst_sr rfl e53
  have hM : ∀ k, gn h k ≤ gn h52 k := fun k => Nat.le_trans (hM k) (m54 k)
  obtain ⟨o55, e56, hF⟩ := nmx hF
  obtain ⟨h57, e58, hF⟩ := nmx hF
  have m59 : ∀ k, gn h52 k ≤ gn h57 k := mst_nw rfl e58
  have hM : ∀ k, gn h k ≤ gn h57 k := fun k => Nat.le_trans (hM k) (m59 k)
  obtain ⟨h62, e61, hF⟩ := bn hF
  have m63 : ∀ k, gn h57 k ≤ gn h62 k := mst_tr rfl (mono_X7_init e61)
  have hM : ∀ k, gn h k ≤ gn h62 k := fun k => Nat.le_trans (hM k) (m63 k)
  obtain ⟨h64, e65, hF⟩ := nmx hF
  have m66 : ∀ k, gn h62 k ≤ gn h64 k := mst_sr rfl e65
  have hM : ∀ k, gn h k ≤ gn h64 k := fun k => Nat.le_trans (hM k) (m66 k)
  obtain ⟨o67, e68, hF⟩ := nmx hF
  obtain ⟨h69, e70, hF⟩ := nmx hF
  have m71 : ∀ k, gn h64 k ≤ gn h69 k := mst_nw rfl e70
  have hM : ∀ k, gn h k ≤ gn h69 k := fun k => Nat.le_trans (hM k) (m71 k)
  obtain ⟨h73, e74, hF⟩ := nmx hF
  have m75 : ∀ k, gn h69 k ≤ gn h73 k := mst_sr rfl e74
  have hM : ∀ k, gn h k ≤ gn h73 k := fun k => Nat.le_trans (hM k) (m75 k)
  obtain ⟨o76, e77, hF⟩ := nmx hF
  obtain ⟨h78, e79, hF⟩ := nmx hF
  have m80 : ∀ k, gn h73 k ≤ gn h78 k := mst_nw rfl e79
  have hM : ∀ k, gn h k ≤ gn h78 k := fun k => Nat.le_trans (hM k) (m80 k)
  obtain ⟨h83, e82, hF⟩ := bn hF
  have m84 : ∀ k, gn h78 k ≤ gn h83 k := mst_tr rfl (mono_X6_init e82)
  have hM : ∀ k, gn h k ≤ gn h83 k := fun k => Nat.le_trans (hM k) (m84 k)
  obtain ⟨h85, e86, hF⟩ := nmx hF
  have m87 : ∀ k, gn h83 k ≤ gn h85 k := mst_sr rfl e86
  have hM : ∀ k, gn h k ≤ gn h85 k := fun k => Nat.le_trans (hM k) (m87 k)
  obtain ⟨o88, e89, hF⟩ := nmx hF
  obtain ⟨h90, e91, hF⟩ := nmx hF
  have m92 : ∀ k, gn h85 k ≤ gn h90 k := mst_nw rfl e91
  have hM : ∀ k, gn h k ≤ gn h90 k := fun k => Nat.le_trans (hM k) (m92 k)
  obtain ⟨h95, e94, hF⟩ := bn hF
  have m96 : ∀ k, gn h90 k ≤ gn h95 k := mst_tr rfl (mono_X8_init e94)
  have hM : ∀ k, gn h k ≤ gn h95 k := fun k => Nat.le_trans (hM k) (m96 k)
  obtain ⟨h97, e98, hF⟩ := nmx hF
  have m99 : ∀ k, gn h95 k ≤ gn h97 k := mst_sr rfl e98
  have hM : ∀ k, gn h k ≤ gn h97 k := fun k => Nat.le_trans (hM k) (m99 k)
  obtain ⟨o100, e101, hF⟩ := nmx hF
  obtain ⟨h102, e103, hF⟩ := nmx hF
  have m104 : ∀ k, gn h97 k ≤ gn h102 k := mst_nw rfl e103
  have hM : ∀ k, gn h k ≤ gn h102 k := fun k => Nat.le_trans (hM k) (m104 k)
  obtain ⟨h107, e106, hF⟩ := bn hF
  have m108 : ∀ k, gn h102 k ≤ gn h107 k := mst_tr rfl (mono_X3_init e106)
  have hM : ∀ k, gn h k ≤ gn h107 k := fun k => Nat.le_trans (hM k) (m108 k)
  obtain ⟨h109, e110, hF⟩ := nmx hF
  have m111 : ∀ k, gn h107 k ≤ gn h109 k := mst_sr rfl e110
  have hM : ∀ k, gn h k ≤ gn h109 k := fun k => Nat.le_trans (hM k) (m111 k)
  obtain ⟨o112, e113, hF⟩ := nmx hF
  obtain ⟨h114, e115, hF⟩ := nmx hF
  have m116 : ∀ k, gn h109 k ≤ gn h114 k := mst_nw rfl e115
  have hM : ∀ k, gn h k ≤ gn h114 k := fun k => Nat.le_trans (hM k) (m116 k)
  obtain ⟨h118, e119, hF⟩ := nmx hF
  have m120 : ∀ k, gn h114 k ≤ gn h118 k := mst_sr rfl e119
  have hM : ∀ k, gn h k ≤ gn h118 k := fun k => Nat.le_trans (hM k) (m120 k)
  obtain ⟨o121, e122, hF⟩ := bn hF
  obtain ⟨o124, e125, hF⟩ := nmx hF
  obtain ⟨h126, e127, hF⟩ := nmx hF
  have m128 : ∀ k, gn h118 k ≤ gn h126 k := mst_nw rfl e127
  have hM : ∀ k, gn h k ≤ gn h126 k := fun k => Nat.le_trans (hM k) (m128 k)
  obtain ⟨h131, e130, hF⟩ := bn hF
  have m132 : ∀ k, gn h126 k ≤ gn h131 k := mst_tr rfl (mono_X9_init e130)
  have hM : ∀ k, gn h k ≤ gn h131 k := fun k => Nat.le_trans (hM k) (m132 k)
  obtain ⟨h133, e134, hF⟩ := bn hF
  obtain ⟨b135, e134⟩ := sar_s e134
  have m136 : ∀ k, gn h131 k ≤ gn h133 k := mst_sr rfl e134
  have hM : ∀ k, gn h k ≤ gn h133 k := fun k => Nat.le_trans (hM k) (m136 k)
  obtain ⟨o137, e138, hF⟩ := bn hF
  obtain ⟨o140, e141, hF⟩ := nmx hF
  obtain ⟨h142, e143, hF⟩ := nmx hF
  have m144 : ∀ k, gn h133 k ≤ gn h142 k := mst_nw rfl e143
  have hM : ∀ k, gn h k ≤ gn h142 k := fun k => Nat.le_trans (hM k) (m144 k)
  obtain ⟨h147, e146, hF⟩ := bn hF
  have m148 : ∀ k, gn h142 k ≤ gn h147 k := mst_tr rfl (mono_X9_init e146)
  have hM : ∀ k, gn h k ≤ gn h147 k := fun k => Nat.le_trans (hM k) (m148 k)
  obtain ⟨h149, e150, hF⟩ := bn hF
  obtain ⟨b151, e150⟩ := sar_s e150
  have m152 : ∀ k, gn h147 k ≤ gn h149 k := mst_sr rfl e150
  have hM : ∀ k, gn h k ≤ gn h149 k := fun k => Nat.le_trans (hM k) (m152 k)
  obtain ⟨o153, e154, hF⟩ := bn hF
  obtain ⟨o156, e157, hF⟩ := nmx hF
  obtain ⟨h158, e159, hF⟩ := nmx hF
  have m160 : ∀ k, gn h149 k ≤ gn h158 k := mst_nw rfl e159
  have hM : ∀ k, gn h k ≤ gn h158 k := fun k => Nat.le_trans (hM k) (m160 k)
  obtain ⟨h163, e162, hF⟩ := bn hF
  have m164 : ∀ k, gn h158 k ≤ gn h163 k := mst_tr rfl (mono_X9_init e162)
  have hM : ∀ k, gn h k ≤ gn h163 k := fun k => Nat.le_trans (hM k) (m164 k)
  obtain ⟨h165, e166, hF⟩ := bn hF
  obtain ⟨b167, e166⟩ := sar_s e166
  have m168 : ∀ k, gn h163 k ≤ gn h165 k := mst_sr rfl e166
  have hM : ∀ k, gn h k ≤ gn h165 k := fun k => Nat.le_trans (hM k) (m168 k)
  obtain ⟨o169, e170, hF⟩ := bn hF
  obtain ⟨o172, e173, hF⟩ := nmx hF
  obtain ⟨h174, e175, hF⟩ := nmx hF
  have m176 : ∀ k, gn h165 k ≤ gn h174 k := mst_nw rfl e175
  have hM : ∀ k, gn h k ≤ gn h174 k := fun k => Nat.le_trans (hM k) (m176 k)
  obtain ⟨h179, e178, hF⟩ := bn hF
  have m180 : ∀ k, gn h174 k ≤ gn h179 k := mst_tr rfl (mono_X9_init e178)
  have hM : ∀ k, gn h k ≤ gn h179 k := fun k => Nat.le_trans (hM k) (m180 k)
  obtain ⟨h181, e182, hF⟩ := bn hF
  obtain ⟨b183, e182⟩ := sar_s e182
  have m184 : ∀ k, gn h179 k ≤ gn h181 k := mst_sr rfl e182
  have hM : ∀ k, gn h k ≤ gn h181 k := fun k => Nat.le_trans (hM k) (m184 k)
  obtain rfl := sj hF
  exact hM
def F_X1_init (i0 : Nat) (a1 : Int32) (a2 : Int32) (a3 : Int32) (a4 : Int32) (h : HP) : Option (HP) :=
  nm (gn h 20) fun o1 => nm (nw h 20) fun h3 =>
  (sa h3 20 o1 5 0 (-1)).bind fun h7 =>
  (sa h7 20 o1 5 1 (-1)).bind fun h11 =>
  (sa h11 20 o1 5 2 (-1)).bind fun h15 =>
  (sa h15 20 o1 5 3 (-1)).bind fun h19 =>
  (sa h19 20 o1 5 4 (-1)).bind fun h23 =>
  nm (sr h23 1 i0 4 (some o1)) fun h27 =>
  nm (gn h27 21) fun o30 => nm (nw h27 21) fun h32 =>
  nm (sr h32 1 i0 5 (some o30)) fun h36 =>
  nm (gn h36 22) fun o39 => nm (nw h36 22) fun h41 =>
  nm (sr h41 1 i0 6 (some o39)) fun h45 =>
  nm (si h45 1 i0 8 (-1)) fun h48 =>
  nm (si h48 1 i0 9 5) fun h51 =>
  nm (si h51 1 i0 10 999) fun h54 =>
  nm (si h54 1 i0 0 a1) fun h57 =>
  nm (si h57 1 i0 1 a2) fun h60 =>
  nm (si h60 1 i0 2 a3) fun h63 =>
  nm (si h63 1 i0 3 a4) fun h66 =>
  some h66
set_option maxHeartbeats 4000000 in
set_option maxRecDepth 100000 in
theorem ok_X1_init {l : Launch} {D : va_G} {cA : Nat → ClassId} {h : HP}  {d : HP} (i0 : Nat) (a1 : Int32) (a2 : Int32) (a3 : Int32) (a4 : Int32) (al_0 : i0 < gn h 1) (hF : F_X1_init i0 a1 a2 a3 a4 h = some d) : MVa l D cA yX1_init cX1_init 5 none 1 30 3 37 (fun φ => [.ref (φ 1 i0), .int a1, .int a2, .int a3, .int a4]) h d := by
  refine mk_Va (plainFor_of_name (by decide)) (fun φ => Nat.le_of_ble_eq_true rfl) ?_
  intro p e s m args below meth c ls φ0 A Q X hW hS hl hin hfin
  obtain ⟨φ, hφ⟩ : ∃ z : Nat → Nat → Nat, z = φ0 := ⟨_, rfl⟩
  have hU : ∀ k i, i < gn h k → φ k i = φ0 k i := fun k i _ => by rw [hφ]
  have hM : ∀ k, gn h k ≤ gn h k := fun k => Nat.le_refl _
  rw [← hφ] at hW hl
  have hx := X.1
  have hb := X.2.1
  have hl : lv_has ls 5 [(0, .ref (φ 1 i0)), (1, .int a1), (2, .int a2), (3, .int a3), (4, .int a4)] := hl
  unfold F_X1_init at hF
  refine lv_aload_n hx hb dX1_init_0 rfl (lv_at hl 0 rfl) ?_
  refine W.objInit hx hb X.2.2.2.1 (X.2.2.2.2.1 _ (AL_of 345 (by decide +kernel) rfl)) (X.2.2.2.2.1 _ (AL_of 24 (by decide +kernel) rfl)) (X.2.2.2.2.1 _ (AL_of 25 (by decide +kernel) rfl)) rfl (by rw [X.2.2.1]; exact hl.1) rfl dX1_init_1 (Nat.le_of_ble_eq_true rfl) (Nat.le_of_ble_eq_true rfl) ?_
  refine W.eq (g2 := F0 m 4 ls []) rfl ?_
  refine lv_aload_n hx hb dX1_init_4 rfl (lv_at hl 0 rfl) ?_
  refine lv_iconst (v := 5) hx hb dX1_init_5 (by decide) ?_
  refine r_newi (k := 20) (N := 5) X hW hS rfl (by decide) (by decide) (Nat.le_of_ble_eq_true rfl) ⟨Nat.le_of_ble_eq_true rfl, Nat.le_of_ble_eq_true rfl⟩ dX1_init_6 (AL_of 55 (by decide +kernel) rfl) (fun u H hu hW hS => ?_)
  obtain ⟨o1, e2, hF⟩ := nmx hF
  obtain ⟨h3, e4, hF⟩ := nmx hF
  have hW := nmW e4 hW
  have m5 : ∀ k, gn h k ≤ gn h3 k := mst_nw rfl e4
  have hl : lv_has ls 5 [(0, .ref (u 1 i0)), (1, .int a1), (2, .int a2), (3, .int a3), (4, .int a4)] := by rw [hu 1 i0 al_0]; exact hl
  refine stq (st1 := [.ref (u 20 o1), .ref (u 1 i0)]) (by rw [e2, hu 1 i0 al_0]) ?_
  have hU : ∀ k i, i < gn h k → u k i = φ0 k i := fun k i hi => (hu k i (Nat.lt_of_lt_of_le hi (hM k))).trans (hU k i hi)
  have hM : ∀ k, gn h k ≤ gn h3 k := fun k => Nat.le_trans (hM k) (m5 k)
  have al_0 := lm m5 al_0
  have al6 : o1 < gn h3 20 := by rw [e2, e4]; exact gn_nw_lt _ _
  obtain ⟨φ, rfl⟩ : ∃ z, z = u := ⟨_, rfl⟩
  refine lv_dup hx hb dX1_init_8 rfl ?_
  refine lv_iconst (v := 0) hx hb dX1_init_9 (by decide) ?_
  refine lv_iconst (v := (-1)) hx hb dX1_init_10 (by decide) ?_
  obtain ⟨h7, e8, hF⟩ := bn hF
  obtain ⟨b9, e8⟩ := sa_s e8
  refine r_iast X hW hS al6 rfl b9 dX1_init_11 (fun H locs hW hS => ?_)
  have hW := nmW e8 hW
  have g10 : h7.2.2 = h3.2.2 := by rw [e8]; exact rfl
  refine lv_dup hx hb dX1_init_12 rfl ?_
  refine lv_iconst (v := 1) hx hb dX1_init_13 (by decide) ?_
  refine lv_iconst (v := (-1)) hx hb dX1_init_14 (by decide) ?_
  obtain ⟨h11, e12, hF⟩ := bn hF
  obtain ⟨b13, e12⟩ := sa_s e12
  refine r_iast X hW hS (gq g10 al6) rfl b13 dX1_init_15 (fun H locs hW hS => ?_)
  have hW := nmW e12 hW
  have g14 : h11.2.2 = h3.2.2 := by rw [e12]; exact g10
  refine lv_dup hx hb dX1_init_16 rfl ?_
  refine lv_iconst (v := 2) hx hb dX1_init_17 (by decide) ?_
  refine lv_iconst (v := (-1)) hx hb dX1_init_18 (by decide) ?_
  obtain ⟨h15, e16, hF⟩ := bn hF
  obtain ⟨b17, e16⟩ := sa_s e16
  refine r_iast X hW hS (gq g14 al6) rfl b17 dX1_init_19 (fun H locs hW hS => ?_)
  have hW := nmW e16 hW
  have g18 : h15.2.2 = h3.2.2 := by rw [e16]; exact g14
  refine lv_dup hx hb dX1_init_20 rfl ?_
  refine lv_iconst (v := 3) hx hb dX1_init_21 (by decide) ?_
  refine lv_iconst (v := (-1)) hx hb dX1_init_22 (by decide) ?_
  obtain ⟨h19, e20, hF⟩ := bn hF
  obtain ⟨b21, e20⟩ := sa_s e20
  refine r_iast X hW hS (gq g18 al6) rfl b21 dX1_init_23 (fun H locs hW hS => ?_)
  have hW := nmW e20 hW
  have g22 : h19.2.2 = h3.2.2 := by rw [e20]; exact g18
  refine lv_dup hx hb dX1_init_24 rfl ?_
  refine lv_iconst (v := 4) hx hb dX1_init_25 (by decide) ?_
  refine lv_iconst (v := (-1)) hx hb dX1_init_26 (by decide) ?_
  obtain ⟨h23, e24, hF⟩ := bn hF
  obtain ⟨b25, e24⟩ := sa_s e24
  refine r_iast X hW hS (gq g22 al6) rfl b25 dX1_init_27 (fun H locs hW hS => ?_)
  have hW := nmW e24 hW
  have g26 : h23.2.2 = h3.2.2 := by rw [e24]; exact g22
  refine r_putrF X hW hS hin (gq g26 al_0) (gq g26 al6) fp_1_9 rfl rfl dX1_init_28 (fun H locs hW hS => ?_)
  obtain ⟨h27, e28, hF⟩ := nmx hF
  have hW := nmW e28 hW
  have m29 : ∀ k, gn h3 k ≤ gn h27 k := mst_sr g26 e28
  have hM : ∀ k, gn h k ≤ gn h27 k := fun k => Nat.le_trans (hM k) (m29 k)
  have al_0 := lm m29 al_0
  refine lv_aload_n hx hb dX1_init_31 rfl (lv_at hl 0 rfl) ?_
  refine lv_bipush (v := 16) hx hb dX1_init_32 (by decide) ?_
  refine r_newi (k := 21) (N := 16) X hW hS rfl (by decide) (by decide) (Nat.le_of_ble_eq_true rfl) ⟨Nat.le_of_ble_eq_true rfl, Nat.le_of_ble_eq_true rfl⟩ dX1_init_34 (AL_of 55 (by decide +kernel) rfl) (fun u H hu hW hS => ?_)
  obtain ⟨o30, e31, hF⟩ := nmx hF
  obtain ⟨h32, e33, hF⟩ := nmx hF
  have hW := nmW e33 hW
  have m34 : ∀ k, gn h27 k ≤ gn h32 k := mst_nw rfl e33
  have hl : lv_has ls 5 [(0, .ref (u 1 i0)), (1, .int a1), (2, .int a2), (3, .int a3), (4, .int a4)] := by rw [hu 1 i0 al_0]; exact hl
  refine stq (st1 := [.ref (u 21 o30), .ref (u 1 i0)]) (by rw [e31, hu 1 i0 al_0]) ?_
  have hU : ∀ k i, i < gn h k → u k i = φ0 k i := fun k i hi => (hu k i (Nat.lt_of_lt_of_le hi (hM k))).trans (hU k i hi)
  have hM : ∀ k, gn h k ≤ gn h32 k := fun k => Nat.le_trans (hM k) (m34 k)
  have al_0 := lm m34 al_0
  have al35 : o30 < gn h32 21 := by rw [e31, e33]; exact gn_nw_lt _ _
  obtain ⟨φ, rfl⟩ : ∃ z, z = u := ⟨_, rfl⟩
  refine r_putrF X hW hS hin al_0 al35 fp_1_15 rfl rfl dX1_init_36 (fun H locs hW hS => ?_)
  obtain ⟨h36, e37, hF⟩ := nmx hF
  have hW := nmW e37 hW
  have m38 : ∀ k, gn h32 k ≤ gn h36 k := mst_sr rfl e37
  have hM : ∀ k, gn h k ≤ gn h36 k := fun k => Nat.le_trans (hM k) (m38 k)
  have al_0 := lm m38 al_0
  refine lv_aload_n hx hb dX1_init_39 rfl (lv_at hl 0 rfl) ?_
  refine lv_bipush (v := 16) hx hb dX1_init_40 (by decide) ?_
  refine r_newi (k := 22) (N := 16) X hW hS rfl (by decide) (by decide) (Nat.le_of_ble_eq_true rfl) ⟨Nat.le_of_ble_eq_true rfl, Nat.le_of_ble_eq_true rfl⟩ dX1_init_42 (AL_of 55 (by decide +kernel) rfl) (fun u H hu hW hS => ?_)
  obtain ⟨o39, e40, hF⟩ := nmx hF
  obtain ⟨h41, e42, hF⟩ := nmx hF
  have hW := nmW e42 hW
  have m43 : ∀ k, gn h36 k ≤ gn h41 k := mst_nw rfl e42
  have hl : lv_has ls 5 [(0, .ref (u 1 i0)), (1, .int a1), (2, .int a2), (3, .int a3), (4, .int a4)] := by rw [hu 1 i0 al_0]; exact hl
  refine stq (st1 := [.ref (u 22 o39), .ref (u 1 i0)]) (by rw [e40, hu 1 i0 al_0]) ?_
  have hU : ∀ k i, i < gn h k → u k i = φ0 k i := fun k i hi => (hu k i (Nat.lt_of_lt_of_le hi (hM k))).trans (hU k i hi)
  have hM : ∀ k, gn h k ≤ gn h41 k := fun k => Nat.le_trans (hM k) (m43 k)
  have al_0 := lm m43 al_0
  have al44 : o39 < gn h41 22 := by rw [e40, e42]; exact gn_nw_lt _ _
  obtain ⟨φ, rfl⟩ : ∃ z, z = u := ⟨_, rfl⟩
  refine r_putrF X hW hS hin al_0 al44 fp_1_18 rfl rfl dX1_init_44 (fun H locs hW hS => ?_)
  obtain ⟨h45, e46, hF⟩ := nmx hF
  have hW := nmW e46 hW
  have m47 : ∀ k, gn h41 k ≤ gn h45 k := mst_sr rfl e46
  have hM : ∀ k, gn h k ≤ gn h45 k := fun k => Nat.le_trans (hM k) (m47 k)
  have al_0 := lm m47 al_0
  refine lv_aload_n hx hb dX1_init_47 rfl (lv_at hl 0 rfl) ?_
  refine lv_iconst (v := (-1)) hx hb dX1_init_48 (by decide) ?_
  refine r_puti X hW hS al_0 fp_1_21 rfl rfl dX1_init_49 (fun H locs hW hS => ?_)
  obtain ⟨h48, e49, hF⟩ := nmx hF
  have hW := nmW e49 hW
  have g50 : h48.2.2 = h45.2.2 := by rw [e49]; exact rfl
  refine lv_aload_n hx hb dX1_init_52 rfl (lv_at hl 0 rfl) ?_
  refine lv_iconst (v := 5) hx hb dX1_init_53 (by decide) ?_
  refine r_puti X hW hS (gq g50 al_0) fp_1_25 rfl rfl dX1_init_54 (fun H locs hW hS => ?_)
  obtain ⟨h51, e52, hF⟩ := nmx hF
  have hW := nmW e52 hW
  have g53 : h51.2.2 = h45.2.2 := by rw [e52]; exact g50
  refine lv_aload_n hx hb dX1_init_57 rfl (lv_at hl 0 rfl) ?_
  refine lv_sipush (v := 999) hx hb dX1_init_58 (by decide) ?_
  refine r_puti X hW hS (gq g53 al_0) fp_1_28 rfl rfl dX1_init_61 (fun H locs hW hS => ?_)
  obtain ⟨h54, e55, hF⟩ := nmx hF
  have hW := nmW e55 hW
  have g56 : h54.2.2 = h45.2.2 := by rw [e55]; exact g53
  refine lv_aload_n hx hb dX1_init_64 rfl (lv_at hl 0 rfl) ?_
  refine lv_iload_n hx hb dX1_init_65 rfl (lv_at hl 1 rfl) ?_
  refine r_putiF X hW hS hin (gq g56 al_0) fp_1_31 rfl rfl dX1_init_66 (fun H locs hW hS => ?_)
  obtain ⟨h57, e58, hF⟩ := nmx hF
  have hW := nmW e58 hW
  have g59 : h57.2.2 = h45.2.2 := by rw [e58]; exact g56
  refine lv_aload_n hx hb dX1_init_69 rfl (lv_at hl 0 rfl) ?_
  refine lv_iload_n hx hb dX1_init_70 rfl (lv_at hl 2 rfl) ?_
  refine r_putiF X hW hS hin (gq g59 al_0) fp_1_34 rfl rfl dX1_init_71 (fun H locs hW hS => ?_)
  obtain ⟨h60, e61, hF⟩ := nmx hF
  have hW := nmW e61 hW
  have g62 : h60.2.2 = h45.2.2 := by rw [e61]; exact g59
  refine lv_aload_n hx hb dX1_init_74 rfl (lv_at hl 0 rfl) ?_
  refine lv_iload_n hx hb dX1_init_75 rfl (lv_at hl 3 rfl) ?_
  refine r_putiF X hW hS hin (gq g62 al_0) fp_1_37 rfl rfl dX1_init_76 (fun H locs hW hS => ?_)
  obtain ⟨h63, e64, hF⟩ := nmx hF
  have hW := nmW e64 hW
  have g65 : h63.2.2 = h45.2.2 := by rw [e64]; exact g62
  refine lv_aload_n hx hb dX1_init_79 rfl (lv_at hl 0 rfl) ?_
  refine lv_iload hx hb dX1_init_80 (lv_at hl 4 rfl) ?_
  refine r_putiF X hW hS hin (gq g65 al_0) fp_1_40 rfl rfl dX1_init_82 (fun H locs hW hS => ?_)
  obtain ⟨h66, e67, hF⟩ := nmx hF
  have hW := nmW e67 hW
  have g68 : h66.2.2 = h45.2.2 := by rw [e67]; exact g65
  obtain rfl := sj hF
  refine W.widen (k := 3) (n := 37) (Nat.le_of_ble_eq_true rfl) (Nat.le_of_ble_eq_true rfl) ?_
  exact hfin φ _ _ _ _ hU hW hS dX1_init_85 -- g68
set_option maxHeartbeats 4000000 in
set_option maxRecDepth 100000 in
theorem mono_X1_init {h : HP}  {d : HP} {i0 : Nat} {a1 : Int32} {a2 : Int32} {a3 : Int32} {a4 : Int32} (hF : F_X1_init i0 a1 a2 a3 a4 h = some d) : ∀ k, gn h k ≤ gn d k := by
  have hM : ∀ k, gn h k ≤ gn h k := fun k => Nat.le_refl _
  unfold F_X1_init at hF
  obtain ⟨o1, e2, hF⟩ := nmx hF
  obtain ⟨h3, e4, hF⟩ := nmx hF
  have m5 : ∀ k, gn h k ≤ gn h3 k := mst_nw rfl e4
  have hM : ∀ k, gn h k ≤ gn h3 k := fun k => Nat.le_trans (hM k) (m5 k)
  obtain ⟨h7, e8, hF⟩ := bn hF
  obtain ⟨b9, e8⟩ := sa_s e8
  have g10 : h7.2.2 = h3.2.2 := by rw [e8]; exact rfl
  obtain ⟨h11, e12, hF⟩ := bn hF
  obtain ⟨b13, e12⟩ := sa_s e12
  have g14 : h11.2.2 = h3.2.2 := by rw [e12]; exact g10
  obtain ⟨h15, e16, hF⟩ := bn hF
  obtain ⟨b17, e16⟩ := sa_s e16
  have g18 : h15.2.2 = h3.2.2 := by rw [e16]; exact g14
  obtain ⟨h19, e20, hF⟩ := bn hF
  obtain ⟨b21, e20⟩ := sa_s e20
  have g22 : h19.2.2 = h3.2.2 := by rw [e20]; exact g18
  obtain ⟨h23, e24, hF⟩ := bn hF
  obtain ⟨b25, e24⟩ := sa_s e24
  have g26 : h23.2.2 = h3.2.2 := by rw [e24]; exact g22
  obtain ⟨h27, e28, hF⟩ := nmx hF
  have m29 : ∀ k, gn h3 k ≤ gn h27 k := mst_sr g26 e28
  have hM : ∀ k, gn h k ≤ gn h27 k := fun k => Nat.le_trans (hM k) (m29 k)
  obtain ⟨o30, e31, hF⟩ := nmx hF
  obtain ⟨h32, e33, hF⟩ := nmx hF
  have m34 : ∀ k, gn h27 k ≤ gn h32 k := mst_nw rfl e33
  have hM : ∀ k, gn h k ≤ gn h32 k := fun k => Nat.le_trans (hM k) (m34 k)
  obtain ⟨h36, e37, hF⟩ := nmx hF
  have m38 : ∀ k, gn h32 k ≤ gn h36 k := mst_sr rfl e37
  have hM : ∀ k, gn h k ≤ gn h36 k := fun k => Nat.le_trans (hM k) (m38 k)
  obtain ⟨o39, e40, hF⟩ := nmx hF
  obtain ⟨h41, e42, hF⟩ := nmx hF
  have m43 : ∀ k, gn h36 k ≤ gn h41 k := mst_nw rfl e42
  have hM : ∀ k, gn h k ≤ gn h41 k := fun k => Nat.le_trans (hM k) (m43 k)
  obtain ⟨h45, e46, hF⟩ := nmx hF
  have m47 : ∀ k, gn h41 k ≤ gn h45 k := mst_sr rfl e46
  have hM : ∀ k, gn h k ≤ gn h45 k := fun k => Nat.le_trans (hM k) (m47 k)
  obtain ⟨h48, e49, hF⟩ := nmx hF
  have g50 : h48.2.2 = h45.2.2 := by rw [e49]; exact rfl
  obtain ⟨h51, e52, hF⟩ := nmx hF
  have g53 : h51.2.2 = h45.2.2 := by rw [e52]; exact g50
  obtain ⟨h54, e55, hF⟩ := nmx hF
  have g56 : h54.2.2 = h45.2.2 := by rw [e55]; exact g53
  obtain ⟨h57, e58, hF⟩ := nmx hF
  have g59 : h57.2.2 = h45.2.2 := by rw [e58]; exact g56
  obtain ⟨h60, e61, hF⟩ := nmx hF
  have g62 : h60.2.2 = h45.2.2 := by rw [e61]; exact g59
  obtain ⟨h63, e64, hF⟩ := nmx hF
  have g65 : h63.2.2 = h45.2.2 := by rw [e64]; exact g62
  obtain ⟨h66, e67, hF⟩ := nmx hF
  have g68 : h66.2.2 = h45.2.2 := by rw [e67]; exact g65
  obtain rfl := sj hF
  exact hMg hM g68
def F_X2_add (i0 : Nat) (i1 : Nat) (h : HP) : Option (Int32 × HP) :=
  (F_X2_isFull i0 h).bind fun x2 =>
  (if x2 = 0 then
  (gr h 2 i0 0).bind fun o3 =>
  (sar h 23 o3 20 (gi h 2 i0 1) i1).bind fun h6 =>
  nm (si h6 2 i0 1 ((gi h6 2 i0 1) + 1)) fun h10 =>
  some (((gi h10 2 i0 1) - 1), h10)
  else
  some ((-4), h))
set_option maxHeartbeats 4000000 in
set_option maxRecDepth 100000 in
theorem ok_X2_add {l : Launch} {D : va_G} {cA : Nat → ClassId} {h : HP} {r : Int32} {d : HP} (i0 : Nat) (i1 : Nat) (al_0 : i0 < gn h 2) (al_1 : i1 < gn h 1) (hF : F_X2_add i0 i1 h = some (r, d)) : MIa l D cA yX2_add cX2_add 2 (some .int) 1 20 0 0 (fun φ => [.ref (φ 2 i0), .ref (φ 1 i1)]) h r d := by
  refine mk_Ia (plainFor_of_name (by decide)) (fun φ => Nat.le_of_ble_eq_true rfl) ?_
  intro p e s m args below meth c ls φ0 A Q X hW hS hl hfin
  obtain ⟨φ, hφ⟩ : ∃ z : Nat → Nat → Nat, z = φ0 := ⟨_, rfl⟩
  have hU : ∀ k i, i < gn h k → φ k i = φ0 k i := fun k i _ => by rw [hφ]
  have hM : ∀ k, gn h k ≤ gn h k := fun k => Nat.le_refl _
  rw [← hφ] at hW hl
  have hx := X.1
  have hb := X.2.1
  have hl : lv_has ls 2 [(0, .ref (φ 2 i0)), (1, .ref (φ 1 i1))] := hl
  unfold F_X2_add at hF
  refine lv_aload_n hx hb dX2_add_0 rfl (lv_at hl 0 rfl) ?_
  obtain ⟨x2, e1, hF⟩ := bn hF
  refine rc_i (Af := fun φ => [.ref (φ 2 i0)]) X hW hS ⟨Nat.le_of_ble_eq_true rfl, Nat.le_of_ble_eq_true rfl⟩ (rn_V (As := []) (rest := []) X hW hS cw_2_25 al_0 rfl rfl rfl ⟨Nat.le_of_ble_eq_true rfl, Nat.le_of_ble_eq_true rfl⟩ rfl hl.1 rfl (Nat.le_of_ble_eq_true rfl) dX2_add_1) (ok_X2_isFull i0 al_0 e1) (fun H locs hW hS => ?_)
  refine lv_if_eq (tgt := 10) hx hb dX2_add_4 (by decide) (fun c13 => ?_) (fun c13 => ?_)
  · have hF := it c13 hF
    refine lv_aload_n hx hb dX2_add_10 rfl (lv_at hl 0 rfl) ?_
    obtain ⟨o3, e4, hF⟩ := bn hF
    refine r_getr X hW al_0 fl_2_11 e4 dX2_add_11 (fun al5 => ?_)
    refine lv_aload_n hx hb dX2_add_14 rfl (lv_at hl 0 rfl) ?_
    refine r_geti X hW al_0 fl_2_17 dX2_add_15 ?_
    refine lv_aload_n hx hb dX2_add_18 rfl (lv_at hl 1 rfl) ?_
    obtain ⟨h6, e7, hF⟩ := bn hF
    obtain ⟨b8, e7⟩ := sar_s e7
    refine r_aast (t0 := 3) X hW hS al5 rfl rfl rfl rfl al_1 b8 dX2_add_19 (fun H locs hW hS => ?_)
    have hW := nmW e7 hW
    have m9 : ∀ k, gn h k ≤ gn h6 k := mst_sr rfl e7
    have hM : ∀ k, gn h k ≤ gn h6 k := fun k => Nat.le_trans (hM k) (m9 k)
    have al_0 := lm m9 al_0
    have al_1 := lm m9 al_1
    refine lv_aload_n hx hb dX2_add_20 rfl (lv_at hl 0 rfl) ?_
    refine lv_dup hx hb dX2_add_21 rfl ?_
    refine r_geti X hW al_0 fl_2_17 dX2_add_22 ?_
    refine lv_iconst (v := 1) hx hb dX2_add_25 (by decide) ?_
    refine lv_iadd hx hb dX2_add_26 ?_
    refine r_puti X hW hS al_0 fp_2_17 rfl rfl dX2_add_27 (fun H locs hW hS => ?_)
    obtain ⟨h10, e11, hF⟩ := nmx hF
    have hW := nmW e11 hW
    have g12 : h10.2.2 = h6.2.2 := by rw [e11]; exact rfl
    refine lv_aload_n hx hb dX2_add_30 rfl (lv_at hl 0 rfl) ?_
    refine r_geti X hW (gq g12 al_0) fl_2_17 dX2_add_31 ?_
    refine lv_iconst (v := 1) hx hb dX2_add_34 (by decide) ?_
    refine lv_isub hx hb dX2_add_35 ?_
    obtain ⟨rfl, rfl⟩ := sj2 hF
    refine W.widen (k := 0) (n := 0) (Nat.le_of_ble_eq_true rfl) (Nat.le_of_ble_eq_true rfl) ?_
    exact hfin φ _ _ _ _ hU hW hS dX2_add_36 -- g12
  · have hF := ie c13 hF
    refine lv_bipush (v := (-4)) hx hb dX2_add_7 (by decide) ?_
    obtain ⟨rfl, rfl⟩ := sj2 hF
    refine W.widen (k := 0) (n := 0) (Nat.le_of_ble_eq_true rfl) (Nat.le_of_ble_eq_true rfl) ?_
    exact hfin φ _ _ _ _ hU hW hS dX2_add_9 -- 
set_option maxHeartbeats 4000000 in
set_option maxRecDepth 100000 in
theorem mono_X2_add {h : HP} {r : Int32} {d : HP} {i0 : Nat} {i1 : Nat} (hF : F_X2_add i0 i1 h = some (r, d)) : ∀ k, gn h k ≤ gn d k := by
  have hM : ∀ k, gn h k ≤ gn h k := fun k => Nat.le_refl _
  unfold F_X2_add at hF
  obtain ⟨x2, e1, hF⟩ := bn hF
  rcases (Decidable.em (x2 = 0)) with c13 | c13
  · have hF := it c13 hF
    obtain ⟨o3, e4, hF⟩ := bn hF
    obtain ⟨h6, e7, hF⟩ := bn hF
    obtain ⟨b8, e7⟩ := sar_s e7
    have m9 : ∀ k, gn h k ≤ gn h6 k := mst_sr rfl e7
    have hM : ∀ k, gn h k ≤ gn h6 k := fun k => Nat.le_trans (hM k) (m9 k)
    obtain ⟨h10, e11, hF⟩ := nmx hF
    have g12 : h10.2.2 = h6.2.2 := by rw [e11]; exact rfl
    obtain ⟨rfl, rfl⟩ := sj2 hF
    exact hMg hM g12
  · have hF := ie c13 hF
    obtain ⟨rfl, rfl⟩ := sj2 hF
    exact hM
def F_X11_bell (i0 : Nat) (a1 : Int32) (a2 : Int32) (a3 : Int32) (a4 : Int32) (h : HP) : Option (Int32 × HP) :=
  (F_X11_mayBeBell i0 a1 a2 a3 a4 h).bind fun x2 =>
  (if x2 = 0 then
  some ((-2), h)
  else
  (gr h 11 i0 3).bind fun o3 =>
  (F_X2_isFull o3 h).bind fun x7 =>
  (if x7 = 0 then
  (gr h 11 i0 3).bind fun o8 =>
  nm (gn h 1) fun o11 => nm (nw h 1) fun h13 =>
  (F_X1_init o11 a1 a2 a3 a4 h13).bind fun h18 =>
  (F_X2_add o8 o11 h18).bind fun q23 => u2 q23 fun x24 h21 =>
  some (x24, h21)
  else
  some ((-4), h)))
set_option maxHeartbeats 4000000 in
set_option maxRecDepth 100000 in
theorem ok_X11_bell {l : Launch} {D : va_G} {cA : Nat → ClassId} {h : HP} {r : Int32} {d : HP} (i0 : Nat) (a1 : Int32) (a2 : Int32) (a3 : Int32) (a4 : Int32) (al_0 : i0 < gn h 11) (hF : F_X11_bell i0 a1 a2 a3 a4 h = some (r, d)) : MIa l D cA yX11_bell cX11_bell 5 (some .int) 3 67 4 48 (fun φ => [.ref (φ 11 i0), .int a1, .int a2, .int a3, .int a4]) h r d := by
  refine mk_Ia (plainFor_of_name (by decide)) (fun φ => Nat.le_of_ble_eq_true rfl) ?_
  intro p e s m args below meth c ls φ0 A Q X hW hS hl hfin
  obtain ⟨φ, hφ⟩ : ∃ z : Nat → Nat → Nat, z = φ0 := ⟨_, rfl⟩
  have hU : ∀ k i, i < gn h k → φ k i = φ0 k i := fun k i _ => by rw [hφ]
  have hM : ∀ k, gn h k ≤ gn h k := fun k => Nat.le_refl _
  rw [← hφ] at hW hl
  have hx := X.1
  have hb := X.2.1
  have hl : lv_has ls 5 [(0, .ref (φ 11 i0)), (1, .int a1), (2, .int a2), (3, .int a3), (4, .int a4)] := hl
  unfold F_X11_bell at hF
  refine lv_aload_n hx hb dX11_bell_0 rfl (lv_at hl 0 rfl) ?_
  refine lv_iload_n hx hb dX11_bell_1 rfl (lv_at hl 1 rfl) ?_
  refine lv_iload_n hx hb dX11_bell_2 rfl (lv_at hl 2 rfl) ?_
  refine lv_iload_n hx hb dX11_bell_3 rfl (lv_at hl 3 rfl) ?_
  refine lv_iload hx hb dX11_bell_4 (lv_at hl 4 rfl) ?_
  obtain ⟨x2, e1, hF⟩ := bn hF
  refine rc_i (Af := fun φ => [.ref (φ 11 i0), .int a1, .int a2, .int a3, .int a4]) X hW hS ⟨Nat.le_of_ble_eq_true rfl, Nat.le_of_ble_eq_true rfl⟩ (rn_V (As := [.int a1, .int a2, .int a3, .int a4]) (rest := []) X hW hS cw_11_99 al_0 rfl rfl rfl ⟨Nat.le_of_ble_eq_true rfl, Nat.le_of_ble_eq_true rfl⟩ rfl hl.1 rfl (Nat.le_of_ble_eq_true rfl) dX11_bell_6) (ok_X11_mayBeBell i0 a1 a2 a3 a4 al_0 e1) (fun H locs hW hS => ?_)
  refine lv_if_ne (tgt := 15) hx hb dX11_bell_9 (by decide) (fun c26 => ?_) (fun c26 => ?_)
  · have hF := ie c26 hF
    refine lv_aload_n hx hb dX11_bell_15 rfl (lv_at hl 0 rfl) ?_
    obtain ⟨o3, e4, hF⟩ := bn hF
    refine r_getr X hW al_0 fl_11_16 e4 dX11_bell_16 (fun al5 => ?_)
    obtain ⟨x7, e6, hF⟩ := bn hF
    refine rc_i (Af := fun φ => [.ref (φ 2 o3)]) X hW hS ⟨Nat.le_of_ble_eq_true rfl, Nat.le_of_ble_eq_true rfl⟩ (rn_V (As := []) (rest := []) X hW hS cw_11_103 al5 rfl rfl rfl ⟨Nat.le_of_ble_eq_true rfl, Nat.le_of_ble_eq_true rfl⟩ rfl hl.1 rfl (Nat.le_of_ble_eq_true rfl) dX11_bell_19) (ok_X2_isFull o3 al5 e6) (fun H locs hW hS => ?_)
    refine lv_if_eq (tgt := 28) hx hb dX11_bell_22 (by decide) (fun c25 => ?_) (fun c25 => ?_)
    · have hF := it c25 hF
      refine lv_aload_n hx hb dX11_bell_28 rfl (lv_at hl 0 rfl) ?_
      obtain ⟨o8, e9, hF⟩ := bn hF
      refine r_getr X hW al_0 fl_11_16 e9 dX11_bell_29 (fun al10 => ?_)
      refine r_new X hW hS fn_11_107 ⟨Nat.le_of_ble_eq_true rfl, Nat.le_of_ble_eq_true rfl⟩ dX11_bell_32 (fun u H hu hW hS => ?_)
      obtain ⟨o11, e12, hF⟩ := nmx hF
      obtain ⟨h13, e14, hF⟩ := nmx hF
      have hW := nmW e14 hW
      have m15 : ∀ k, gn h k ≤ gn h13 k := mst_nw rfl e14
      have hl : lv_has ls 5 [(0, .ref (u 11 i0)), (1, .int a1), (2, .int a2), (3, .int a3), (4, .int a4)] := by rw [hu 11 i0 al_0]; exact hl
      refine stq (st1 := [.ref (u 1 o11), .ref (u 2 o8)]) (by rw [e12, hu 2 o8 al10]) ?_
      have hU : ∀ k i, i < gn h k → u k i = φ0 k i := fun k i hi => (hu k i (Nat.lt_of_lt_of_le hi (hM k))).trans (hU k i hi)
      have hM : ∀ k, gn h k ≤ gn h13 k := fun k => Nat.le_trans (hM k) (m15 k)
      have al_0 := lm m15 al_0
      have al10 := lm m15 al10
      have al16 : o11 < gn h13 1 := by rw [e12, e14]; exact gn_nw_lt _ _
      obtain ⟨φ, rfl⟩ : ∃ z, z = u := ⟨_, rfl⟩
      refine lv_dup hx hb dX11_bell_35 rfl ?_
      refine lv_iload_n hx hb dX11_bell_36 rfl (lv_at hl 1 rfl) ?_
      refine lv_iload_n hx hb dX11_bell_37 rfl (lv_at hl 2 rfl) ?_
      refine lv_iload_n hx hb dX11_bell_38 rfl (lv_at hl 3 rfl) ?_
      refine lv_iload hx hb dX11_bell_39 (lv_at hl 4 rfl) ?_
      obtain ⟨h18, e17, hF⟩ := bn hF
      refine rc_va (Af := fun φ => [.ref (φ 1 o11), .int a1, .int a2, .int a3, .int a4]) X hW hS ⟨Nat.le_of_ble_eq_true rfl, Nat.le_of_ble_eq_true rfl⟩ (rn_I (k := 1) (i := o11) (As := [.int a1, .int a2, .int a3, .int a4]) (rest := [.ref (φ 1 o11), .ref (φ 2 o8)]) X hW hS cw_11_109 ⟨Nat.le_of_ble_eq_true rfl, Nat.le_of_ble_eq_true rfl⟩ rfl hl.1 rfl (Nat.le_of_ble_eq_true rfl) dX11_bell_41) (ok_X1_init o11 a1 a2 a3 a4 al16 e17) (fun u H locs hu hW hS => ?_)
      have m19 : ∀ k, gn h13 k ≤ gn h18 k := mst_tr rfl (mono_X1_init e17)
      have hl : lv_has ls 5 [(0, .ref (u 11 i0)), (1, .int a1), (2, .int a2), (3, .int a3), (4, .int a4)] := by rw [hu 11 i0 al_0]; exact hl
      refine stq (st1 := [.ref (u 1 o11), .ref (u 2 o8)]) (by rw [hu 1 o11 al16, hu 2 o8 al10]) ?_
      have hU : ∀ k i, i < gn h k → u k i = φ0 k i := fun k i hi => (hu k i (Nat.lt_of_lt_of_le hi (hM k))).trans (hU k i hi)
      have hM : ∀ k, gn h k ≤ gn h18 k := fun k => Nat.le_trans (hM k) (m19 k)
      have al_0 := lm m19 al_0
      have al16 := lm m19 al16
      have al10 := lm m19 al10
      obtain ⟨φ, rfl⟩ : ∃ z, z = u := ⟨_, rfl⟩
      obtain ⟨q23, e20, hF⟩ := bn hF
      obtain ⟨x24, h21⟩ := q23
      have hF := u2d hF
      refine rc_ia (Af := fun φ => [.ref (φ 2 o8), .ref (φ 1 o11)]) X hW hS ⟨Nat.le_of_ble_eq_true rfl, Nat.le_of_ble_eq_true rfl⟩ (rn_V (As := [.ref (φ 1 o11)]) (rest := []) X hW hS cw_11_112 al10 rfl rfl rfl ⟨Nat.le_of_ble_eq_true rfl, Nat.le_of_ble_eq_true rfl⟩ rfl hl.1 rfl (Nat.le_of_ble_eq_true rfl) dX11_bell_44) (ok_X2_add o8 o11 al10 al16 e20) (fun u H locs hu hW hS => ?_)
      have m22 : ∀ k, gn h18 k ≤ gn h21 k := mst_tr rfl (mono_X2_add e20)
      have hl : lv_has ls 5 [(0, .ref (u 11 i0)), (1, .int a1), (2, .int a2), (3, .int a3), (4, .int a4)] := by rw [hu 11 i0 al_0]; exact hl
      have hU : ∀ k i, i < gn h k → u k i = φ0 k i := fun k i hi => (hu k i (Nat.lt_of_lt_of_le hi (hM k))).trans (hU k i hi)
      have hM : ∀ k, gn h k ≤ gn h21 k := fun k => Nat.le_trans (hM k) (m22 k)
      have al_0 := lm m22 al_0
      obtain ⟨φ, rfl⟩ : ∃ z, z = u := ⟨_, rfl⟩
      obtain ⟨rfl, rfl⟩ := sj2 hF
      refine W.widen (k := 4) (n := 48) (Nat.le_of_ble_eq_true rfl) (Nat.le_of_ble_eq_true rfl) ?_
      exact hfin φ _ _ _ _ hU hW hS dX11_bell_47 -- 
    · have hF := ie c25 hF
      refine lv_bipush (v := (-4)) hx hb dX11_bell_25 (by decide) ?_
      obtain ⟨rfl, rfl⟩ := sj2 hF
      refine W.widen (k := 4) (n := 48) (Nat.le_of_ble_eq_true rfl) (Nat.le_of_ble_eq_true rfl) ?_
      exact hfin φ _ _ _ _ hU hW hS dX11_bell_27 -- 
  · have hF := it c26 hF
    refine lv_bipush (v := (-2)) hx hb dX11_bell_12 (by decide) ?_
    obtain ⟨rfl, rfl⟩ := sj2 hF
    refine W.widen (k := 4) (n := 48) (Nat.le_of_ble_eq_true rfl) (Nat.le_of_ble_eq_true rfl) ?_
    exact hfin φ _ _ _ _ hU hW hS dX11_bell_14 -- 
set_option maxHeartbeats 4000000 in
set_option maxRecDepth 100000 in
theorem mono_X11_bell {h : HP} {r : Int32} {d : HP} {i0 : Nat} {a1 : Int32} {a2 : Int32} {a3 : Int32} {a4 : Int32} (hF : F_X11_bell i0 a1 a2 a3 a4 h = some (r, d)) : ∀ k, gn h k ≤ gn d k := by
  have hM : ∀ k, gn h k ≤ gn h k := fun k => Nat.le_refl _
  unfold F_X11_bell at hF
  obtain ⟨x2, e1, hF⟩ := bn hF
  rcases (Decidable.em (x2 = 0)).symm with c26 | c26
  · have hF := ie c26 hF
    obtain ⟨o3, e4, hF⟩ := bn hF
    obtain ⟨x7, e6, hF⟩ := bn hF
    rcases (Decidable.em (x7 = 0)) with c25 | c25
    · have hF := it c25 hF
      obtain ⟨o8, e9, hF⟩ := bn hF
      obtain ⟨o11, e12, hF⟩ := nmx hF
      obtain ⟨h13, e14, hF⟩ := nmx hF
      have m15 : ∀ k, gn h k ≤ gn h13 k := mst_nw rfl e14
      have hM : ∀ k, gn h k ≤ gn h13 k := fun k => Nat.le_trans (hM k) (m15 k)
      obtain ⟨h18, e17, hF⟩ := bn hF
      have m19 : ∀ k, gn h13 k ≤ gn h18 k := mst_tr rfl (mono_X1_init e17)
      have hM : ∀ k, gn h k ≤ gn h18 k := fun k => Nat.le_trans (hM k) (m19 k)
      obtain ⟨q23, e20, hF⟩ := bn hF
      obtain ⟨x24, h21⟩ := q23
      have hF := u2d hF
      have m22 : ∀ k, gn h18 k ≤ gn h21 k := mst_tr rfl (mono_X2_add e20)
      have hM : ∀ k, gn h k ≤ gn h21 k := fun k => Nat.le_trans (hM k) (m22 k)
      obtain ⟨rfl, rfl⟩ := sj2 hF
      exact hM
    · have hF := ie c25 hF
      obtain ⟨rfl, rfl⟩ := sj2 hF
      exact hM
  · have hF := it c26 hF
    obtain ⟨rfl, rfl⟩ := sj2 hF
    exact hM
def B_X11_read_43 (i0 : Nat) (o6 : Nat) (x10 : Int32) (q : Int32 × Int32 × HP) : Option ((Int32 × Int32 × HP) ⊕ (Int32 × HP)) :=
  u3 q fun x13 x14 h15 =>
  (if x10 ≤ x14 then
  some (.inr (x13, h15))
  else
  nm ((x14 * 4)) fun x16 =>
  (gr h15 9 o6 3).bind fun o18 =>
  (ga h15 39 o18 60 x16).bind fun x21 =>
  (gr h15 9 o6 3).bind fun o24 =>
  (ga h15 39 o24 60 (x16 + 1)).bind fun x27 =>
  (gr h15 9 o6 3).bind fun o30 =>
  (ga h15 39 o30 60 (x16 + 2)).bind fun x33 =>
  (gr h15 9 o6 3).bind fun o36 =>
  (ga h15 39 o36 60 (x16 + 3)).bind fun x39 =>
  (F_X11_bell i0 x21 x27 x33 x39 h15).bind fun q45 => u2 q45 fun x46 h43 =>
  (if 0 ≤ x46 then
  nm (x13 + 1) fun x47 =>
  nm (x14 + 1) fun x49 =>
  some (.inl (x47, x49, h43))
  else
  some (.inr (x13, h43))))
def F_X11_read (i0 : Nat) (a1 : Int32) (h : HP) : Option (Int32 × HP) :=
  (F_X11_isSheet a1).bind fun x2 =>
  (if x2 = 0 then
  some ((-2), h)
  else
  (gr h 11 i0 14).bind fun o3 =>
  (gar h 44 o3 4 a1).bind fun o6 =>
  (if (gi h 9 o6 0) = 0 then
  (dz (gi h 9 o6 2) 4).bind fun x10 =>
  (loopN 16 (B_X11_read_43 i0 o6 x10) (0, 0, h)).bind fun q53 => u2 q53 fun x55 h56 =>
  some (x55, h56)
  else
  (F_X11_finding i0 1 h).bind fun q62 => u2 q62 fun x63 d61 => nm (wd h d61) fun h58 =>
  some (x63, h58)))
set_option maxHeartbeats 4000000 in
set_option maxRecDepth 100000 in
theorem ok_X11_read {l : Launch} {D : va_G} {cA : Nat → ClassId} {h : HP} {r : Int32} {d : HP} (i0 : Nat) (a1 : Int32) (al_0 : i0 < gn h 11) (hF : F_X11_read i0 a1 h = some (r, d)) : MIa l D cA yX11_read cX11_read 7 (some .int) 4 91 64 768 (fun φ => [.ref (φ 11 i0), .int a1]) h r d := by
  refine mk_Ia (plainFor_of_name (by decide)) (fun φ => Nat.le_of_ble_eq_true rfl) ?_
  intro p e s m args below meth c ls φ0 A Q X hW hS hl hfin
  obtain ⟨φ, hφ⟩ : ∃ z : Nat → Nat → Nat, z = φ0 := ⟨_, rfl⟩
  have hU : ∀ k i, i < gn h k → φ k i = φ0 k i := fun k i _ => by rw [hφ]
  have hM : ∀ k, gn h k ≤ gn h k := fun k => Nat.le_refl _
  rw [← hφ] at hW hl
  have hx := X.1
  have hb := X.2.1
  have hl : lv_has ls 7 [(0, .ref (φ 11 i0)), (1, .int a1)] := hl
  unfold F_X11_read at hF
  refine lv_iload_n hx hb dX11_read_0 rfl (lv_at hl 1 rfl) ?_
  obtain ⟨x2, e1, hF⟩ := bn hF
  refine rc_i (Af := fun φ => [.int a1]) X hW hS ⟨Nat.le_of_ble_eq_true rfl, Nat.le_of_ble_eq_true rfl⟩ (rn_S (As := [.int a1]) (rest := []) X hW hS cw_11_116 ⟨Nat.le_of_ble_eq_true rfl, Nat.le_of_ble_eq_true rfl⟩ rfl hl.1 rfl (Nat.le_of_ble_eq_true rfl) dX11_read_1) (ok_X11_isSheet a1 e1) (fun H locs hW hS => ?_)
  refine lv_if_ne (tgt := 10) hx hb dX11_read_4 (by decide) (fun c65 => ?_) (fun c65 => ?_)
  · have hF := ie c65 hF
    refine lv_aload_n hx hb dX11_read_10 rfl (lv_at hl 0 rfl) ?_
    obtain ⟨o3, e4, hF⟩ := bn hF
    refine r_getr X hW al_0 fl_11_76 e4 dX11_read_11 (fun al5 => ?_)
    refine lv_iload_n hx hb dX11_read_14 rfl (lv_at hl 1 rfl) ?_
    obtain ⟨o6, e7, hF⟩ := bn hF
    obtain ⟨b8, e7⟩ := gar_s e7
    refine r_aald (t0 := 6) X hW al5 rfl rfl b8 e7 dX11_read_15 (fun al9 => ?_)
    refine lv_astore_n (lv' := [(2, .ref (φ 9 o6)), (0, .ref (φ 11 i0)), (1, .int a1)]) hx hb dX11_read_16 rfl hl (by decide) rfl (fun ls hl => ?_)
    refine lv_aload_n hx hb dX11_read_17 rfl (lv_at hl 0 rfl) ?_
    refine r_geti X hW al9 fl_11_119 dX11_read_18 ?_
    refine lv_if_eq (tgt := 30) hx hb dX11_read_21 (by decide) (fun c64 => ?_) (fun c64 => ?_)
    · have hF := it c64 hF
      refine lv_aload_n hx hb dX11_read_30 rfl (lv_at hl 0 rfl) ?_
      refine r_geti X hW al9 fl_11_127 dX11_read_31 ?_
      refine lv_iconst (v := 4) hx hb dX11_read_34 (by decide) ?_
      obtain ⟨x10, e11, hF⟩ := bn hF
      obtain ⟨b12, e11⟩ := dz_s e11
      refine lv_idiv hx hb dX11_read_35 b12 ?_
      refine nmi e11 ?_
      refine lv_istore_n (lv' := [(3, .int x10), (2, .ref (φ 9 o6)), (0, .ref (φ 11 i0)), (1, .int a1)]) hx hb dX11_read_36 rfl hl (by decide) rfl (fun ls hl => ?_)
      refine lv_iconst (v := 0) hx hb dX11_read_37 (by decide) ?_
      refine lv_istore (lv' := [(4, .int 0), (3, .int x10), (2, .ref (φ 9 o6)), (0, .ref (φ 11 i0)), (1, .int a1)]) hx hb dX11_read_38 hl (by decide) rfl (fun ls hl => ?_)
      refine lv_iconst (v := 0) hx hb dX11_read_40 (by decide) ?_
      refine lv_istore (lv' := [(5, .int 0), (4, .int 0), (3, .int x10), (2, .ref (φ 9 o6)), (0, .ref (φ 11 i0)), (1, .int a1)]) hx hb dX11_read_41 hl (by decide) rfl (fun ls hl => ?_)
      obtain ⟨q53, e54, hF⟩ := bn hF
      refine loop_wn (f := B_X11_read_43 i0 o6 x10) (Z := fun n q => n ≤ 16 → ∀ (φ : Nat → Nat → Nat) (H : Heap) (locs : List Loc) (ls : Array Slot), (∀ k i, i < gn h k → φ k i = φ0 k i) → (∀ k, gn h k ≤ gn q.2.2 k) → HW D cA A φ q.2.2 H → va_S A s.heap H locs → lv_has ls 7 [(0, .ref (φ 11 i0)), (2, .ref (φ 9 o6)), (3, .int x10), (4, .int (q.1)), (5, .int (q.2.1))] → W p l e (rmo 4 91 64 768) s m args below meth c H locs ((16 - n) * 4) ((16 - n) * 48) Q (F0 m 43 ls [])) (K := fun q => ∀ (φ : Nat → Nat → Nat) (H : Heap) (locs : List Loc) (ls : Array Slot), (∀ k i, i < gn h k → φ k i = φ0 k i) → (∀ k, gn h k ≤ gn q.2 k) → HW D cA A φ q.2 H → va_S A s.heap H locs → lv_has ls 7 [(4, .int (q.1))] → W p l e (rmo 4 91 64 768) s m args below meth c H locs 64 768 Q (F0 m 108 ls [])) ?_ 16 _ q53 e54 ?_ (Nat.le_refl _) _ _ _ _ hU hM hW hS (lv_sub hl [4, 3, 2, 1, 0] rfl)
      · intro n q v hF hK hn φ H locs ls hU hM hW hS hl
        obtain ⟨x13, x14, h15⟩ := q
        unfold B_X11_read_43 at hF
        have hF := u3d hF
        have al_0 : i0 < gn h15 11 := Nat.lt_of_lt_of_le al_0 (hM 11)
        have al9 : o6 < gn h15 9 := Nat.lt_of_lt_of_le al9 (hM 9)
        have hl : lv_has ls 7 [(0, .ref (φ 11 i0)), (2, .ref (φ 9 o6)), (3, .int x10), (4, .int x13), (5, .int x14)] := hl
        refine lv_iload hx hb dX11_read_43 (lv_at hl 4 rfl) ?_
        refine lv_iload_n hx hb dX11_read_45 rfl (lv_at hl 2 rfl) ?_
        refine lv_icmp_ge (tgt := 108) hx hb dX11_read_46 (by decide) (fun c52 => ?_) (fun c52 => ?_)
        · have hF := it c52 hF
          obtain rfl := sj hF
          refine W.widen (k := 64) (n := 768) (by omega) (by omega) ?_
          exact hK _ _ _ _ hU hM hW hS (lv_sub hl [3] rfl)
        · have hF := ie c52 hF
          refine lv_iload hx hb dX11_read_49 (lv_at hl 4 rfl) ?_
          refine lv_iconst (v := 4) hx hb dX11_read_51 (by decide) ?_
          refine lv_imul hx hb dX11_read_52 ?_
          obtain ⟨x16, e17, hF⟩ := nmx hF
          refine nmi e17 ?_
          refine lv_istore (lv' := [(6, .int x16), (0, .ref (φ 11 i0)), (2, .ref (φ 9 o6)), (3, .int x10), (4, .int x13), (5, .int x14)]) hx hb dX11_read_53 hl (by decide) rfl (fun ls hl => ?_)
          refine lv_aload_n hx hb dX11_read_55 rfl (lv_at hl 1 rfl) ?_
          refine lv_aload_n hx hb dX11_read_56 rfl (lv_at hl 2 rfl) ?_
          obtain ⟨o18, e19, hF⟩ := bn hF
          refine r_getr X hW al9 fl_11_130 e19 dX11_read_57 (fun al20 => ?_)
          refine lv_iload hx hb dX11_read_60 (lv_at hl 0 rfl) ?_
          obtain ⟨x21, e22, hF⟩ := bn hF
          obtain ⟨b23, e22⟩ := ga_s e22
          refine r_iald X hW al20 rfl b23 dX11_read_62 ?_
          refine nmi e22 ?_
          refine lv_aload_n hx hb dX11_read_63 rfl (lv_at hl 2 rfl) ?_
          obtain ⟨o24, e25, hF⟩ := bn hF
          refine r_getr X hW al9 fl_11_130 e25 dX11_read_64 (fun al26 => ?_)
          refine lv_iload hx hb dX11_read_67 (lv_at hl 0 rfl) ?_
          refine lv_iconst (v := 1) hx hb dX11_read_69 (by decide) ?_
          refine lv_iadd hx hb dX11_read_70 ?_
          obtain ⟨x27, e28, hF⟩ := bn hF
          obtain ⟨b29, e28⟩ := ga_s e28
          refine r_iald X hW al26 rfl b29 dX11_read_71 ?_
          refine nmi e28 ?_
          refine lv_aload_n hx hb dX11_read_72 rfl (lv_at hl 2 rfl) ?_
          obtain ⟨o30, e31, hF⟩ := bn hF
          refine r_getr X hW al9 fl_11_130 e31 dX11_read_73 (fun al32 => ?_)
          refine lv_iload hx hb dX11_read_76 (lv_at hl 0 rfl) ?_
          refine lv_iconst (v := 2) hx hb dX11_read_78 (by decide) ?_
          refine lv_iadd hx hb dX11_read_79 ?_
          obtain ⟨x33, e34, hF⟩ := bn hF
          obtain ⟨b35, e34⟩ := ga_s e34
          refine r_iald X hW al32 rfl b35 dX11_read_80 ?_
          refine nmi e34 ?_
          refine lv_aload_n hx hb dX11_read_81 rfl (lv_at hl 2 rfl) ?_
          obtain ⟨o36, e37, hF⟩ := bn hF
          refine r_getr X hW al9 fl_11_130 e37 dX11_read_82 (fun al38 => ?_)
          refine lv_iload hx hb dX11_read_85 (lv_at hl 0 rfl) ?_
          refine lv_iconst (v := 3) hx hb dX11_read_87 (by decide) ?_
          refine lv_iadd hx hb dX11_read_88 ?_
          obtain ⟨x39, e40, hF⟩ := bn hF
          obtain ⟨b41, e40⟩ := ga_s e40
          refine r_iald X hW al38 rfl b41 dX11_read_89 ?_
          refine nmi e40 ?_
          obtain ⟨q45, e42, hF⟩ := bn hF
          obtain ⟨x46, h43⟩ := q45
          have hF := u2d hF
          refine rc_ia (Af := fun φ => [.ref (φ 11 i0), .int x21, .int x27, .int x33, .int x39]) X hW hS ⟨by show _ ≤ 64; omega, by show _ ≤ 768; omega⟩ (rn_V (As := [.int x21, .int x27, .int x33, .int x39]) (rest := []) X hW hS cw_11_133 al_0 rfl rfl rfl ⟨Nat.le_of_ble_eq_true rfl, Nat.le_of_ble_eq_true rfl⟩ rfl hl.1 rfl (Nat.le_of_ble_eq_true rfl) dX11_read_90) (ok_X11_bell i0 x21 x27 x33 x39 al_0 e42) (fun u H locs hu hW hS => ?_)
          have m44 : ∀ k, gn h15 k ≤ gn h43 k := mst_tr rfl (mono_X11_bell e42)
          have hl : lv_has ls 7 [(6, .int x16), (0, .ref (u 11 i0)), (2, .ref (u 9 o6)), (3, .int x10), (4, .int x13), (5, .int x14)] := by rw [hu 11 i0 al_0, hu 9 o6 al9]; exact hl
          have hU : ∀ k i, i < gn h k → u k i = φ0 k i := fun k i hi => (hu k i (Nat.lt_of_lt_of_le hi (hM k))).trans (hU k i hi)
          have hM : ∀ k, gn h k ≤ gn h43 k := fun k => Nat.le_trans (hM k) (m44 k)
          have al_0 := lm m44 al_0
          have al9 := lm m44 al9
          obtain ⟨φ, rfl⟩ : ∃ z, z = u := ⟨_, rfl⟩
          refine lv_if_ge (tgt := 99) hx hb dX11_read_93 (by decide) (fun c51 => ?_) (fun c51 => ?_)
          · have hF := it c51 hF
            obtain ⟨x47, e48, hF⟩ := nmx hF
            refine lv_iinc (v := x47) (lv' := [(4, .int x47), (6, .int x16), (0, .ref (φ 11 i0)), (2, .ref (φ 9 o6)), (3, .int x10), (5, .int x14)]) hx hb dX11_read_99 hl (k := 4) rfl (by rw [e48]; rfl) (by decide) rfl (fun ls hl => ?_)
            obtain ⟨x49, e50, hF⟩ := nmx hF
            refine lv_iinc (v := x49) (lv' := [(5, .int x49), (4, .int x47), (6, .int x16), (0, .ref (φ 11 i0)), (2, .ref (φ 9 o6)), (3, .int x10)]) hx hb dX11_read_102 hl (k := 5) rfl (by rw [e50]; rfl) (by decide) rfl (fun ls hl => ?_)
            refine lv_goto (tgt := 43) hx hb dX11_read_105 (by decide) ?_
            obtain rfl := sj hF
            refine W.widen (k := ((16 - n) * 4)) (n := ((16 - n) * 48)) (by omega) (by omega) ?_
            exact hK (by omega) _ _ _ _ hU hM hW hS (lv_sub hl [3, 4, 5, 1, 0] rfl)
          · have hF := ie c51 hF
            refine lv_goto (tgt := 108) hx hb dX11_read_96 (by decide) ?_
            obtain rfl := sj hF
            refine W.widen (k := 64) (n := 768) (by omega) (by omega) ?_
            exact hK _ _ _ _ hU hM hW hS (lv_sub hl [4] rfl)
      · intro φ H locs ls hU hM hW hS hl
        obtain ⟨x55, h56⟩ := q53
        have hF := u2d hF
        have hl : lv_has ls 7 [(4, .int x55)] := hl
        refine lv_iload hx hb dX11_read_108 (lv_at hl 0 rfl) ?_
        obtain ⟨rfl, rfl⟩ := sj2 hF
        refine W.widen (k := 64) (n := 768) (Nat.le_of_ble_eq_true rfl) (Nat.le_of_ble_eq_true rfl) ?_
        exact hfin φ _ _ _ _ hU hW hS dX11_read_110 -- 
    · have hF := ie c64 hF
      refine lv_aload_n hx hb dX11_read_24 rfl (lv_at hl 1 rfl) ?_
      refine lv_iconst (v := 1) hx hb dX11_read_25 (by decide) ?_
      obtain ⟨q62, e57, hF⟩ := bn hF
      obtain ⟨x63, d61⟩ := q62
      have hF := u2d hF
      refine rc_i (Af := fun φ => [.ref (φ 11 i0), .int 1]) X hW hS ⟨Nat.le_of_ble_eq_true rfl, Nat.le_of_ble_eq_true rfl⟩ (rn_V (As := [.int 1]) (rest := []) X hW hS cw_11_123 al_0 rfl rfl rfl ⟨Nat.le_of_ble_eq_true rfl, Nat.le_of_ble_eq_true rfl⟩ rfl hl.1 rfl (Nat.le_of_ble_eq_true rfl) dX11_read_26) (ok_X11_finding i0 1 al_0 e57) (fun H locs hW hS => ?_)
      obtain ⟨h58, e60, hF⟩ := nmx hF
      have hW := nmW e60 hW
      have g59 : h58.2.2 = h.2.2 := by rw [e60]; exact rfl
      obtain ⟨rfl, rfl⟩ := sj2 hF
      refine W.widen (k := 64) (n := 768) (Nat.le_of_ble_eq_true rfl) (Nat.le_of_ble_eq_true rfl) ?_
      exact hfin φ _ _ _ _ hU hW hS dX11_read_29 -- g59
  · have hF := it c65 hF
    refine lv_bipush (v := (-2)) hx hb dX11_read_7 (by decide) ?_
    obtain ⟨rfl, rfl⟩ := sj2 hF
    refine W.widen (k := 64) (n := 768) (Nat.le_of_ble_eq_true rfl) (Nat.le_of_ble_eq_true rfl) ?_
    exact hfin φ _ _ _ _ hU hW hS dX11_read_9 -- 
def F_X10_init (i0 : Nat) (a1 : Int32) (a2 : Int32) (a3 : Int32) (h : HP) : Option (HP) :=
  nm (gn h 40) fun o1 => nm (nw h 40) fun h3 =>
  nm (sr h3 10 i0 0 (some o1)) fun h7 =>
  nm (si h7 10 i0 1 a1) fun h10 =>
  nm (si h10 10 i0 2 a2) fun h13 =>
  nm (si h13 10 i0 3 a3) fun h16 =>
  some h16
set_option maxHeartbeats 4000000 in
set_option maxRecDepth 100000 in
theorem ok_X10_init {l : Launch} {D : va_G} {cA : Nat → ClassId} {h : HP}  {d : HP} (i0 : Nat) (a1 : Int32) (a2 : Int32) (a3 : Int32) (al_0 : i0 < gn h 10) (hF : F_X10_init i0 a1 a2 a3 h = some d) : MVa l D cA yX10_init cX10_init 4 none 1 30 1 5 (fun φ => [.ref (φ 10 i0), .int a1, .int a2, .int a3]) h d := by
  refine mk_Va (plainFor_of_name (by decide)) (fun φ => Nat.le_of_ble_eq_true rfl) ?_
  intro p e s m args below meth c ls φ0 A Q X hW hS hl hin hfin
  obtain ⟨φ, hφ⟩ : ∃ z : Nat → Nat → Nat, z = φ0 := ⟨_, rfl⟩
  have hU : ∀ k i, i < gn h k → φ k i = φ0 k i := fun k i _ => by rw [hφ]
  have hM : ∀ k, gn h k ≤ gn h k := fun k => Nat.le_refl _
  rw [← hφ] at hW hl
  have hx := X.1
  have hb := X.2.1
  have hl : lv_has ls 4 [(0, .ref (φ 10 i0)), (1, .int a1), (2, .int a2), (3, .int a3)] := hl
  unfold F_X10_init at hF
  refine lv_aload_n hx hb dX10_init_0 rfl (lv_at hl 0 rfl) ?_
  refine W.objInit hx hb X.2.2.2.1 (X.2.2.2.2.1 _ (AL_of 566 (by decide +kernel) rfl)) (X.2.2.2.2.1 _ (AL_of 24 (by decide +kernel) rfl)) (X.2.2.2.2.1 _ (AL_of 25 (by decide +kernel) rfl)) rfl (by rw [X.2.2.1]; exact hl.1) rfl dX10_init_1 (Nat.le_of_ble_eq_true rfl) (Nat.le_of_ble_eq_true rfl) ?_
  refine W.eq (g2 := F0 m 4 ls []) rfl ?_
  refine lv_aload_n hx hb dX10_init_4 rfl (lv_at hl 0 rfl) ?_
  refine lv_iconst (v := 5) hx hb dX10_init_5 (by decide) ?_
  refine r_newi (k := 40) (N := 5) X hW hS rfl (by decide) (by decide) (Nat.le_of_ble_eq_true rfl) ⟨Nat.le_of_ble_eq_true rfl, Nat.le_of_ble_eq_true rfl⟩ dX10_init_6 (AL_of 55 (by decide +kernel) rfl) (fun u H hu hW hS => ?_)
  obtain ⟨o1, e2, hF⟩ := nmx hF
  obtain ⟨h3, e4, hF⟩ := nmx hF
  have hW := nmW e4 hW
  have m5 : ∀ k, gn h k ≤ gn h3 k := mst_nw rfl e4
  have hl : lv_has ls 4 [(0, .ref (u 10 i0)), (1, .int a1), (2, .int a2), (3, .int a3)] := by rw [hu 10 i0 al_0]; exact hl
  refine stq (st1 := [.ref (u 40 o1), .ref (u 10 i0)]) (by rw [e2, hu 10 i0 al_0]) ?_
  have hU : ∀ k i, i < gn h k → u k i = φ0 k i := fun k i hi => (hu k i (Nat.lt_of_lt_of_le hi (hM k))).trans (hU k i hi)
  have hM : ∀ k, gn h k ≤ gn h3 k := fun k => Nat.le_trans (hM k) (m5 k)
  have al_0 := lm m5 al_0
  have al6 : o1 < gn h3 40 := by rw [e2, e4]; exact gn_nw_lt _ _
  obtain ⟨φ, rfl⟩ : ∃ z, z = u := ⟨_, rfl⟩
  refine r_putrF X hW hS hin al_0 al6 fp_10_9 rfl rfl dX10_init_8 (fun H locs hW hS => ?_)
  obtain ⟨h7, e8, hF⟩ := nmx hF
  have hW := nmW e8 hW
  have m9 : ∀ k, gn h3 k ≤ gn h7 k := mst_sr rfl e8
  have hM : ∀ k, gn h k ≤ gn h7 k := fun k => Nat.le_trans (hM k) (m9 k)
  have al_0 := lm m9 al_0
  refine lv_aload_n hx hb dX10_init_11 rfl (lv_at hl 0 rfl) ?_
  refine lv_iload_n hx hb dX10_init_12 rfl (lv_at hl 1 rfl) ?_
  refine r_putiF X hW hS hin al_0 fp_10_15 rfl rfl dX10_init_13 (fun H locs hW hS => ?_)
  obtain ⟨h10, e11, hF⟩ := nmx hF
  have hW := nmW e11 hW
  have g12 : h10.2.2 = h7.2.2 := by rw [e11]; exact rfl
  refine lv_aload_n hx hb dX10_init_16 rfl (lv_at hl 0 rfl) ?_
  refine lv_iload_n hx hb dX10_init_17 rfl (lv_at hl 2 rfl) ?_
  refine r_putiF X hW hS hin (gq g12 al_0) fp_10_19 rfl rfl dX10_init_18 (fun H locs hW hS => ?_)
  obtain ⟨h13, e14, hF⟩ := nmx hF
  have hW := nmW e14 hW
  have g15 : h13.2.2 = h7.2.2 := by rw [e14]; exact g12
  refine lv_aload_n hx hb dX10_init_21 rfl (lv_at hl 0 rfl) ?_
  refine lv_iload_n hx hb dX10_init_22 rfl (lv_at hl 3 rfl) ?_
  refine r_putiF X hW hS hin (gq g15 al_0) fp_10_22 rfl rfl dX10_init_23 (fun H locs hW hS => ?_)
  obtain ⟨h16, e17, hF⟩ := nmx hF
  have hW := nmW e17 hW
  have g18 : h16.2.2 = h7.2.2 := by rw [e17]; exact g15
  obtain rfl := sj hF
  refine W.widen (k := 1) (n := 5) (Nat.le_of_ble_eq_true rfl) (Nat.le_of_ble_eq_true rfl) ?_
  exact hfin φ _ _ _ _ hU hW hS dX10_init_26 -- g18
set_option maxHeartbeats 4000000 in
set_option maxRecDepth 100000 in
theorem mono_X10_init {h : HP}  {d : HP} {i0 : Nat} {a1 : Int32} {a2 : Int32} {a3 : Int32} (hF : F_X10_init i0 a1 a2 a3 h = some d) : ∀ k, gn h k ≤ gn d k := by
  have hM : ∀ k, gn h k ≤ gn h k := fun k => Nat.le_refl _
  unfold F_X10_init at hF
  obtain ⟨o1, e2, hF⟩ := nmx hF
  obtain ⟨h3, e4, hF⟩ := nmx hF
  have m5 : ∀ k, gn h k ≤ gn h3 k := mst_nw rfl e4
  have hM : ∀ k, gn h k ≤ gn h3 k := fun k => Nat.le_trans (hM k) (m5 k)
  obtain ⟨h7, e8, hF⟩ := nmx hF
  have m9 : ∀ k, gn h3 k ≤ gn h7 k := mst_sr rfl e8
  have hM : ∀ k, gn h k ≤ gn h7 k := fun k => Nat.le_trans (hM k) (m9 k)
  obtain ⟨h10, e11, hF⟩ := nmx hF
  have g12 : h10.2.2 = h7.2.2 := by rw [e11]; exact rfl
  obtain ⟨h13, e14, hF⟩ := nmx hF
  have g15 : h13.2.2 = h7.2.2 := by rw [e14]; exact g12
  obtain ⟨h16, e17, hF⟩ := nmx hF
  have g18 : h16.2.2 = h7.2.2 := by rw [e17]; exact g15
  obtain rfl := sj hF
  exact hMg hM g18
def J_X11_find_168 (i0 : Nat) (o10 : Nat) (o14 : Nat) (v8_168 : Int32) (t0_168 : Int32) (t1_168 : Int32) (t2_168 : Nat) (hj168 : HP) : Option ((Int32 × DP) ⊕ (DP)) :=
  (sa hj168 40 t2_168 5 t1_168 t0_168).bind fun h27 =>
  nm (v8_168 + 1) fun x31 =>
  some (.inl (x31, (dp h27)))
def B_X11_find_125 (i0 : Nat) (o10 : Nat) (o14 : Nat) (h21 : HP) (q : Int32 × DP) : Option ((Int32 × DP) ⊕ (DP)) :=
  u2 q fun x23 d26 =>
  nm (wd h21 d26) fun h24 =>
  (if 5 ≤ x23 then
  some (.inr (dp h24))
  else
  (gr h24 10 o14 0).bind fun o33 =>
  (gr h24 9 o10 3).bind fun o36 =>
  (ga h24 39 o36 60 x23).bind fun x39 =>
  (F_X11_isFrom x39 0 9999).bind fun x43 =>
  (if x43 = 0 then
  J_X11_find_168 i0 o10 o14 x23 (-1) x23 o33 h24
  else
  (gr h24 9 o10 3).bind fun o44 =>
  (ga h24 39 o44 60 x23).bind fun x47 =>
  J_X11_find_168 i0 o10 o14 x23 x47 x23 o33 h24))
def J_X11_find_21 (i0 : Nat) (a1 : Int32) (a2 : Int32) (a3 : Int32) (a4 : Int32) (t0_21 : Int32) (hj21 : HP) : Option (Int32 × HP) :=
  (F_X11_isSheet a1).bind fun x2 =>
  (if x2 = 0 then
  some ((-2), hj21)
  else
  (F_X11_isFrom a2 0 99).bind fun x4 =>
  (if x4 = 0 then
  some ((-2), hj21)
  else
  (if t0_21 = 0 then
  some ((-2), hj21)
  else
  (F_X11_isFrom a4 0 999).bind fun x6 =>
  (if x6 = 0 then
  some ((-2), hj21)
  else
  (gr hj21 11 i0 14).bind fun o7 =>
  (gar hj21 44 o7 4 a1).bind fun o10 =>
  (if (gi hj21 9 o10 0) = 0 then
  (if 5 ≤ (gi hj21 9 o10 2) then
  (if (gi hj21 11 i0 6) < 8 then
  nm (gn hj21 10) fun o14 => nm (nw hj21 10) fun h16 =>
  (F_X10_init o14 a2 a3 a4 h16).bind fun h21 =>
  (loopN LF (B_X11_find_125 i0 o10 o14 h21) (0, (dp h21))).bind fun d55 =>
  nm (wd h21 d55) fun h56 =>
  (gr h56 11 i0 5).bind fun o58 =>
  (sar h56 42 o58 8 (gi h56 11 i0 6) o14).bind fun h61 =>
  nm (si h61 11 i0 6 ((gi h61 11 i0 6) + 1)) fun h65 =>
  some (((gi h65 11 i0 6) - 1), h65)
  else
  some ((-4), hj21))
  else
  (F_X11_finding i0 2 hj21).bind fun q75 => u2 q75 fun x76 d74 => nm (wd hj21 d74) fun h71 =>
  some (x76, h71))
  else
  (F_X11_finding i0 1 hj21).bind fun q83 => u2 q83 fun x84 d82 => nm (wd hj21 d82) fun h79 =>
  some (x84, h79))))))
def F_X11_find (i0 : Nat) (a1 : Int32) (a2 : Int32) (a3 : Int32) (a4 : Int32) (h : HP) : Option (Int32 × HP) :=
  (if a3 = (-1) then
  J_X11_find_21 i0 a1 a2 a3 a4 1 h
  else
  (F_X11_isFrom a3 1 9999).bind fun x91 =>
  (if x91 = 0 then
  J_X11_find_21 i0 a1 a2 a3 a4 0 h
  else
  J_X11_find_21 i0 a1 a2 a3 a4 1 h))
set_option maxHeartbeats 4000000 in
set_option maxRecDepth 100000 in
theorem ok_X11_find {l : Launch} {D : va_G} {cA : Nat → ClassId} {h : HP} {r : Int32} {d : HP} (i0 : Nat) (a1 : Int32) (a2 : Int32) (a3 : Int32) (a4 : Int32) (al_0 : i0 < gn h 11) (hF : F_X11_find i0 a1 a2 a3 a4 h = some (r, d)) : MIa l D cA yX11_find cX11_find 9 (some .int) 2 53 2 9 (fun φ => [.ref (φ 11 i0), .int a1, .int a2, .int a3, .int a4]) h r d := by
  refine mk_Ia (plainFor_of_name (by decide)) (fun φ => Nat.le_of_ble_eq_true rfl) ?_
  intro p e s m args below meth c ls φ0 A Q X hW hS hl hfin
  obtain ⟨φ, hφ⟩ : ∃ z : Nat → Nat → Nat, z = φ0 := ⟨_, rfl⟩
  have hU : ∀ k i, i < gn h k → φ k i = φ0 k i := fun k i _ => by rw [hφ]
  have hM : ∀ k, gn h k ≤ gn h k := fun k => Nat.le_refl _
  rw [← hφ] at hW hl
  have hx := X.1
  have hb := X.2.1
  have hl : lv_has ls 9 [(0, .ref (φ 11 i0)), (1, .int a1), (2, .int a2), (3, .int a3), (4, .int a4)] := hl
  unfold F_X11_find at hF
  have j_21 : ∀ (t0_21 : Int32) (hj21 : HP) (H : Heap) (locs : List Loc) (ls : Array Slot), hj21.2.2 = h.2.2 → J_X11_find_21 i0 a1 a2 a3 a4 t0_21 hj21 = some (r, d) → HW D cA A φ hj21 H → va_S A s.heap H locs → lv_has ls 9 [(0, .ref (φ 11 i0)), (1, .int a1), (2, .int a2), (3, .int a3), (4, .int a4)] → W p l e (rmo 2 53 2 9) s m args below meth c H locs 0 0 Q (F0 m 21 ls [.int t0_21]) := by
    intro t0_21 hj21 H locs ls gj21 hF hW hS hl
    unfold J_X11_find_21 at hF
    refine lv_istore (lv' := [(5, .int t0_21), (0, .ref (φ 11 i0)), (1, .int a1), (2, .int a2), (3, .int a3), (4, .int a4)]) hx hb dX11_find_21 hl (by decide) rfl (fun ls hl => ?_)
    refine lv_iload_n hx hb dX11_find_23 rfl (lv_at hl 2 rfl) ?_
    obtain ⟨x2, e1, hF⟩ := bn hF
    refine rc_i (Af := fun φ => [.int a1]) X hW hS ⟨Nat.le_of_ble_eq_true rfl, Nat.le_of_ble_eq_true rfl⟩ (rn_S (As := [.int a1]) (rest := []) X hW hS cw_11_116 ⟨Nat.le_of_ble_eq_true rfl, Nat.le_of_ble_eq_true rfl⟩ rfl hl.1 rfl (Nat.le_of_ble_eq_true rfl) dX11_find_24) (ok_X11_isSheet a1 e1) (fun H locs hW hS => ?_)
    refine lv_if_eq (tgt := 57) hx hb dX11_find_27 (by decide) (fun c89 => ?_) (fun c89 => ?_)
    · have hF := it c89 hF
      refine lv_bipush (v := (-2)) hx hb dX11_find_57 (by decide) ?_
      obtain ⟨rfl, rfl⟩ := sj2 hF
      refine W.widen (k := 2) (n := 9) (Nat.le_of_ble_eq_true rfl) (Nat.le_of_ble_eq_true rfl) ?_
      exact hfin φ _ _ _ _ hU hW hS dX11_find_59 -- gj21
    · have hF := ie c89 hF
      refine lv_iload_n hx hb dX11_find_30 rfl (lv_at hl 3 rfl) ?_
      refine lv_iconst (v := 0) hx hb dX11_find_31 (by decide) ?_
      refine lv_bipush (v := 99) hx hb dX11_find_32 (by decide) ?_
      obtain ⟨x4, e3, hF⟩ := bn hF
      refine rc_i (Af := fun φ => [.int a2, .int 0, .int 99]) X hW hS ⟨Nat.le_of_ble_eq_true rfl, Nat.le_of_ble_eq_true rfl⟩ (rn_S (As := [.int a2, .int 0, .int 99]) (rest := []) X hW hS cw_11_81 ⟨Nat.le_of_ble_eq_true rfl, Nat.le_of_ble_eq_true rfl⟩ rfl hl.1 rfl (Nat.le_of_ble_eq_true rfl) dX11_find_34) (ok_X11_isFrom a2 0 99 e3) (fun H locs hW hS => ?_)
      refine lv_if_eq (tgt := 57) hx hb dX11_find_37 (by decide) (fun c88 => ?_) (fun c88 => ?_)
      · have hF := it c88 hF
        refine lv_bipush (v := (-2)) hx hb dX11_find_57 (by decide) ?_
        obtain ⟨rfl, rfl⟩ := sj2 hF
        refine W.widen (k := 2) (n := 9) (Nat.le_of_ble_eq_true rfl) (Nat.le_of_ble_eq_true rfl) ?_
        exact hfin φ _ _ _ _ hU hW hS dX11_find_59 -- gj21
      · have hF := ie c88 hF
        refine lv_iload hx hb dX11_find_40 (lv_at hl 0 rfl) ?_
        refine lv_if_eq (tgt := 57) hx hb dX11_find_42 (by decide) (fun c87 => ?_) (fun c87 => ?_)
        · have hF := it c87 hF
          refine lv_bipush (v := (-2)) hx hb dX11_find_57 (by decide) ?_
          obtain ⟨rfl, rfl⟩ := sj2 hF
          refine W.widen (k := 2) (n := 9) (Nat.le_of_ble_eq_true rfl) (Nat.le_of_ble_eq_true rfl) ?_
          exact hfin φ _ _ _ _ hU hW hS dX11_find_59 -- gj21
        · have hF := ie c87 hF
          refine lv_iload hx hb dX11_find_45 (lv_at hl 5 rfl) ?_
          refine lv_iconst (v := 0) hx hb dX11_find_47 (by decide) ?_
          refine lv_sipush (v := 999) hx hb dX11_find_48 (by decide) ?_
          obtain ⟨x6, e5, hF⟩ := bn hF
          refine rc_i (Af := fun φ => [.int a4, .int 0, .int 999]) X hW hS ⟨Nat.le_of_ble_eq_true rfl, Nat.le_of_ble_eq_true rfl⟩ (rn_S (As := [.int a4, .int 0, .int 999]) (rest := []) X hW hS cw_11_81 ⟨Nat.le_of_ble_eq_true rfl, Nat.le_of_ble_eq_true rfl⟩ rfl hl.1 rfl (Nat.le_of_ble_eq_true rfl) dX11_find_51) (ok_X11_isFrom a4 0 999 e5) (fun H locs hW hS => ?_)
          refine lv_if_ne (tgt := 60) hx hb dX11_find_54 (by decide) (fun c86 => ?_) (fun c86 => ?_)
          · have hF := ie c86 hF
            refine lv_aload_n hx hb dX11_find_60 rfl (lv_at hl 1 rfl) ?_
            obtain ⟨o7, e8, hF⟩ := bn hF
            refine r_getr X hW (gq gj21 al_0) fl_11_76 e8 dX11_find_61 (fun al9 => ?_)
            have al9 := qg gj21 al9
            refine lv_iload_n hx hb dX11_find_64 rfl (lv_at hl 2 rfl) ?_
            obtain ⟨o10, e11, hF⟩ := bn hF
            obtain ⟨b12, e11⟩ := gar_s e11
            refine r_aald (t0 := 6) X hW (gq gj21 al9) rfl rfl b12 e11 dX11_find_65 (fun al13 => ?_)
            have al13 := qg gj21 al13
            refine lv_astore (lv' := [(6, .ref (φ 9 o10)), (5, .int t0_21), (0, .ref (φ 11 i0)), (1, .int a1), (2, .int a2), (3, .int a3), (4, .int a4)]) hx hb dX11_find_66 hl (by decide) rfl (fun ls hl => ?_)
            refine lv_aload hx hb dX11_find_68 (lv_at hl 0 rfl) ?_
            refine r_geti X hW (gq gj21 al13) fl_11_119 dX11_find_70 ?_
            refine lv_if_eq (tgt := 82) hx hb dX11_find_73 (by decide) (fun c85 => ?_) (fun c85 => ?_)
            · have hF := it c85 hF
              refine lv_aload hx hb dX11_find_82 (lv_at hl 0 rfl) ?_
              refine r_geti X hW (gq gj21 al13) fl_11_127 dX11_find_84 ?_
              refine lv_iconst (v := 5) hx hb dX11_find_87 (by decide) ?_
              refine lv_icmp_ge (tgt := 97) hx hb dX11_find_88 (by decide) (fun c77 => ?_) (fun c77 => ?_)
              · have hF := it c77 hF
                refine lv_aload_n hx hb dX11_find_97 rfl (lv_at hl 2 rfl) ?_
                refine r_geti X hW (gq gj21 al_0) fl_11_223 dX11_find_98 ?_
                refine lv_bipush (v := 8) hx hb dX11_find_101 (by decide) ?_
                refine lv_icmp_lt (tgt := 109) hx hb dX11_find_103 (by decide) (fun c69 => ?_) (fun c69 => ?_)
                · have hF := it c69 hF
                  refine r_new X hW hS fn_11_27 ⟨Nat.le_of_ble_eq_true rfl, Nat.le_of_ble_eq_true rfl⟩ dX11_find_109 (fun u H hu hW hS => ?_)
                  obtain ⟨o14, e15, hF⟩ := nmx hF
                  obtain ⟨h16, e17, hF⟩ := nmx hF
                  have hW := nmW e17 hW
                  have m18 : ∀ k, gn h k ≤ gn h16 k := mst_nw gj21 e17
                  have hl : lv_has ls 9 [(6, .ref (u 9 o10)), (5, .int t0_21), (0, .ref (u 11 i0)), (1, .int a1), (2, .int a2), (3, .int a3), (4, .int a4)] := by rw [hu 9 o10 (gq gj21 al13), hu 11 i0 (gq gj21 al_0)]; exact hl
                  refine stq (st1 := [.ref (u 10 o14)]) (by rw [e15]) ?_
                  have hU : ∀ k i, i < gn h k → u k i = φ0 k i := fun k i hi => (hu k i (gq gj21 (Nat.lt_of_lt_of_le hi (hM k)))).trans (hU k i hi)
                  have hM : ∀ k, gn h k ≤ gn h16 k := fun k => Nat.le_trans (hM k) (m18 k)
                  have al13 := lm m18 al13
                  have al_0 := lm m18 al_0
                  have al19 : o14 < gn h16 10 := by rw [e15, e17]; exact gn_nw_lt _ _
                  obtain ⟨φ, rfl⟩ : ∃ z, z = u := ⟨_, rfl⟩
                  refine lv_dup hx hb dX11_find_112 rfl ?_
                  refine lv_iload_n hx hb dX11_find_113 rfl (lv_at hl 4 rfl) ?_
                  refine lv_iload_n hx hb dX11_find_114 rfl (lv_at hl 5 rfl) ?_
                  refine lv_iload hx hb dX11_find_115 (lv_at hl 6 rfl) ?_
                  obtain ⟨h21, e20, hF⟩ := bn hF
                  refine rc_va (Af := fun φ => [.ref (φ 10 o14), .int a2, .int a3, .int a4]) X hW hS ⟨Nat.le_of_ble_eq_true rfl, Nat.le_of_ble_eq_true rfl⟩ (rn_I (k := 10) (i := o14) (As := [.int a2, .int a3, .int a4]) (rest := [.ref (φ 10 o14)]) X hW hS cw_11_226 ⟨Nat.le_of_ble_eq_true rfl, Nat.le_of_ble_eq_true rfl⟩ rfl hl.1 rfl (Nat.le_of_ble_eq_true rfl) dX11_find_117) (ok_X10_init o14 a2 a3 a4 al19 e20) (fun u H locs hu hW hS => ?_)
                  have m22 : ∀ k, gn h16 k ≤ gn h21 k := mst_tr rfl (mono_X10_init e20)
                  have hl : lv_has ls 9 [(6, .ref (u 9 o10)), (5, .int t0_21), (0, .ref (u 11 i0)), (1, .int a1), (2, .int a2), (3, .int a3), (4, .int a4)] := by rw [hu 9 o10 al13, hu 11 i0 al_0]; exact hl
                  refine stq (st1 := [.ref (u 10 o14)]) (by rw [hu 10 o14 al19]) ?_
                  have hU : ∀ k i, i < gn h k → u k i = φ0 k i := fun k i hi => (hu k i (Nat.lt_of_lt_of_le hi (hM k))).trans (hU k i hi)
                  have hM : ∀ k, gn h k ≤ gn h21 k := fun k => Nat.le_trans (hM k) (m22 k)
                  have al13 := lm m22 al13
                  have al_0 := lm m22 al_0
                  have al19 := lm m22 al19
                  obtain ⟨φ, rfl⟩ : ∃ z, z = u := ⟨_, rfl⟩
                  refine lv_astore (lv' := [(7, .ref (φ 10 o14)), (6, .ref (φ 9 o10)), (5, .int t0_21), (0, .ref (φ 11 i0)), (1, .int a1), (2, .int a2), (3, .int a3), (4, .int a4)]) hx hb dX11_find_120 hl (by decide) rfl (fun ls hl => ?_)
                  refine lv_iconst (v := 0) hx hb dX11_find_122 (by decide) ?_
                  refine lv_istore (lv' := [(8, .int 0), (7, .ref (φ 10 o14)), (6, .ref (φ 9 o10)), (5, .int t0_21), (0, .ref (φ 11 i0)), (1, .int a1), (2, .int a2), (3, .int a3), (4, .int a4)]) hx hb dX11_find_123 hl (by decide) rfl (fun ls hl => ?_)
                  obtain ⟨q52, e53, hF⟩ := bn hF
                  refine loop_w (f := B_X11_find_125 i0 o10 o14 h21) (Z := fun q => ∀ (H : Heap) (locs : List Loc) (ls : Array Slot), HW D cA A φ (wd h21 q.2) H → va_S A s.heap H locs → lv_has ls 9 [(0, .ref (φ 11 i0)), (6, .ref (φ 9 o10)), (7, .ref (φ 10 o14)), (8, .int (q.1))] → W p l e (rmo 2 53 2 9) s m args below meth c H locs 2 9 Q (F0 m 125 ls [])) (K := fun q => ∀ (H : Heap) (locs : List Loc) (ls : Array Slot), HW D cA A φ (wd h21 q) H → va_S A s.heap H locs → lv_has ls 9 [(0, .ref (φ 11 i0)), (7, .ref (φ 10 o14))] → W p l e (rmo 2 53 2 9) s m args below meth c H locs 2 9 Q (F0 m 175 ls [])) ?_ LF _ q52 e53 ?_ _ _ _ (wdW rfl hW) hS (lv_sub hl [4, 2, 1, 0] rfl)
                  · intro q v hF hK H locs ls hW hS hl
                    obtain ⟨x23, d26⟩ := q
                    unfold B_X11_find_125 at hF
                    have hF := u2d hF
                    obtain ⟨h24, e54, hF⟩ := nmx hF
                    have hW := nmW e54 hW
                    have g25 : h24.2.2 = h21.2.2 := by rw [e54]; exact rfl
                    have hl : lv_has ls 9 [(0, .ref (φ 11 i0)), (6, .ref (φ 9 o10)), (7, .ref (φ 10 o14)), (8, .int x23)] := hl
                    have j_168 : ∀ (v8_168 : Int32) (t0_168 : Int32) (t1_168 : Int32) (t2_168 : Nat) (hj168 : HP) (H : Heap) (locs : List Loc) (ls : Array Slot), hj168.2.2 = h21.2.2 → t2_168 < gn h21 40 → J_X11_find_168 i0 o10 o14 v8_168 t0_168 t1_168 t2_168 hj168 = some v → HW D cA A φ hj168 H → va_S A s.heap H locs → lv_has ls 9 [(0, .ref (φ 11 i0)), (6, .ref (φ 9 o10)), (7, .ref (φ 10 o14)), (8, .int v8_168)] → W p l e (rmo 2 53 2 9) s m args below meth c H locs 2 9 Q (F0 m 168 ls [.int t0_168, .int t1_168, .ref (φ 40 t2_168)]) := by
                      intro v8_168 t0_168 t1_168 t2_168 hj168 H locs ls gj168 alt2_168 hF hW hS hl
                      unfold J_X11_find_168 at hF
                      obtain ⟨h27, e28, hF⟩ := bn hF
                      obtain ⟨b29, e28⟩ := sa_s e28
                      refine r_iast X hW hS (gq gj168 alt2_168) rfl b29 dX11_find_168 (fun H locs hW hS => ?_)
                      have hW := nmW e28 hW
                      have g30 : h27.2.2 = h21.2.2 := by rw [e28]; exact gj168
                      obtain ⟨x31, e32, hF⟩ := nmx hF
                      refine lv_iinc (v := x31) (lv' := [(8, .int x31), (0, .ref (φ 11 i0)), (6, .ref (φ 9 o10)), (7, .ref (φ 10 o14))]) hx hb dX11_find_169 hl (k := 3) rfl (by rw [e32]; rfl) (by decide) rfl (fun ls hl => ?_)
                      refine lv_goto (tgt := 125) hx hb dX11_find_172 (by decide) ?_
                      obtain rfl := sj hF
                      exact hK _ _ _ (wdW (sq g30 rfl) hW) hS (lv_sub hl [1, 2, 3, 0] rfl)
                    refine lv_iload hx hb dX11_find_125 (lv_at hl 3 rfl) ?_
                    refine lv_iconst (v := 5) hx hb dX11_find_127 (by decide) ?_
                    refine lv_icmp_ge (tgt := 175) hx hb dX11_find_128 (by decide) (fun c51 => ?_) (fun c51 => ?_)
                    · have hF := it c51 hF
                      obtain rfl := sj hF
                      exact hK _ _ _ (wdW (sq g25 rfl) hW) hS (lv_sub hl [0, 2] rfl)
                    · have hF := ie c51 hF
                      refine lv_aload hx hb dX11_find_131 (lv_at hl 2 rfl) ?_
                      obtain ⟨o33, e34, hF⟩ := bn hF
                      refine r_getr X hW (gq g25 al19) fl_11_229 e34 dX11_find_133 (fun al35 => ?_)
                      have al35 := qg g25 al35
                      refine lv_iload hx hb dX11_find_136 (lv_at hl 3 rfl) ?_
                      refine lv_aload hx hb dX11_find_138 (lv_at hl 1 rfl) ?_
                      obtain ⟨o36, e37, hF⟩ := bn hF
                      refine r_getr X hW (gq g25 al13) fl_11_130 e37 dX11_find_140 (fun al38 => ?_)
                      have al38 := qg g25 al38
                      refine lv_iload hx hb dX11_find_143 (lv_at hl 3 rfl) ?_
                      obtain ⟨x39, e40, hF⟩ := bn hF
                      obtain ⟨b41, e40⟩ := ga_s e40
                      refine r_iald X hW (gq g25 al38) rfl b41 dX11_find_145 ?_
                      refine nmi e40 ?_
                      refine lv_iconst (v := 0) hx hb dX11_find_146 (by decide) ?_
                      refine lv_sipush (v := 9999) hx hb dX11_find_147 (by decide) ?_
                      obtain ⟨x43, e42, hF⟩ := bn hF
                      refine rc_i (Af := fun φ => [.int x39, .int 0, .int 9999]) X hW hS ⟨Nat.le_of_ble_eq_true rfl, Nat.le_of_ble_eq_true rfl⟩ (rn_S (As := [.int x39, .int 0, .int 9999]) (rest := [.int x23, .ref (φ 40 o33)]) X hW hS cw_11_81 ⟨Nat.le_of_ble_eq_true rfl, Nat.le_of_ble_eq_true rfl⟩ rfl hl.1 rfl (Nat.le_of_ble_eq_true rfl) dX11_find_150) (ok_X11_isFrom x39 0 9999 e42) (fun H locs hW hS => ?_)
                      refine lv_if_eq (tgt := 167) hx hb dX11_find_153 (by decide) (fun c50 => ?_) (fun c50 => ?_)
                      · have hF := it c50 hF
                        refine lv_iconst (v := (-1)) hx hb dX11_find_167 (by decide) ?_
                        exact j_168 x23 (-1) x23 o33 h24 _ _ _ g25 al35 hF hW hS (lv_sub hl [0, 1, 2, 3] rfl)
                      · have hF := ie c50 hF
                        refine lv_aload hx hb dX11_find_156 (lv_at hl 1 rfl) ?_
                        obtain ⟨o44, e45, hF⟩ := bn hF
                        refine r_getr X hW (gq g25 al13) fl_11_130 e45 dX11_find_158 (fun al46 => ?_)
                        have al46 := qg g25 al46
                        refine lv_iload hx hb dX11_find_161 (lv_at hl 3 rfl) ?_
                        obtain ⟨x47, e48, hF⟩ := bn hF
                        obtain ⟨b49, e48⟩ := ga_s e48
                        refine r_iald X hW (gq g25 al46) rfl b49 dX11_find_163 ?_
                        refine nmi e48 ?_
                        refine lv_goto (tgt := 168) hx hb dX11_find_164 (by decide) ?_
                        exact j_168 x23 x47 x23 o33 h24 _ _ _ g25 al35 hF hW hS (lv_sub hl [0, 1, 2, 3] rfl)
                  · intro H locs ls hW hS hl
                    obtain ⟨d55, rfl⟩ : ∃ z, z = q52 := ⟨_, rfl⟩
                    obtain ⟨h56, e68, hF⟩ := nmx hF
                    have hW := nmW e68 hW
                    have g57 : h56.2.2 = h21.2.2 := by rw [e68]; exact rfl
                    have hl : lv_has ls 9 [(0, .ref (φ 11 i0)), (7, .ref (φ 10 o14))] := hl
                    refine lv_aload_n hx hb dX11_find_175 rfl (lv_at hl 0 rfl) ?_
                    obtain ⟨o58, e59, hF⟩ := bn hF
                    refine r_getr X hW (gq g57 al_0) fl_11_29 e59 dX11_find_176 (fun al60 => ?_)
                    have al60 := qg g57 al60
                    refine lv_aload_n hx hb dX11_find_179 rfl (lv_at hl 0 rfl) ?_
                    refine r_geti X hW (gq g57 al_0) fl_11_223 dX11_find_180 ?_
                    refine lv_aload hx hb dX11_find_183 (lv_at hl 1 rfl) ?_
                    obtain ⟨h61, e62, hF⟩ := bn hF
                    obtain ⟨b63, e62⟩ := sar_s e62
                    refine r_aast (t0 := 4) X hW hS (gq g57 al60) rfl rfl rfl rfl (gq g57 al19) b63 dX11_find_185 (fun H locs hW hS => ?_)
                    have hW := nmW e62 hW
                    have m64 : ∀ k, gn h21 k ≤ gn h61 k := mst_sr g57 e62
                    have hM : ∀ k, gn h k ≤ gn h61 k := fun k => Nat.le_trans (hM k) (m64 k)
                    have al_0 := lm m64 al_0
                    have al19 := lm m64 al19
                    refine lv_aload_n hx hb dX11_find_186 rfl (lv_at hl 0 rfl) ?_
                    refine lv_dup hx hb dX11_find_187 rfl ?_
                    refine r_geti X hW al_0 fl_11_223 dX11_find_188 ?_
                    refine lv_iconst (v := 1) hx hb dX11_find_191 (by decide) ?_
                    refine lv_iadd hx hb dX11_find_192 ?_
                    refine r_puti X hW hS al_0 fp_11_223 rfl rfl dX11_find_193 (fun H locs hW hS => ?_)
                    obtain ⟨h65, e66, hF⟩ := nmx hF
                    have hW := nmW e66 hW
                    have g67 : h65.2.2 = h61.2.2 := by rw [e66]; exact rfl
                    refine lv_aload_n hx hb dX11_find_196 rfl (lv_at hl 0 rfl) ?_
                    refine r_geti X hW (gq g67 al_0) fl_11_223 dX11_find_197 ?_
                    refine lv_iconst (v := 1) hx hb dX11_find_200 (by decide) ?_
                    refine lv_isub hx hb dX11_find_201 ?_
                    obtain ⟨rfl, rfl⟩ := sj2 hF
                    refine W.widen (k := 2) (n := 9) (Nat.le_of_ble_eq_true rfl) (Nat.le_of_ble_eq_true rfl) ?_
                    exact hfin φ _ _ _ _ hU hW hS dX11_find_202 -- g67
                · have hF := ie c69 hF
                  refine lv_bipush (v := (-4)) hx hb dX11_find_106 (by decide) ?_
                  obtain ⟨rfl, rfl⟩ := sj2 hF
                  refine W.widen (k := 2) (n := 9) (Nat.le_of_ble_eq_true rfl) (Nat.le_of_ble_eq_true rfl) ?_
                  exact hfin φ _ _ _ _ hU hW hS dX11_find_108 -- gj21
              · have hF := ie c77 hF
                refine lv_aload_n hx hb dX11_find_91 rfl (lv_at hl 2 rfl) ?_
                refine lv_iconst (v := 2) hx hb dX11_find_92 (by decide) ?_
                obtain ⟨q75, e70, hF⟩ := bn hF
                obtain ⟨x76, d74⟩ := q75
                have hF := u2d hF
                refine rc_i (Af := fun φ => [.ref (φ 11 i0), .int 2]) X hW hS ⟨Nat.le_of_ble_eq_true rfl, Nat.le_of_ble_eq_true rfl⟩ (rn_V (As := [.int 2]) (rest := []) X hW hS cw_11_123 (gq gj21 al_0) rfl rfl rfl ⟨Nat.le_of_ble_eq_true rfl, Nat.le_of_ble_eq_true rfl⟩ rfl hl.1 rfl (Nat.le_of_ble_eq_true rfl) dX11_find_93) (ok_X11_finding i0 2 (gq gj21 al_0) e70) (fun H locs hW hS => ?_)
                obtain ⟨h71, e73, hF⟩ := nmx hF
                have hW := nmW e73 hW
                have g72 : h71.2.2 = h.2.2 := by rw [e73]; exact gj21
                obtain ⟨rfl, rfl⟩ := sj2 hF
                refine W.widen (k := 2) (n := 9) (Nat.le_of_ble_eq_true rfl) (Nat.le_of_ble_eq_true rfl) ?_
                exact hfin φ _ _ _ _ hU hW hS dX11_find_96 -- g72
            · have hF := ie c85 hF
              refine lv_aload_n hx hb dX11_find_76 rfl (lv_at hl 2 rfl) ?_
              refine lv_iconst (v := 1) hx hb dX11_find_77 (by decide) ?_
              obtain ⟨q83, e78, hF⟩ := bn hF
              obtain ⟨x84, d82⟩ := q83
              have hF := u2d hF
              refine rc_i (Af := fun φ => [.ref (φ 11 i0), .int 1]) X hW hS ⟨Nat.le_of_ble_eq_true rfl, Nat.le_of_ble_eq_true rfl⟩ (rn_V (As := [.int 1]) (rest := []) X hW hS cw_11_123 (gq gj21 al_0) rfl rfl rfl ⟨Nat.le_of_ble_eq_true rfl, Nat.le_of_ble_eq_true rfl⟩ rfl hl.1 rfl (Nat.le_of_ble_eq_true rfl) dX11_find_78) (ok_X11_finding i0 1 (gq gj21 al_0) e78) (fun H locs hW hS => ?_)
              obtain ⟨h79, e81, hF⟩ := nmx hF
              have hW := nmW e81 hW
              have g80 : h79.2.2 = h.2.2 := by rw [e81]; exact gj21
              obtain ⟨rfl, rfl⟩ := sj2 hF
              refine W.widen (k := 2) (n := 9) (Nat.le_of_ble_eq_true rfl) (Nat.le_of_ble_eq_true rfl) ?_
              exact hfin φ _ _ _ _ hU hW hS dX11_find_81 -- g80
          · have hF := it c86 hF
            refine lv_bipush (v := (-2)) hx hb dX11_find_57 (by decide) ?_
            obtain ⟨rfl, rfl⟩ := sj2 hF
            refine W.widen (k := 2) (n := 9) (Nat.le_of_ble_eq_true rfl) (Nat.le_of_ble_eq_true rfl) ?_
            exact hfin φ _ _ _ _ hU hW hS dX11_find_59 -- gj21
  refine lv_iload_n hx hb dX11_find_0 rfl (lv_at hl 3 rfl) ?_
  refine lv_iconst (v := (-1)) hx hb dX11_find_1 (by decide) ?_
  refine lv_icmp_eq (tgt := 16) hx hb dX11_find_2 (by decide) (fun c93 => ?_) (fun c93 => ?_)
  · have hF := it c93 hF
    refine lv_iconst (v := 1) hx hb dX11_find_16 (by decide) ?_
    refine lv_goto (tgt := 21) hx hb dX11_find_17 (by decide) ?_
    exact j_21 1 h _ _ _ rfl hF hW hS (lv_sub hl [0, 1, 2, 3, 4] rfl)
  · have hF := ie c93 hF
    refine lv_iload_n hx hb dX11_find_5 rfl (lv_at hl 3 rfl) ?_
    refine lv_iconst (v := 1) hx hb dX11_find_6 (by decide) ?_
    refine lv_sipush (v := 9999) hx hb dX11_find_7 (by decide) ?_
    obtain ⟨x91, e90, hF⟩ := bn hF
    refine rc_i (Af := fun φ => [.int a3, .int 1, .int 9999]) X hW hS ⟨Nat.le_of_ble_eq_true rfl, Nat.le_of_ble_eq_true rfl⟩ (rn_S (As := [.int a3, .int 1, .int 9999]) (rest := []) X hW hS cw_11_81 ⟨Nat.le_of_ble_eq_true rfl, Nat.le_of_ble_eq_true rfl⟩ rfl hl.1 rfl (Nat.le_of_ble_eq_true rfl) dX11_find_10) (ok_X11_isFrom a3 1 9999 e90) (fun H locs hW hS => ?_)
    refine lv_if_eq (tgt := 20) hx hb dX11_find_13 (by decide) (fun c92 => ?_) (fun c92 => ?_)
    · have hF := it c92 hF
      refine lv_iconst (v := 0) hx hb dX11_find_20 (by decide) ?_
      exact j_21 0 h _ _ _ rfl hF hW hS (lv_sub hl [0, 1, 2, 3, 4] rfl)
    · have hF := ie c92 hF
      refine lv_iconst (v := 1) hx hb dX11_find_16 (by decide) ?_
      refine lv_goto (tgt := 21) hx hb dX11_find_17 (by decide) ?_
      exact j_21 1 h _ _ _ rfl hF hW hS (lv_sub hl [0, 1, 2, 3, 4] rfl)
def F_X0_init (i0 : Nat) (a1 : Int32) (a2 : Int32) (a3 : Int32) (a4 : Int32) (h : HP) : Option (HP) :=
  nm (si h 0 i0 5 (-1)) fun h1 =>
  nm (si h1 0 i0 0 a1) fun h4 =>
  nm (si h4 0 i0 1 a2) fun h7 =>
  nm (si h7 0 i0 2 a3) fun h10 =>
  nm (si h10 0 i0 3 a4) fun h13 =>
  some h13
set_option maxHeartbeats 4000000 in
set_option maxRecDepth 100000 in
theorem ok_X0_init {l : Launch} {D : va_G} {cA : Nat → ClassId} {h : HP}  {d : HP} (i0 : Nat) (a1 : Int32) (a2 : Int32) (a3 : Int32) (a4 : Int32) (al_0 : i0 < gn h 0) (hF : F_X0_init i0 a1 a2 a3 a4 h = some d) : MVa l D cA yX0_init cX0_init 5 none 1 30 0 0 (fun φ => [.ref (φ 0 i0), .int a1, .int a2, .int a3, .int a4]) h d := by
  refine mk_Va (plainFor_of_name (by decide)) (fun φ => Nat.le_of_ble_eq_true rfl) ?_
  intro p e s m args below meth c ls φ0 A Q X hW hS hl hin hfin
  obtain ⟨φ, hφ⟩ : ∃ z : Nat → Nat → Nat, z = φ0 := ⟨_, rfl⟩
  have hU : ∀ k i, i < gn h k → φ k i = φ0 k i := fun k i _ => by rw [hφ]
  have hM : ∀ k, gn h k ≤ gn h k := fun k => Nat.le_refl _
  rw [← hφ] at hW hl
  have hx := X.1
  have hb := X.2.1
  have hl : lv_has ls 5 [(0, .ref (φ 0 i0)), (1, .int a1), (2, .int a2), (3, .int a3), (4, .int a4)] := hl
  unfold F_X0_init at hF
  refine lv_aload_n hx hb dX0_init_0 rfl (lv_at hl 0 rfl) ?_
  refine W.objInit hx hb X.2.2.2.1 (X.2.2.2.2.1 _ (AL_of 759 (by decide +kernel) rfl)) (X.2.2.2.2.1 _ (AL_of 24 (by decide +kernel) rfl)) (X.2.2.2.2.1 _ (AL_of 25 (by decide +kernel) rfl)) rfl (by rw [X.2.2.1]; exact hl.1) rfl dX0_init_1 (Nat.le_of_ble_eq_true rfl) (Nat.le_of_ble_eq_true rfl) ?_
  refine W.eq (g2 := F0 m 4 ls []) rfl ?_
  refine lv_aload_n hx hb dX0_init_4 rfl (lv_at hl 0 rfl) ?_
  refine lv_iconst (v := (-1)) hx hb dX0_init_5 (by decide) ?_
  refine r_puti X hW hS al_0 fp_0_9 rfl rfl dX0_init_6 (fun H locs hW hS => ?_)
  obtain ⟨h1, e2, hF⟩ := nmx hF
  have hW := nmW e2 hW
  have g3 : h1.2.2 = h.2.2 := by rw [e2]; exact rfl
  refine lv_aload_n hx hb dX0_init_9 rfl (lv_at hl 0 rfl) ?_
  refine lv_iload_n hx hb dX0_init_10 rfl (lv_at hl 1 rfl) ?_
  refine r_putiF X hW hS hin (gq g3 al_0) fp_0_15 rfl rfl dX0_init_11 (fun H locs hW hS => ?_)
  obtain ⟨h4, e5, hF⟩ := nmx hF
  have hW := nmW e5 hW
  have g6 : h4.2.2 = h.2.2 := by rw [e5]; exact g3
  refine lv_aload_n hx hb dX0_init_14 rfl (lv_at hl 0 rfl) ?_
  refine lv_iload_n hx hb dX0_init_15 rfl (lv_at hl 2 rfl) ?_
  refine r_putiF X hW hS hin (gq g6 al_0) fp_0_18 rfl rfl dX0_init_16 (fun H locs hW hS => ?_)
  obtain ⟨h7, e8, hF⟩ := nmx hF
  have hW := nmW e8 hW
  have g9 : h7.2.2 = h.2.2 := by rw [e8]; exact g6
  refine lv_aload_n hx hb dX0_init_19 rfl (lv_at hl 0 rfl) ?_
  refine lv_iload_n hx hb dX0_init_20 rfl (lv_at hl 3 rfl) ?_
  refine r_putiF X hW hS hin (gq g9 al_0) fp_0_21 rfl rfl dX0_init_21 (fun H locs hW hS => ?_)
  obtain ⟨h10, e11, hF⟩ := nmx hF
  have hW := nmW e11 hW
  have g12 : h10.2.2 = h.2.2 := by rw [e11]; exact g9
  refine lv_aload_n hx hb dX0_init_24 rfl (lv_at hl 0 rfl) ?_
  refine lv_iload hx hb dX0_init_25 (lv_at hl 4 rfl) ?_
  refine r_putiF X hW hS hin (gq g12 al_0) fp_0_24 rfl rfl dX0_init_27 (fun H locs hW hS => ?_)
  obtain ⟨h13, e14, hF⟩ := nmx hF
  have hW := nmW e14 hW
  have g15 : h13.2.2 = h.2.2 := by rw [e14]; exact g12
  obtain rfl := sj hF
  refine W.widen (k := 0) (n := 0) (Nat.le_of_ble_eq_true rfl) (Nat.le_of_ble_eq_true rfl) ?_
  exact hfin φ _ _ _ _ hU hW hS dX0_init_30 -- g15
set_option maxHeartbeats 4000000 in
set_option maxRecDepth 100000 in
theorem mono_X0_init {h : HP}  {d : HP} {i0 : Nat} {a1 : Int32} {a2 : Int32} {a3 : Int32} {a4 : Int32} (hF : F_X0_init i0 a1 a2 a3 a4 h = some d) : ∀ k, gn h k ≤ gn d k := by
  have hM : ∀ k, gn h k ≤ gn h k := fun k => Nat.le_refl _
  unfold F_X0_init at hF
  obtain ⟨h1, e2, hF⟩ := nmx hF
  have g3 : h1.2.2 = h.2.2 := by rw [e2]; exact rfl
  obtain ⟨h4, e5, hF⟩ := nmx hF
  have g6 : h4.2.2 = h.2.2 := by rw [e5]; exact g3
  obtain ⟨h7, e8, hF⟩ := nmx hF
  have g9 : h7.2.2 = h.2.2 := by rw [e8]; exact g6
  obtain ⟨h10, e11, hF⟩ := nmx hF
  have g12 : h10.2.2 = h.2.2 := by rw [e11]; exact g9
  obtain ⟨h13, e14, hF⟩ := nmx hF
  have g15 : h13.2.2 = h.2.2 := by rw [e14]; exact g12
  obtain rfl := sj hF
  exact hMg hM g15
def B_X0_workOut_11 (i0 : Nat) (i1 : Nat) (a2 : Int32) (o1 : Nat) (h3 : HP) (q : Int32 × Int32 × DP) : Option ((Int32 × Int32 × DP) ⊕ ((Int32 × DP))) :=
  u3 q fun x7 x8 d11 =>
  nm (wd h3 d11) fun h9 =>
  (if (gi h9 2 i1 1) ≤ x8 then
  some (.inr (x7, (dp h9)))
  else
  (if 12 ≤ x7 then
  some (.inr (x7, (dp h9)))
  else
  (if ((a2 >>> (x8 &&& 31)) &&& 1) = 1 then
  (sa h9 84 o1 12 x7 x8).bind fun h14 =>
  nm (x7 + 1) fun x18 =>
  nm (x8 + 1) fun x20 =>
  some (.inl (x18, x20, (dp h14)))
  else
  nm (x8 + 1) fun x12 =>
  some (.inl (x7, x12, (dp h9))))))
def J_X0_workOut_136 (i0 : Nat) (i1 : Nat) (o1 : Nat) (x28 : Int32) (v5_136 : Int32) (v6_136 : Int32) (v7_136 : Int32) (v8_136 : Int32) (v9_136 : Int32) (t0_136 : Int32) (hj136 : HP) : Option ((Int32 × Int32 × Int32 × Int32 × DP) ⊕ (DP)) :=
  nm ((v6_136 + t0_136)) fun x44 =>
  (gr hj136 2 i1 0).bind fun o46 =>
  (gar hj136 23 o46 20 v9_136).bind fun o49 =>
  nm ((v7_136 + (t0_136 * (gi hj136 1 o49 3)))) fun x53 =>
  (F_X0_consider i0 v5_136 x44 x53 hj136).bind fun d59 => nm (wd hj136 d59) fun h56 =>
  nm (v8_136 + 1) fun x60 =>
  some (.inl (v5_136, x44, x53, x60, (dp h56)))
def B_X0_workOut_74 (i0 : Nat) (i1 : Nat) (o1 : Nat) (x28 : Int32) (h33 : HP) (q : Int32 × Int32 × Int32 × Int32 × DP) : Option ((Int32 × Int32 × Int32 × Int32 × DP) ⊕ (DP)) :=
  u5 q fun x37 x38 x39 x40 d43 =>
  nm (wd h33 d43) fun h41 =>
  (if (1 <<< (x28 &&& 31)) ≤ x40 then
  some (.inr (dp h41))
  else
  (F_J_ntz x40).bind fun x63 =>
  (ga h41 84 o1 12 x63).bind fun x64 =>
  nm ((x37 ^^^ (1 <<< (x64 &&& 31)))) fun x67 =>
  (if ((x67 >>> (x64 &&& 31)) &&& 1) = 1 then
  (gr h41 2 i1 0).bind fun o76 =>
  (gar h41 23 o76 20 x64).bind fun o79 =>
  J_X0_workOut_136 i0 i1 o1 x28 x67 x38 x39 x40 x64 (gi h41 1 o79 1) h41
  else
  (gr h41 2 i1 0).bind fun o69 =>
  (gar h41 23 o69 20 x64).bind fun o72 =>
  J_X0_workOut_136 i0 i1 o1 x28 x67 x38 x39 x40 x64 (-(gi h41 1 o72 1)) h41))
def F_X0_workOut (i0 : Nat) (i1 : Nat) (a2 : Int32) (h : HP) : Option (HP) :=
  nm (gn h 84) fun o1 => nm (nw h 84) fun h3 =>
  (loopN LF (B_X0_workOut_11 i0 i1 a2 o1 h3) (0, 0, (dp h3))).bind fun q25 => u2 q25 fun x28 d29 =>
  nm (wd h3 d29) fun h30 =>
  (F_X0_consider i0 0 0 0 h30).bind fun d36 => nm (wd h30 d36) fun h33 =>
  (loopN LF (B_X0_workOut_74 i0 i1 o1 x28 h33) (0, 0, 0, 1, (dp h33))).bind fun d88 =>
  nm (wd h33 d88) fun h89 =>
  some h89
set_option maxHeartbeats 4000000 in
set_option maxRecDepth 100000 in
theorem ok_X0_workOut {l : Launch} {D : va_G} {cA : Nat → ClassId} {h : HP}  {d : HP} (i0 : Nat) (i1 : Nat) (a2 : Int32) (al_0 : i0 < gn h 0) (al_1 : i1 < gn h 2) (hF : F_X0_workOut i0 i1 a2 h = some d) : MVa l D cA yX0_workOut cX0_workOut 11 none 2 44 1 12 (fun φ => [.ref (φ 0 i0), .ref (φ 2 i1), .int a2]) h d := by
  refine mk_Va (plainFor_of_name (by decide)) (fun φ => Nat.le_of_ble_eq_true rfl) ?_
  intro p e s m args below meth c ls φ0 A Q X hW hS hl hin hfin
  obtain ⟨φ, hφ⟩ : ∃ z : Nat → Nat → Nat, z = φ0 := ⟨_, rfl⟩
  have hU : ∀ k i, i < gn h k → φ k i = φ0 k i := fun k i _ => by rw [hφ]
  have hM : ∀ k, gn h k ≤ gn h k := fun k => Nat.le_refl _
  rw [← hφ] at hW hl
  have hx := X.1
  have hb := X.2.1
  have hl : lv_has ls 11 [(0, .ref (φ 0 i0)), (1, .ref (φ 2 i1)), (2, .int a2)] := hl
  unfold F_X0_workOut at hF
  refine lv_bipush (v := 12) hx hb dX0_workOut_0 (by decide) ?_
  refine r_newi (k := 84) (N := 12) X hW hS rfl (by decide) (by decide) (Nat.le_of_ble_eq_true rfl) ⟨Nat.le_of_ble_eq_true rfl, Nat.le_of_ble_eq_true rfl⟩ dX0_workOut_2 (AL_of 55 (by decide +kernel) rfl) (fun u H hu hW hS => ?_)
  obtain ⟨o1, e2, hF⟩ := nmx hF
  obtain ⟨h3, e4, hF⟩ := nmx hF
  have hW := nmW e4 hW
  have m5 : ∀ k, gn h k ≤ gn h3 k := mst_nw rfl e4
  have hl : lv_has ls 11 [(0, .ref (u 0 i0)), (1, .ref (u 2 i1)), (2, .int a2)] := by rw [hu 0 i0 al_0, hu 2 i1 al_1]; exact hl
  refine stq (st1 := [.ref (u 84 o1)]) (by rw [e2]) ?_
  have hU : ∀ k i, i < gn h k → u k i = φ0 k i := fun k i hi => (hu k i (Nat.lt_of_lt_of_le hi (hM k))).trans (hU k i hi)
  have hM : ∀ k, gn h k ≤ gn h3 k := fun k => Nat.le_trans (hM k) (m5 k)
  have al_0 := lm m5 al_0
  have al_1 := lm m5 al_1
  have al6 : o1 < gn h3 84 := by rw [e2, e4]; exact gn_nw_lt _ _
  obtain ⟨φ, rfl⟩ : ∃ z, z = u := ⟨_, rfl⟩
  refine lv_astore_n (lv' := [(3, .ref (φ 84 o1)), (0, .ref (φ 0 i0)), (1, .ref (φ 2 i1)), (2, .int a2)]) hx hb dX0_workOut_4 rfl hl (by decide) rfl (fun ls hl => ?_)
  refine lv_iconst (v := 0) hx hb dX0_workOut_5 (by decide) ?_
  refine lv_istore (lv' := [(4, .int 0), (3, .ref (φ 84 o1)), (0, .ref (φ 0 i0)), (1, .ref (φ 2 i1)), (2, .int a2)]) hx hb dX0_workOut_6 hl (by decide) rfl (fun ls hl => ?_)
  refine lv_iconst (v := 0) hx hb dX0_workOut_8 (by decide) ?_
  refine lv_istore (lv' := [(5, .int 0), (4, .int 0), (3, .ref (φ 84 o1)), (0, .ref (φ 0 i0)), (1, .ref (φ 2 i1)), (2, .int a2)]) hx hb dX0_workOut_9 hl (by decide) rfl (fun ls hl => ?_)
  obtain ⟨q25, e26, hF⟩ := bn hF
  refine loop_w (f := B_X0_workOut_11 i0 i1 a2 o1 h3) (Z := fun q => ∀ (H : Heap) (locs : List Loc) (ls : Array Slot), HW D cA A φ (wd h3 q.2.2) H → va_S A s.heap H locs → lv_has ls 11 [(0, .ref (φ 0 i0)), (1, .ref (φ 2 i1)), (2, .int a2), (3, .ref (φ 84 o1)), (4, .int (q.1)), (5, .int (q.2.1))] → W p l e (rmo 2 44 1 12) s m args below meth c H locs 1 12 Q (F0 m 11 ls [])) (K := fun q => ∀ (H : Heap) (locs : List Loc) (ls : Array Slot), HW D cA A φ (wd h3 q.2) H → va_S A s.heap H locs → lv_has ls 11 [(0, .ref (φ 0 i0)), (1, .ref (φ 2 i1)), (3, .ref (φ 84 o1)), (4, .int (q.1))] → W p l e (rmo 2 44 1 12) s m args below meth c H locs 1 12 Q (F0 m 52 ls [])) ?_ LF _ q25 e26 ?_ _ _ _ (wdW rfl hW) hS (lv_sub hl [3, 4, 5, 2, 1, 0] rfl)
  · intro q v hF hK H locs ls hW hS hl
    obtain ⟨x7, x8, d11⟩ := q
    unfold B_X0_workOut_11 at hF
    have hF := u3d hF
    obtain ⟨h9, e27, hF⟩ := nmx hF
    have hW := nmW e27 hW
    have g10 : h9.2.2 = h3.2.2 := by rw [e27]; exact rfl
    have hl : lv_has ls 11 [(0, .ref (φ 0 i0)), (1, .ref (φ 2 i1)), (2, .int a2), (3, .ref (φ 84 o1)), (4, .int x7), (5, .int x8)] := hl
    refine lv_iload hx hb dX0_workOut_11 (lv_at hl 5 rfl) ?_
    refine lv_aload_n hx hb dX0_workOut_13 rfl (lv_at hl 1 rfl) ?_
    refine r_geti X hW (gq g10 al_1) fl_0_27 dX0_workOut_14 ?_
    refine lv_icmp_ge (tgt := 52) hx hb dX0_workOut_17 (by decide) (fun c24 => ?_) (fun c24 => ?_)
    · have hF := it c24 hF
      obtain rfl := sj hF
      exact hK _ _ _ (wdW (sq g10 rfl) hW) hS (lv_sub hl [0, 1, 3, 4] rfl)
    · have hF := ie c24 hF
      refine lv_iload hx hb dX0_workOut_20 (lv_at hl 4 rfl) ?_
      refine lv_bipush (v := 12) hx hb dX0_workOut_22 (by decide) ?_
      refine lv_icmp_ge (tgt := 52) hx hb dX0_workOut_24 (by decide) (fun c23 => ?_) (fun c23 => ?_)
      · have hF := it c23 hF
        obtain rfl := sj hF
        exact hK _ _ _ (wdW (sq g10 rfl) hW) hS (lv_sub hl [0, 1, 3, 4] rfl)
      · have hF := ie c23 hF
        refine lv_iload_n hx hb dX0_workOut_27 rfl (lv_at hl 2 rfl) ?_
        refine lv_iload hx hb dX0_workOut_28 (lv_at hl 5 rfl) ?_
        refine lv_ishr hx hb dX0_workOut_30 ?_
        refine lv_iconst (v := 1) hx hb dX0_workOut_31 (by decide) ?_
        refine lv_iand hx hb dX0_workOut_32 ?_
        refine lv_iconst (v := 1) hx hb dX0_workOut_33 (by decide) ?_
        refine lv_icmp_ne (tgt := 46) hx hb dX0_workOut_34 (by decide) (fun c22 => ?_) (fun c22 => ?_)
        · have hF := ie c22 hF
          obtain ⟨x12, e13, hF⟩ := nmx hF
          refine lv_iinc (v := x12) (lv' := [(5, .int x12), (0, .ref (φ 0 i0)), (1, .ref (φ 2 i1)), (2, .int a2), (3, .ref (φ 84 o1)), (4, .int x7)]) hx hb dX0_workOut_46 hl (k := 5) rfl (by rw [e13]; rfl) (by decide) rfl (fun ls hl => ?_)
          refine lv_goto (tgt := 11) hx hb dX0_workOut_49 (by decide) ?_
          obtain rfl := sj hF
          exact hK _ _ _ (wdW (sq g10 rfl) hW) hS (lv_sub hl [1, 2, 3, 4, 5, 0] rfl)
        · have hF := it c22 hF
          refine lv_aload_n hx hb dX0_workOut_37 rfl (lv_at hl 3 rfl) ?_
          refine lv_iload hx hb dX0_workOut_38 (lv_at hl 4 rfl) ?_
          refine lv_iload hx hb dX0_workOut_40 (lv_at hl 5 rfl) ?_
          obtain ⟨h14, e15, hF⟩ := bn hF
          obtain ⟨b16, e15⟩ := sa_s e15
          refine r_iast X hW hS (gq g10 al6) rfl b16 dX0_workOut_42 (fun H locs hW hS => ?_)
          have hW := nmW e15 hW
          have g17 : h14.2.2 = h3.2.2 := by rw [e15]; exact g10
          obtain ⟨x18, e19, hF⟩ := nmx hF
          refine lv_iinc (v := x18) (lv' := [(4, .int x18), (0, .ref (φ 0 i0)), (1, .ref (φ 2 i1)), (2, .int a2), (3, .ref (φ 84 o1)), (5, .int x8)]) hx hb dX0_workOut_43 hl (k := 4) rfl (by rw [e19]; rfl) (by decide) rfl (fun ls hl => ?_)
          obtain ⟨x20, e21, hF⟩ := nmx hF
          refine lv_iinc (v := x20) (lv' := [(5, .int x20), (4, .int x18), (0, .ref (φ 0 i0)), (1, .ref (φ 2 i1)), (2, .int a2), (3, .ref (φ 84 o1))]) hx hb dX0_workOut_46 hl (k := 5) rfl (by rw [e21]; rfl) (by decide) rfl (fun ls hl => ?_)
          refine lv_goto (tgt := 11) hx hb dX0_workOut_49 (by decide) ?_
          obtain rfl := sj hF
          exact hK _ _ _ (wdW (sq g17 rfl) hW) hS (lv_sub hl [2, 3, 4, 5, 1, 0] rfl)
  · intro H locs ls hW hS hl
    obtain ⟨x28, d29⟩ := q25
    have hF := u2d hF
    obtain ⟨h30, e92, hF⟩ := nmx hF
    have hW := nmW e92 hW
    have g31 : h30.2.2 = h3.2.2 := by rw [e92]; exact rfl
    have hl : lv_has ls 11 [(0, .ref (φ 0 i0)), (1, .ref (φ 2 i1)), (3, .ref (φ 84 o1)), (4, .int x28)] := hl
    refine lv_iconst (v := 0) hx hb dX0_workOut_52 (by decide) ?_
    refine lv_istore (lv' := [(5, .int 0), (0, .ref (φ 0 i0)), (1, .ref (φ 2 i1)), (3, .ref (φ 84 o1)), (4, .int x28)]) hx hb dX0_workOut_53 hl (by decide) rfl (fun ls hl => ?_)
    refine lv_iconst (v := 0) hx hb dX0_workOut_55 (by decide) ?_
    refine lv_istore (lv' := [(6, .int 0), (5, .int 0), (0, .ref (φ 0 i0)), (1, .ref (φ 2 i1)), (3, .ref (φ 84 o1)), (4, .int x28)]) hx hb dX0_workOut_56 hl (by decide) rfl (fun ls hl => ?_)
    refine lv_iconst (v := 0) hx hb dX0_workOut_58 (by decide) ?_
    refine lv_istore (lv' := [(7, .int 0), (6, .int 0), (5, .int 0), (0, .ref (φ 0 i0)), (1, .ref (φ 2 i1)), (3, .ref (φ 84 o1)), (4, .int x28)]) hx hb dX0_workOut_59 hl (by decide) rfl (fun ls hl => ?_)
    refine lv_aload_n hx hb dX0_workOut_61 rfl (lv_at hl 3 rfl) ?_
    refine lv_iload hx hb dX0_workOut_62 (lv_at hl 2 rfl) ?_
    refine lv_iload hx hb dX0_workOut_64 (lv_at hl 1 rfl) ?_
    refine lv_iload hx hb dX0_workOut_66 (lv_at hl 0 rfl) ?_
    obtain ⟨d36, e32, hF⟩ := bn hF
    refine rc_v (Af := fun φ => [.ref (φ 0 i0), .int 0, .int 0, .int 0]) X hW hS ⟨Nat.le_of_ble_eq_true rfl, Nat.le_of_ble_eq_true rfl⟩ (rn_V (As := [.int 0, .int 0, .int 0]) (rest := []) X hW hS cw_0_32 (gq g31 al_0) rfl rfl rfl ⟨Nat.le_of_ble_eq_true rfl, Nat.le_of_ble_eq_true rfl⟩ rfl hl.1 rfl (Nat.le_of_ble_eq_true rfl) dX0_workOut_68) (ok_X0_consider i0 0 0 0 (gq g31 al_0) e32) (fun H locs hW hS => ?_)
    obtain ⟨h33, e35, hF⟩ := nmx hF
    have hW := nmW e35 hW
    have g34 : h33.2.2 = h3.2.2 := by rw [e35]; exact g31
    refine lv_iconst (v := 1) hx hb dX0_workOut_71 (by decide) ?_
    refine lv_istore (lv' := [(8, .int 1), (7, .int 0), (6, .int 0), (5, .int 0), (0, .ref (φ 0 i0)), (1, .ref (φ 2 i1)), (3, .ref (φ 84 o1)), (4, .int x28)]) hx hb dX0_workOut_72 hl (by decide) rfl (fun ls hl => ?_)
    obtain ⟨q85, e86, hF⟩ := bn hF
    refine loop_w (f := B_X0_workOut_74 i0 i1 o1 x28 h33) (Z := fun q => ∀ (H : Heap) (locs : List Loc) (ls : Array Slot), HW D cA A φ (wd h33 q.2.2.2.2) H → va_S A s.heap H locs → lv_has ls 11 [(0, .ref (φ 0 i0)), (1, .ref (φ 2 i1)), (3, .ref (φ 84 o1)), (4, .int x28), (5, .int (q.1)), (6, .int (q.2.1)), (7, .int (q.2.2.1)), (8, .int (q.2.2.2.1))] → W p l e (rmo 2 44 1 12) s m args below meth c H locs 1 12 Q (F0 m 74 ls [])) (K := fun q => ∀ (H : Heap) (locs : List Loc) (ls : Array Slot), HW D cA A φ (wd h33 q) H → va_S A s.heap H locs → lv_has ls 11 [] → W p l e (rmo 2 44 1 12) s m args below meth c H locs 1 12 Q (F0 m 179 ls [])) ?_ LF _ q85 e86 ?_ _ _ _ (wdW rfl hW) hS (lv_sub hl [4, 5, 6, 7, 3, 2, 1, 0] rfl)
    · intro q v hF hK H locs ls hW hS hl
      obtain ⟨x37, x38, x39, x40, d43⟩ := q
      unfold B_X0_workOut_74 at hF
      have hF := u5d hF
      obtain ⟨h41, e87, hF⟩ := nmx hF
      have hW := nmW e87 hW
      have g42 : h41.2.2 = h3.2.2 := by rw [e87]; exact g34
      have hl : lv_has ls 11 [(0, .ref (φ 0 i0)), (1, .ref (φ 2 i1)), (3, .ref (φ 84 o1)), (4, .int x28), (5, .int x37), (6, .int x38), (7, .int x39), (8, .int x40)] := hl
      have j_136 : ∀ (v5_136 : Int32) (v6_136 : Int32) (v7_136 : Int32) (v8_136 : Int32) (v9_136 : Int32) (t0_136 : Int32) (hj136 : HP) (H : Heap) (locs : List Loc) (ls : Array Slot), hj136.2.2 = h3.2.2 → J_X0_workOut_136 i0 i1 o1 x28 v5_136 v6_136 v7_136 v8_136 v9_136 t0_136 hj136 = some v → HW D cA A φ hj136 H → va_S A s.heap H locs → lv_has ls 11 [(0, .ref (φ 0 i0)), (1, .ref (φ 2 i1)), (3, .ref (φ 84 o1)), (4, .int x28), (5, .int v5_136), (6, .int v6_136), (7, .int v7_136), (8, .int v8_136), (9, .int v9_136)] → W p l e (rmo 2 44 1 12) s m args below meth c H locs 1 12 Q (F0 m 136 ls [.int t0_136]) := by
        intro v5_136 v6_136 v7_136 v8_136 v9_136 t0_136 hj136 H locs ls gj136 hF hW hS hl
        unfold J_X0_workOut_136 at hF
        refine lv_istore (lv' := [(10, .int t0_136), (0, .ref (φ 0 i0)), (1, .ref (φ 2 i1)), (3, .ref (φ 84 o1)), (4, .int x28), (5, .int v5_136), (6, .int v6_136), (7, .int v7_136), (8, .int v8_136), (9, .int v9_136)]) hx hb dX0_workOut_136 hl (by decide) rfl (fun ls hl => ?_)
        refine lv_iload hx hb dX0_workOut_138 (lv_at hl 6 rfl) ?_
        refine lv_iload hx hb dX0_workOut_140 (lv_at hl 0 rfl) ?_
        refine lv_iadd hx hb dX0_workOut_142 ?_
        obtain ⟨x44, e45, hF⟩ := nmx hF
        refine nmi e45 ?_
        refine lv_istore (lv' := [(6, .int x44), (10, .int t0_136), (0, .ref (φ 0 i0)), (1, .ref (φ 2 i1)), (3, .ref (φ 84 o1)), (4, .int x28), (5, .int v5_136), (7, .int v7_136), (8, .int v8_136), (9, .int v9_136)]) hx hb dX0_workOut_143 hl (by decide) rfl (fun ls hl => ?_)
        refine lv_iload hx hb dX0_workOut_145 (lv_at hl 7 rfl) ?_
        refine lv_iload hx hb dX0_workOut_147 (lv_at hl 1 rfl) ?_
        refine lv_aload_n hx hb dX0_workOut_149 rfl (lv_at hl 3 rfl) ?_
        obtain ⟨o46, e47, hF⟩ := bn hF
        refine r_getr X hW (gq gj136 al_1) fl_0_42 e47 dX0_workOut_150 (fun al48 => ?_)
        have al48 := qg gj136 al48
        refine lv_iload hx hb dX0_workOut_153 (lv_at hl 9 rfl) ?_
        obtain ⟨o49, e50, hF⟩ := bn hF
        obtain ⟨b51, e50⟩ := gar_s e50
        refine r_aald (t0 := 3) X hW (gq gj136 al48) rfl rfl b51 e50 dX0_workOut_155 (fun al52 => ?_)
        have al52 := qg gj136 al52
        refine r_geti X hW (gq gj136 al52) fl_0_49 dX0_workOut_156 ?_
        refine lv_imul hx hb dX0_workOut_159 ?_
        refine lv_iadd hx hb dX0_workOut_160 ?_
        obtain ⟨x53, e54, hF⟩ := nmx hF
        refine nmi e54 ?_
        refine lv_istore (lv' := [(7, .int x53), (6, .int x44), (10, .int t0_136), (0, .ref (φ 0 i0)), (1, .ref (φ 2 i1)), (3, .ref (φ 84 o1)), (4, .int x28), (5, .int v5_136), (8, .int v8_136), (9, .int v9_136)]) hx hb dX0_workOut_161 hl (by decide) rfl (fun ls hl => ?_)
        refine lv_aload_n hx hb dX0_workOut_163 rfl (lv_at hl 3 rfl) ?_
        refine lv_iload hx hb dX0_workOut_164 (lv_at hl 7 rfl) ?_
        refine lv_iload hx hb dX0_workOut_166 (lv_at hl 1 rfl) ?_
        refine lv_iload hx hb dX0_workOut_168 (lv_at hl 0 rfl) ?_
        obtain ⟨d59, e55, hF⟩ := bn hF
        refine rc_v (Af := fun φ => [.ref (φ 0 i0), .int v5_136, .int x44, .int x53]) X hW hS ⟨Nat.le_of_ble_eq_true rfl, Nat.le_of_ble_eq_true rfl⟩ (rn_V (As := [.int v5_136, .int x44, .int x53]) (rest := []) X hW hS cw_0_32 (gq gj136 al_0) rfl rfl rfl ⟨Nat.le_of_ble_eq_true rfl, Nat.le_of_ble_eq_true rfl⟩ rfl hl.1 rfl (Nat.le_of_ble_eq_true rfl) dX0_workOut_170) (ok_X0_consider i0 v5_136 x44 x53 (gq gj136 al_0) e55) (fun H locs hW hS => ?_)
        obtain ⟨h56, e58, hF⟩ := nmx hF
        have hW := nmW e58 hW
        have g57 : h56.2.2 = h3.2.2 := by rw [e58]; exact gj136
        obtain ⟨x60, e61, hF⟩ := nmx hF
        refine lv_iinc (v := x60) (lv' := [(8, .int x60), (7, .int x53), (6, .int x44), (10, .int t0_136), (0, .ref (φ 0 i0)), (1, .ref (φ 2 i1)), (3, .ref (φ 84 o1)), (4, .int x28), (5, .int v5_136), (9, .int v9_136)]) hx hb dX0_workOut_173 hl (k := 8) rfl (by rw [e61]; rfl) (by decide) rfl (fun ls hl => ?_)
        refine lv_goto (tgt := 74) hx hb dX0_workOut_176 (by decide) ?_
        obtain rfl := sj hF
        exact hK _ _ _ (wdW (sq g57 g34) hW) hS (lv_sub hl [4, 5, 6, 7, 8, 2, 1, 0] rfl)
      refine lv_iload hx hb dX0_workOut_74 (lv_at hl 7 rfl) ?_
      refine lv_iconst (v := 1) hx hb dX0_workOut_76 (by decide) ?_
      refine lv_iload hx hb dX0_workOut_77 (lv_at hl 3 rfl) ?_
      refine lv_ishl hx hb dX0_workOut_79 ?_
      refine lv_icmp_ge (tgt := 179) hx hb dX0_workOut_80 (by decide) (fun c84 => ?_) (fun c84 => ?_)
      · have hF := it c84 hF
        obtain rfl := sj hF
        exact hK _ _ _ (wdW (sq g42 g34) hW) hS (lv_sub hl [] rfl)
      · have hF := ie c84 hF
        refine lv_aload_n hx hb dX0_workOut_83 rfl (lv_at hl 2 rfl) ?_
        refine lv_iload hx hb dX0_workOut_84 (lv_at hl 7 rfl) ?_
        obtain ⟨x63, e62, hF⟩ := bn hF
        refine rc_i (Af := fun φ => [.int x40]) X hW hS ⟨Nat.le_of_ble_eq_true rfl, Nat.le_of_ble_eq_true rfl⟩ (rn_S (As := [.int x40]) (rest := [.ref (φ 84 o1)]) X hW hS cw_0_36 ⟨Nat.le_of_ble_eq_true rfl, Nat.le_of_ble_eq_true rfl⟩ rfl hl.1 rfl (Nat.le_of_ble_eq_true rfl) dX0_workOut_86) (ok_J_ntz x40 e62) (fun H locs hW hS => ?_)
        obtain ⟨x64, e65, hF⟩ := bn hF
        obtain ⟨b66, e65⟩ := ga_s e65
        refine r_iald X hW (gq g42 al6) rfl b66 dX0_workOut_89 ?_
        refine nmi e65 ?_
        refine lv_istore (lv' := [(9, .int x64), (0, .ref (φ 0 i0)), (1, .ref (φ 2 i1)), (3, .ref (φ 84 o1)), (4, .int x28), (5, .int x37), (6, .int x38), (7, .int x39), (8, .int x40)]) hx hb dX0_workOut_90 hl (by decide) rfl (fun ls hl => ?_)
        refine lv_iload hx hb dX0_workOut_92 (lv_at hl 5 rfl) ?_
        refine lv_iconst (v := 1) hx hb dX0_workOut_94 (by decide) ?_
        refine lv_iload hx hb dX0_workOut_95 (lv_at hl 0 rfl) ?_
        refine lv_ishl hx hb dX0_workOut_97 ?_
        refine lv_ixor hx hb dX0_workOut_98 ?_
        obtain ⟨x67, e68, hF⟩ := nmx hF
        refine nmi e68 ?_
        refine lv_istore (lv' := [(5, .int x67), (9, .int x64), (0, .ref (φ 0 i0)), (1, .ref (φ 2 i1)), (3, .ref (φ 84 o1)), (4, .int x28), (6, .int x38), (7, .int x39), (8, .int x40)]) hx hb dX0_workOut_99 hl (by decide) rfl (fun ls hl => ?_)
        refine lv_iload hx hb dX0_workOut_101 (lv_at hl 0 rfl) ?_
        refine lv_iload hx hb dX0_workOut_103 (lv_at hl 1 rfl) ?_
        refine lv_ishr hx hb dX0_workOut_105 ?_
        refine lv_iconst (v := 1) hx hb dX0_workOut_106 (by decide) ?_
        refine lv_iand hx hb dX0_workOut_107 ?_
        refine lv_iconst (v := 1) hx hb dX0_workOut_108 (by decide) ?_
        refine lv_icmp_ne (tgt := 125) hx hb dX0_workOut_109 (by decide) (fun c83 => ?_) (fun c83 => ?_)
        · have hF := ie c83 hF
          refine lv_aload_n hx hb dX0_workOut_125 rfl (lv_at hl 3 rfl) ?_
          obtain ⟨o69, e70, hF⟩ := bn hF
          refine r_getr X hW (gq g42 al_1) fl_0_42 e70 dX0_workOut_126 (fun al71 => ?_)
          have al71 := qg g42 al71
          refine lv_iload hx hb dX0_workOut_129 (lv_at hl 1 rfl) ?_
          obtain ⟨o72, e73, hF⟩ := bn hF
          obtain ⟨b74, e73⟩ := gar_s e73
          refine r_aald (t0 := 3) X hW (gq g42 al71) rfl rfl b74 e73 dX0_workOut_131 (fun al75 => ?_)
          have al75 := qg g42 al75
          refine r_geti X hW (gq g42 al75) fl_0_46 dX0_workOut_132 ?_
          refine lv_ineg hx hb dX0_workOut_135 ?_
          exact j_136 x67 x38 x39 x40 x64 (-(gi h41 1 o72 1)) h41 _ _ _ g42 hF hW hS (lv_sub hl [2, 3, 4, 5, 0, 6, 7, 8, 1] rfl)
        · have hF := it c83 hF
          refine lv_aload_n hx hb dX0_workOut_112 rfl (lv_at hl 3 rfl) ?_
          obtain ⟨o76, e77, hF⟩ := bn hF
          refine r_getr X hW (gq g42 al_1) fl_0_42 e77 dX0_workOut_113 (fun al78 => ?_)
          have al78 := qg g42 al78
          refine lv_iload hx hb dX0_workOut_116 (lv_at hl 1 rfl) ?_
          obtain ⟨o79, e80, hF⟩ := bn hF
          obtain ⟨b81, e80⟩ := gar_s e80
          refine r_aald (t0 := 3) X hW (gq g42 al78) rfl rfl b81 e80 dX0_workOut_118 (fun al82 => ?_)
          have al82 := qg g42 al82
          refine r_geti X hW (gq g42 al82) fl_0_46 dX0_workOut_119 ?_
          refine lv_goto (tgt := 136) hx hb dX0_workOut_122 (by decide) ?_
          exact j_136 x67 x38 x39 x40 x64 (gi h41 1 o79 1) h41 _ _ _ g42 hF hW hS (lv_sub hl [2, 3, 4, 5, 0, 6, 7, 8, 1] rfl)
    · intro H locs ls hW hS hl
      obtain ⟨d88, rfl⟩ : ∃ z, z = q85 := ⟨_, rfl⟩
      obtain ⟨h89, e91, hF⟩ := nmx hF
      have hW := nmW e91 hW
      have g90 : h89.2.2 = h3.2.2 := by rw [e91]; exact g34
      have hl : lv_has ls 11 [] := hl
      obtain rfl := sj hF
      refine W.widen (k := 1) (n := 12) (Nat.le_of_ble_eq_true rfl) (Nat.le_of_ble_eq_true rfl) ?_
      exact hfin φ _ _ _ _ hU hW hS dX0_workOut_179 -- g90
theorem mono_X0_workOut {h d : HP} {i0 i1 : Nat} {a2 : Int32} (hF : F_X0_workOut i0 i1 a2 h = some d) : ∀ k, gn h k ≤ gn d k := by
  unfold F_X0_workOut at hF
  obtain ⟨o1, e1, hF⟩ := nmx hF
  obtain ⟨h3, e3, hF⟩ := nmx hF
  obtain ⟨q, e4, hF⟩ := bn hF
  obtain ⟨x, dd⟩ := q
  have hF := u2d hF
  obtain ⟨h30, e5, hF⟩ := nmx hF
  obtain ⟨d36, e6, hF⟩ := bn hF
  obtain ⟨h33, e7, hF⟩ := nmx hF
  obtain ⟨d88, e8, hF⟩ := bn hF
  obtain ⟨h89, e9, hF⟩ := nmx hF
  obtain rfl := sj hF
  have g : h89.2.2 = h3.2.2 := by
    rw [e9, show (wd h33 d88).2.2 = h33.2.2 from rfl, e7, show (wd h30 d36).2.2 = h30.2.2 from rfl, e5]
    rfl
  exact hMg (mst_nw rfl e3) g
def J_X11_batch_32 (i0 : Nat) (a1 : Int32) (a2 : Int32) (a3 : Int32) (a4 : Int32) (a5 : Int32) (t0_32 : Int32) (hj32 : HP) : Option (Int32 × HP) :=
  (F_X11_isFrom a1 0 99999).bind fun x2 =>
  (if x2 = 0 then
  some ((-2), hj32)
  else
  (F_X11_isFrom a2 0 9999).bind fun x4 =>
  (if x4 = 0 then
  some ((-2), hj32)
  else
  (if t0_32 = 0 then
  some ((-2), hj32)
  else
  (F_X11_mayBeTold i0 a5 hj32).bind fun x6 =>
  (if x6 = 0 then
  some ((-2), hj32)
  else
  (if (gi hj32 11 i0 10) < 6 then
  nm (gn hj32 0) fun o7 => nm (nw hj32 0) fun h9 =>
  (F_X0_init o7 a1 a2 a3 a4 h9).bind fun h14 =>
  (gr h14 11 i0 3).bind fun o16 =>
  (F_X0_workOut o7 o16 a5 h14).bind fun h20 =>
  (gr h20 11 i0 9).bind fun o22 =>
  (sar h20 43 o22 6 (gi h20 11 i0 10) o7).bind fun h25 =>
  nm (si h25 11 i0 10 ((gi h25 11 i0 10) + 1)) fun h29 =>
  some (((gi h29 11 i0 10) - 1), h29)
  else
  some ((-4), hj32))))))
def F_X11_batch (i0 : Nat) (a1 : Int32) (a2 : Int32) (a3 : Int32) (a4 : Int32) (a5 : Int32) (h : HP) : Option (Int32 × HP) :=
  (F_X11_isFrom a3 0 100).bind fun x38 =>
  (if x38 = 0 then
  J_X11_batch_32 i0 a1 a2 a3 a4 a5 0 h
  else
  (F_X11_isFrom a4 0 100).bind fun x40 =>
  (if x40 = 0 then
  J_X11_batch_32 i0 a1 a2 a3 a4 a5 0 h
  else
  (if a4 < a3 then
  J_X11_batch_32 i0 a1 a2 a3 a4 a5 0 h
  else
  J_X11_batch_32 i0 a1 a2 a3 a4 a5 1 h)))
set_option maxHeartbeats 4000000 in
set_option maxRecDepth 100000 in
theorem ok_X11_batch {l : Launch} {D : va_G} {cA : Nat → ClassId} {h : HP} {r : Int32} {d : HP} (i0 : Nat) (a1 : Int32) (a2 : Int32) (a3 : Int32) (a4 : Int32) (a5 : Int32) (al_0 : i0 < gn h 11) (hF : F_X11_batch i0 a1 a2 a3 a4 a5 h = some (r, d)) : MIa l D cA yX11_batch cX11_batch 8 (some .int) 3 74 2 20 (fun φ => [.ref (φ 11 i0), .int a1, .int a2, .int a3, .int a4, .int a5]) h r d := by
  refine mk_Ia (plainFor_of_name (by decide)) (fun φ => Nat.le_of_ble_eq_true rfl) ?_
  intro p e s m args below meth c ls φ0 A Q X hW hS hl hfin
  obtain ⟨φ, hφ⟩ : ∃ z : Nat → Nat → Nat, z = φ0 := ⟨_, rfl⟩
  have hU : ∀ k i, i < gn h k → φ k i = φ0 k i := fun k i _ => by rw [hφ]
  have hM : ∀ k, gn h k ≤ gn h k := fun k => Nat.le_refl _
  rw [← hφ] at hW hl
  have hx := X.1
  have hb := X.2.1
  have hl : lv_has ls 8 [(0, .ref (φ 11 i0)), (1, .int a1), (2, .int a2), (3, .int a3), (4, .int a4), (5, .int a5)] := hl
  unfold F_X11_batch at hF
  have j_32 : ∀ (t0_32 : Int32) (hj32 : HP) (H : Heap) (locs : List Loc) (ls : Array Slot), hj32.2.2 = h.2.2 → J_X11_batch_32 i0 a1 a2 a3 a4 a5 t0_32 hj32 = some (r, d) → HW D cA A φ hj32 H → va_S A s.heap H locs → lv_has ls 8 [(0, .ref (φ 11 i0)), (1, .int a1), (2, .int a2), (3, .int a3), (4, .int a4), (5, .int a5)] → W p l e (rmo 3 74 2 20) s m args below meth c H locs 0 0 Q (F0 m 32 ls [.int t0_32]) := by
    intro t0_32 hj32 H locs ls gj32 hF hW hS hl
    unfold J_X11_batch_32 at hF
    refine lv_istore (lv' := [(6, .int t0_32), (0, .ref (φ 11 i0)), (1, .int a1), (2, .int a2), (3, .int a3), (4, .int a4), (5, .int a5)]) hx hb dX11_batch_32 hl (by decide) rfl (fun ls hl => ?_)
    refine lv_iload_n hx hb dX11_batch_34 rfl (lv_at hl 2 rfl) ?_
    refine lv_iconst (v := 0) hx hb dX11_batch_35 (by decide) ?_
    refine lv_ldcw (v := 99999) hx hb X.2.2.2.1 (X.2.2.2.2.1 _ (AL_of 749 (by decide +kernel) rfl)) dX11_batch_36 ?_
    obtain ⟨x2, e1, hF⟩ := bn hF
    refine rc_i (Af := fun φ => [.int a1, .int 0, .int 99999]) X hW hS ⟨Nat.le_of_ble_eq_true rfl, Nat.le_of_ble_eq_true rfl⟩ (rn_S (As := [.int a1, .int 0, .int 99999]) (rest := []) X hW hS cw_11_81 ⟨Nat.le_of_ble_eq_true rfl, Nat.le_of_ble_eq_true rfl⟩ rfl hl.1 rfl (Nat.le_of_ble_eq_true rfl) dX11_batch_39) (ok_X11_isFrom a1 0 99999 e1) (fun H locs hW hS => ?_)
    refine lv_if_eq (tgt := 70) hx hb dX11_batch_42 (by decide) (fun c36 => ?_) (fun c36 => ?_)
    · have hF := it c36 hF
      refine lv_bipush (v := (-2)) hx hb dX11_batch_70 (by decide) ?_
      obtain ⟨rfl, rfl⟩ := sj2 hF
      refine W.widen (k := 2) (n := 20) (Nat.le_of_ble_eq_true rfl) (Nat.le_of_ble_eq_true rfl) ?_
      exact hfin φ _ _ _ _ hU hW hS dX11_batch_72 -- gj32
    · have hF := ie c36 hF
      refine lv_iload_n hx hb dX11_batch_45 rfl (lv_at hl 3 rfl) ?_
      refine lv_iconst (v := 0) hx hb dX11_batch_46 (by decide) ?_
      refine lv_sipush (v := 9999) hx hb dX11_batch_47 (by decide) ?_
      obtain ⟨x4, e3, hF⟩ := bn hF
      refine rc_i (Af := fun φ => [.int a2, .int 0, .int 9999]) X hW hS ⟨Nat.le_of_ble_eq_true rfl, Nat.le_of_ble_eq_true rfl⟩ (rn_S (As := [.int a2, .int 0, .int 9999]) (rest := []) X hW hS cw_11_81 ⟨Nat.le_of_ble_eq_true rfl, Nat.le_of_ble_eq_true rfl⟩ rfl hl.1 rfl (Nat.le_of_ble_eq_true rfl) dX11_batch_50) (ok_X11_isFrom a2 0 9999 e3) (fun H locs hW hS => ?_)
      refine lv_if_eq (tgt := 70) hx hb dX11_batch_53 (by decide) (fun c35 => ?_) (fun c35 => ?_)
      · have hF := it c35 hF
        refine lv_bipush (v := (-2)) hx hb dX11_batch_70 (by decide) ?_
        obtain ⟨rfl, rfl⟩ := sj2 hF
        refine W.widen (k := 2) (n := 20) (Nat.le_of_ble_eq_true rfl) (Nat.le_of_ble_eq_true rfl) ?_
        exact hfin φ _ _ _ _ hU hW hS dX11_batch_72 -- gj32
      · have hF := ie c35 hF
        refine lv_iload hx hb dX11_batch_56 (lv_at hl 0 rfl) ?_
        refine lv_if_eq (tgt := 70) hx hb dX11_batch_58 (by decide) (fun c34 => ?_) (fun c34 => ?_)
        · have hF := it c34 hF
          refine lv_bipush (v := (-2)) hx hb dX11_batch_70 (by decide) ?_
          obtain ⟨rfl, rfl⟩ := sj2 hF
          refine W.widen (k := 2) (n := 20) (Nat.le_of_ble_eq_true rfl) (Nat.le_of_ble_eq_true rfl) ?_
          exact hfin φ _ _ _ _ hU hW hS dX11_batch_72 -- gj32
        · have hF := ie c34 hF
          refine lv_aload_n hx hb dX11_batch_61 rfl (lv_at hl 1 rfl) ?_
          refine lv_iload hx hb dX11_batch_62 (lv_at hl 6 rfl) ?_
          obtain ⟨x6, e5, hF⟩ := bn hF
          refine rc_i (Af := fun φ => [.ref (φ 11 i0), .int a5]) X hW hS ⟨Nat.le_of_ble_eq_true rfl, Nat.le_of_ble_eq_true rfl⟩ (rn_V (As := [.int a5]) (rest := []) X hW hS cw_11_271 (gq gj32 al_0) rfl rfl rfl ⟨Nat.le_of_ble_eq_true rfl, Nat.le_of_ble_eq_true rfl⟩ rfl hl.1 rfl (Nat.le_of_ble_eq_true rfl) dX11_batch_64) (ok_X11_mayBeTold i0 a5 (gq gj32 al_0) e5) (fun H locs hW hS => ?_)
          refine lv_if_ne (tgt := 73) hx hb dX11_batch_67 (by decide) (fun c33 => ?_) (fun c33 => ?_)
          · have hF := ie c33 hF
            refine lv_aload_n hx hb dX11_batch_73 rfl (lv_at hl 1 rfl) ?_
            refine r_geti X hW (gq gj32 al_0) fl_11_274 dX11_batch_74 ?_
            refine lv_bipush (v := 6) hx hb dX11_batch_77 (by decide) ?_
            refine lv_icmp_lt (tgt := 85) hx hb dX11_batch_79 (by decide) (fun c32 => ?_) (fun c32 => ?_)
            · have hF := it c32 hF
              refine r_new X hW hS fn_11_47 ⟨Nat.le_of_ble_eq_true rfl, Nat.le_of_ble_eq_true rfl⟩ dX11_batch_85 (fun u H hu hW hS => ?_)
              obtain ⟨o7, e8, hF⟩ := nmx hF
              obtain ⟨h9, e10, hF⟩ := nmx hF
              have hW := nmW e10 hW
              have m11 : ∀ k, gn h k ≤ gn h9 k := mst_nw gj32 e10
              have hl : lv_has ls 8 [(6, .int t0_32), (0, .ref (u 11 i0)), (1, .int a1), (2, .int a2), (3, .int a3), (4, .int a4), (5, .int a5)] := by rw [hu 11 i0 (gq gj32 al_0)]; exact hl
              refine stq (st1 := [.ref (u 0 o7)]) (by rw [e8]) ?_
              have hU : ∀ k i, i < gn h k → u k i = φ0 k i := fun k i hi => (hu k i (gq gj32 (Nat.lt_of_lt_of_le hi (hM k)))).trans (hU k i hi)
              have hM : ∀ k, gn h k ≤ gn h9 k := fun k => Nat.le_trans (hM k) (m11 k)
              have al_0 := lm m11 al_0
              have al12 : o7 < gn h9 0 := by rw [e8, e10]; exact gn_nw_lt _ _
              obtain ⟨φ, rfl⟩ : ∃ z, z = u := ⟨_, rfl⟩
              refine lv_dup hx hb dX11_batch_88 rfl ?_
              refine lv_iload_n hx hb dX11_batch_89 rfl (lv_at hl 2 rfl) ?_
              refine lv_iload_n hx hb dX11_batch_90 rfl (lv_at hl 3 rfl) ?_
              refine lv_iload_n hx hb dX11_batch_91 rfl (lv_at hl 4 rfl) ?_
              refine lv_iload hx hb dX11_batch_92 (lv_at hl 5 rfl) ?_
              obtain ⟨h14, e13, hF⟩ := bn hF
              refine rc_va (Af := fun φ => [.ref (φ 0 o7), .int a1, .int a2, .int a3, .int a4]) X hW hS ⟨Nat.le_of_ble_eq_true rfl, Nat.le_of_ble_eq_true rfl⟩ (rn_I (k := 0) (i := o7) (As := [.int a1, .int a2, .int a3, .int a4]) (rest := [.ref (φ 0 o7)]) X hW hS cw_11_277 ⟨Nat.le_of_ble_eq_true rfl, Nat.le_of_ble_eq_true rfl⟩ rfl hl.1 rfl (Nat.le_of_ble_eq_true rfl) dX11_batch_94) (ok_X0_init o7 a1 a2 a3 a4 al12 e13) (fun u H locs hu hW hS => ?_)
              have m15 : ∀ k, gn h9 k ≤ gn h14 k := mst_tr rfl (mono_X0_init e13)
              have hl : lv_has ls 8 [(6, .int t0_32), (0, .ref (u 11 i0)), (1, .int a1), (2, .int a2), (3, .int a3), (4, .int a4), (5, .int a5)] := by rw [hu 11 i0 al_0]; exact hl
              refine stq (st1 := [.ref (u 0 o7)]) (by rw [hu 0 o7 al12]) ?_
              have hU : ∀ k i, i < gn h k → u k i = φ0 k i := fun k i hi => (hu k i (Nat.lt_of_lt_of_le hi (hM k))).trans (hU k i hi)
              have hM : ∀ k, gn h k ≤ gn h14 k := fun k => Nat.le_trans (hM k) (m15 k)
              have al_0 := lm m15 al_0
              have al12 := lm m15 al12
              obtain ⟨φ, rfl⟩ : ∃ z, z = u := ⟨_, rfl⟩
              refine lv_astore (lv' := [(7, .ref (φ 0 o7)), (6, .int t0_32), (0, .ref (φ 11 i0)), (1, .int a1), (2, .int a2), (3, .int a3), (4, .int a4), (5, .int a5)]) hx hb dX11_batch_97 hl (by decide) rfl (fun ls hl => ?_)
              refine lv_aload hx hb dX11_batch_99 (lv_at hl 0 rfl) ?_
              refine lv_aload_n hx hb dX11_batch_101 rfl (lv_at hl 2 rfl) ?_
              obtain ⟨o16, e17, hF⟩ := bn hF
              refine r_getr X hW al_0 fl_11_16 e17 dX11_batch_102 (fun al18 => ?_)
              refine lv_iload hx hb dX11_batch_105 (lv_at hl 7 rfl) ?_
              obtain ⟨h20, e19, hF⟩ := bn hF
              refine rc_va (Af := fun φ => [.ref (φ 0 o7), .ref (φ 2 o16), .int a5]) X hW hS ⟨Nat.le_of_ble_eq_true rfl, Nat.le_of_ble_eq_true rfl⟩ (rn_V (As := [.ref (φ 2 o16), .int a5]) (rest := []) X hW hS cw_11_278 al12 rfl rfl rfl ⟨Nat.le_of_ble_eq_true rfl, Nat.le_of_ble_eq_true rfl⟩ rfl hl.1 rfl (Nat.le_of_ble_eq_true rfl) dX11_batch_107) (ok_X0_workOut o7 o16 a5 al12 al18 e19) (fun u H locs hu hW hS => ?_)
              have m21 : ∀ k, gn h14 k ≤ gn h20 k := mst_tr rfl (mono_X0_workOut e19)
              have hl : lv_has ls 8 [(7, .ref (u 0 o7)), (6, .int t0_32), (0, .ref (u 11 i0)), (1, .int a1), (2, .int a2), (3, .int a3), (4, .int a4), (5, .int a5)] := by rw [hu 0 o7 al12, hu 11 i0 al_0]; exact hl
              have hU : ∀ k i, i < gn h k → u k i = φ0 k i := fun k i hi => (hu k i (Nat.lt_of_lt_of_le hi (hM k))).trans (hU k i hi)
              have hM : ∀ k, gn h k ≤ gn h20 k := fun k => Nat.le_trans (hM k) (m21 k)
              have al12 := lm m21 al12
              have al_0 := lm m21 al_0
              obtain ⟨φ, rfl⟩ : ∃ z, z = u := ⟨_, rfl⟩
              refine lv_aload_n hx hb dX11_batch_110 rfl (lv_at hl 2 rfl) ?_
              obtain ⟨o22, e23, hF⟩ := bn hF
              refine r_getr X hW al_0 fl_11_49 e23 dX11_batch_111 (fun al24 => ?_)
              refine lv_aload_n hx hb dX11_batch_114 rfl (lv_at hl 2 rfl) ?_
              refine r_geti X hW al_0 fl_11_274 dX11_batch_115 ?_
              refine lv_aload hx hb dX11_batch_118 (lv_at hl 0 rfl) ?_
              obtain ⟨h25, e26, hF⟩ := bn hF
              obtain ⟨b27, e26⟩ := sar_s e26
              refine r_aast (t0 := 5) X hW hS al24 rfl rfl rfl rfl al12 b27 dX11_batch_120 (fun H locs hW hS => ?_)
              have hW := nmW e26 hW
              have m28 : ∀ k, gn h20 k ≤ gn h25 k := mst_sr rfl e26
              have hM : ∀ k, gn h k ≤ gn h25 k := fun k => Nat.le_trans (hM k) (m28 k)
              have al12 := lm m28 al12
              have al_0 := lm m28 al_0
              refine lv_aload_n hx hb dX11_batch_121 rfl (lv_at hl 2 rfl) ?_
              refine lv_dup hx hb dX11_batch_122 rfl ?_
              refine r_geti X hW al_0 fl_11_274 dX11_batch_123 ?_
              refine lv_iconst (v := 1) hx hb dX11_batch_126 (by decide) ?_
              refine lv_iadd hx hb dX11_batch_127 ?_
              refine r_puti X hW hS al_0 fp_11_274 rfl rfl dX11_batch_128 (fun H locs hW hS => ?_)
              obtain ⟨h29, e30, hF⟩ := nmx hF
              have hW := nmW e30 hW
              have g31 : h29.2.2 = h25.2.2 := by rw [e30]; exact rfl
              refine lv_aload_n hx hb dX11_batch_131 rfl (lv_at hl 2 rfl) ?_
              refine r_geti X hW (gq g31 al_0) fl_11_274 dX11_batch_132 ?_
              refine lv_iconst (v := 1) hx hb dX11_batch_135 (by decide) ?_
              refine lv_isub hx hb dX11_batch_136 ?_
              obtain ⟨rfl, rfl⟩ := sj2 hF
              refine W.widen (k := 2) (n := 20) (Nat.le_of_ble_eq_true rfl) (Nat.le_of_ble_eq_true rfl) ?_
              exact hfin φ _ _ _ _ hU hW hS dX11_batch_137 -- g31
            · have hF := ie c32 hF
              refine lv_bipush (v := (-4)) hx hb dX11_batch_82 (by decide) ?_
              obtain ⟨rfl, rfl⟩ := sj2 hF
              refine W.widen (k := 2) (n := 20) (Nat.le_of_ble_eq_true rfl) (Nat.le_of_ble_eq_true rfl) ?_
              exact hfin φ _ _ _ _ hU hW hS dX11_batch_84 -- gj32
          · have hF := it c33 hF
            refine lv_bipush (v := (-2)) hx hb dX11_batch_70 (by decide) ?_
            obtain ⟨rfl, rfl⟩ := sj2 hF
            refine W.widen (k := 2) (n := 20) (Nat.le_of_ble_eq_true rfl) (Nat.le_of_ble_eq_true rfl) ?_
            exact hfin φ _ _ _ _ hU hW hS dX11_batch_72 -- gj32
  refine lv_iload_n hx hb dX11_batch_0 rfl (lv_at hl 3 rfl) ?_
  refine lv_iconst (v := 0) hx hb dX11_batch_1 (by decide) ?_
  refine lv_bipush (v := 100) hx hb dX11_batch_2 (by decide) ?_
  obtain ⟨x38, e37, hF⟩ := bn hF
  refine rc_i (Af := fun φ => [.int a3, .int 0, .int 100]) X hW hS ⟨Nat.le_of_ble_eq_true rfl, Nat.le_of_ble_eq_true rfl⟩ (rn_S (As := [.int a3, .int 0, .int 100]) (rest := []) X hW hS cw_11_81 ⟨Nat.le_of_ble_eq_true rfl, Nat.le_of_ble_eq_true rfl⟩ rfl hl.1 rfl (Nat.le_of_ble_eq_true rfl) dX11_batch_4) (ok_X11_isFrom a3 0 100 e37) (fun H locs hW hS => ?_)
  refine lv_if_eq (tgt := 31) hx hb dX11_batch_7 (by decide) (fun c43 => ?_) (fun c43 => ?_)
  · have hF := it c43 hF
    refine lv_iconst (v := 0) hx hb dX11_batch_31 (by decide) ?_
    exact j_32 0 h _ _ _ rfl hF hW hS (lv_sub hl [0, 1, 2, 3, 4, 5] rfl)
  · have hF := ie c43 hF
    refine lv_iload hx hb dX11_batch_10 (lv_at hl 4 rfl) ?_
    refine lv_iconst (v := 0) hx hb dX11_batch_12 (by decide) ?_
    refine lv_bipush (v := 100) hx hb dX11_batch_13 (by decide) ?_
    obtain ⟨x40, e39, hF⟩ := bn hF
    refine rc_i (Af := fun φ => [.int a4, .int 0, .int 100]) X hW hS ⟨Nat.le_of_ble_eq_true rfl, Nat.le_of_ble_eq_true rfl⟩ (rn_S (As := [.int a4, .int 0, .int 100]) (rest := []) X hW hS cw_11_81 ⟨Nat.le_of_ble_eq_true rfl, Nat.le_of_ble_eq_true rfl⟩ rfl hl.1 rfl (Nat.le_of_ble_eq_true rfl) dX11_batch_15) (ok_X11_isFrom a4 0 100 e39) (fun H locs hW hS => ?_)
    refine lv_if_eq (tgt := 31) hx hb dX11_batch_18 (by decide) (fun c42 => ?_) (fun c42 => ?_)
    · have hF := it c42 hF
      refine lv_iconst (v := 0) hx hb dX11_batch_31 (by decide) ?_
      exact j_32 0 h _ _ _ rfl hF hW hS (lv_sub hl [0, 1, 2, 3, 4, 5] rfl)
    · have hF := ie c42 hF
      refine lv_iload_n hx hb dX11_batch_21 rfl (lv_at hl 3 rfl) ?_
      refine lv_iload hx hb dX11_batch_22 (lv_at hl 4 rfl) ?_
      refine lv_icmp_gt (tgt := 31) hx hb dX11_batch_24 (by decide) (fun c41 => ?_) (fun c41 => ?_)
      · have hF := it c41 hF
        refine lv_iconst (v := 0) hx hb dX11_batch_31 (by decide) ?_
        exact j_32 0 h _ _ _ rfl hF hW hS (lv_sub hl [0, 1, 2, 3, 4, 5] rfl)
      · have hF := ie c41 hF
        refine lv_iconst (v := 1) hx hb dX11_batch_27 (by decide) ?_
        refine lv_goto (tgt := 32) hx hb dX11_batch_28 (by decide) ?_
        exact j_32 1 h _ _ _ rfl hF hW hS (lv_sub hl [0, 1, 2, 3, 4, 5] rfl)
def F_X12_init (i0 : Nat) (h : HP) : Option (HP) :=
  nm (gn h 45) fun o1 => nm (nw h 45) fun h3 =>
  nm (sr h3 12 i0 0 (some o1)) fun h7 =>
  nm (gn h7 46) fun o10 => nm (nw h7 46) fun h12 =>
  nm (sr h12 12 i0 1 (some o10)) fun h16 =>
  nm (gn h16 47) fun o19 => nm (nw h16 47) fun h21 =>
  nm (sr h21 12 i0 2 (some o19)) fun h25 =>
  nm (gn h25 48) fun o28 => nm (nw h25 48) fun h30 =>
  nm (sr h30 12 i0 3 (some o28)) fun h34 =>
  nm (gn h34 49) fun o37 => nm (nw h34 49) fun h39 =>
  nm (sr h39 12 i0 7 (some o37)) fun h43 =>
  nm (gn h43 50) fun o46 => nm (nw h43 50) fun h48 =>
  nm (sr h48 12 i0 9 (some o46)) fun h52 =>
  nm (gn h52 51) fun o55 => nm (nw h52 51) fun h57 =>
  nm (sr h57 12 i0 10 (some o55)) fun h61 =>
  nm (gn h61 52) fun o64 => nm (nw h61 52) fun h66 =>
  nm (sr h66 12 i0 11 (some o64)) fun h70 =>
  nm (gn h70 53) fun o73 => nm (nw h70 53) fun h75 =>
  nm (sr h75 12 i0 12 (some o73)) fun h79 =>
  nm (gn h79 54) fun o82 => nm (nw h79 54) fun h84 =>
  nm (sr h84 12 i0 13 (some o82)) fun h88 =>
  nm (gn h88 55) fun o91 => nm (nw h88 55) fun h93 =>
  nm (sr h93 12 i0 14 (some o91)) fun h97 =>
  nm (gn h97 56) fun o100 => nm (nw h97 56) fun h102 =>
  nm (sr h102 12 i0 15 (some o100)) fun h106 =>
  nm (gn h106 57) fun o109 => nm (nw h106 57) fun h111 =>
  nm (sr h111 12 i0 16 (some o109)) fun h115 =>
  nm (gn h115 58) fun o118 => nm (nw h115 58) fun h120 =>
  nm (sr h120 12 i0 17 (some o118)) fun h124 =>
  nm (gn h124 59) fun o127 => nm (nw h124 59) fun h129 =>
  nm (sr h129 12 i0 18 (some o127)) fun h133 =>
  nm (gn h133 60) fun o136 => nm (nw h133 60) fun h138 =>
  nm (sr h138 12 i0 19 (some o136)) fun h142 =>
  nm (gn h142 61) fun o145 => nm (nw h142 61) fun h147 =>
  nm (sr h147 12 i0 20 (some o145)) fun h151 =>
  nm (gn h151 62) fun o154 => nm (nw h151 62) fun h156 =>
  nm (sr h156 12 i0 24 (some o154)) fun h160 =>
  nm (gn h160 63) fun o163 => nm (nw h160 63) fun h165 =>
  nm (sr h165 12 i0 25 (some o163)) fun h169 =>
  nm (gn h169 64) fun o172 => nm (nw h169 64) fun h174 =>
  nm (sr h174 12 i0 26 (some o172)) fun h178 =>
  nm (gn h178 65) fun o181 => nm (nw h178 65) fun h183 =>
  nm (sr h183 12 i0 27 (some o181)) fun h187 =>
  nm (gn h187 66) fun o190 => nm (nw h187 66) fun h192 =>
  nm (sr h192 12 i0 29 (some o190)) fun h196 =>
  nm (gn h196 67) fun o199 => nm (nw h196 67) fun h201 =>
  nm (sr h201 12 i0 30 (some o199)) fun h205 =>
  nm (gn h205 68) fun o208 => nm (nw h205 68) fun h210 =>
  nm (sr h210 12 i0 31 (some o208)) fun h214 =>
  nm (gn h214 69) fun o217 => nm (nw h214 69) fun h219 =>
  nm (sr h219 12 i0 32 (some o217)) fun h223 =>
  nm (gn h223 70) fun o226 => nm (nw h223 70) fun h228 =>
  nm (sr h228 12 i0 33 (some o226)) fun h232 =>
  nm (gn h232 71) fun o235 => nm (nw h232 71) fun h237 =>
  nm (sr h237 12 i0 34 (some o235)) fun h241 =>
  nm (si h241 12 i0 37 20) fun h244 =>
  nm (si h244 12 i0 38 2741) fun h247 =>
  nm (gn h247 72) fun o250 => nm (nw h247 72) fun h252 =>
  nm (sr h252 12 i0 40 (some o250)) fun h256 =>
  nm (gn h256 73) fun o259 => nm (nw h256 73) fun h261 =>
  nm (sr h261 12 i0 41 (some o259)) fun h265 =>
  nm (gn h265 74) fun o268 => nm (nw h265 74) fun h270 =>
  nm (sr h270 12 i0 42 (some o268)) fun h274 =>
  nm (gn h274 75) fun o277 => nm (nw h274 75) fun h279 =>
  nm (sr h279 12 i0 43 (some o277)) fun h283 =>
  nm (gn h283 76) fun o286 => nm (nw h283 76) fun h288 =>
  nm (sr h288 12 i0 44 (some o286)) fun h292 =>
  nm (gn h292 77) fun o295 => nm (nw h292 77) fun h297 =>
  nm (sr h297 12 i0 49 (some o295)) fun h301 =>
  nm (gn h301 78) fun o304 => nm (nw h301 78) fun h306 =>
  nm (sr h306 12 i0 53 (some o304)) fun h310 =>
  nm (gn h310 79) fun o313 => nm (nw h310 79) fun h315 =>
  nm (sr h315 12 i0 55 (some o313)) fun h319 =>
  nm (gn h319 80) fun o322 => nm (nw h319 80) fun h324 =>
  nm (sr h324 12 i0 56 (some o322)) fun h328 =>
  nm (gn h328 81) fun o331 => nm (nw h328 81) fun h333 =>
  nm (sr h333 12 i0 57 (some o331)) fun h337 =>
  nm (gn h337 82) fun o340 => nm (nw h337 82) fun h342 =>
  nm (sr h342 12 i0 58 (some o340)) fun h346 =>
  nm (gn h346 83) fun o349 => nm (nw h346 83) fun h351 =>
  nm (sr h351 12 i0 59 (some o349)) fun h355 =>
  (gr h355 12 i0 0).bind fun o358 =>
  (sa h355 45 o358 4 0 (-1)).bind fun h361 =>
  (gr h361 12 i0 0).bind fun o365 =>
  (sa h361 45 o365 4 1 (-1)).bind fun h368 =>
  (gr h368 12 i0 0).bind fun o372 =>
  (sa h368 45 o372 4 2 (-1)).bind fun h375 =>
  (gr h375 12 i0 0).bind fun o379 =>
  (sa h375 45 o379 4 3 (-1)).bind fun h382 =>
  (gr h382 12 i0 59).bind fun o386 =>
  (sa h382 83 o386 5 0 0).bind fun h389 =>
  (gr h389 12 i0 59).bind fun o393 =>
  (sa h389 83 o393 5 1 1).bind fun h396 =>
  (gr h396 12 i0 59).bind fun o400 =>
  (sa h396 83 o400 5 2 2).bind fun h403 =>
  (gr h403 12 i0 59).bind fun o407 =>
  (sa h403 83 o407 5 3 3).bind fun h410 =>
  (gr h410 12 i0 59).bind fun o414 =>
  (sa h410 83 o414 5 4 4).bind fun h417 =>
  some h417
set_option maxHeartbeats 4000000 in
set_option maxRecDepth 100000 in
theorem ok_X12_init {l : Launch} {D : va_G} {cA : Nat → ClassId} {h : HP}  {d : HP} (i0 : Nat) (al_0 : i0 < gn h 12) (hF : F_X12_init i0 h = some d) : MVa l D cA yX12_init cX12_init 2 none 1 30 39 1989 (fun φ => [.ref (φ 12 i0)]) h d := by
  refine mk_Va (plainFor_of_name (by decide)) (fun φ => Nat.le_of_ble_eq_true rfl) ?_
  intro p e s m args below meth c ls φ0 A Q X hW hS hl hin hfin
  obtain ⟨φ, hφ⟩ : ∃ z : Nat → Nat → Nat, z = φ0 := ⟨_, rfl⟩
  have hU : ∀ k i, i < gn h k → φ k i = φ0 k i := fun k i _ => by rw [hφ]
  have hM : ∀ k, gn h k ≤ gn h k := fun k => Nat.le_refl _
  rw [← hφ] at hW hl
  have hx := X.1
  have hb := X.2.1
  have hl : lv_has ls 2 [(0, .ref (φ 12 i0))] := hl
  unfold F_X12_init at hF
  refine lv_aload_n hx hb dX12_init_0 rfl (lv_at hl 0 rfl) ?_
  refine W.objInit hx hb X.2.2.2.1 (X.2.2.2.2.1 _ (AL_of 986 (by decide +kernel) rfl)) (X.2.2.2.2.1 _ (AL_of 24 (by decide +kernel) rfl)) (X.2.2.2.2.1 _ (AL_of 25 (by decide +kernel) rfl)) rfl (by rw [X.2.2.1]; exact hl.1) rfl dX12_init_1 (Nat.le_of_ble_eq_true rfl) (Nat.le_of_ble_eq_true rfl) ?_
  refine W.eq (g2 := F0 m 4 ls []) rfl ?_
  refine lv_aload_n hx hb dX12_init_4 rfl (lv_at hl 0 rfl) ?_
  refine lv_iconst (v := 4) hx hb dX12_init_5 (by decide) ?_
  refine r_newi (k := 45) (N := 4) X hW hS rfl (by decide) (by decide) (Nat.le_of_ble_eq_true rfl) ⟨Nat.le_of_ble_eq_true rfl, Nat.le_of_ble_eq_true rfl⟩ dX12_init_6 (AL_of 55 (by decide +kernel) rfl) (fun u H hu hW hS => ?_)
  obtain ⟨o1, e2, hF⟩ := nmx hF
  obtain ⟨h3, e4, hF⟩ := nmx hF
  have hW := nmW e4 hW
  have m5 : ∀ k, gn h k ≤ gn h3 k := mst_nw rfl e4
  have hl : lv_has ls 2 [(0, .ref (u 12 i0))] := by rw [hu 12 i0 al_0]; exact hl
  refine stq (st1 := [.ref (u 45 o1), .ref (u 12 i0)]) (by rw [e2, hu 12 i0 al_0]) ?_
  have hU : ∀ k i, i < gn h k → u k i = φ0 k i := fun k i hi => (hu k i (Nat.lt_of_lt_of_le hi (hM k))).trans (hU k i hi)
  have hM : ∀ k, gn h k ≤ gn h3 k := fun k => Nat.le_trans (hM k) (m5 k)
  have al_0 := lm m5 al_0
  have al6 : o1 < gn h3 45 := by rw [e2, e4]; exact gn_nw_lt _ _
  obtain ⟨φ, rfl⟩ : ∃ z, z = u := ⟨_, rfl⟩
  refine r_putrF X hW hS hin al_0 al6 fp_12_7 rfl rfl dX12_init_8 (fun H locs hW hS => ?_)
  obtain ⟨h7, e8, hF⟩ := nmx hF
  have hW := nmW e8 hW
  have m9 : ∀ k, gn h3 k ≤ gn h7 k := mst_sr rfl e8
  have hM : ∀ k, gn h k ≤ gn h7 k := fun k => Nat.le_trans (hM k) (m9 k)
  have al_0 := lm m9 al_0
  refine lv_aload_n hx hb dX12_init_11 rfl (lv_at hl 0 rfl) ?_
  refine lv_iconst (v := 4) hx hb dX12_init_12 (by decide) ?_
  refine r_newi (k := 46) (N := 4) X hW hS rfl (by decide) (by decide) (Nat.le_of_ble_eq_true rfl) ⟨Nat.le_of_ble_eq_true rfl, Nat.le_of_ble_eq_true rfl⟩ dX12_init_13 (AL_of 55 (by decide +kernel) rfl) (fun u H hu hW hS => ?_)
  obtain ⟨o10, e11, hF⟩ := nmx hF
  obtain ⟨h12, e13, hF⟩ := nmx hF
  have hW := nmW e13 hW
  have m14 : ∀ k, gn h7 k ≤ gn h12 k := mst_nw rfl e13
  have hl : lv_has ls 2 [(0, .ref (u 12 i0))] := by rw [hu 12 i0 al_0]; exact hl
  refine stq (st1 := [.ref (u 46 o10), .ref (u 12 i0)]) (by rw [e11, hu 12 i0 al_0]) ?_
  have hU : ∀ k i, i < gn h k → u k i = φ0 k i := fun k i hi => (hu k i (Nat.lt_of_lt_of_le hi (hM k))).trans (hU k i hi)
  have hM : ∀ k, gn h k ≤ gn h12 k := fun k => Nat.le_trans (hM k) (m14 k)
  have al_0 := lm m14 al_0
  have al15 : o10 < gn h12 46 := by rw [e11, e13]; exact gn_nw_lt _ _
  obtain ⟨φ, rfl⟩ : ∃ z, z = u := ⟨_, rfl⟩
  refine r_putrF X hW hS hin al_0 al15 fp_12_13 rfl rfl dX12_init_15 (fun H locs hW hS => ?_)
  obtain ⟨h16, e17, hF⟩ := nmx hF
  have hW := nmW e17 hW
  have m18 : ∀ k, gn h12 k ≤ gn h16 k := mst_sr rfl e17
  have hM : ∀ k, gn h k ≤ gn h16 k := fun k => Nat.le_trans (hM k) (m18 k)
  have al_0 := lm m18 al_0
  refine lv_aload_n hx hb dX12_init_18 rfl (lv_at hl 0 rfl) ?_
  refine lv_sipush (v := 240) hx hb dX12_init_19 (by decide) ?_
  refine r_newi (k := 47) (N := 240) X hW hS rfl (by decide) (by decide) (Nat.le_of_ble_eq_true rfl) ⟨Nat.le_of_ble_eq_true rfl, Nat.le_of_ble_eq_true rfl⟩ dX12_init_22 (AL_of 55 (by decide +kernel) rfl) (fun u H hu hW hS => ?_)
  obtain ⟨o19, e20, hF⟩ := nmx hF
  obtain ⟨h21, e22, hF⟩ := nmx hF
  have hW := nmW e22 hW
  have m23 : ∀ k, gn h16 k ≤ gn h21 k := mst_nw rfl e22
  have hl : lv_has ls 2 [(0, .ref (u 12 i0))] := by rw [hu 12 i0 al_0]; exact hl
  refine stq (st1 := [.ref (u 47 o19), .ref (u 12 i0)]) (by rw [e20, hu 12 i0 al_0]) ?_
  have hU : ∀ k i, i < gn h k → u k i = φ0 k i := fun k i hi => (hu k i (Nat.lt_of_lt_of_le hi (hM k))).trans (hU k i hi)
  have hM : ∀ k, gn h k ≤ gn h21 k := fun k => Nat.le_trans (hM k) (m23 k)
  have al_0 := lm m23 al_0
  have al24 : o19 < gn h21 47 := by rw [e20, e22]; exact gn_nw_lt _ _
  obtain ⟨φ, rfl⟩ : ∃ z, z = u := ⟨_, rfl⟩
  refine r_putrF X hW hS hin al_0 al24 fp_12_16 rfl rfl dX12_init_24 (fun H locs hW hS => ?_)
  obtain ⟨h25, e26, hF⟩ := nmx hF
  have hW := nmW e26 hW
  have m27 : ∀ k, gn h21 k ≤ gn h25 k := mst_sr rfl e26
  have hM : ∀ k, gn h k ≤ gn h25 k := fun k => Nat.le_trans (hM k) (m27 k)
  have al_0 := lm m27 al_0
  refine lv_aload_n hx hb dX12_init_27 rfl (lv_at hl 0 rfl) ?_
  refine lv_bipush (v := 60) hx hb dX12_init_28 (by decide) ?_
  refine r_newi (k := 48) (N := 60) X hW hS rfl (by decide) (by decide) (Nat.le_of_ble_eq_true rfl) ⟨Nat.le_of_ble_eq_true rfl, Nat.le_of_ble_eq_true rfl⟩ dX12_init_30 (AL_of 55 (by decide +kernel) rfl) (fun u H hu hW hS => ?_)
  obtain ⟨o28, e29, hF⟩ := nmx hF
  obtain ⟨h30, e31, hF⟩ := nmx hF
  have hW := nmW e31 hW
  have m32 : ∀ k, gn h25 k ≤ gn h30 k := mst_nw rfl e31
  have hl : lv_has ls 2 [(0, .ref (u 12 i0))] := by rw [hu 12 i0 al_0]; exact hl
  refine stq (st1 := [.ref (u 48 o28), .ref (u 12 i0)]) (by rw [e29, hu 12 i0 al_0]) ?_
  have hU : ∀ k i, i < gn h k → u k i = φ0 k i := fun k i hi => (hu k i (Nat.lt_of_lt_of_le hi (hM k))).trans (hU k i hi)
  have hM : ∀ k, gn h k ≤ gn h30 k := fun k => Nat.le_trans (hM k) (m32 k)
  have al_0 := lm m32 al_0
  have al33 : o28 < gn h30 48 := by rw [e29, e31]; exact gn_nw_lt _ _
  obtain ⟨φ, rfl⟩ : ∃ z, z = u := ⟨_, rfl⟩
  refine r_putrF X hW hS hin al_0 al33 fp_12_19 rfl rfl dX12_init_32 (fun H locs hW hS => ?_)
  obtain ⟨h34, e35, hF⟩ := nmx hF
  have hW := nmW e35 hW
  have m36 : ∀ k, gn h30 k ≤ gn h34 k := mst_sr rfl e35
  have hM : ∀ k, gn h k ≤ gn h34 k := fun k => Nat.le_trans (hM k) (m36 k)
  have al_0 := lm m36 al_0
  refine lv_aload_n hx hb dX12_init_35 rfl (lv_at hl 0 rfl) ?_
  refine lv_bipush (v := 8) hx hb dX12_init_36 (by decide) ?_
  refine r_newi (k := 49) (N := 8) X hW hS rfl (by decide) (by decide) (Nat.le_of_ble_eq_true rfl) ⟨Nat.le_of_ble_eq_true rfl, Nat.le_of_ble_eq_true rfl⟩ dX12_init_38 (AL_of 55 (by decide +kernel) rfl) (fun u H hu hW hS => ?_)
  obtain ⟨o37, e38, hF⟩ := nmx hF
  obtain ⟨h39, e40, hF⟩ := nmx hF
  have hW := nmW e40 hW
  have m41 : ∀ k, gn h34 k ≤ gn h39 k := mst_nw rfl e40
  have hl : lv_has ls 2 [(0, .ref (u 12 i0))] := by rw [hu 12 i0 al_0]; exact hl
  refine stq (st1 := [.ref (u 49 o37), .ref (u 12 i0)]) (by rw [e38, hu 12 i0 al_0]) ?_
  have hU : ∀ k i, i < gn h k → u k i = φ0 k i := fun k i hi => (hu k i (Nat.lt_of_lt_of_le hi (hM k))).trans (hU k i hi)
  have hM : ∀ k, gn h k ≤ gn h39 k := fun k => Nat.le_trans (hM k) (m41 k)
  have al_0 := lm m41 al_0
  have al42 : o37 < gn h39 49 := by rw [e38, e40]; exact gn_nw_lt _ _
  obtain ⟨φ, rfl⟩ : ∃ z, z = u := ⟨_, rfl⟩
  refine r_putrF X hW hS hin al_0 al42 fp_12_22 rfl rfl dX12_init_40 (fun H locs hW hS => ?_)
  obtain ⟨h43, e44, hF⟩ := nmx hF
  have hW := nmW e44 hW
  have m45 : ∀ k, gn h39 k ≤ gn h43 k := mst_sr rfl e44
  have hM : ∀ k, gn h k ≤ gn h43 k := fun k => Nat.le_trans (hM k) (m45 k)
  have al_0 := lm m45 al_0
  refine lv_aload_n hx hb dX12_init_43 rfl (lv_at hl 0 rfl) ?_
  refine lv_bipush (v := 20) hx hb dX12_init_44 (by decide) ?_
  refine r_newi (k := 50) (N := 20) X hW hS rfl (by decide) (by decide) (Nat.le_of_ble_eq_true rfl) ⟨Nat.le_of_ble_eq_true rfl, Nat.le_of_ble_eq_true rfl⟩ dX12_init_46 (AL_of 55 (by decide +kernel) rfl) (fun u H hu hW hS => ?_)
  obtain ⟨o46, e47, hF⟩ := nmx hF
  obtain ⟨h48, e49, hF⟩ := nmx hF
  have hW := nmW e49 hW
  have m50 : ∀ k, gn h43 k ≤ gn h48 k := mst_nw rfl e49
  have hl : lv_has ls 2 [(0, .ref (u 12 i0))] := by rw [hu 12 i0 al_0]; exact hl
  refine stq (st1 := [.ref (u 50 o46), .ref (u 12 i0)]) (by rw [e47, hu 12 i0 al_0]) ?_
  have hU : ∀ k i, i < gn h k → u k i = φ0 k i := fun k i hi => (hu k i (Nat.lt_of_lt_of_le hi (hM k))).trans (hU k i hi)
  have hM : ∀ k, gn h k ≤ gn h48 k := fun k => Nat.le_trans (hM k) (m50 k)
  have al_0 := lm m50 al_0
  have al51 : o46 < gn h48 50 := by rw [e47, e49]; exact gn_nw_lt _ _
  obtain ⟨φ, rfl⟩ : ∃ z, z = u := ⟨_, rfl⟩
  refine r_putrF X hW hS hin al_0 al51 fp_12_25 rfl rfl dX12_init_48 (fun H locs hW hS => ?_)
  obtain ⟨h52, e53, hF⟩ := nmx hF
  have hW := nmW e53 hW
  have m54 : ∀ k, gn h48 k ≤ gn h52 k := mst_sr rfl e53
  have hM : ∀ k, gn h k ≤ gn h52 k := fun k => Nat.le_trans (hM k) (m54 k)
  have al_0 := lm m54 al_0
  refine lv_aload_n hx hb dX12_init_51 rfl (lv_at hl 0 rfl) ?_
  refine lv_bipush (v := 20) hx hb dX12_init_52 (by decide) ?_
  refine r_newi (k := 51) (N := 20) X hW hS rfl (by decide) (by decide) (Nat.le_of_ble_eq_true rfl) ⟨Nat.le_of_ble_eq_true rfl, Nat.le_of_ble_eq_true rfl⟩ dX12_init_54 (AL_of 55 (by decide +kernel) rfl) (fun u H hu hW hS => ?_)
  obtain ⟨o55, e56, hF⟩ := nmx hF
  obtain ⟨h57, e58, hF⟩ := nmx hF
  have hW := nmW e58 hW
  have m59 : ∀ k, gn h52 k ≤ gn h57 k := mst_nw rfl e58
  have hl : lv_has ls 2 [(0, .ref (u 12 i0))] := by rw [hu 12 i0 al_0]; exact hl
  refine stq (st1 := [.ref (u 51 o55), .ref (u 12 i0)]) (by rw [e56, hu 12 i0 al_0]) ?_
  have hU : ∀ k i, i < gn h k → u k i = φ0 k i := fun k i hi => (hu k i (Nat.lt_of_lt_of_le hi (hM k))).trans (hU k i hi)
  have hM : ∀ k, gn h k ≤ gn h57 k := fun k => Nat.le_trans (hM k) (m59 k)
  have al_0 := lm m59 al_0
  have al60 : o55 < gn h57 51 := by rw [e56, e58]; exact gn_nw_lt _ _
  obtain ⟨φ, rfl⟩ : ∃ z, z = u := ⟨_, rfl⟩
  refine r_putrF X hW hS hin al_0 al60 fp_12_28 rfl rfl dX12_init_56 (fun H locs hW hS => ?_)
  obtain ⟨h61, e62, hF⟩ := nmx hF
  have hW := nmW e62 hW
  have m63 : ∀ k, gn h57 k ≤ gn h61 k := mst_sr rfl e62
  have hM : ∀ k, gn h k ≤ gn h61 k := fun k => Nat.le_trans (hM k) (m63 k)
  have al_0 := lm m63 al_0
  refine lv_aload_n hx hb dX12_init_59 rfl (lv_at hl 0 rfl) ?_
  refine lv_bipush (v := 20) hx hb dX12_init_60 (by decide) ?_
  refine r_newi (k := 52) (N := 20) X hW hS rfl (by decide) (by decide) (Nat.le_of_ble_eq_true rfl) ⟨Nat.le_of_ble_eq_true rfl, Nat.le_of_ble_eq_true rfl⟩ dX12_init_62 (AL_of 55 (by decide +kernel) rfl) (fun u H hu hW hS => ?_)
  obtain ⟨o64, e65, hF⟩ := nmx hF
  obtain ⟨h66, e67, hF⟩ := nmx hF
  have hW := nmW e67 hW
  have m68 : ∀ k, gn h61 k ≤ gn h66 k := mst_nw rfl e67
  have hl : lv_has ls 2 [(0, .ref (u 12 i0))] := by rw [hu 12 i0 al_0]; exact hl
  refine stq (st1 := [.ref (u 52 o64), .ref (u 12 i0)]) (by rw [e65, hu 12 i0 al_0]) ?_
  have hU : ∀ k i, i < gn h k → u k i = φ0 k i := fun k i hi => (hu k i (Nat.lt_of_lt_of_le hi (hM k))).trans (hU k i hi)
  have hM : ∀ k, gn h k ≤ gn h66 k := fun k => Nat.le_trans (hM k) (m68 k)
  have al_0 := lm m68 al_0
  have al69 : o64 < gn h66 52 := by rw [e65, e67]; exact gn_nw_lt _ _
  obtain ⟨φ, rfl⟩ : ∃ z, z = u := ⟨_, rfl⟩
  refine r_putrF X hW hS hin al_0 al69 fp_12_31 rfl rfl dX12_init_64 (fun H locs hW hS => ?_)
  obtain ⟨h70, e71, hF⟩ := nmx hF
  have hW := nmW e71 hW
  have m72 : ∀ k, gn h66 k ≤ gn h70 k := mst_sr rfl e71
  have hM : ∀ k, gn h k ≤ gn h70 k := fun k => Nat.le_trans (hM k) (m72 k)
  have al_0 := lm m72 al_0
  refine lv_aload_n hx hb dX12_init_67 rfl (lv_at hl 0 rfl) ?_
  refine lv_bipush (v := 20) hx hb dX12_init_68 (by decide) ?_
  refine r_newi (k := 53) (N := 20) X hW hS rfl (by decide) (by decide) (Nat.le_of_ble_eq_true rfl) ⟨Nat.le_of_ble_eq_true rfl, Nat.le_of_ble_eq_true rfl⟩ dX12_init_70 (AL_of 55 (by decide +kernel) rfl) (fun u H hu hW hS => ?_)
  obtain ⟨o73, e74, hF⟩ := nmx hF
  obtain ⟨h75, e76, hF⟩ := nmx hF
  have hW := nmW e76 hW
  have m77 : ∀ k, gn h70 k ≤ gn h75 k := mst_nw rfl e76
  have hl : lv_has ls 2 [(0, .ref (u 12 i0))] := by rw [hu 12 i0 al_0]; exact hl
  refine stq (st1 := [.ref (u 53 o73), .ref (u 12 i0)]) (by rw [e74, hu 12 i0 al_0]) ?_
  have hU : ∀ k i, i < gn h k → u k i = φ0 k i := fun k i hi => (hu k i (Nat.lt_of_lt_of_le hi (hM k))).trans (hU k i hi)
  have hM : ∀ k, gn h k ≤ gn h75 k := fun k => Nat.le_trans (hM k) (m77 k)
  have al_0 := lm m77 al_0
  have al78 : o73 < gn h75 53 := by rw [e74, e76]; exact gn_nw_lt _ _
  obtain ⟨φ, rfl⟩ : ∃ z, z = u := ⟨_, rfl⟩
  refine r_putrF X hW hS hin al_0 al78 fp_12_34 rfl rfl dX12_init_72 (fun H locs hW hS => ?_)
  obtain ⟨h79, e80, hF⟩ := nmx hF
  have hW := nmW e80 hW
  have m81 : ∀ k, gn h75 k ≤ gn h79 k := mst_sr rfl e80
  have hM : ∀ k, gn h k ≤ gn h79 k := fun k => Nat.le_trans (hM k) (m81 k)
  have al_0 := lm m81 al_0
  refine lv_aload_n hx hb dX12_init_75 rfl (lv_at hl 0 rfl) ?_
  refine lv_bipush (v := 100) hx hb dX12_init_76 (by decide) ?_
  refine r_newi (k := 54) (N := 100) X hW hS rfl (by decide) (by decide) (Nat.le_of_ble_eq_true rfl) ⟨Nat.le_of_ble_eq_true rfl, Nat.le_of_ble_eq_true rfl⟩ dX12_init_78 (AL_of 55 (by decide +kernel) rfl) (fun u H hu hW hS => ?_)
  obtain ⟨o82, e83, hF⟩ := nmx hF
  obtain ⟨h84, e85, hF⟩ := nmx hF
  have hW := nmW e85 hW
  have m86 : ∀ k, gn h79 k ≤ gn h84 k := mst_nw rfl e85
  have hl : lv_has ls 2 [(0, .ref (u 12 i0))] := by rw [hu 12 i0 al_0]; exact hl
  refine stq (st1 := [.ref (u 54 o82), .ref (u 12 i0)]) (by rw [e83, hu 12 i0 al_0]) ?_
  have hU : ∀ k i, i < gn h k → u k i = φ0 k i := fun k i hi => (hu k i (Nat.lt_of_lt_of_le hi (hM k))).trans (hU k i hi)
  have hM : ∀ k, gn h k ≤ gn h84 k := fun k => Nat.le_trans (hM k) (m86 k)
  have al_0 := lm m86 al_0
  have al87 : o82 < gn h84 54 := by rw [e83, e85]; exact gn_nw_lt _ _
  obtain ⟨φ, rfl⟩ : ∃ z, z = u := ⟨_, rfl⟩
  refine r_putrF X hW hS hin al_0 al87 fp_12_37 rfl rfl dX12_init_80 (fun H locs hW hS => ?_)
  obtain ⟨h88, e89, hF⟩ := nmx hF
  have hW := nmW e89 hW
  have m90 : ∀ k, gn h84 k ≤ gn h88 k := mst_sr rfl e89
  have hM : ∀ k, gn h k ≤ gn h88 k := fun k => Nat.le_trans (hM k) (m90 k)
  have al_0 := lm m90 al_0
  refine lv_aload_n hx hb dX12_init_83 rfl (lv_at hl 0 rfl) ?_
  refine lv_bipush (v := 20) hx hb dX12_init_84 (by decide) ?_
  refine r_newi (k := 55) (N := 20) X hW hS rfl (by decide) (by decide) (Nat.le_of_ble_eq_true rfl) ⟨Nat.le_of_ble_eq_true rfl, Nat.le_of_ble_eq_true rfl⟩ dX12_init_86 (AL_of 55 (by decide +kernel) rfl) (fun u H hu hW hS => ?_)
  obtain ⟨o91, e92, hF⟩ := nmx hF
  obtain ⟨h93, e94, hF⟩ := nmx hF
  have hW := nmW e94 hW
  have m95 : ∀ k, gn h88 k ≤ gn h93 k := mst_nw rfl e94
  have hl : lv_has ls 2 [(0, .ref (u 12 i0))] := by rw [hu 12 i0 al_0]; exact hl
  refine stq (st1 := [.ref (u 55 o91), .ref (u 12 i0)]) (by rw [e92, hu 12 i0 al_0]) ?_
  have hU : ∀ k i, i < gn h k → u k i = φ0 k i := fun k i hi => (hu k i (Nat.lt_of_lt_of_le hi (hM k))).trans (hU k i hi)
  have hM : ∀ k, gn h k ≤ gn h93 k := fun k => Nat.le_trans (hM k) (m95 k)
  have al_0 := lm m95 al_0
  have al96 : o91 < gn h93 55 := by rw [e92, e94]; exact gn_nw_lt _ _
  obtain ⟨φ, rfl⟩ : ∃ z, z = u := ⟨_, rfl⟩
  refine r_putrF X hW hS hin al_0 al96 fp_12_40 rfl rfl dX12_init_88 (fun H locs hW hS => ?_)
  obtain ⟨h97, e98, hF⟩ := nmx hF
  have hW := nmW e98 hW
  have m99 : ∀ k, gn h93 k ≤ gn h97 k := mst_sr rfl e98
  have hM : ∀ k, gn h k ≤ gn h97 k := fun k => Nat.le_trans (hM k) (m99 k)
  have al_0 := lm m99 al_0
  refine lv_aload_n hx hb dX12_init_91 rfl (lv_at hl 0 rfl) ?_
  refine lv_bipush (v := 20) hx hb dX12_init_92 (by decide) ?_
  refine r_newi (k := 56) (N := 20) X hW hS rfl (by decide) (by decide) (Nat.le_of_ble_eq_true rfl) ⟨Nat.le_of_ble_eq_true rfl, Nat.le_of_ble_eq_true rfl⟩ dX12_init_94 (AL_of 55 (by decide +kernel) rfl) (fun u H hu hW hS => ?_)
  obtain ⟨o100, e101, hF⟩ := nmx hF
  obtain ⟨h102, e103, hF⟩ := nmx hF
  have hW := nmW e103 hW
  have m104 : ∀ k, gn h97 k ≤ gn h102 k := mst_nw rfl e103
  have hl : lv_has ls 2 [(0, .ref (u 12 i0))] := by rw [hu 12 i0 al_0]; exact hl
  refine stq (st1 := [.ref (u 56 o100), .ref (u 12 i0)]) (by rw [e101, hu 12 i0 al_0]) ?_
  have hU : ∀ k i, i < gn h k → u k i = φ0 k i := fun k i hi => (hu k i (Nat.lt_of_lt_of_le hi (hM k))).trans (hU k i hi)
  have hM : ∀ k, gn h k ≤ gn h102 k := fun k => Nat.le_trans (hM k) (m104 k)
  have al_0 := lm m104 al_0
  have al105 : o100 < gn h102 56 := by rw [e101, e103]; exact gn_nw_lt _ _
  obtain ⟨φ, rfl⟩ : ∃ z, z = u := ⟨_, rfl⟩
  refine r_putrF X hW hS hin al_0 al105 fp_12_43 rfl rfl dX12_init_96 (fun H locs hW hS => ?_)
  obtain ⟨h106, e107, hF⟩ := nmx hF
  have hW := nmW e107 hW
  have m108 : ∀ k, gn h102 k ≤ gn h106 k := mst_sr rfl e107
  have hM : ∀ k, gn h k ≤ gn h106 k := fun k => Nat.le_trans (hM k) (m108 k)
  have al_0 := lm m108 al_0
  refine lv_aload_n hx hb dX12_init_99 rfl (lv_at hl 0 rfl) ?_
  refine lv_bipush (v := 20) hx hb dX12_init_100 (by decide) ?_
  refine r_newi (k := 57) (N := 20) X hW hS rfl (by decide) (by decide) (Nat.le_of_ble_eq_true rfl) ⟨Nat.le_of_ble_eq_true rfl, Nat.le_of_ble_eq_true rfl⟩ dX12_init_102 (AL_of 55 (by decide +kernel) rfl) (fun u H hu hW hS => ?_)
  obtain ⟨o109, e110, hF⟩ := nmx hF
  obtain ⟨h111, e112, hF⟩ := nmx hF
  have hW := nmW e112 hW
  have m113 : ∀ k, gn h106 k ≤ gn h111 k := mst_nw rfl e112
  have hl : lv_has ls 2 [(0, .ref (u 12 i0))] := by rw [hu 12 i0 al_0]; exact hl
  refine stq (st1 := [.ref (u 57 o109), .ref (u 12 i0)]) (by rw [e110, hu 12 i0 al_0]) ?_
  have hU : ∀ k i, i < gn h k → u k i = φ0 k i := fun k i hi => (hu k i (Nat.lt_of_lt_of_le hi (hM k))).trans (hU k i hi)
  have hM : ∀ k, gn h k ≤ gn h111 k := fun k => Nat.le_trans (hM k) (m113 k)
  have al_0 := lm m113 al_0
  have al114 : o109 < gn h111 57 := by rw [e110, e112]; exact gn_nw_lt _ _
  obtain ⟨φ, rfl⟩ : ∃ z, z = u := ⟨_, rfl⟩
  refine r_putrF X hW hS hin al_0 al114 fp_12_46 rfl rfl dX12_init_104 (fun H locs hW hS => ?_)
  obtain ⟨h115, e116, hF⟩ := nmx hF
  have hW := nmW e116 hW
  have m117 : ∀ k, gn h111 k ≤ gn h115 k := mst_sr rfl e116
  have hM : ∀ k, gn h k ≤ gn h115 k := fun k => Nat.le_trans (hM k) (m117 k)
  have al_0 := lm m117 al_0
  refine lv_aload_n hx hb dX12_init_107 rfl (lv_at hl 0 rfl) ?_
  refine lv_bipush (v := 20) hx hb dX12_init_108 (by decide) ?_
  refine r_newi (k := 58) (N := 20) X hW hS rfl (by decide) (by decide) (Nat.le_of_ble_eq_true rfl) ⟨Nat.le_of_ble_eq_true rfl, Nat.le_of_ble_eq_true rfl⟩ dX12_init_110 (AL_of 55 (by decide +kernel) rfl) (fun u H hu hW hS => ?_)
  obtain ⟨o118, e119, hF⟩ := nmx hF
  obtain ⟨h120, e121, hF⟩ := nmx hF
  have hW := nmW e121 hW
  have m122 : ∀ k, gn h115 k ≤ gn h120 k := mst_nw rfl e121
  have hl : lv_has ls 2 [(0, .ref (u 12 i0))] := by rw [hu 12 i0 al_0]; exact hl
  refine stq (st1 := [.ref (u 58 o118), .ref (u 12 i0)]) (by rw [e119, hu 12 i0 al_0]) ?_
  have hU : ∀ k i, i < gn h k → u k i = φ0 k i := fun k i hi => (hu k i (Nat.lt_of_lt_of_le hi (hM k))).trans (hU k i hi)
  have hM : ∀ k, gn h k ≤ gn h120 k := fun k => Nat.le_trans (hM k) (m122 k)
  have al_0 := lm m122 al_0
  have al123 : o118 < gn h120 58 := by rw [e119, e121]; exact gn_nw_lt _ _
  obtain ⟨φ, rfl⟩ : ∃ z, z = u := ⟨_, rfl⟩
  refine r_putrF X hW hS hin al_0 al123 fp_12_49 rfl rfl dX12_init_112 (fun H locs hW hS => ?_)
  obtain ⟨h124, e125, hF⟩ := nmx hF
  have hW := nmW e125 hW
  have m126 : ∀ k, gn h120 k ≤ gn h124 k := mst_sr rfl e125
  have hM : ∀ k, gn h k ≤ gn h124 k := fun k => Nat.le_trans (hM k) (m126 k)
  have al_0 := lm m126 al_0
  refine lv_aload_n hx hb dX12_init_115 rfl (lv_at hl 0 rfl) ?_
  refine lv_sipush (v := 320) hx hb dX12_init_116 (by decide) ?_
  refine r_newi (k := 59) (N := 320) X hW hS rfl (by decide) (by decide) (Nat.le_of_ble_eq_true rfl) ⟨Nat.le_of_ble_eq_true rfl, Nat.le_of_ble_eq_true rfl⟩ dX12_init_119 (AL_of 55 (by decide +kernel) rfl) (fun u H hu hW hS => ?_)
  obtain ⟨o127, e128, hF⟩ := nmx hF
  obtain ⟨h129, e130, hF⟩ := nmx hF
  have hW := nmW e130 hW
  have m131 : ∀ k, gn h124 k ≤ gn h129 k := mst_nw rfl e130
  have hl : lv_has ls 2 [(0, .ref (u 12 i0))] := by rw [hu 12 i0 al_0]; exact hl
  refine stq (st1 := [.ref (u 59 o127), .ref (u 12 i0)]) (by rw [e128, hu 12 i0 al_0]) ?_
  have hU : ∀ k i, i < gn h k → u k i = φ0 k i := fun k i hi => (hu k i (Nat.lt_of_lt_of_le hi (hM k))).trans (hU k i hi)
  have hM : ∀ k, gn h k ≤ gn h129 k := fun k => Nat.le_trans (hM k) (m131 k)
  have al_0 := lm m131 al_0
  have al132 : o127 < gn h129 59 := by rw [e128, e130]; exact gn_nw_lt _ _
  obtain ⟨φ, rfl⟩ : ∃ z, z = u := ⟨_, rfl⟩
  refine r_putrF X hW hS hin al_0 al132 fp_12_52 rfl rfl dX12_init_121 (fun H locs hW hS => ?_)
  obtain ⟨h133, e134, hF⟩ := nmx hF
  have hW := nmW e134 hW
  have m135 : ∀ k, gn h129 k ≤ gn h133 k := mst_sr rfl e134
  have hM : ∀ k, gn h k ≤ gn h133 k := fun k => Nat.le_trans (hM k) (m135 k)
  have al_0 := lm m135 al_0
  refine lv_aload_n hx hb dX12_init_124 rfl (lv_at hl 0 rfl) ?_
  refine lv_sipush (v := 320) hx hb dX12_init_125 (by decide) ?_
  refine r_newi (k := 60) (N := 320) X hW hS rfl (by decide) (by decide) (Nat.le_of_ble_eq_true rfl) ⟨Nat.le_of_ble_eq_true rfl, Nat.le_of_ble_eq_true rfl⟩ dX12_init_128 (AL_of 55 (by decide +kernel) rfl) (fun u H hu hW hS => ?_)
  obtain ⟨o136, e137, hF⟩ := nmx hF
  obtain ⟨h138, e139, hF⟩ := nmx hF
  have hW := nmW e139 hW
  have m140 : ∀ k, gn h133 k ≤ gn h138 k := mst_nw rfl e139
  have hl : lv_has ls 2 [(0, .ref (u 12 i0))] := by rw [hu 12 i0 al_0]; exact hl
  refine stq (st1 := [.ref (u 60 o136), .ref (u 12 i0)]) (by rw [e137, hu 12 i0 al_0]) ?_
  have hU : ∀ k i, i < gn h k → u k i = φ0 k i := fun k i hi => (hu k i (Nat.lt_of_lt_of_le hi (hM k))).trans (hU k i hi)
  have hM : ∀ k, gn h k ≤ gn h138 k := fun k => Nat.le_trans (hM k) (m140 k)
  have al_0 := lm m140 al_0
  have al141 : o136 < gn h138 60 := by rw [e137, e139]; exact gn_nw_lt _ _
  obtain ⟨φ, rfl⟩ : ∃ z, z = u := ⟨_, rfl⟩
  refine r_putrF X hW hS hin al_0 al141 fp_12_55 rfl rfl dX12_init_130 (fun H locs hW hS => ?_)
  obtain ⟨h142, e143, hF⟩ := nmx hF
  have hW := nmW e143 hW
  have m144 : ∀ k, gn h138 k ≤ gn h142 k := mst_sr rfl e143
  have hM : ∀ k, gn h k ≤ gn h142 k := fun k => Nat.le_trans (hM k) (m144 k)
  have al_0 := lm m144 al_0
  refine lv_aload_n hx hb dX12_init_133 rfl (lv_at hl 0 rfl) ?_
  refine lv_bipush (v := 100) hx hb dX12_init_134 (by decide) ?_
  refine r_newi (k := 61) (N := 100) X hW hS rfl (by decide) (by decide) (Nat.le_of_ble_eq_true rfl) ⟨Nat.le_of_ble_eq_true rfl, Nat.le_of_ble_eq_true rfl⟩ dX12_init_136 (AL_of 55 (by decide +kernel) rfl) (fun u H hu hW hS => ?_)
  obtain ⟨o145, e146, hF⟩ := nmx hF
  obtain ⟨h147, e148, hF⟩ := nmx hF
  have hW := nmW e148 hW
  have m149 : ∀ k, gn h142 k ≤ gn h147 k := mst_nw rfl e148
  have hl : lv_has ls 2 [(0, .ref (u 12 i0))] := by rw [hu 12 i0 al_0]; exact hl
  refine stq (st1 := [.ref (u 61 o145), .ref (u 12 i0)]) (by rw [e146, hu 12 i0 al_0]) ?_
  have hU : ∀ k i, i < gn h k → u k i = φ0 k i := fun k i hi => (hu k i (Nat.lt_of_lt_of_le hi (hM k))).trans (hU k i hi)
  have hM : ∀ k, gn h k ≤ gn h147 k := fun k => Nat.le_trans (hM k) (m149 k)
  have al_0 := lm m149 al_0
  have al150 : o145 < gn h147 61 := by rw [e146, e148]; exact gn_nw_lt _ _
  obtain ⟨φ, rfl⟩ : ∃ z, z = u := ⟨_, rfl⟩
  refine r_putrF X hW hS hin al_0 al150 fp_12_58 rfl rfl dX12_init_138 (fun H locs hW hS => ?_)
  obtain ⟨h151, e152, hF⟩ := nmx hF
  have hW := nmW e152 hW
  have m153 : ∀ k, gn h147 k ≤ gn h151 k := mst_sr rfl e152
  have hM : ∀ k, gn h k ≤ gn h151 k := fun k => Nat.le_trans (hM k) (m153 k)
  have al_0 := lm m153 al_0
  refine lv_aload_n hx hb dX12_init_141 rfl (lv_at hl 0 rfl) ?_
  refine lv_bipush (v := 40) hx hb dX12_init_142 (by decide) ?_
  refine r_newi (k := 62) (N := 40) X hW hS rfl (by decide) (by decide) (Nat.le_of_ble_eq_true rfl) ⟨Nat.le_of_ble_eq_true rfl, Nat.le_of_ble_eq_true rfl⟩ dX12_init_144 (AL_of 55 (by decide +kernel) rfl) (fun u H hu hW hS => ?_)
  obtain ⟨o154, e155, hF⟩ := nmx hF
  obtain ⟨h156, e157, hF⟩ := nmx hF
  have hW := nmW e157 hW
  have m158 : ∀ k, gn h151 k ≤ gn h156 k := mst_nw rfl e157
  have hl : lv_has ls 2 [(0, .ref (u 12 i0))] := by rw [hu 12 i0 al_0]; exact hl
  refine stq (st1 := [.ref (u 62 o154), .ref (u 12 i0)]) (by rw [e155, hu 12 i0 al_0]) ?_
  have hU : ∀ k i, i < gn h k → u k i = φ0 k i := fun k i hi => (hu k i (Nat.lt_of_lt_of_le hi (hM k))).trans (hU k i hi)
  have hM : ∀ k, gn h k ≤ gn h156 k := fun k => Nat.le_trans (hM k) (m158 k)
  have al_0 := lm m158 al_0
  have al159 : o154 < gn h156 62 := by rw [e155, e157]; exact gn_nw_lt _ _
  obtain ⟨φ, rfl⟩ : ∃ z, z = u := ⟨_, rfl⟩
  refine r_putrF X hW hS hin al_0 al159 fp_12_61 rfl rfl dX12_init_146 (fun H locs hW hS => ?_)
  obtain ⟨h160, e161, hF⟩ := nmx hF
  have hW := nmW e161 hW
  have m162 : ∀ k, gn h156 k ≤ gn h160 k := mst_sr rfl e161
  have hM : ∀ k, gn h k ≤ gn h160 k := fun k => Nat.le_trans (hM k) (m162 k)
  have al_0 := lm m162 al_0
  refine lv_aload_n hx hb dX12_init_149 rfl (lv_at hl 0 rfl) ?_
  refine lv_bipush (v := 40) hx hb dX12_init_150 (by decide) ?_
  refine r_newi (k := 63) (N := 40) X hW hS rfl (by decide) (by decide) (Nat.le_of_ble_eq_true rfl) ⟨Nat.le_of_ble_eq_true rfl, Nat.le_of_ble_eq_true rfl⟩ dX12_init_152 (AL_of 55 (by decide +kernel) rfl) (fun u H hu hW hS => ?_)
  obtain ⟨o163, e164, hF⟩ := nmx hF
  obtain ⟨h165, e166, hF⟩ := nmx hF
  have hW := nmW e166 hW
  have m167 : ∀ k, gn h160 k ≤ gn h165 k := mst_nw rfl e166
  have hl : lv_has ls 2 [(0, .ref (u 12 i0))] := by rw [hu 12 i0 al_0]; exact hl
  refine stq (st1 := [.ref (u 63 o163), .ref (u 12 i0)]) (by rw [e164, hu 12 i0 al_0]) ?_
  have hU : ∀ k i, i < gn h k → u k i = φ0 k i := fun k i hi => (hu k i (Nat.lt_of_lt_of_le hi (hM k))).trans (hU k i hi)
  have hM : ∀ k, gn h k ≤ gn h165 k := fun k => Nat.le_trans (hM k) (m167 k)
  have al_0 := lm m167 al_0
  have al168 : o163 < gn h165 63 := by rw [e164, e166]; exact gn_nw_lt _ _
  obtain ⟨φ, rfl⟩ : ∃ z, z = u := ⟨_, rfl⟩
  refine r_putrF X hW hS hin al_0 al168 fp_12_64 rfl rfl dX12_init_154 (fun H locs hW hS => ?_)
  obtain ⟨h169, e170, hF⟩ := nmx hF
  have hW := nmW e170 hW
  have m171 : ∀ k, gn h165 k ≤ gn h169 k := mst_sr rfl e170
  have hM : ∀ k, gn h k ≤ gn h169 k := fun k => Nat.le_trans (hM k) (m171 k)
  have al_0 := lm m171 al_0
  refine lv_aload_n hx hb dX12_init_157 rfl (lv_at hl 0 rfl) ?_
  refine lv_bipush (v := 40) hx hb dX12_init_158 (by decide) ?_
  refine r_newi (k := 64) (N := 40) X hW hS rfl (by decide) (by decide) (Nat.le_of_ble_eq_true rfl) ⟨Nat.le_of_ble_eq_true rfl, Nat.le_of_ble_eq_true rfl⟩ dX12_init_160 (AL_of 55 (by decide +kernel) rfl) (fun u H hu hW hS => ?_)
  obtain ⟨o172, e173, hF⟩ := nmx hF
  obtain ⟨h174, e175, hF⟩ := nmx hF
  have hW := nmW e175 hW
  have m176 : ∀ k, gn h169 k ≤ gn h174 k := mst_nw rfl e175
  have hl : lv_has ls 2 [(0, .ref (u 12 i0))] := by rw [hu 12 i0 al_0]; exact hl
  refine stq (st1 := [.ref (u 64 o172), .ref (u 12 i0)]) (by rw [e173, hu 12 i0 al_0]) ?_
  have hU : ∀ k i, i < gn h k → u k i = φ0 k i := fun k i hi => (hu k i (Nat.lt_of_lt_of_le hi (hM k))).trans (hU k i hi)
  have hM : ∀ k, gn h k ≤ gn h174 k := fun k => Nat.le_trans (hM k) (m176 k)
  have al_0 := lm m176 al_0
  have al177 : o172 < gn h174 64 := by rw [e173, e175]; exact gn_nw_lt _ _
  obtain ⟨φ, rfl⟩ : ∃ z, z = u := ⟨_, rfl⟩
  refine r_putrF X hW hS hin al_0 al177 fp_12_67 rfl rfl dX12_init_162 (fun H locs hW hS => ?_)
  obtain ⟨h178, e179, hF⟩ := nmx hF
  have hW := nmW e179 hW
  have m180 : ∀ k, gn h174 k ≤ gn h178 k := mst_sr rfl e179
  have hM : ∀ k, gn h k ≤ gn h178 k := fun k => Nat.le_trans (hM k) (m180 k)
  have al_0 := lm m180 al_0
  refine lv_aload_n hx hb dX12_init_165 rfl (lv_at hl 0 rfl) ?_
  refine lv_bipush (v := 40) hx hb dX12_init_166 (by decide) ?_
  refine r_newi (k := 65) (N := 40) X hW hS rfl (by decide) (by decide) (Nat.le_of_ble_eq_true rfl) ⟨Nat.le_of_ble_eq_true rfl, Nat.le_of_ble_eq_true rfl⟩ dX12_init_168 (AL_of 55 (by decide +kernel) rfl) (fun u H hu hW hS => ?_)
  obtain ⟨o181, e182, hF⟩ := nmx hF
  obtain ⟨h183, e184, hF⟩ := nmx hF
  have hW := nmW e184 hW
  have m185 : ∀ k, gn h178 k ≤ gn h183 k := mst_nw rfl e184
  have hl : lv_has ls 2 [(0, .ref (u 12 i0))] := by rw [hu 12 i0 al_0]; exact hl
  refine stq (st1 := [.ref (u 65 o181), .ref (u 12 i0)]) (by rw [e182, hu 12 i0 al_0]) ?_
  have hU : ∀ k i, i < gn h k → u k i = φ0 k i := fun k i hi => (hu k i (Nat.lt_of_lt_of_le hi (hM k))).trans (hU k i hi)
  have hM : ∀ k, gn h k ≤ gn h183 k := fun k => Nat.le_trans (hM k) (m185 k)
  have al_0 := lm m185 al_0
  have al186 : o181 < gn h183 65 := by rw [e182, e184]; exact gn_nw_lt _ _
  obtain ⟨φ, rfl⟩ : ∃ z, z = u := ⟨_, rfl⟩
  refine r_putrF X hW hS hin al_0 al186 fp_12_70 rfl rfl dX12_init_170 (fun H locs hW hS => ?_)
  obtain ⟨h187, e188, hF⟩ := nmx hF
  have hW := nmW e188 hW
  have m189 : ∀ k, gn h183 k ≤ gn h187 k := mst_sr rfl e188
  have hM : ∀ k, gn h k ≤ gn h187 k := fun k => Nat.le_trans (hM k) (m189 k)
  have al_0 := lm m189 al_0
  refine lv_aload_n hx hb dX12_init_173 rfl (lv_at hl 0 rfl) ?_
  refine lv_bipush (v := 40) hx hb dX12_init_174 (by decide) ?_
  refine r_newi (k := 66) (N := 40) X hW hS rfl (by decide) (by decide) (Nat.le_of_ble_eq_true rfl) ⟨Nat.le_of_ble_eq_true rfl, Nat.le_of_ble_eq_true rfl⟩ dX12_init_176 (AL_of 55 (by decide +kernel) rfl) (fun u H hu hW hS => ?_)
  obtain ⟨o190, e191, hF⟩ := nmx hF
  obtain ⟨h192, e193, hF⟩ := nmx hF
  have hW := nmW e193 hW
  have m194 : ∀ k, gn h187 k ≤ gn h192 k := mst_nw rfl e193
  have hl : lv_has ls 2 [(0, .ref (u 12 i0))] := by rw [hu 12 i0 al_0]; exact hl
  refine stq (st1 := [.ref (u 66 o190), .ref (u 12 i0)]) (by rw [e191, hu 12 i0 al_0]) ?_
  have hU : ∀ k i, i < gn h k → u k i = φ0 k i := fun k i hi => (hu k i (Nat.lt_of_lt_of_le hi (hM k))).trans (hU k i hi)
  have hM : ∀ k, gn h k ≤ gn h192 k := fun k => Nat.le_trans (hM k) (m194 k)
  have al_0 := lm m194 al_0
  have al195 : o190 < gn h192 66 := by rw [e191, e193]; exact gn_nw_lt _ _
  obtain ⟨φ, rfl⟩ : ∃ z, z = u := ⟨_, rfl⟩
  refine r_putrF X hW hS hin al_0 al195 fp_12_73 rfl rfl dX12_init_178 (fun H locs hW hS => ?_)
  obtain ⟨h196, e197, hF⟩ := nmx hF
  have hW := nmW e197 hW
  have m198 : ∀ k, gn h192 k ≤ gn h196 k := mst_sr rfl e197
  have hM : ∀ k, gn h k ≤ gn h196 k := fun k => Nat.le_trans (hM k) (m198 k)
  have al_0 := lm m198 al_0
  refine lv_aload_n hx hb dX12_init_181 rfl (lv_at hl 0 rfl) ?_
  refine lv_bipush (v := 8) hx hb dX12_init_182 (by decide) ?_
  refine r_newi (k := 67) (N := 8) X hW hS rfl (by decide) (by decide) (Nat.le_of_ble_eq_true rfl) ⟨Nat.le_of_ble_eq_true rfl, Nat.le_of_ble_eq_true rfl⟩ dX12_init_184 (AL_of 55 (by decide +kernel) rfl) (fun u H hu hW hS => ?_)
  obtain ⟨o199, e200, hF⟩ := nmx hF
  obtain ⟨h201, e202, hF⟩ := nmx hF
  have hW := nmW e202 hW
  have m203 : ∀ k, gn h196 k ≤ gn h201 k := mst_nw rfl e202
  have hl : lv_has ls 2 [(0, .ref (u 12 i0))] := by rw [hu 12 i0 al_0]; exact hl
  refine stq (st1 := [.ref (u 67 o199), .ref (u 12 i0)]) (by rw [e200, hu 12 i0 al_0]) ?_
  have hU : ∀ k i, i < gn h k → u k i = φ0 k i := fun k i hi => (hu k i (Nat.lt_of_lt_of_le hi (hM k))).trans (hU k i hi)
  have hM : ∀ k, gn h k ≤ gn h201 k := fun k => Nat.le_trans (hM k) (m203 k)
  have al_0 := lm m203 al_0
  have al204 : o199 < gn h201 67 := by rw [e200, e202]; exact gn_nw_lt _ _
  obtain ⟨φ, rfl⟩ : ∃ z, z = u := ⟨_, rfl⟩
  refine r_putrF X hW hS hin al_0 al204 fp_12_76 rfl rfl dX12_init_186 (fun H locs hW hS => ?_)
  obtain ⟨h205, e206, hF⟩ := nmx hF
  have hW := nmW e206 hW
  have m207 : ∀ k, gn h201 k ≤ gn h205 k := mst_sr rfl e206
  have hM : ∀ k, gn h k ≤ gn h205 k := fun k => Nat.le_trans (hM k) (m207 k)
  have al_0 := lm m207 al_0
  refine lv_aload_n hx hb dX12_init_189 rfl (lv_at hl 0 rfl) ?_
  refine lv_bipush (v := 8) hx hb dX12_init_190 (by decide) ?_
  refine r_newi (k := 68) (N := 8) X hW hS rfl (by decide) (by decide) (Nat.le_of_ble_eq_true rfl) ⟨Nat.le_of_ble_eq_true rfl, Nat.le_of_ble_eq_true rfl⟩ dX12_init_192 (AL_of 55 (by decide +kernel) rfl) (fun u H hu hW hS => ?_)
  obtain ⟨o208, e209, hF⟩ := nmx hF
  obtain ⟨h210, e211, hF⟩ := nmx hF
  have hW := nmW e211 hW
  have m212 : ∀ k, gn h205 k ≤ gn h210 k := mst_nw rfl e211
  have hl : lv_has ls 2 [(0, .ref (u 12 i0))] := by rw [hu 12 i0 al_0]; exact hl
  refine stq (st1 := [.ref (u 68 o208), .ref (u 12 i0)]) (by rw [e209, hu 12 i0 al_0]) ?_
  have hU : ∀ k i, i < gn h k → u k i = φ0 k i := fun k i hi => (hu k i (Nat.lt_of_lt_of_le hi (hM k))).trans (hU k i hi)
  have hM : ∀ k, gn h k ≤ gn h210 k := fun k => Nat.le_trans (hM k) (m212 k)
  have al_0 := lm m212 al_0
  have al213 : o208 < gn h210 68 := by rw [e209, e211]; exact gn_nw_lt _ _
  obtain ⟨φ, rfl⟩ : ∃ z, z = u := ⟨_, rfl⟩
  refine r_putrF X hW hS hin al_0 al213 fp_12_79 rfl rfl dX12_init_194 (fun H locs hW hS => ?_)
  obtain ⟨h214, e215, hF⟩ := nmx hF
  have hW := nmW e215 hW
  have m216 : ∀ k, gn h210 k ≤ gn h214 k := mst_sr rfl e215
  have hM : ∀ k, gn h k ≤ gn h214 k := fun k => Nat.le_trans (hM k) (m216 k)
  have al_0 := lm m216 al_0
  refine lv_aload_n hx hb dX12_init_197 rfl (lv_at hl 0 rfl) ?_
  refine lv_bipush (v := 8) hx hb dX12_init_198 (by decide) ?_
  refine r_newi (k := 69) (N := 8) X hW hS rfl (by decide) (by decide) (Nat.le_of_ble_eq_true rfl) ⟨Nat.le_of_ble_eq_true rfl, Nat.le_of_ble_eq_true rfl⟩ dX12_init_200 (AL_of 55 (by decide +kernel) rfl) (fun u H hu hW hS => ?_)
  obtain ⟨o217, e218, hF⟩ := nmx hF
  obtain ⟨h219, e220, hF⟩ := nmx hF
  have hW := nmW e220 hW
  have m221 : ∀ k, gn h214 k ≤ gn h219 k := mst_nw rfl e220
  have hl : lv_has ls 2 [(0, .ref (u 12 i0))] := by rw [hu 12 i0 al_0]; exact hl
  refine stq (st1 := [.ref (u 69 o217), .ref (u 12 i0)]) (by rw [e218, hu 12 i0 al_0]) ?_
  have hU : ∀ k i, i < gn h k → u k i = φ0 k i := fun k i hi => (hu k i (Nat.lt_of_lt_of_le hi (hM k))).trans (hU k i hi)
  have hM : ∀ k, gn h k ≤ gn h219 k := fun k => Nat.le_trans (hM k) (m221 k)
  have al_0 := lm m221 al_0
  have al222 : o217 < gn h219 69 := by rw [e218, e220]; exact gn_nw_lt _ _
  obtain ⟨φ, rfl⟩ : ∃ z, z = u := ⟨_, rfl⟩
  refine r_putrF X hW hS hin al_0 al222 fp_12_82 rfl rfl dX12_init_202 (fun H locs hW hS => ?_)
  obtain ⟨h223, e224, hF⟩ := nmx hF
  have hW := nmW e224 hW
  have m225 : ∀ k, gn h219 k ≤ gn h223 k := mst_sr rfl e224
  have hM : ∀ k, gn h k ≤ gn h223 k := fun k => Nat.le_trans (hM k) (m225 k)
  have al_0 := lm m225 al_0
  refine lv_aload_n hx hb dX12_init_205 rfl (lv_at hl 0 rfl) ?_
  refine lv_sipush (v := 256) hx hb dX12_init_206 (by decide) ?_
  refine r_newi (k := 70) (N := 256) X hW hS rfl (by decide) (by decide) (Nat.le_of_ble_eq_true rfl) ⟨Nat.le_of_ble_eq_true rfl, Nat.le_of_ble_eq_true rfl⟩ dX12_init_209 (AL_of 55 (by decide +kernel) rfl) (fun u H hu hW hS => ?_)
  obtain ⟨o226, e227, hF⟩ := nmx hF
  obtain ⟨h228, e229, hF⟩ := nmx hF
  have hW := nmW e229 hW
  have m230 : ∀ k, gn h223 k ≤ gn h228 k := mst_nw rfl e229
  have hl : lv_has ls 2 [(0, .ref (u 12 i0))] := by rw [hu 12 i0 al_0]; exact hl
  refine stq (st1 := [.ref (u 70 o226), .ref (u 12 i0)]) (by rw [e227, hu 12 i0 al_0]) ?_
  have hU : ∀ k i, i < gn h k → u k i = φ0 k i := fun k i hi => (hu k i (Nat.lt_of_lt_of_le hi (hM k))).trans (hU k i hi)
  have hM : ∀ k, gn h k ≤ gn h228 k := fun k => Nat.le_trans (hM k) (m230 k)
  have al_0 := lm m230 al_0
  have al231 : o226 < gn h228 70 := by rw [e227, e229]; exact gn_nw_lt _ _
  obtain ⟨φ, rfl⟩ : ∃ z, z = u := ⟨_, rfl⟩
  refine r_putrF X hW hS hin al_0 al231 fp_12_85 rfl rfl dX12_init_211 (fun H locs hW hS => ?_)
  obtain ⟨h232, e233, hF⟩ := nmx hF
  have hW := nmW e233 hW
  have m234 : ∀ k, gn h228 k ≤ gn h232 k := mst_sr rfl e233
  have hM : ∀ k, gn h k ≤ gn h232 k := fun k => Nat.le_trans (hM k) (m234 k)
  have al_0 := lm m234 al_0
  refine lv_aload_n hx hb dX12_init_214 rfl (lv_at hl 0 rfl) ?_
  refine lv_bipush (v := 8) hx hb dX12_init_215 (by decide) ?_
  refine r_newi (k := 71) (N := 8) X hW hS rfl (by decide) (by decide) (Nat.le_of_ble_eq_true rfl) ⟨Nat.le_of_ble_eq_true rfl, Nat.le_of_ble_eq_true rfl⟩ dX12_init_217 (AL_of 55 (by decide +kernel) rfl) (fun u H hu hW hS => ?_)
  obtain ⟨o235, e236, hF⟩ := nmx hF
  obtain ⟨h237, e238, hF⟩ := nmx hF
  have hW := nmW e238 hW
  have m239 : ∀ k, gn h232 k ≤ gn h237 k := mst_nw rfl e238
  have hl : lv_has ls 2 [(0, .ref (u 12 i0))] := by rw [hu 12 i0 al_0]; exact hl
  refine stq (st1 := [.ref (u 71 o235), .ref (u 12 i0)]) (by rw [e236, hu 12 i0 al_0]) ?_
  have hU : ∀ k i, i < gn h k → u k i = φ0 k i := fun k i hi => (hu k i (Nat.lt_of_lt_of_le hi (hM k))).trans (hU k i hi)
  have hM : ∀ k, gn h k ≤ gn h237 k := fun k => Nat.le_trans (hM k) (m239 k)
  have al_0 := lm m239 al_0
  have al240 : o235 < gn h237 71 := by rw [e236, e238]; exact gn_nw_lt _ _
  obtain ⟨φ, rfl⟩ : ∃ z, z = u := ⟨_, rfl⟩
  refine r_putrF X hW hS hin al_0 al240 fp_12_88 rfl rfl dX12_init_219 (fun H locs hW hS => ?_)
  obtain ⟨h241, e242, hF⟩ := nmx hF
  have hW := nmW e242 hW
  have m243 : ∀ k, gn h237 k ≤ gn h241 k := mst_sr rfl e242
  have hM : ∀ k, gn h k ≤ gn h241 k := fun k => Nat.le_trans (hM k) (m243 k)
  have al_0 := lm m243 al_0
  refine lv_aload_n hx hb dX12_init_222 rfl (lv_at hl 0 rfl) ?_
  refine lv_bipush (v := 20) hx hb dX12_init_223 (by decide) ?_
  refine r_puti X hW hS al_0 fp_12_91 rfl rfl dX12_init_225 (fun H locs hW hS => ?_)
  obtain ⟨h244, e245, hF⟩ := nmx hF
  have hW := nmW e245 hW
  have g246 : h244.2.2 = h241.2.2 := by rw [e245]; exact rfl
  refine lv_aload_n hx hb dX12_init_228 rfl (lv_at hl 0 rfl) ?_
  refine lv_sipush (v := 2741) hx hb dX12_init_229 (by decide) ?_
  refine r_puti X hW hS (gq g246 al_0) fp_12_95 rfl rfl dX12_init_232 (fun H locs hW hS => ?_)
  obtain ⟨h247, e248, hF⟩ := nmx hF
  have hW := nmW e248 hW
  have g249 : h247.2.2 = h241.2.2 := by rw [e248]; exact g246
  refine lv_aload_n hx hb dX12_init_235 rfl (lv_at hl 0 rfl) ?_
  refine lv_bipush (v := 6) hx hb dX12_init_236 (by decide) ?_
  refine r_newi (k := 72) (N := 6) X hW hS rfl (by decide) (by decide) (Nat.le_of_ble_eq_true rfl) ⟨Nat.le_of_ble_eq_true rfl, Nat.le_of_ble_eq_true rfl⟩ dX12_init_238 (AL_of 55 (by decide +kernel) rfl) (fun u H hu hW hS => ?_)
  obtain ⟨o250, e251, hF⟩ := nmx hF
  obtain ⟨h252, e253, hF⟩ := nmx hF
  have hW := nmW e253 hW
  have m254 : ∀ k, gn h241 k ≤ gn h252 k := mst_nw g249 e253
  have hl : lv_has ls 2 [(0, .ref (u 12 i0))] := by rw [hu 12 i0 (gq g249 al_0)]; exact hl
  refine stq (st1 := [.ref (u 72 o250), .ref (u 12 i0)]) (by rw [e251, hu 12 i0 (gq g249 al_0)]) ?_
  have hU : ∀ k i, i < gn h k → u k i = φ0 k i := fun k i hi => (hu k i (gq g249 (Nat.lt_of_lt_of_le hi (hM k)))).trans (hU k i hi)
  have hM : ∀ k, gn h k ≤ gn h252 k := fun k => Nat.le_trans (hM k) (m254 k)
  have al_0 := lm m254 al_0
  have al255 : o250 < gn h252 72 := by rw [e251, e253]; exact gn_nw_lt _ _
  obtain ⟨φ, rfl⟩ : ∃ z, z = u := ⟨_, rfl⟩
  refine r_putrF X hW hS hin al_0 al255 fp_12_98 rfl rfl dX12_init_240 (fun H locs hW hS => ?_)
  obtain ⟨h256, e257, hF⟩ := nmx hF
  have hW := nmW e257 hW
  have m258 : ∀ k, gn h252 k ≤ gn h256 k := mst_sr rfl e257
  have hM : ∀ k, gn h k ≤ gn h256 k := fun k => Nat.le_trans (hM k) (m258 k)
  have al_0 := lm m258 al_0
  refine lv_aload_n hx hb dX12_init_243 rfl (lv_at hl 0 rfl) ?_
  refine lv_bipush (v := 6) hx hb dX12_init_244 (by decide) ?_
  refine r_newi (k := 73) (N := 6) X hW hS rfl (by decide) (by decide) (Nat.le_of_ble_eq_true rfl) ⟨Nat.le_of_ble_eq_true rfl, Nat.le_of_ble_eq_true rfl⟩ dX12_init_246 (AL_of 55 (by decide +kernel) rfl) (fun u H hu hW hS => ?_)
  obtain ⟨o259, e260, hF⟩ := nmx hF
  obtain ⟨h261, e262, hF⟩ := nmx hF
  have hW := nmW e262 hW
  have m263 : ∀ k, gn h256 k ≤ gn h261 k := mst_nw rfl e262
  have hl : lv_has ls 2 [(0, .ref (u 12 i0))] := by rw [hu 12 i0 al_0]; exact hl
  refine stq (st1 := [.ref (u 73 o259), .ref (u 12 i0)]) (by rw [e260, hu 12 i0 al_0]) ?_
  have hU : ∀ k i, i < gn h k → u k i = φ0 k i := fun k i hi => (hu k i (Nat.lt_of_lt_of_le hi (hM k))).trans (hU k i hi)
  have hM : ∀ k, gn h k ≤ gn h261 k := fun k => Nat.le_trans (hM k) (m263 k)
  have al_0 := lm m263 al_0
  have al264 : o259 < gn h261 73 := by rw [e260, e262]; exact gn_nw_lt _ _
  obtain ⟨φ, rfl⟩ : ∃ z, z = u := ⟨_, rfl⟩
  refine r_putrF X hW hS hin al_0 al264 fp_12_101 rfl rfl dX12_init_248 (fun H locs hW hS => ?_)
  obtain ⟨h265, e266, hF⟩ := nmx hF
  have hW := nmW e266 hW
  have m267 : ∀ k, gn h261 k ≤ gn h265 k := mst_sr rfl e266
  have hM : ∀ k, gn h k ≤ gn h265 k := fun k => Nat.le_trans (hM k) (m267 k)
  have al_0 := lm m267 al_0
  refine lv_aload_n hx hb dX12_init_251 rfl (lv_at hl 0 rfl) ?_
  refine lv_bipush (v := 6) hx hb dX12_init_252 (by decide) ?_
  refine r_newi (k := 74) (N := 6) X hW hS rfl (by decide) (by decide) (Nat.le_of_ble_eq_true rfl) ⟨Nat.le_of_ble_eq_true rfl, Nat.le_of_ble_eq_true rfl⟩ dX12_init_254 (AL_of 55 (by decide +kernel) rfl) (fun u H hu hW hS => ?_)
  obtain ⟨o268, e269, hF⟩ := nmx hF
  obtain ⟨h270, e271, hF⟩ := nmx hF
  have hW := nmW e271 hW
  have m272 : ∀ k, gn h265 k ≤ gn h270 k := mst_nw rfl e271
  have hl : lv_has ls 2 [(0, .ref (u 12 i0))] := by rw [hu 12 i0 al_0]; exact hl
  refine stq (st1 := [.ref (u 74 o268), .ref (u 12 i0)]) (by rw [e269, hu 12 i0 al_0]) ?_
  have hU : ∀ k i, i < gn h k → u k i = φ0 k i := fun k i hi => (hu k i (Nat.lt_of_lt_of_le hi (hM k))).trans (hU k i hi)
  have hM : ∀ k, gn h k ≤ gn h270 k := fun k => Nat.le_trans (hM k) (m272 k)
  have al_0 := lm m272 al_0
  have al273 : o268 < gn h270 74 := by rw [e269, e271]; exact gn_nw_lt _ _
  obtain ⟨φ, rfl⟩ : ∃ z, z = u := ⟨_, rfl⟩
  refine r_putrF X hW hS hin al_0 al273 fp_12_104 rfl rfl dX12_init_256 (fun H locs hW hS => ?_)
  obtain ⟨h274, e275, hF⟩ := nmx hF
  have hW := nmW e275 hW
  have m276 : ∀ k, gn h270 k ≤ gn h274 k := mst_sr rfl e275
  have hM : ∀ k, gn h k ≤ gn h274 k := fun k => Nat.le_trans (hM k) (m276 k)
  have al_0 := lm m276 al_0
  refine lv_aload_n hx hb dX12_init_259 rfl (lv_at hl 0 rfl) ?_
  refine lv_bipush (v := 6) hx hb dX12_init_260 (by decide) ?_
  refine r_newi (k := 75) (N := 6) X hW hS rfl (by decide) (by decide) (Nat.le_of_ble_eq_true rfl) ⟨Nat.le_of_ble_eq_true rfl, Nat.le_of_ble_eq_true rfl⟩ dX12_init_262 (AL_of 55 (by decide +kernel) rfl) (fun u H hu hW hS => ?_)
  obtain ⟨o277, e278, hF⟩ := nmx hF
  obtain ⟨h279, e280, hF⟩ := nmx hF
  have hW := nmW e280 hW
  have m281 : ∀ k, gn h274 k ≤ gn h279 k := mst_nw rfl e280
  have hl : lv_has ls 2 [(0, .ref (u 12 i0))] := by rw [hu 12 i0 al_0]; exact hl
  refine stq (st1 := [.ref (u 75 o277), .ref (u 12 i0)]) (by rw [e278, hu 12 i0 al_0]) ?_
  have hU : ∀ k i, i < gn h k → u k i = φ0 k i := fun k i hi => (hu k i (Nat.lt_of_lt_of_le hi (hM k))).trans (hU k i hi)
  have hM : ∀ k, gn h k ≤ gn h279 k := fun k => Nat.le_trans (hM k) (m281 k)
  have al_0 := lm m281 al_0
  have al282 : o277 < gn h279 75 := by rw [e278, e280]; exact gn_nw_lt _ _
  obtain ⟨φ, rfl⟩ : ∃ z, z = u := ⟨_, rfl⟩
  refine r_putrF X hW hS hin al_0 al282 fp_12_107 rfl rfl dX12_init_264 (fun H locs hW hS => ?_)
  obtain ⟨h283, e284, hF⟩ := nmx hF
  have hW := nmW e284 hW
  have m285 : ∀ k, gn h279 k ≤ gn h283 k := mst_sr rfl e284
  have hM : ∀ k, gn h k ≤ gn h283 k := fun k => Nat.le_trans (hM k) (m285 k)
  have al_0 := lm m285 al_0
  refine lv_aload_n hx hb dX12_init_267 rfl (lv_at hl 0 rfl) ?_
  refine lv_bipush (v := 6) hx hb dX12_init_268 (by decide) ?_
  refine r_newi (k := 76) (N := 6) X hW hS rfl (by decide) (by decide) (Nat.le_of_ble_eq_true rfl) ⟨Nat.le_of_ble_eq_true rfl, Nat.le_of_ble_eq_true rfl⟩ dX12_init_270 (AL_of 55 (by decide +kernel) rfl) (fun u H hu hW hS => ?_)
  obtain ⟨o286, e287, hF⟩ := nmx hF
  obtain ⟨h288, e289, hF⟩ := nmx hF
  have hW := nmW e289 hW
  have m290 : ∀ k, gn h283 k ≤ gn h288 k := mst_nw rfl e289
  have hl : lv_has ls 2 [(0, .ref (u 12 i0))] := by rw [hu 12 i0 al_0]; exact hl
  refine stq (st1 := [.ref (u 76 o286), .ref (u 12 i0)]) (by rw [e287, hu 12 i0 al_0]) ?_
  have hU : ∀ k i, i < gn h k → u k i = φ0 k i := fun k i hi => (hu k i (Nat.lt_of_lt_of_le hi (hM k))).trans (hU k i hi)
  have hM : ∀ k, gn h k ≤ gn h288 k := fun k => Nat.le_trans (hM k) (m290 k)
  have al_0 := lm m290 al_0
  have al291 : o286 < gn h288 76 := by rw [e287, e289]; exact gn_nw_lt _ _
  obtain ⟨φ, rfl⟩ : ∃ z, z = u := ⟨_, rfl⟩
  refine r_putrF X hW hS hin al_0 al291 fp_12_110 rfl rfl dX12_init_272 (fun H locs hW hS => ?_)
  obtain ⟨h292, e293, hF⟩ := nmx hF
  have hW := nmW e293 hW
  have m294 : ∀ k, gn h288 k ≤ gn h292 k := mst_sr rfl e293
  have hM : ∀ k, gn h k ≤ gn h292 k := fun k => Nat.le_trans (hM k) (m294 k)
  have al_0 := lm m294 al_0
  refine lv_aload_n hx hb dX12_init_275 rfl (lv_at hl 0 rfl) ?_
  refine lv_bipush (v := 20) hx hb dX12_init_276 (by decide) ?_
  refine r_newi (k := 77) (N := 20) X hW hS rfl (by decide) (by decide) (Nat.le_of_ble_eq_true rfl) ⟨Nat.le_of_ble_eq_true rfl, Nat.le_of_ble_eq_true rfl⟩ dX12_init_278 (AL_of 55 (by decide +kernel) rfl) (fun u H hu hW hS => ?_)
  obtain ⟨o295, e296, hF⟩ := nmx hF
  obtain ⟨h297, e298, hF⟩ := nmx hF
  have hW := nmW e298 hW
  have m299 : ∀ k, gn h292 k ≤ gn h297 k := mst_nw rfl e298
  have hl : lv_has ls 2 [(0, .ref (u 12 i0))] := by rw [hu 12 i0 al_0]; exact hl
  refine stq (st1 := [.ref (u 77 o295), .ref (u 12 i0)]) (by rw [e296, hu 12 i0 al_0]) ?_
  have hU : ∀ k i, i < gn h k → u k i = φ0 k i := fun k i hi => (hu k i (Nat.lt_of_lt_of_le hi (hM k))).trans (hU k i hi)
  have hM : ∀ k, gn h k ≤ gn h297 k := fun k => Nat.le_trans (hM k) (m299 k)
  have al_0 := lm m299 al_0
  have al300 : o295 < gn h297 77 := by rw [e296, e298]; exact gn_nw_lt _ _
  obtain ⟨φ, rfl⟩ : ∃ z, z = u := ⟨_, rfl⟩
  refine r_putrF X hW hS hin al_0 al300 fp_12_113 rfl rfl dX12_init_280 (fun H locs hW hS => ?_)
  obtain ⟨h301, e302, hF⟩ := nmx hF
  have hW := nmW e302 hW
  have m303 : ∀ k, gn h297 k ≤ gn h301 k := mst_sr rfl e302
  have hM : ∀ k, gn h k ≤ gn h301 k := fun k => Nat.le_trans (hM k) (m303 k)
  have al_0 := lm m303 al_0
  refine lv_aload_n hx hb dX12_init_283 rfl (lv_at hl 0 rfl) ?_
  refine lv_bipush (v := 10) hx hb dX12_init_284 (by decide) ?_
  refine r_newi (k := 78) (N := 10) X hW hS rfl (by decide) (by decide) (Nat.le_of_ble_eq_true rfl) ⟨Nat.le_of_ble_eq_true rfl, Nat.le_of_ble_eq_true rfl⟩ dX12_init_286 (AL_of 55 (by decide +kernel) rfl) (fun u H hu hW hS => ?_)
  obtain ⟨o304, e305, hF⟩ := nmx hF
  obtain ⟨h306, e307, hF⟩ := nmx hF
  have hW := nmW e307 hW
  have m308 : ∀ k, gn h301 k ≤ gn h306 k := mst_nw rfl e307
  have hl : lv_has ls 2 [(0, .ref (u 12 i0))] := by rw [hu 12 i0 al_0]; exact hl
  refine stq (st1 := [.ref (u 78 o304), .ref (u 12 i0)]) (by rw [e305, hu 12 i0 al_0]) ?_
  have hU : ∀ k i, i < gn h k → u k i = φ0 k i := fun k i hi => (hu k i (Nat.lt_of_lt_of_le hi (hM k))).trans (hU k i hi)
  have hM : ∀ k, gn h k ≤ gn h306 k := fun k => Nat.le_trans (hM k) (m308 k)
  have al_0 := lm m308 al_0
  have al309 : o304 < gn h306 78 := by rw [e305, e307]; exact gn_nw_lt _ _
  obtain ⟨φ, rfl⟩ : ∃ z, z = u := ⟨_, rfl⟩
  refine r_putrF X hW hS hin al_0 al309 fp_12_116 rfl rfl dX12_init_288 (fun H locs hW hS => ?_)
  obtain ⟨h310, e311, hF⟩ := nmx hF
  have hW := nmW e311 hW
  have m312 : ∀ k, gn h306 k ≤ gn h310 k := mst_sr rfl e311
  have hM : ∀ k, gn h k ≤ gn h310 k := fun k => Nat.le_trans (hM k) (m312 k)
  have al_0 := lm m312 al_0
  refine lv_aload_n hx hb dX12_init_291 rfl (lv_at hl 0 rfl) ?_
  refine lv_bipush (v := 30) hx hb dX12_init_292 (by decide) ?_
  refine r_newi (k := 79) (N := 30) X hW hS rfl (by decide) (by decide) (Nat.le_of_ble_eq_true rfl) ⟨Nat.le_of_ble_eq_true rfl, Nat.le_of_ble_eq_true rfl⟩ dX12_init_294 (AL_of 55 (by decide +kernel) rfl) (fun u H hu hW hS => ?_)
  obtain ⟨o313, e314, hF⟩ := nmx hF
  obtain ⟨h315, e316, hF⟩ := nmx hF
  have hW := nmW e316 hW
  have m317 : ∀ k, gn h310 k ≤ gn h315 k := mst_nw rfl e316
  have hl : lv_has ls 2 [(0, .ref (u 12 i0))] := by rw [hu 12 i0 al_0]; exact hl
  refine stq (st1 := [.ref (u 79 o313), .ref (u 12 i0)]) (by rw [e314, hu 12 i0 al_0]) ?_
  have hU : ∀ k i, i < gn h k → u k i = φ0 k i := fun k i hi => (hu k i (Nat.lt_of_lt_of_le hi (hM k))).trans (hU k i hi)
  have hM : ∀ k, gn h k ≤ gn h315 k := fun k => Nat.le_trans (hM k) (m317 k)
  have al_0 := lm m317 al_0
  have al318 : o313 < gn h315 79 := by rw [e314, e316]; exact gn_nw_lt _ _
  obtain ⟨φ, rfl⟩ : ∃ z, z = u := ⟨_, rfl⟩
  refine r_putrF X hW hS hin al_0 al318 fp_12_119 rfl rfl dX12_init_296 (fun H locs hW hS => ?_)
  obtain ⟨h319, e320, hF⟩ := nmx hF
  have hW := nmW e320 hW
  have m321 : ∀ k, gn h315 k ≤ gn h319 k := mst_sr rfl e320
  have hM : ∀ k, gn h k ≤ gn h319 k := fun k => Nat.le_trans (hM k) (m321 k)
  have al_0 := lm m321 al_0
  refine lv_aload_n hx hb dX12_init_299 rfl (lv_at hl 0 rfl) ?_
  refine lv_bipush (v := 30) hx hb dX12_init_300 (by decide) ?_
  refine r_newi (k := 80) (N := 30) X hW hS rfl (by decide) (by decide) (Nat.le_of_ble_eq_true rfl) ⟨Nat.le_of_ble_eq_true rfl, Nat.le_of_ble_eq_true rfl⟩ dX12_init_302 (AL_of 55 (by decide +kernel) rfl) (fun u H hu hW hS => ?_)
  obtain ⟨o322, e323, hF⟩ := nmx hF
  obtain ⟨h324, e325, hF⟩ := nmx hF
  have hW := nmW e325 hW
  have m326 : ∀ k, gn h319 k ≤ gn h324 k := mst_nw rfl e325
  have hl : lv_has ls 2 [(0, .ref (u 12 i0))] := by rw [hu 12 i0 al_0]; exact hl
  refine stq (st1 := [.ref (u 80 o322), .ref (u 12 i0)]) (by rw [e323, hu 12 i0 al_0]) ?_
  have hU : ∀ k i, i < gn h k → u k i = φ0 k i := fun k i hi => (hu k i (Nat.lt_of_lt_of_le hi (hM k))).trans (hU k i hi)
  have hM : ∀ k, gn h k ≤ gn h324 k := fun k => Nat.le_trans (hM k) (m326 k)
  have al_0 := lm m326 al_0
  have al327 : o322 < gn h324 80 := by rw [e323, e325]; exact gn_nw_lt _ _
  obtain ⟨φ, rfl⟩ : ∃ z, z = u := ⟨_, rfl⟩
  refine r_putrF X hW hS hin al_0 al327 fp_12_122 rfl rfl dX12_init_304 (fun H locs hW hS => ?_)
  obtain ⟨h328, e329, hF⟩ := nmx hF
  have hW := nmW e329 hW
  have m330 : ∀ k, gn h324 k ≤ gn h328 k := mst_sr rfl e329
  have hM : ∀ k, gn h k ≤ gn h328 k := fun k => Nat.le_trans (hM k) (m330 k)
  have al_0 := lm m330 al_0
  refine lv_aload_n hx hb dX12_init_307 rfl (lv_at hl 0 rfl) ?_
  refine lv_bipush (v := 30) hx hb dX12_init_308 (by decide) ?_
  refine r_newi (k := 81) (N := 30) X hW hS rfl (by decide) (by decide) (Nat.le_of_ble_eq_true rfl) ⟨Nat.le_of_ble_eq_true rfl, Nat.le_of_ble_eq_true rfl⟩ dX12_init_310 (AL_of 55 (by decide +kernel) rfl) (fun u H hu hW hS => ?_)
  obtain ⟨o331, e332, hF⟩ := nmx hF
  obtain ⟨h333, e334, hF⟩ := nmx hF
  have hW := nmW e334 hW
  have m335 : ∀ k, gn h328 k ≤ gn h333 k := mst_nw rfl e334
  have hl : lv_has ls 2 [(0, .ref (u 12 i0))] := by rw [hu 12 i0 al_0]; exact hl
  refine stq (st1 := [.ref (u 81 o331), .ref (u 12 i0)]) (by rw [e332, hu 12 i0 al_0]) ?_
  have hU : ∀ k i, i < gn h k → u k i = φ0 k i := fun k i hi => (hu k i (Nat.lt_of_lt_of_le hi (hM k))).trans (hU k i hi)
  have hM : ∀ k, gn h k ≤ gn h333 k := fun k => Nat.le_trans (hM k) (m335 k)
  have al_0 := lm m335 al_0
  have al336 : o331 < gn h333 81 := by rw [e332, e334]; exact gn_nw_lt _ _
  obtain ⟨φ, rfl⟩ : ∃ z, z = u := ⟨_, rfl⟩
  refine r_putrF X hW hS hin al_0 al336 fp_12_125 rfl rfl dX12_init_312 (fun H locs hW hS => ?_)
  obtain ⟨h337, e338, hF⟩ := nmx hF
  have hW := nmW e338 hW
  have m339 : ∀ k, gn h333 k ≤ gn h337 k := mst_sr rfl e338
  have hM : ∀ k, gn h k ≤ gn h337 k := fun k => Nat.le_trans (hM k) (m339 k)
  have al_0 := lm m339 al_0
  refine lv_aload_n hx hb dX12_init_315 rfl (lv_at hl 0 rfl) ?_
  refine lv_bipush (v := 30) hx hb dX12_init_316 (by decide) ?_
  refine r_newi (k := 82) (N := 30) X hW hS rfl (by decide) (by decide) (Nat.le_of_ble_eq_true rfl) ⟨Nat.le_of_ble_eq_true rfl, Nat.le_of_ble_eq_true rfl⟩ dX12_init_318 (AL_of 55 (by decide +kernel) rfl) (fun u H hu hW hS => ?_)
  obtain ⟨o340, e341, hF⟩ := nmx hF
  obtain ⟨h342, e343, hF⟩ := nmx hF
  have hW := nmW e343 hW
  have m344 : ∀ k, gn h337 k ≤ gn h342 k := mst_nw rfl e343
  have hl : lv_has ls 2 [(0, .ref (u 12 i0))] := by rw [hu 12 i0 al_0]; exact hl
  refine stq (st1 := [.ref (u 82 o340), .ref (u 12 i0)]) (by rw [e341, hu 12 i0 al_0]) ?_
  have hU : ∀ k i, i < gn h k → u k i = φ0 k i := fun k i hi => (hu k i (Nat.lt_of_lt_of_le hi (hM k))).trans (hU k i hi)
  have hM : ∀ k, gn h k ≤ gn h342 k := fun k => Nat.le_trans (hM k) (m344 k)
  have al_0 := lm m344 al_0
  have al345 : o340 < gn h342 82 := by rw [e341, e343]; exact gn_nw_lt _ _
  obtain ⟨φ, rfl⟩ : ∃ z, z = u := ⟨_, rfl⟩
  refine r_putrF X hW hS hin al_0 al345 fp_12_128 rfl rfl dX12_init_320 (fun H locs hW hS => ?_)
  obtain ⟨h346, e347, hF⟩ := nmx hF
  have hW := nmW e347 hW
  have m348 : ∀ k, gn h342 k ≤ gn h346 k := mst_sr rfl e347
  have hM : ∀ k, gn h k ≤ gn h346 k := fun k => Nat.le_trans (hM k) (m348 k)
  have al_0 := lm m348 al_0
  refine lv_aload_n hx hb dX12_init_323 rfl (lv_at hl 0 rfl) ?_
  refine lv_iconst (v := 5) hx hb dX12_init_324 (by decide) ?_
  refine r_newi (k := 83) (N := 5) X hW hS rfl (by decide) (by decide) (Nat.le_of_ble_eq_true rfl) ⟨Nat.le_of_ble_eq_true rfl, Nat.le_of_ble_eq_true rfl⟩ dX12_init_325 (AL_of 55 (by decide +kernel) rfl) (fun u H hu hW hS => ?_)
  obtain ⟨o349, e350, hF⟩ := nmx hF
  obtain ⟨h351, e352, hF⟩ := nmx hF
  have hW := nmW e352 hW
  have m353 : ∀ k, gn h346 k ≤ gn h351 k := mst_nw rfl e352
  have hl : lv_has ls 2 [(0, .ref (u 12 i0))] := by rw [hu 12 i0 al_0]; exact hl
  refine stq (st1 := [.ref (u 83 o349), .ref (u 12 i0)]) (by rw [e350, hu 12 i0 al_0]) ?_
  have hU : ∀ k i, i < gn h k → u k i = φ0 k i := fun k i hi => (hu k i (Nat.lt_of_lt_of_le hi (hM k))).trans (hU k i hi)
  have hM : ∀ k, gn h k ≤ gn h351 k := fun k => Nat.le_trans (hM k) (m353 k)
  have al_0 := lm m353 al_0
  have al354 : o349 < gn h351 83 := by rw [e350, e352]; exact gn_nw_lt _ _
  obtain ⟨φ, rfl⟩ : ∃ z, z = u := ⟨_, rfl⟩
  refine r_putrF X hW hS hin al_0 al354 fp_12_131 rfl rfl dX12_init_327 (fun H locs hW hS => ?_)
  obtain ⟨h355, e356, hF⟩ := nmx hF
  have hW := nmW e356 hW
  have m357 : ∀ k, gn h351 k ≤ gn h355 k := mst_sr rfl e356
  have hM : ∀ k, gn h k ≤ gn h355 k := fun k => Nat.le_trans (hM k) (m357 k)
  have al_0 := lm m357 al_0
  refine lv_iconst (v := 0) hx hb dX12_init_330 (by decide) ?_
  refine lv_istore_n (lv' := [(1, .int 0), (0, .ref (φ 12 i0))]) hx hb dX12_init_331 rfl hl (by decide) rfl (fun ls hl => ?_)
  refine lv_iload_n hx hb dX12_init_332 rfl (lv_at hl 0 rfl) ?_
  refine lv_iconst (v := 4) hx hb dX12_init_333 (by decide) ?_
  refine lv_icmp_ge (tgt := 350) hx hb dX12_init_334 (by decide) (fun c431 => absurd c431 (by decide)) (fun _ => ?_)
  refine lv_aload_n hx hb dX12_init_337 rfl (lv_at hl 1 rfl) ?_
  obtain ⟨o358, e359, hF⟩ := bn hF
  refine r_getr X hW al_0 fl_12_7 e359 dX12_init_338 (fun al360 => ?_)
  refine lv_iload_n hx hb dX12_init_341 rfl (lv_at hl 0 rfl) ?_
  refine lv_iconst (v := (-1)) hx hb dX12_init_342 (by decide) ?_
  obtain ⟨h361, e362, hF⟩ := bn hF
  obtain ⟨b363, e362⟩ := sa_s e362
  refine r_iast X hW hS al360 rfl b363 dX12_init_343 (fun H locs hW hS => ?_)
  have hW := nmW e362 hW
  have g364 : h361.2.2 = h355.2.2 := by rw [e362]; exact rfl
  refine lv_iinc (v := 1) (lv' := [(1, .int 1), (0, .ref (φ 12 i0))]) hx hb dX12_init_344 hl (k := 0) rfl (by decide) (by decide) rfl (fun ls hl => ?_)
  refine lv_goto (tgt := 332) hx hb dX12_init_347 (by decide) ?_
  refine lv_iload_n hx hb dX12_init_332 rfl (lv_at hl 0 rfl) ?_
  refine lv_iconst (v := 4) hx hb dX12_init_333 (by decide) ?_
  refine lv_icmp_ge (tgt := 350) hx hb dX12_init_334 (by decide) (fun c430 => absurd c430 (by decide)) (fun _ => ?_)
  refine lv_aload_n hx hb dX12_init_337 rfl (lv_at hl 1 rfl) ?_
  obtain ⟨o365, e366, hF⟩ := bn hF
  refine r_getr X hW (gq g364 al_0) fl_12_7 e366 dX12_init_338 (fun al367 => ?_)
  have al367 := qg g364 al367
  refine lv_iload_n hx hb dX12_init_341 rfl (lv_at hl 0 rfl) ?_
  refine lv_iconst (v := (-1)) hx hb dX12_init_342 (by decide) ?_
  obtain ⟨h368, e369, hF⟩ := bn hF
  obtain ⟨b370, e369⟩ := sa_s e369
  refine r_iast X hW hS (gq g364 al367) rfl b370 dX12_init_343 (fun H locs hW hS => ?_)
  have hW := nmW e369 hW
  have g371 : h368.2.2 = h355.2.2 := by rw [e369]; exact g364
  refine lv_iinc (v := 2) (lv' := [(1, .int 2), (0, .ref (φ 12 i0))]) hx hb dX12_init_344 hl (k := 0) rfl (by decide) (by decide) rfl (fun ls hl => ?_)
  refine lv_goto (tgt := 332) hx hb dX12_init_347 (by decide) ?_
  refine lv_iload_n hx hb dX12_init_332 rfl (lv_at hl 0 rfl) ?_
  refine lv_iconst (v := 4) hx hb dX12_init_333 (by decide) ?_
  refine lv_icmp_ge (tgt := 350) hx hb dX12_init_334 (by decide) (fun c429 => absurd c429 (by decide)) (fun _ => ?_)
  refine lv_aload_n hx hb dX12_init_337 rfl (lv_at hl 1 rfl) ?_
  obtain ⟨o372, e373, hF⟩ := bn hF
  refine r_getr X hW (gq g371 al_0) fl_12_7 e373 dX12_init_338 (fun al374 => ?_)
  have al374 := qg g371 al374
  refine lv_iload_n hx hb dX12_init_341 rfl (lv_at hl 0 rfl) ?_
  refine lv_iconst (v := (-1)) hx hb dX12_init_342 (by decide) ?_
  obtain ⟨h375, e376, hF⟩ := bn hF
  obtain ⟨b377, e376⟩ := sa_s e376
  refine r_iast X hW hS (gq g371 al374) rfl b377 dX12_init_343 (fun H locs hW hS => ?_)
  have hW := nmW e376 hW
  have g378 : h375.2.2 = h355.2.2 := by rw [e376]; exact g371
  refine lv_iinc (v := 3) (lv' := [(1, .int 3), (0, .ref (φ 12 i0))]) hx hb dX12_init_344 hl (k := 0) rfl (by decide) (by decide) rfl (fun ls hl => ?_)
  refine lv_goto (tgt := 332) hx hb dX12_init_347 (by decide) ?_
  refine lv_iload_n hx hb dX12_init_332 rfl (lv_at hl 0 rfl) ?_
  refine lv_iconst (v := 4) hx hb dX12_init_333 (by decide) ?_
  refine lv_icmp_ge (tgt := 350) hx hb dX12_init_334 (by decide) (fun c428 => absurd c428 (by decide)) (fun _ => ?_)
  refine lv_aload_n hx hb dX12_init_337 rfl (lv_at hl 1 rfl) ?_
  obtain ⟨o379, e380, hF⟩ := bn hF
  refine r_getr X hW (gq g378 al_0) fl_12_7 e380 dX12_init_338 (fun al381 => ?_)
  have al381 := qg g378 al381
  refine lv_iload_n hx hb dX12_init_341 rfl (lv_at hl 0 rfl) ?_
  refine lv_iconst (v := (-1)) hx hb dX12_init_342 (by decide) ?_
  obtain ⟨h382, e383, hF⟩ := bn hF
  obtain ⟨b384, e383⟩ := sa_s e383
  refine r_iast X hW hS (gq g378 al381) rfl b384 dX12_init_343 (fun H locs hW hS => ?_)
  have hW := nmW e383 hW
  have g385 : h382.2.2 = h355.2.2 := by rw [e383]; exact g378
  refine lv_iinc (v := 4) (lv' := [(1, .int 4), (0, .ref (φ 12 i0))]) hx hb dX12_init_344 hl (k := 0) rfl (by decide) (by decide) rfl (fun ls hl => ?_)
  refine lv_goto (tgt := 332) hx hb dX12_init_347 (by decide) ?_
  refine lv_iload_n hx hb dX12_init_332 rfl (lv_at hl 0 rfl) ?_
  refine lv_iconst (v := 4) hx hb dX12_init_333 (by decide) ?_
  refine lv_icmp_ge (tgt := 350) hx hb dX12_init_334 (by decide) (fun _ => ?_) (fun c427 => absurd (by decide) c427)
  refine lv_iconst (v := 0) hx hb dX12_init_350 (by decide) ?_
  refine lv_istore_n (lv' := [(1, .int 0), (0, .ref (φ 12 i0))]) hx hb dX12_init_351 rfl hl (by decide) rfl (fun ls hl => ?_)
  refine lv_iload_n hx hb dX12_init_352 rfl (lv_at hl 0 rfl) ?_
  refine lv_iconst (v := 5) hx hb dX12_init_353 (by decide) ?_
  refine lv_icmp_ge (tgt := 370) hx hb dX12_init_354 (by decide) (fun c426 => absurd c426 (by decide)) (fun _ => ?_)
  refine lv_aload_n hx hb dX12_init_357 rfl (lv_at hl 1 rfl) ?_
  obtain ⟨o386, e387, hF⟩ := bn hF
  refine r_getr X hW (gq g385 al_0) fl_12_131 e387 dX12_init_358 (fun al388 => ?_)
  have al388 := qg g385 al388
  refine lv_iload_n hx hb dX12_init_361 rfl (lv_at hl 0 rfl) ?_
  refine lv_iload_n hx hb dX12_init_362 rfl (lv_at hl 0 rfl) ?_
  obtain ⟨h389, e390, hF⟩ := bn hF
  obtain ⟨b391, e390⟩ := sa_s e390
  refine r_iast X hW hS (gq g385 al388) rfl b391 dX12_init_363 (fun H locs hW hS => ?_)
  have hW := nmW e390 hW
  have g392 : h389.2.2 = h355.2.2 := by rw [e390]; exact g385
  refine lv_iinc (v := 1) (lv' := [(1, .int 1), (0, .ref (φ 12 i0))]) hx hb dX12_init_364 hl (k := 0) rfl (by decide) (by decide) rfl (fun ls hl => ?_)
  refine lv_goto (tgt := 352) hx hb dX12_init_367 (by decide) ?_
  refine lv_iload_n hx hb dX12_init_352 rfl (lv_at hl 0 rfl) ?_
  refine lv_iconst (v := 5) hx hb dX12_init_353 (by decide) ?_
  refine lv_icmp_ge (tgt := 370) hx hb dX12_init_354 (by decide) (fun c425 => absurd c425 (by decide)) (fun _ => ?_)
  refine lv_aload_n hx hb dX12_init_357 rfl (lv_at hl 1 rfl) ?_
  obtain ⟨o393, e394, hF⟩ := bn hF
  refine r_getr X hW (gq g392 al_0) fl_12_131 e394 dX12_init_358 (fun al395 => ?_)
  have al395 := qg g392 al395
  refine lv_iload_n hx hb dX12_init_361 rfl (lv_at hl 0 rfl) ?_
  refine lv_iload_n hx hb dX12_init_362 rfl (lv_at hl 0 rfl) ?_
  obtain ⟨h396, e397, hF⟩ := bn hF
  obtain ⟨b398, e397⟩ := sa_s e397
  refine r_iast X hW hS (gq g392 al395) rfl b398 dX12_init_363 (fun H locs hW hS => ?_)
  have hW := nmW e397 hW
  have g399 : h396.2.2 = h355.2.2 := by rw [e397]; exact g392
  refine lv_iinc (v := 2) (lv' := [(1, .int 2), (0, .ref (φ 12 i0))]) hx hb dX12_init_364 hl (k := 0) rfl (by decide) (by decide) rfl (fun ls hl => ?_)
  refine lv_goto (tgt := 352) hx hb dX12_init_367 (by decide) ?_
  refine lv_iload_n hx hb dX12_init_352 rfl (lv_at hl 0 rfl) ?_
  refine lv_iconst (v := 5) hx hb dX12_init_353 (by decide) ?_
  refine lv_icmp_ge (tgt := 370) hx hb dX12_init_354 (by decide) (fun c424 => absurd c424 (by decide)) (fun _ => ?_)
  refine lv_aload_n hx hb dX12_init_357 rfl (lv_at hl 1 rfl) ?_
  obtain ⟨o400, e401, hF⟩ := bn hF
  refine r_getr X hW (gq g399 al_0) fl_12_131 e401 dX12_init_358 (fun al402 => ?_)
  have al402 := qg g399 al402
  refine lv_iload_n hx hb dX12_init_361 rfl (lv_at hl 0 rfl) ?_
  refine lv_iload_n hx hb dX12_init_362 rfl (lv_at hl 0 rfl) ?_
  obtain ⟨h403, e404, hF⟩ := bn hF
  obtain ⟨b405, e404⟩ := sa_s e404
  refine r_iast X hW hS (gq g399 al402) rfl b405 dX12_init_363 (fun H locs hW hS => ?_)
  have hW := nmW e404 hW
  have g406 : h403.2.2 = h355.2.2 := by rw [e404]; exact g399
  refine lv_iinc (v := 3) (lv' := [(1, .int 3), (0, .ref (φ 12 i0))]) hx hb dX12_init_364 hl (k := 0) rfl (by decide) (by decide) rfl (fun ls hl => ?_)
  refine lv_goto (tgt := 352) hx hb dX12_init_367 (by decide) ?_
  refine lv_iload_n hx hb dX12_init_352 rfl (lv_at hl 0 rfl) ?_
  refine lv_iconst (v := 5) hx hb dX12_init_353 (by decide) ?_
  refine lv_icmp_ge (tgt := 370) hx hb dX12_init_354 (by decide) (fun c423 => absurd c423 (by decide)) (fun _ => ?_)
  refine lv_aload_n hx hb dX12_init_357 rfl (lv_at hl 1 rfl) ?_
  obtain ⟨o407, e408, hF⟩ := bn hF
  refine r_getr X hW (gq g406 al_0) fl_12_131 e408 dX12_init_358 (fun al409 => ?_)
  have al409 := qg g406 al409
  refine lv_iload_n hx hb dX12_init_361 rfl (lv_at hl 0 rfl) ?_
  refine lv_iload_n hx hb dX12_init_362 rfl (lv_at hl 0 rfl) ?_
  obtain ⟨h410, e411, hF⟩ := bn hF
  obtain ⟨b412, e411⟩ := sa_s e411
  refine r_iast X hW hS (gq g406 al409) rfl b412 dX12_init_363 (fun H locs hW hS => ?_)
  have hW := nmW e411 hW
  have g413 : h410.2.2 = h355.2.2 := by rw [e411]; exact g406
  refine lv_iinc (v := 4) (lv' := [(1, .int 4), (0, .ref (φ 12 i0))]) hx hb dX12_init_364 hl (k := 0) rfl (by decide) (by decide) rfl (fun ls hl => ?_)
  refine lv_goto (tgt := 352) hx hb dX12_init_367 (by decide) ?_
  refine lv_iload_n hx hb dX12_init_352 rfl (lv_at hl 0 rfl) ?_
  refine lv_iconst (v := 5) hx hb dX12_init_353 (by decide) ?_
  refine lv_icmp_ge (tgt := 370) hx hb dX12_init_354 (by decide) (fun c422 => absurd c422 (by decide)) (fun _ => ?_)
  refine lv_aload_n hx hb dX12_init_357 rfl (lv_at hl 1 rfl) ?_
  obtain ⟨o414, e415, hF⟩ := bn hF
  refine r_getr X hW (gq g413 al_0) fl_12_131 e415 dX12_init_358 (fun al416 => ?_)
  have al416 := qg g413 al416
  refine lv_iload_n hx hb dX12_init_361 rfl (lv_at hl 0 rfl) ?_
  refine lv_iload_n hx hb dX12_init_362 rfl (lv_at hl 0 rfl) ?_
  obtain ⟨h417, e418, hF⟩ := bn hF
  obtain ⟨b419, e418⟩ := sa_s e418
  refine r_iast X hW hS (gq g413 al416) rfl b419 dX12_init_363 (fun H locs hW hS => ?_)
  have hW := nmW e418 hW
  have g420 : h417.2.2 = h355.2.2 := by rw [e418]; exact g413
  refine lv_iinc (v := 5) (lv' := [(1, .int 5), (0, .ref (φ 12 i0))]) hx hb dX12_init_364 hl (k := 0) rfl (by decide) (by decide) rfl (fun ls hl => ?_)
  refine lv_goto (tgt := 352) hx hb dX12_init_367 (by decide) ?_
  refine lv_iload_n hx hb dX12_init_352 rfl (lv_at hl 0 rfl) ?_
  refine lv_iconst (v := 5) hx hb dX12_init_353 (by decide) ?_
  refine lv_icmp_ge (tgt := 370) hx hb dX12_init_354 (by decide) (fun _ => ?_) (fun c421 => absurd (by decide) c421)
  obtain rfl := sj hF
  refine W.widen (k := 39) (n := 1989) (Nat.le_of_ble_eq_true rfl) (Nat.le_of_ble_eq_true rfl) ?_
  exact hfin φ _ _ _ _ hU hW hS dX12_init_370 -- g420
set_option maxHeartbeats 4000000 in
set_option maxRecDepth 100000 in
theorem mono_X12_init {h : HP}  {d : HP} {i0 : Nat} (hF : F_X12_init i0 h = some d) : ∀ k, gn h k ≤ gn d k := by
  have hM : ∀ k, gn h k ≤ gn h k := fun k => Nat.le_refl _
  unfold F_X12_init at hF
  obtain ⟨o1, e2, hF⟩ := nmx hF
  obtain ⟨h3, e4, hF⟩ := nmx hF
  have m5 : ∀ k, gn h k ≤ gn h3 k := mst_nw rfl e4
  have hM : ∀ k, gn h k ≤ gn h3 k := fun k => Nat.le_trans (hM k) (m5 k)
  obtain ⟨h7, e8, hF⟩ := nmx hF
  have m9 : ∀ k, gn h3 k ≤ gn h7 k := mst_sr rfl e8
  have hM : ∀ k, gn h k ≤ gn h7 k := fun k => Nat.le_trans (hM k) (m9 k)
  obtain ⟨o10, e11, hF⟩ := nmx hF
  obtain ⟨h12, e13, hF⟩ := nmx hF
  have m14 : ∀ k, gn h7 k ≤ gn h12 k := mst_nw rfl e13
  have hM : ∀ k, gn h k ≤ gn h12 k := fun k => Nat.le_trans (hM k) (m14 k)
  obtain ⟨h16, e17, hF⟩ := nmx hF
  have m18 : ∀ k, gn h12 k ≤ gn h16 k := mst_sr rfl e17
  have hM : ∀ k, gn h k ≤ gn h16 k := fun k => Nat.le_trans (hM k) (m18 k)
  obtain ⟨o19, e20, hF⟩ := nmx hF
  obtain ⟨h21, e22, hF⟩ := nmx hF
  have m23 : ∀ k, gn h16 k ≤ gn h21 k := mst_nw rfl e22
  have hM : ∀ k, gn h k ≤ gn h21 k := fun k => Nat.le_trans (hM k) (m23 k)
  obtain ⟨h25, e26, hF⟩ := nmx hF
  have m27 : ∀ k, gn h21 k ≤ gn h25 k := mst_sr rfl e26
  have hM : ∀ k, gn h k ≤ gn h25 k := fun k => Nat.le_trans (hM k) (m27 k)
  obtain ⟨o28, e29, hF⟩ := nmx hF
  obtain ⟨h30, e31, hF⟩ := nmx hF
  have m32 : ∀ k, gn h25 k ≤ gn h30 k := mst_nw rfl e31
  have hM : ∀ k, gn h k ≤ gn h30 k := fun k => Nat.le_trans (hM k) (m32 k)
  obtain ⟨h34, e35, hF⟩ := nmx hF
  have m36 : ∀ k, gn h30 k ≤ gn h34 k := mst_sr rfl e35
  have hM : ∀ k, gn h k ≤ gn h34 k := fun k => Nat.le_trans (hM k) (m36 k)
  obtain ⟨o37, e38, hF⟩ := nmx hF
  obtain ⟨h39, e40, hF⟩ := nmx hF
  have m41 : ∀ k, gn h34 k ≤ gn h39 k := mst_nw rfl e40
  have hM : ∀ k, gn h k ≤ gn h39 k := fun k => Nat.le_trans (hM k) (m41 k)
  obtain ⟨h43, e44, hF⟩ := nmx hF
  have m45 : ∀ k, gn h39 k ≤ gn h43 k := mst_sr rfl e44
  have hM : ∀ k, gn h k ≤ gn h43 k := fun k => Nat.le_trans (hM k) (m45 k)
  obtain ⟨o46, e47, hF⟩ := nmx hF
  obtain ⟨h48, e49, hF⟩ := nmx hF
  have m50 : ∀ k, gn h43 k ≤ gn h48 k := mst_nw rfl e49
  have hM : ∀ k, gn h k ≤ gn h48 k := fun k => Nat.le_trans (hM k) (m50 k)
  obtain ⟨h52, e53, hF⟩ := nmx hF
  have m54 : ∀ k, gn h48 k ≤ gn h52 k := mst_sr rfl e53
  have hM : ∀ k, gn h k ≤ gn h52 k := fun k => Nat.le_trans (hM k) (m54 k)
  obtain ⟨o55, e56, hF⟩ := nmx hF
  obtain ⟨h57, e58, hF⟩ := nmx hF
  have m59 : ∀ k, gn h52 k ≤ gn h57 k := mst_nw rfl e58
  have hM : ∀ k, gn h k ≤ gn h57 k := fun k => Nat.le_trans (hM k) (m59 k)
  obtain ⟨h61, e62, hF⟩ := nmx hF
  have m63 : ∀ k, gn h57 k ≤ gn h61 k := mst_sr rfl e62
  have hM : ∀ k, gn h k ≤ gn h61 k := fun k => Nat.le_trans (hM k) (m63 k)
  obtain ⟨o64, e65, hF⟩ := nmx hF
  obtain ⟨h66, e67, hF⟩ := nmx hF
  have m68 : ∀ k, gn h61 k ≤ gn h66 k := mst_nw rfl e67
  have hM : ∀ k, gn h k ≤ gn h66 k := fun k => Nat.le_trans (hM k) (m68 k)
  obtain ⟨h70, e71, hF⟩ := nmx hF
  have m72 : ∀ k, gn h66 k ≤ gn h70 k := mst_sr rfl e71
  have hM : ∀ k, gn h k ≤ gn h70 k := fun k => Nat.le_trans (hM k) (m72 k)
  obtain ⟨o73, e74, hF⟩ := nmx hF
  obtain ⟨h75, e76, hF⟩ := nmx hF
  have m77 : ∀ k, gn h70 k ≤ gn h75 k := mst_nw rfl e76
  have hM : ∀ k, gn h k ≤ gn h75 k := fun k => Nat.le_trans (hM k) (m77 k)
  obtain ⟨h79, e80, hF⟩ := nmx hF
  have m81 : ∀ k, gn h75 k ≤ gn h79 k := mst_sr rfl e80
  have hM : ∀ k, gn h k ≤ gn h79 k := fun k => Nat.le_trans (hM k) (m81 k)
  obtain ⟨o82, e83, hF⟩ := nmx hF
  obtain ⟨h84, e85, hF⟩ := nmx hF
  have m86 : ∀ k, gn h79 k ≤ gn h84 k := mst_nw rfl e85
  have hM : ∀ k, gn h k ≤ gn h84 k := fun k => Nat.le_trans (hM k) (m86 k)
  obtain ⟨h88, e89, hF⟩ := nmx hF
  have m90 : ∀ k, gn h84 k ≤ gn h88 k := mst_sr rfl e89
  have hM : ∀ k, gn h k ≤ gn h88 k := fun k => Nat.le_trans (hM k) (m90 k)
  obtain ⟨o91, e92, hF⟩ := nmx hF
  obtain ⟨h93, e94, hF⟩ := nmx hF
  have m95 : ∀ k, gn h88 k ≤ gn h93 k := mst_nw rfl e94
  have hM : ∀ k, gn h k ≤ gn h93 k := fun k => Nat.le_trans (hM k) (m95 k)
  obtain ⟨h97, e98, hF⟩ := nmx hF
  have m99 : ∀ k, gn h93 k ≤ gn h97 k := mst_sr rfl e98
  have hM : ∀ k, gn h k ≤ gn h97 k := fun k => Nat.le_trans (hM k) (m99 k)
  obtain ⟨o100, e101, hF⟩ := nmx hF
  obtain ⟨h102, e103, hF⟩ := nmx hF
  have m104 : ∀ k, gn h97 k ≤ gn h102 k := mst_nw rfl e103
  have hM : ∀ k, gn h k ≤ gn h102 k := fun k => Nat.le_trans (hM k) (m104 k)
  obtain ⟨h106, e107, hF⟩ := nmx hF
  have m108 : ∀ k, gn h102 k ≤ gn h106 k := mst_sr rfl e107
  have hM : ∀ k, gn h k ≤ gn h106 k := fun k => Nat.le_trans (hM k) (m108 k)
  obtain ⟨o109, e110, hF⟩ := nmx hF
  obtain ⟨h111, e112, hF⟩ := nmx hF
  have m113 : ∀ k, gn h106 k ≤ gn h111 k := mst_nw rfl e112
  have hM : ∀ k, gn h k ≤ gn h111 k := fun k => Nat.le_trans (hM k) (m113 k)
  obtain ⟨h115, e116, hF⟩ := nmx hF
  have m117 : ∀ k, gn h111 k ≤ gn h115 k := mst_sr rfl e116
  have hM : ∀ k, gn h k ≤ gn h115 k := fun k => Nat.le_trans (hM k) (m117 k)
  obtain ⟨o118, e119, hF⟩ := nmx hF
  obtain ⟨h120, e121, hF⟩ := nmx hF
  have m122 : ∀ k, gn h115 k ≤ gn h120 k := mst_nw rfl e121
  have hM : ∀ k, gn h k ≤ gn h120 k := fun k => Nat.le_trans (hM k) (m122 k)
  obtain ⟨h124, e125, hF⟩ := nmx hF
  have m126 : ∀ k, gn h120 k ≤ gn h124 k := mst_sr rfl e125
  have hM : ∀ k, gn h k ≤ gn h124 k := fun k => Nat.le_trans (hM k) (m126 k)
  obtain ⟨o127, e128, hF⟩ := nmx hF
  obtain ⟨h129, e130, hF⟩ := nmx hF
  have m131 : ∀ k, gn h124 k ≤ gn h129 k := mst_nw rfl e130
  have hM : ∀ k, gn h k ≤ gn h129 k := fun k => Nat.le_trans (hM k) (m131 k)
  obtain ⟨h133, e134, hF⟩ := nmx hF
  have m135 : ∀ k, gn h129 k ≤ gn h133 k := mst_sr rfl e134
  have hM : ∀ k, gn h k ≤ gn h133 k := fun k => Nat.le_trans (hM k) (m135 k)
  obtain ⟨o136, e137, hF⟩ := nmx hF
  obtain ⟨h138, e139, hF⟩ := nmx hF
  have m140 : ∀ k, gn h133 k ≤ gn h138 k := mst_nw rfl e139
  have hM : ∀ k, gn h k ≤ gn h138 k := fun k => Nat.le_trans (hM k) (m140 k)
  obtain ⟨h142, e143, hF⟩ := nmx hF
  have m144 : ∀ k, gn h138 k ≤ gn h142 k := mst_sr rfl e143
  have hM : ∀ k, gn h k ≤ gn h142 k := fun k => Nat.le_trans (hM k) (m144 k)
  obtain ⟨o145, e146, hF⟩ := nmx hF
  obtain ⟨h147, e148, hF⟩ := nmx hF
  have m149 : ∀ k, gn h142 k ≤ gn h147 k := mst_nw rfl e148
  have hM : ∀ k, gn h k ≤ gn h147 k := fun k => Nat.le_trans (hM k) (m149 k)
  obtain ⟨h151, e152, hF⟩ := nmx hF
  have m153 : ∀ k, gn h147 k ≤ gn h151 k := mst_sr rfl e152
  have hM : ∀ k, gn h k ≤ gn h151 k := fun k => Nat.le_trans (hM k) (m153 k)
  obtain ⟨o154, e155, hF⟩ := nmx hF
  obtain ⟨h156, e157, hF⟩ := nmx hF
  have m158 : ∀ k, gn h151 k ≤ gn h156 k := mst_nw rfl e157
  have hM : ∀ k, gn h k ≤ gn h156 k := fun k => Nat.le_trans (hM k) (m158 k)
  obtain ⟨h160, e161, hF⟩ := nmx hF
  have m162 : ∀ k, gn h156 k ≤ gn h160 k := mst_sr rfl e161
  have hM : ∀ k, gn h k ≤ gn h160 k := fun k => Nat.le_trans (hM k) (m162 k)
  obtain ⟨o163, e164, hF⟩ := nmx hF
  obtain ⟨h165, e166, hF⟩ := nmx hF
  have m167 : ∀ k, gn h160 k ≤ gn h165 k := mst_nw rfl e166
  have hM : ∀ k, gn h k ≤ gn h165 k := fun k => Nat.le_trans (hM k) (m167 k)
  obtain ⟨h169, e170, hF⟩ := nmx hF
  have m171 : ∀ k, gn h165 k ≤ gn h169 k := mst_sr rfl e170
  have hM : ∀ k, gn h k ≤ gn h169 k := fun k => Nat.le_trans (hM k) (m171 k)
  obtain ⟨o172, e173, hF⟩ := nmx hF
  obtain ⟨h174, e175, hF⟩ := nmx hF
  have m176 : ∀ k, gn h169 k ≤ gn h174 k := mst_nw rfl e175
  have hM : ∀ k, gn h k ≤ gn h174 k := fun k => Nat.le_trans (hM k) (m176 k)
  obtain ⟨h178, e179, hF⟩ := nmx hF
  have m180 : ∀ k, gn h174 k ≤ gn h178 k := mst_sr rfl e179
  have hM : ∀ k, gn h k ≤ gn h178 k := fun k => Nat.le_trans (hM k) (m180 k)
  obtain ⟨o181, e182, hF⟩ := nmx hF
  obtain ⟨h183, e184, hF⟩ := nmx hF
  have m185 : ∀ k, gn h178 k ≤ gn h183 k := mst_nw rfl e184
  have hM : ∀ k, gn h k ≤ gn h183 k := fun k => Nat.le_trans (hM k) (m185 k)
  obtain ⟨h187, e188, hF⟩ := nmx hF
  have m189 : ∀ k, gn h183 k ≤ gn h187 k := mst_sr rfl e188
  have hM : ∀ k, gn h k ≤ gn h187 k := fun k => Nat.le_trans (hM k) (m189 k)
  obtain ⟨o190, e191, hF⟩ := nmx hF
  obtain ⟨h192, e193, hF⟩ := nmx hF
  have m194 : ∀ k, gn h187 k ≤ gn h192 k := mst_nw rfl e193
  have hM : ∀ k, gn h k ≤ gn h192 k := fun k => Nat.le_trans (hM k) (m194 k)
  obtain ⟨h196, e197, hF⟩ := nmx hF
  have m198 : ∀ k, gn h192 k ≤ gn h196 k := mst_sr rfl e197
  have hM : ∀ k, gn h k ≤ gn h196 k := fun k => Nat.le_trans (hM k) (m198 k)
  obtain ⟨o199, e200, hF⟩ := nmx hF
  obtain ⟨h201, e202, hF⟩ := nmx hF
  have m203 : ∀ k, gn h196 k ≤ gn h201 k := mst_nw rfl e202
  have hM : ∀ k, gn h k ≤ gn h201 k := fun k => Nat.le_trans (hM k) (m203 k)
  obtain ⟨h205, e206, hF⟩ := nmx hF
  have m207 : ∀ k, gn h201 k ≤ gn h205 k := mst_sr rfl e206
  have hM : ∀ k, gn h k ≤ gn h205 k := fun k => Nat.le_trans (hM k) (m207 k)
  obtain ⟨o208, e209, hF⟩ := nmx hF
  obtain ⟨h210, e211, hF⟩ := nmx hF
  have m212 : ∀ k, gn h205 k ≤ gn h210 k := mst_nw rfl e211
  have hM : ∀ k, gn h k ≤ gn h210 k := fun k => Nat.le_trans (hM k) (m212 k)
  obtain ⟨h214, e215, hF⟩ := nmx hF
  have m216 : ∀ k, gn h210 k ≤ gn h214 k := mst_sr rfl e215
  have hM : ∀ k, gn h k ≤ gn h214 k := fun k => Nat.le_trans (hM k) (m216 k)
  obtain ⟨o217, e218, hF⟩ := nmx hF
  obtain ⟨h219, e220, hF⟩ := nmx hF
  have m221 : ∀ k, gn h214 k ≤ gn h219 k := mst_nw rfl e220
  have hM : ∀ k, gn h k ≤ gn h219 k := fun k => Nat.le_trans (hM k) (m221 k)
  obtain ⟨h223, e224, hF⟩ := nmx hF
  have m225 : ∀ k, gn h219 k ≤ gn h223 k := mst_sr rfl e224
  have hM : ∀ k, gn h k ≤ gn h223 k := fun k => Nat.le_trans (hM k) (m225 k)
  obtain ⟨o226, e227, hF⟩ := nmx hF
  obtain ⟨h228, e229, hF⟩ := nmx hF
  have m230 : ∀ k, gn h223 k ≤ gn h228 k := mst_nw rfl e229
  have hM : ∀ k, gn h k ≤ gn h228 k := fun k => Nat.le_trans (hM k) (m230 k)
  obtain ⟨h232, e233, hF⟩ := nmx hF
  have m234 : ∀ k, gn h228 k ≤ gn h232 k := mst_sr rfl e233
  have hM : ∀ k, gn h k ≤ gn h232 k := fun k => Nat.le_trans (hM k) (m234 k)
  obtain ⟨o235, e236, hF⟩ := nmx hF
  obtain ⟨h237, e238, hF⟩ := nmx hF
  have m239 : ∀ k, gn h232 k ≤ gn h237 k := mst_nw rfl e238
  have hM : ∀ k, gn h k ≤ gn h237 k := fun k => Nat.le_trans (hM k) (m239 k)
  obtain ⟨h241, e242, hF⟩ := nmx hF
  have m243 : ∀ k, gn h237 k ≤ gn h241 k := mst_sr rfl e242
  have hM : ∀ k, gn h k ≤ gn h241 k := fun k => Nat.le_trans (hM k) (m243 k)
  obtain ⟨h244, e245, hF⟩ := nmx hF
  have g246 : h244.2.2 = h241.2.2 := by rw [e245]; exact rfl
  obtain ⟨h247, e248, hF⟩ := nmx hF
  have g249 : h247.2.2 = h241.2.2 := by rw [e248]; exact g246
  obtain ⟨o250, e251, hF⟩ := nmx hF
  obtain ⟨h252, e253, hF⟩ := nmx hF
  have m254 : ∀ k, gn h241 k ≤ gn h252 k := mst_nw g249 e253
  have hM : ∀ k, gn h k ≤ gn h252 k := fun k => Nat.le_trans (hM k) (m254 k)
  obtain ⟨h256, e257, hF⟩ := nmx hF
  have m258 : ∀ k, gn h252 k ≤ gn h256 k := mst_sr rfl e257
  have hM : ∀ k, gn h k ≤ gn h256 k := fun k => Nat.le_trans (hM k) (m258 k)
  obtain ⟨o259, e260, hF⟩ := nmx hF
  obtain ⟨h261, e262, hF⟩ := nmx hF
  have m263 : ∀ k, gn h256 k ≤ gn h261 k := mst_nw rfl e262
  have hM : ∀ k, gn h k ≤ gn h261 k := fun k => Nat.le_trans (hM k) (m263 k)
  obtain ⟨h265, e266, hF⟩ := nmx hF
  have m267 : ∀ k, gn h261 k ≤ gn h265 k := mst_sr rfl e266
  have hM : ∀ k, gn h k ≤ gn h265 k := fun k => Nat.le_trans (hM k) (m267 k)
  obtain ⟨o268, e269, hF⟩ := nmx hF
  obtain ⟨h270, e271, hF⟩ := nmx hF
  have m272 : ∀ k, gn h265 k ≤ gn h270 k := mst_nw rfl e271
  have hM : ∀ k, gn h k ≤ gn h270 k := fun k => Nat.le_trans (hM k) (m272 k)
  obtain ⟨h274, e275, hF⟩ := nmx hF
  have m276 : ∀ k, gn h270 k ≤ gn h274 k := mst_sr rfl e275
  have hM : ∀ k, gn h k ≤ gn h274 k := fun k => Nat.le_trans (hM k) (m276 k)
  obtain ⟨o277, e278, hF⟩ := nmx hF
  obtain ⟨h279, e280, hF⟩ := nmx hF
  have m281 : ∀ k, gn h274 k ≤ gn h279 k := mst_nw rfl e280
  have hM : ∀ k, gn h k ≤ gn h279 k := fun k => Nat.le_trans (hM k) (m281 k)
  obtain ⟨h283, e284, hF⟩ := nmx hF
  have m285 : ∀ k, gn h279 k ≤ gn h283 k := mst_sr rfl e284
  have hM : ∀ k, gn h k ≤ gn h283 k := fun k => Nat.le_trans (hM k) (m285 k)
  obtain ⟨o286, e287, hF⟩ := nmx hF
  obtain ⟨h288, e289, hF⟩ := nmx hF
  have m290 : ∀ k, gn h283 k ≤ gn h288 k := mst_nw rfl e289
  have hM : ∀ k, gn h k ≤ gn h288 k := fun k => Nat.le_trans (hM k) (m290 k)
  obtain ⟨h292, e293, hF⟩ := nmx hF
  have m294 : ∀ k, gn h288 k ≤ gn h292 k := mst_sr rfl e293
  have hM : ∀ k, gn h k ≤ gn h292 k := fun k => Nat.le_trans (hM k) (m294 k)
  obtain ⟨o295, e296, hF⟩ := nmx hF
  obtain ⟨h297, e298, hF⟩ := nmx hF
  have m299 : ∀ k, gn h292 k ≤ gn h297 k := mst_nw rfl e298
  have hM : ∀ k, gn h k ≤ gn h297 k := fun k => Nat.le_trans (hM k) (m299 k)
  obtain ⟨h301, e302, hF⟩ := nmx hF
  have m303 : ∀ k, gn h297 k ≤ gn h301 k := mst_sr rfl e302
  have hM : ∀ k, gn h k ≤ gn h301 k := fun k => Nat.le_trans (hM k) (m303 k)
  obtain ⟨o304, e305, hF⟩ := nmx hF
  obtain ⟨h306, e307, hF⟩ := nmx hF
  have m308 : ∀ k, gn h301 k ≤ gn h306 k := mst_nw rfl e307
  have hM : ∀ k, gn h k ≤ gn h306 k := fun k => Nat.le_trans (hM k) (m308 k)
  obtain ⟨h310, e311, hF⟩ := nmx hF
  have m312 : ∀ k, gn h306 k ≤ gn h310 k := mst_sr rfl e311
  have hM : ∀ k, gn h k ≤ gn h310 k := fun k => Nat.le_trans (hM k) (m312 k)
  obtain ⟨o313, e314, hF⟩ := nmx hF
  obtain ⟨h315, e316, hF⟩ := nmx hF
  have m317 : ∀ k, gn h310 k ≤ gn h315 k := mst_nw rfl e316
  have hM : ∀ k, gn h k ≤ gn h315 k := fun k => Nat.le_trans (hM k) (m317 k)
  obtain ⟨h319, e320, hF⟩ := nmx hF
  have m321 : ∀ k, gn h315 k ≤ gn h319 k := mst_sr rfl e320
  have hM : ∀ k, gn h k ≤ gn h319 k := fun k => Nat.le_trans (hM k) (m321 k)
  obtain ⟨o322, e323, hF⟩ := nmx hF
  obtain ⟨h324, e325, hF⟩ := nmx hF
  have m326 : ∀ k, gn h319 k ≤ gn h324 k := mst_nw rfl e325
  have hM : ∀ k, gn h k ≤ gn h324 k := fun k => Nat.le_trans (hM k) (m326 k)
  obtain ⟨h328, e329, hF⟩ := nmx hF
  have m330 : ∀ k, gn h324 k ≤ gn h328 k := mst_sr rfl e329
  have hM : ∀ k, gn h k ≤ gn h328 k := fun k => Nat.le_trans (hM k) (m330 k)
  obtain ⟨o331, e332, hF⟩ := nmx hF
  obtain ⟨h333, e334, hF⟩ := nmx hF
  have m335 : ∀ k, gn h328 k ≤ gn h333 k := mst_nw rfl e334
  have hM : ∀ k, gn h k ≤ gn h333 k := fun k => Nat.le_trans (hM k) (m335 k)
  obtain ⟨h337, e338, hF⟩ := nmx hF
  have m339 : ∀ k, gn h333 k ≤ gn h337 k := mst_sr rfl e338
  have hM : ∀ k, gn h k ≤ gn h337 k := fun k => Nat.le_trans (hM k) (m339 k)
  obtain ⟨o340, e341, hF⟩ := nmx hF
  obtain ⟨h342, e343, hF⟩ := nmx hF
  have m344 : ∀ k, gn h337 k ≤ gn h342 k := mst_nw rfl e343
  have hM : ∀ k, gn h k ≤ gn h342 k := fun k => Nat.le_trans (hM k) (m344 k)
  obtain ⟨h346, e347, hF⟩ := nmx hF
  have m348 : ∀ k, gn h342 k ≤ gn h346 k := mst_sr rfl e347
  have hM : ∀ k, gn h k ≤ gn h346 k := fun k => Nat.le_trans (hM k) (m348 k)
  obtain ⟨o349, e350, hF⟩ := nmx hF
  obtain ⟨h351, e352, hF⟩ := nmx hF
  have m353 : ∀ k, gn h346 k ≤ gn h351 k := mst_nw rfl e352
  have hM : ∀ k, gn h k ≤ gn h351 k := fun k => Nat.le_trans (hM k) (m353 k)
  obtain ⟨h355, e356, hF⟩ := nmx hF
  have m357 : ∀ k, gn h351 k ≤ gn h355 k := mst_sr rfl e356
  have hM : ∀ k, gn h k ≤ gn h355 k := fun k => Nat.le_trans (hM k) (m357 k)
  obtain ⟨o358, e359, hF⟩ := bn hF
  obtain ⟨h361, e362, hF⟩ := bn hF
  obtain ⟨b363, e362⟩ := sa_s e362
  have g364 : h361.2.2 = h355.2.2 := by rw [e362]; exact rfl
  obtain ⟨o365, e366, hF⟩ := bn hF
  obtain ⟨h368, e369, hF⟩ := bn hF
  obtain ⟨b370, e369⟩ := sa_s e369
  have g371 : h368.2.2 = h355.2.2 := by rw [e369]; exact g364
  obtain ⟨o372, e373, hF⟩ := bn hF
  obtain ⟨h375, e376, hF⟩ := bn hF
  obtain ⟨b377, e376⟩ := sa_s e376
  have g378 : h375.2.2 = h355.2.2 := by rw [e376]; exact g371
  obtain ⟨o379, e380, hF⟩ := bn hF
  obtain ⟨h382, e383, hF⟩ := bn hF
  obtain ⟨b384, e383⟩ := sa_s e383
  have g385 : h382.2.2 = h355.2.2 := by rw [e383]; exact g378
  obtain ⟨o386, e387, hF⟩ := bn hF
  obtain ⟨h389, e390, hF⟩ := bn hF
  obtain ⟨b391, e390⟩ := sa_s e390
  have g392 : h389.2.2 = h355.2.2 := by rw [e390]; exact g385
  obtain ⟨o393, e394, hF⟩ := bn hF
  obtain ⟨h396, e397, hF⟩ := bn hF
  obtain ⟨b398, e397⟩ := sa_s e397
  have g399 : h396.2.2 = h355.2.2 := by rw [e397]; exact g392
  obtain ⟨o400, e401, hF⟩ := bn hF
  obtain ⟨h403, e404, hF⟩ := bn hF
  obtain ⟨b405, e404⟩ := sa_s e404
  have g406 : h403.2.2 = h355.2.2 := by rw [e404]; exact g399
  obtain ⟨o407, e408, hF⟩ := bn hF
  obtain ⟨h410, e411, hF⟩ := bn hF
  obtain ⟨b412, e411⟩ := sa_s e411
  have g413 : h410.2.2 = h355.2.2 := by rw [e411]; exact g406
  obtain ⟨o414, e415, hF⟩ := bn hF
  obtain ⟨h417, e418, hF⟩ := bn hF
  obtain ⟨b419, e418⟩ := sa_s e418
  have g420 : h417.2.2 = h355.2.2 := by rw [e418]; exact g413
  obtain rfl := sj hF
  exact hMg hM g420
