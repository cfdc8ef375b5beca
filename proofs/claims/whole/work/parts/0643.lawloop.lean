def CPall (RL : HP → Prop) : Prop := CP_pass RL ∧ CP_parish RL ∧ CP_moved RL ∧ CP_bell RL ∧ CP_read RL ∧ CP_tone RL ∧ CP_about RL ∧ CP_become RL ∧ CP_was RL ∧ CP_type RL ∧ CP_wipe RL ∧ CP_fault RL ∧ CP_letter RL ∧ CP_why RL ∧ CP_kept RL ∧ CP_list RL ∧ CP_gained RL ∧ CP_find RL ∧ CP_forget RL ∧ CP_could RL ∧ CP_next RL ∧ CP_laying RL ∧ CP_laid RL ∧ CP_tune RL ∧ CP_peal RL ∧ CP_step RL ∧ CP_batch RL ∧ CP_sets RL ∧ CP_held RL ∧ CP_melts RL ∧ CP_shorts RL ∧ CP_send RL ∧ CP_sent RL ∧ CP_claim RL ∧ CP_rank RL ∧ CP_whose RL ∧ CP_lands RL ∧ CP_sheet RL ∧ CP_lose RL ∧ CP_put RL ∧ CP_get RL ∧ CP_copy RL ∧ CP_write RL ∧ CP_count RL ∧ CP_digest RL
theorem ll_go {L j : Nat} (hL : L ≤ 3072) (hj : 6 * j ≤ L) (c : ¬ Int32.ofNat L - 6 < nI (6 * j)) : 6 * j + 6 ≤ L := by
  rcases Nat.lt_or_ge L (6 * j + 6) with q | q
  · exfalso
    apply c
    have e : Int32.ofNat L - 6 = nI L - nI 6 := rfl
    rw [e]
    apply Int32.lt_iff_toInt_lt.mpr
    rw [pk_sub_toInt (by omega) (by decide), nI_toInt (by omega)]
    omega
  · exact q
set_option maxHeartbeats 8000000 in
set_option maxRecDepth 100000 in
theorem law_loop {p : Program} {l : Launch} {e : Env} {s : State} {m : MethodId} {below : List Frame} {meth : Method} {c : Code} {D : va_G} {cA : Nat → ClassId} {A : Nat → Prop} {b L : Nat} {xs : Nat → Int32} {Q : State → Prop} {RL : HP → Prop} (X : CX p s m #[Value.ref b] c cL_law "BellYardsLaw" 4 D cA A) (hX : va_X b L xs s s.heap) (hbl : b < s.heap.size) (hbA : ¬ A b) (hL : L ≤ 3072) (hal : ∀ h, RL h → 0 < gn h 11 ∧ 0 < gn h 12) (cp : CPall RL)
    (hfin : ∀ (H : Heap) (locs : List Loc) (ls : Array Slot) (j : Nat), j ≤ 512 → va_S A s.heap H locs → W p l e room_1 s m #[Value.ref b] below meth c H locs (76 + 64 * j) (3034 + 768 * j) Q (F0 m 1710 ls [])) :
    ∀ (n j : Nat) (x3 : Int32), 6 * j ≤ L → L < 6 * (j + n) → x3 = nI (6 * j) → ∀ (φ : Nat → Nat → Nat) (h : HP) (H : Heap) (locs : List Loc) (ls : Array Slot), RL h → HW D cA A φ h H → va_S A s.heap H locs → lv_has ls 4 [(0, .ref b), (1, .ref (φ 11 0)), (2, .ref (φ 12 0)), (3, .int x3)] → W p l e room_1 s m #[Value.ref b] below meth c H locs (76 + 64 * j) (3034 + 768 * j) Q (F0 m 18 ls []) := by
  have hx := X.1
  have hb := X.2.1
  obtain ⟨cp0, cp1, cp2, cp3, cp4, cp5, cp6, cp7, cp8, cp9, cp10, cp11, cp12, cp13, cp14, cp15, cp16, cp17, cp18, cp19, cp20, cp21, cp22, cp23, cp24, cp25, cp26, cp27, cp28, cp29, cp30, cp31, cp32, cp33, cp34, cp35, cp36, cp37, cp38, cp39, cp40, cp41, cp42, cp43, cp44⟩ := cp
  intro n
  induction n with
  | zero => intro j x3 h1 h2; omega
  | succ n ih =>
    intro j x3 hj hn ex φ h H locs ls hR hW hS hl
    refine lv_iload_n hx hb dL_law_18 rfl (lv_at hl 3 rfl) ?_
    refine lv_aload_n hx hb dL_law_19 rfl (lv_at hl 0 rfl) ?_
    refine va_slen hx hb hX hbl hbA hS dL_law_20 ?_
    refine lv_bipush (v := 6) hx hb dL_law_21 (by decide) ?_
    refine lv_isub hx hb dL_law_23 ?_
    refine lv_icmp_gt (tgt := 1710) hx hb dL_law_24 (by decide) (fun _ => hfin H locs ls j (by omega) hS) (fun cg => ?_)
    have hj6 : 6 * j + 6 ≤ L := ll_go hL hj (by rw [← ex]; exact cg)
    have v0 : vp_in x3 L := by rw [ex]; exact vp_in_nI (by omega) (by omega)
    have hend : ∀ (φ : Nat → Nat → Nat) (h : HP) (H : Heap) (locs : List Loc) (ls : Array Slot), RL h → HW D cA A φ h H → va_S A s.heap H locs → lv_has ls 4 [(0, .ref b), (1, .ref (φ 11 0)), (2, .ref (φ 12 0)), (3, .int x3)] → W p l e room_1 s m #[Value.ref b] below meth c H locs (76 + 64 * (j + 1)) (3034 + 768 * (j + 1)) Q (F0 m 1704 ls []) := by
      intro φ h H locs ls hR hW hS hl
      obtain ⟨y3, ey⟩ : ∃ y : Int32, y = x3 + 6 := ⟨_, rfl⟩
      refine lv_iinc (v := y3) (lv' := [(3, .int y3), (0, .ref b), (1, .ref (φ 11 0)), (2, .ref (φ 12 0))]) hx hb dL_law_1704 hl (k := 3) rfl (by rw [ey]; rfl) (by decide) rfl (fun ls hl => ?_)
      refine lv_goto (tgt := 18) hx hb dL_law_1707 (by decide) ?_
      exact ih (j + 1) y3 (by omega) (by omega) (by rw [ey, ex]; show nI (6 * j) + nI 6 = _; rw [nI_add]; congr 1) φ h H locs ls hR hW hS (lv_sub hl [1, 2, 3, 0] rfl)
    refine lv_aload_n hx hb dL_law_27 rfl (lv_at hl 0 rfl) ?_
    refine lv_iload_n hx hb dL_law_28 rfl (lv_at hl 3 rfl) ?_
    refine va_sld hx hb hX hbl hbA hS v0 dL_law_29 ?_
    refine lv_bipush (v := 63) hx hb dL_law_30 (by decide) ?_
    refine lv_iand hx hb dL_law_32 ?_
    generalize xs x3.toNatClampNeg &&& 63 = sel
    by_cases c0 : sel = 0
    · refine lv_tableIn (tgt := 228) hx hb dL_law_33 (by rw [c0]; decide) (by rw [c0]; decide) (off := 195) (by rw [c0]; rfl) (by decide) ?_
      exact lc_pass X hX hbl hbA hL hal cp0 ex hj6 hR hW hS hl hend
    by_cases c1 : sel = 1
    · refine lv_tableIn (tgt := 251) hx hb dL_law_33 (by rw [c1]; decide) (by rw [c1]; decide) (off := 218) (by rw [c1]; rfl) (by decide) ?_
      exact lc_parish X hX hbl hbA hL hal cp1 ex hj6 hR hW hS hl hend
    by_cases c2 : sel = 2
    · refine lv_tableIn (tgt := 274) hx hb dL_law_33 (by rw [c2]; decide) (by rw [c2]; decide) (off := 241) (by rw [c2]; rfl) (by decide) ?_
      exact lc_moved X hX hbl hbA hL hal cp2 ex hj6 hR hW hS hl hend
    by_cases c3 : sel = 3
    · refine lv_tableIn (tgt := 307) hx hb dL_law_33 (by rw [c3]; decide) (by rw [c3]; decide) (off := 274) (by rw [c3]; rfl) (by decide) ?_
      exact lc_bell X hX hbl hbA hL hal cp3 ex hj6 hR hW hS hl hend
    by_cases c4 : sel = 4
    · refine lv_tableIn (tgt := 360) hx hb dL_law_33 (by rw [c4]; decide) (by rw [c4]; decide) (off := 327) (by rw [c4]; rfl) (by decide) ?_
      exact lc_read X hX hbl hbA hL hal cp4 ex hj6 hR hW hS hl hend
    by_cases c5 : sel = 5
    · refine lv_tableIn (tgt := 383) hx hb dL_law_33 (by rw [c5]; decide) (by rw [c5]; decide) (off := 350) (by rw [c5]; rfl) (by decide) ?_
      exact lc_tone X hX hbl hbA hL hal cp5 ex hj6 hR hW hS hl hend
    by_cases c6 : sel = 6
    · refine lv_tableIn (tgt := 426) hx hb dL_law_33 (by rw [c6]; decide) (by rw [c6]; decide) (off := 393) (by rw [c6]; rfl) (by decide) ?_
      exact lc_about X hX hbl hbA hL hal cp6 ex hj6 hR hW hS hl hend
    by_cases c7 : sel = 7
    · refine lv_tableIn (tgt := 459) hx hb dL_law_33 (by rw [c7]; decide) (by rw [c7]; decide) (off := 426) (by rw [c7]; rfl) (by decide) ?_
      exact lc_become X hX hbl hbA hL hal cp7 ex hj6 hR hW hS hl hend
    by_cases c8 : sel = 8
    · refine lv_tableIn (tgt := 492) hx hb dL_law_33 (by rw [c8]; decide) (by rw [c8]; decide) (off := 459) (by rw [c8]; rfl) (by decide) ?_
      exact lc_was X hX hbl hbA hL hal cp8 ex hj6 hR hW hS hl hend
    by_cases c9 : sel = 9
    · refine lv_tableIn (tgt := 525) hx hb dL_law_33 (by rw [c9]; decide) (by rw [c9]; decide) (off := 492) (by rw [c9]; rfl) (by decide) ?_
      exact lc_type X hX hbl hbA hL hal cp9 ex hj6 hR hW hS hl hend
    by_cases c10 : sel = 10
    · refine lv_tableIn (tgt := 548) hx hb dL_law_33 (by rw [c10]; decide) (by rw [c10]; decide) (off := 515) (by rw [c10]; rfl) (by decide) ?_
      exact lc_wipe X hX hbl hbA hL hal cp10 ex hj6 hR hW hS hl hend
    by_cases c11 : sel = 11
    · refine lv_tableIn (tgt := 561) hx hb dL_law_33 (by rw [c11]; decide) (by rw [c11]; decide) (off := 528) (by rw [c11]; rfl) (by decide) ?_
      exact lc_fault X hX hbl hbA hL hal cp11 ex hj6 hR hW hS hl hend
    by_cases c12 : sel = 12
    · refine lv_tableIn (tgt := 574) hx hb dL_law_33 (by rw [c12]; decide) (by rw [c12]; decide) (off := 541) (by rw [c12]; rfl) (by decide) ?_
      exact lc_letter X hX hbl hbA hL hal cp12 ex hj6 hR hW hS hl hend
    by_cases c13 : sel = 13
    · refine lv_tableIn (tgt := 607) hx hb dL_law_33 (by rw [c13]; decide) (by rw [c13]; decide) (off := 574) (by rw [c13]; rfl) (by decide) ?_
      exact lc_why X hX hbl hbA hL hal cp13 ex hj6 hR hW hS hl hend
    by_cases c14 : sel = 14
    · refine lv_tableIn (tgt := 640) hx hb dL_law_33 (by rw [c14]; decide) (by rw [c14]; decide) (off := 607) (by rw [c14]; rfl) (by decide) ?_
      exact lc_kept X hX hbl hbA hL hal cp14 ex hj6 hR hW hS hl hend
    by_cases c15 : sel = 15
    · refine lv_tableIn (tgt := 673) hx hb dL_law_33 (by rw [c15]; decide) (by rw [c15]; decide) (off := 640) (by rw [c15]; rfl) (by decide) ?_
      exact lc_list X hX hbl hbA hL hal cp15 ex hj6 hR hW hS hl hend
    by_cases c16 : sel = 16
    · refine lv_tableIn (tgt := 706) hx hb dL_law_33 (by rw [c16]; decide) (by rw [c16]; decide) (off := 673) (by rw [c16]; rfl) (by decide) ?_
      exact lc_gained X hX hbl hbA hL hal cp16 ex hj6 hR hW hS hl hend
    by_cases c17 : sel = 17
    · refine lv_tableIn (tgt := 739) hx hb dL_law_33 (by rw [c17]; decide) (by rw [c17]; decide) (off := 706) (by rw [c17]; rfl) (by decide) ?_
      exact lc_find X hX hbl hbA hL hal cp17 ex hj6 hR hW hS hl hend
    by_cases c18 : sel = 18
    · refine lv_tableIn (tgt := 792) hx hb dL_law_33 (by rw [c18]; decide) (by rw [c18]; decide) (off := 759) (by rw [c18]; rfl) (by decide) ?_
      exact lc_forget X hX hbl hbA hL hal cp18 ex hj6 hR hW hS hl hend
    by_cases c19 : sel = 19
    · refine lv_tableIn (tgt := 805) hx hb dL_law_33 (by rw [c19]; decide) (by rw [c19]; decide) (off := 772) (by rw [c19]; rfl) (by decide) ?_
      exact lc_could X hX hbl hbA hL hal cp19 ex hj6 hR hW hS hl hend
    by_cases c20 : sel = 20
    · refine lv_tableIn (tgt := 828) hx hb dL_law_33 (by rw [c20]; decide) (by rw [c20]; decide) (off := 795) (by rw [c20]; rfl) (by decide) ?_
      exact lc_next X hX hbl hbA hL hal cp20 ex hj6 hR hW hS hl hend
    by_cases c21 : sel = 21
    · refine lv_tableIn (tgt := 851) hx hb dL_law_33 (by rw [c21]; decide) (by rw [c21]; decide) (off := 818) (by rw [c21]; rfl) (by decide) ?_
      exact lc_laying X hX hbl hbA hL hal cp21 ex hj6 hR hW hS hl hend
    by_cases c22 : sel = 22
    · refine lv_tableIn (tgt := 874) hx hb dL_law_33 (by rw [c22]; decide) (by rw [c22]; decide) (off := 841) (by rw [c22]; rfl) (by decide) ?_
      exact lc_laid X hX hbl hbA hL hal cp22 ex hj6 hR hW hS hl hend
    by_cases c23 : sel = 23
    · refine lv_tableIn (tgt := 897) hx hb dL_law_33 (by rw [c23]; decide) (by rw [c23]; decide) (off := 864) (by rw [c23]; rfl) (by decide) ?_
      exact lc_tune X hX hbl hbA hL hal cp23 ex hj6 hR hW hS hl hend
    by_cases c24 : sel = 24
    · refine lv_tableIn (tgt := 930) hx hb dL_law_33 (by rw [c24]; decide) (by rw [c24]; decide) (off := 897) (by rw [c24]; rfl) (by decide) ?_
      exact lc_peal X hX hbl hbA hL hal cp24 ex hj6 hR hW hS hl hend
    by_cases c25 : sel = 25
    · refine lv_tableIn (tgt := 963) hx hb dL_law_33 (by rw [c25]; decide) (by rw [c25]; decide) (off := 930) (by rw [c25]; rfl) (by decide) ?_
      exact lc_step X hX hbl hbA hL hal cp25 ex hj6 hR hW hS hl hend
    by_cases c26 : sel = 26
    · refine lv_tableIn (tgt := 996) hx hb dL_law_33 (by rw [c26]; decide) (by rw [c26]; decide) (off := 963) (by rw [c26]; rfl) (by decide) ?_
      exact lc_batch X hX hbl hbA hL hal cp26 ex hj6 hR hW hS hl hend
    by_cases c27 : sel = 27
    · refine lv_tableIn (tgt := 1059) hx hb dL_law_33 (by rw [c27]; decide) (by rw [c27]; decide) (off := 1026) (by rw [c27]; rfl) (by decide) ?_
      exact lc_sets X hX hbl hbA hL hal cp27 ex hj6 hR hW hS hl hend
    by_cases c28 : sel = 28
    · refine lv_tableIn (tgt := 1092) hx hb dL_law_33 (by rw [c28]; decide) (by rw [c28]; decide) (off := 1059) (by rw [c28]; rfl) (by decide) ?_
      exact lc_held X hX hbl hbA hL hal cp28 ex hj6 hR hW hS hl hend
    by_cases c29 : sel = 29
    · refine lv_tableIn (tgt := 1125) hx hb dL_law_33 (by rw [c29]; decide) (by rw [c29]; decide) (off := 1092) (by rw [c29]; rfl) (by decide) ?_
      exact lc_melts X hX hbl hbA hL hal cp29 ex hj6 hR hW hS hl hend
    by_cases c30 : sel = 30
    · refine lv_tableIn (tgt := 1158) hx hb dL_law_33 (by rw [c30]; decide) (by rw [c30]; decide) (off := 1125) (by rw [c30]; rfl) (by decide) ?_
      exact lc_shorts X hX hbl hbA hL hal cp30 ex hj6 hR hW hS hl hend
    by_cases c31 : sel = 31
    · refine lv_tableIn (tgt := 1191) hx hb dL_law_33 (by rw [c31]; decide) (by rw [c31]; decide) (off := 1158) (by rw [c31]; rfl) (by decide) ?_
      exact lc_send X hX hbl hbA hL hal cp31 ex hj6 hR hW hS hl hend
    by_cases c32 : sel = 32
    · refine lv_tableIn (tgt := 1234) hx hb dL_law_33 (by rw [c32]; decide) (by rw [c32]; decide) (off := 1201) (by rw [c32]; rfl) (by decide) ?_
      exact lc_sent X hX hbl hbA hL hal cp32 ex hj6 hR hW hS hl hend
    by_cases c33 : sel = 33
    · refine lv_tableIn (tgt := 1257) hx hb dL_law_33 (by rw [c33]; decide) (by rw [c33]; decide) (off := 1224) (by rw [c33]; rfl) (by decide) ?_
      exact lc_claim X hX hbl hbA hL hal cp33 ex hj6 hR hW hS hl hend
    by_cases c34 : sel = 34
    · refine lv_tableIn (tgt := 1310) hx hb dL_law_33 (by rw [c34]; decide) (by rw [c34]; decide) (off := 1277) (by rw [c34]; rfl) (by decide) ?_
      exact lc_rank X hX hbl hbA hL hal cp34 ex hj6 hR hW hS hl hend
    by_cases c35 : sel = 35
    · refine lv_tableIn (tgt := 1343) hx hb dL_law_33 (by rw [c35]; decide) (by rw [c35]; decide) (off := 1310) (by rw [c35]; rfl) (by decide) ?_
      exact lc_whose X hX hbl hbA hL hal cp35 ex hj6 hR hW hS hl hend
    by_cases c36 : sel = 36
    · refine lv_tableIn (tgt := 1376) hx hb dL_law_33 (by rw [c36]; decide) (by rw [c36]; decide) (off := 1343) (by rw [c36]; rfl) (by decide) ?_
      exact lc_lands X hX hbl hbA hL hal cp36 ex hj6 hR hW hS hl hend
    by_cases c37 : sel = 37
    · refine lv_tableIn (tgt := 1409) hx hb dL_law_33 (by rw [c37]; decide) (by rw [c37]; decide) (off := 1376) (by rw [c37]; rfl) (by decide) ?_
      exact lc_sheet X hX hbl hbA hL hal cp37 ex hj6 hR hW hS hl hend
    by_cases c38 : sel = 38
    · refine lv_tableIn (tgt := 1452) hx hb dL_law_33 (by rw [c38]; decide) (by rw [c38]; decide) (off := 1419) (by rw [c38]; rfl) (by decide) ?_
      exact lc_lose X hX hbl hbA hL hal cp38 ex hj6 hR hW hS hl hend
    by_cases c39 : sel = 39
    · refine lv_tableIn (tgt := 1475) hx hb dL_law_33 (by rw [c39]; decide) (by rw [c39]; decide) (off := 1442) (by rw [c39]; rfl) (by decide) ?_
      exact lc_put X hX hbl hbA hL hal cp39 ex hj6 hR hW hS hl hend
    by_cases c40 : sel = 40
    · refine lv_tableIn (tgt := 1528) hx hb dL_law_33 (by rw [c40]; decide) (by rw [c40]; decide) (off := 1495) (by rw [c40]; rfl) (by decide) ?_
      exact lc_get X hX hbl hbA hL hal cp40 ex hj6 hR hW hS hl hend
    by_cases c41 : sel = 41
    · refine lv_tableIn (tgt := 1571) hx hb dL_law_33 (by rw [c41]; decide) (by rw [c41]; decide) (off := 1538) (by rw [c41]; rfl) (by decide) ?_
      exact lc_copy X hX hbl hbA hL hal cp41 ex hj6 hR hW hS hl hend
    by_cases c42 : sel = 42
    · refine lv_tableIn (tgt := 1634) hx hb dL_law_33 (by rw [c42]; decide) (by rw [c42]; decide) (off := 1601) (by rw [c42]; rfl) (by decide) ?_
      exact lc_write X hX hbl hbA hL hal cp42 ex hj6 hR hW hS hl hend
    by_cases c43 : sel = 43
    · refine lv_tableIn (tgt := 1667) hx hb dL_law_33 (by rw [c43]; decide) (by rw [c43]; decide) (off := 1634) (by rw [c43]; rfl) (by decide) ?_
      exact lc_count X hX hbl hbA hL hal cp43 ex hj6 hR hW hS hl hend
    by_cases c44 : sel = 44
    · refine lv_tableIn (tgt := 1690) hx hb dL_law_33 (by rw [c44]; decide) (by rw [c44]; decide) (off := 1657) (by rw [c44]; rfl) (by decide) ?_
      exact lc_digest X hX hbl hbA hL hal cp44 ex hj6 hR hW hS hl hend
    refine lv_tableOut (tgt := 1704) hx hb dL_law_33 (by have n0 := lv_neT (a := 0) c0 (by decide); have n1 := lv_neT (a := 1) c1 (by decide); have n2 := lv_neT (a := 2) c2 (by decide); have n3 := lv_neT (a := 3) c3 (by decide); have n4 := lv_neT (a := 4) c4 (by decide); have n5 := lv_neT (a := 5) c5 (by decide); have n6 := lv_neT (a := 6) c6 (by decide); have n7 := lv_neT (a := 7) c7 (by decide); have n8 := lv_neT (a := 8) c8 (by decide); have n9 := lv_neT (a := 9) c9 (by decide); have n10 := lv_neT (a := 10) c10 (by decide); have n11 := lv_neT (a := 11) c11 (by decide); have n12 := lv_neT (a := 12) c12 (by decide); have n13 := lv_neT (a := 13) c13 (by decide); have n14 := lv_neT (a := 14) c14 (by decide); have n15 := lv_neT (a := 15) c15 (by decide); have n16 := lv_neT (a := 16) c16 (by decide); have n17 := lv_neT (a := 17) c17 (by decide); have n18 := lv_neT (a := 18) c18 (by decide); have n19 := lv_neT (a := 19) c19 (by decide); have n20 := lv_neT (a := 20) c20 (by decide); have n21 := lv_neT (a := 21) c21 (by decide); have n22 := lv_neT (a := 22) c22 (by decide); have n23 := lv_neT (a := 23) c23 (by decide); have n24 := lv_neT (a := 24) c24 (by decide); have n25 := lv_neT (a := 25) c25 (by decide); have n26 := lv_neT (a := 26) c26 (by decide); have n27 := lv_neT (a := 27) c27 (by decide); have n28 := lv_neT (a := 28) c28 (by decide); have n29 := lv_neT (a := 29) c29 (by decide); have n30 := lv_neT (a := 30) c30 (by decide); have n31 := lv_neT (a := 31) c31 (by decide); have n32 := lv_neT (a := 32) c32 (by decide); have n33 := lv_neT (a := 33) c33 (by decide); have n34 := lv_neT (a := 34) c34 (by decide); have n35 := lv_neT (a := 35) c35 (by decide); have n36 := lv_neT (a := 36) c36 (by decide); have n37 := lv_neT (a := 37) c37 (by decide); have n38 := lv_neT (a := 38) c38 (by decide); have n39 := lv_neT (a := 39) c39 (by decide); have n40 := lv_neT (a := 40) c40 (by decide); have n41 := lv_neT (a := 41) c41 (by decide); have n42 := lv_neT (a := 42) c42 (by decide); have n43 := lv_neT (a := 43) c43 (by decide); have n44 := lv_neT (a := 44) c44 (by decide); omega) (by decide) ?_
    refine W.widen (k := (76 + 64 * (j + 1))) (n := (3034 + 768 * (j + 1))) (by omega) (by omega) ?_
    exact hend φ h H locs ls hR hW hS hl
