def h00 : HP := (fun _ _ _ => 0, fun _ _ _ => 0, fun _ _ _ => none, fun _ => 0)
theorem li {L j : Nat} (hL : L ≤ 3072) (h : 6 * j + 6 ≤ L) (k : Nat) (hk : k < 6) : vp_in (nI (6 * j) + nI k) L := by
  rw [nI_add]
  exact vp_in_nI (by omega) (by omega)
def CP_pass (RL : HP → Prop) : Prop := ∀ h : HP, RL h → ∀ a0 : Int32, ∃ (r : Int32) (d : DP) (d2 : DP), F_X11_pass 0 a0 h = some (r, d) ∧ F_X12_pass 0 a0 (wd h d) = some (r, d2) ∧ RL (wd (wd h d) d2)
def CP_parish (RL : HP → Prop) : Prop := ∀ h : HP, RL h → ∀ a0 : Int32, ∃ (r : Int32) (d : DP) (d2 : DP), F_X11_parish 0 a0 h = some (r, d) ∧ F_X12_parish 0 a0 (wd h d) = some (r, d2) ∧ RL (wd (wd h d) d2)
def CP_moved (RL : HP → Prop) : Prop := ∀ h : HP, RL h → ∀ a0 a1 : Int32, ∃ (r : Int32) (d : DP) (d2 : DP), F_X11_moved 0 a0 a1 h = some (r, d) ∧ F_X12_moved 0 a0 a1 (wd h d) = some (r, d2) ∧ RL (wd (wd h d) d2)
def CP_bell (RL : HP → Prop) : Prop := ∀ h : HP, RL h → ∀ a0 a1 a2 a3 : Int32, ∃ (r : Int32) (d : HP) (d2 : DP), F_X11_bell 0 a0 a1 a2 a3 h = some (r, d) ∧ 0 < gn d 11 ∧ 0 < gn d 12 ∧ F_X12_bell 0 a0 a1 a2 a3 d = some (r, d2) ∧ RL (wd d d2)
def CP_read (RL : HP → Prop) : Prop := ∀ h : HP, RL h → ∀ a0 : Int32, ∃ (r : Int32) (d : HP) (d2 : DP), F_X11_read 0 a0 h = some (r, d) ∧ 0 < gn d 11 ∧ 0 < gn d 12 ∧ F_X12_read 0 a0 d = some (r, d2) ∧ RL (wd d d2)
def CP_tone (RL : HP → Prop) : Prop := ∀ h : HP, RL h → ∀ a0 a1 a2 : Int32, ∃ (r : Int32) (d : DP) (d2 : DP), F_X11_tone 0 a0 a1 a2 h = some (r, d) ∧ F_X12_tone 0 a0 a1 a2 (wd h d) = some (r, d2) ∧ RL (wd (wd h d) d2)
def CP_about (RL : HP → Prop) : Prop := ∀ h : HP, RL h → ∀ a0 a1 : Int32, ∃ (r : Int32), F_X11_about 0 a0 a1 h = some r ∧ F_X12_about 0 a0 a1 h = some r ∧ RL h
def CP_become (RL : HP → Prop) : Prop := ∀ h : HP, RL h → ∀ a0 a1 : Int32, ∃ (r : Int32) (d : DP) (d2 : DP), F_X11_become 0 a0 a1 h = some (r, d) ∧ F_X12_become 0 a0 a1 (wd h d) = some (r, d2) ∧ RL (wd (wd h d) d2)
def CP_was (RL : HP → Prop) : Prop := ∀ h : HP, RL h → ∀ a0 a1 : Int32, ∃ (r : Int32), F_X11_was 0 a0 a1 h = some r ∧ F_X12_was 0 a0 a1 h = some r ∧ RL h
def CP_type (RL : HP → Prop) : Prop := ∀ h : HP, RL h → ∀ a0 : Int32, ∃ (r : Int32) (d : DP) (d2 : DP), F_X11_type 0 a0 h = some (r, d) ∧ F_X12_type 0 a0 (wd h d) = some (r, d2) ∧ RL (wd (wd h d) d2)
def CP_wipe (RL : HP → Prop) : Prop := ∀ h : HP, RL h → ∃ (r : Int32) (d : DP) (d2 : DP), F_X11_wipe 0 h = some (r, d) ∧ F_X12_wipe 0 (wd h d) = some (r, d2) ∧ RL (wd (wd h d) d2)
def CP_fault (RL : HP → Prop) : Prop := ∀ h : HP, RL h → ∃ (r : Int32) (d2 : DP), F_X11_fault 0 h = some r ∧ F_X12_fault 0 h = some (r, d2) ∧ RL (wd h d2)
def CP_letter (RL : HP → Prop) : Prop := ∀ h : HP, RL h → ∀ a0 a1 : Int32, ∃ (r : Int32) (d : DP) (d2 : DP), F_X11_letter 0 a0 a1 h = some (r, d) ∧ F_X12_letter 0 a0 a1 (wd h d) = some (r, d2) ∧ RL (wd (wd h d) d2)
def CP_why (RL : HP → Prop) : Prop := ∀ h : HP, RL h → ∀ a0 a1 : Int32, ∃ (r : Int32) (d : DP) (d2 : DP), F_X11_why 0 a0 a1 h = some (r, d) ∧ F_X12_why 0 a0 a1 (wd h d) = some (r, d2) ∧ RL (wd (wd h d) d2)
def CP_kept (RL : HP → Prop) : Prop := ∀ h : HP, RL h → ∀ a0 a1 : Int32, ∃ (r : Int32) (d : DP) (d2 : DP), F_X11_kept 0 a0 a1 h = some (r, d) ∧ F_X12_kept 0 a0 a1 (wd h d) = some (r, d2) ∧ RL (wd (wd h d) d2)
def CP_list (RL : HP → Prop) : Prop := ∀ h : HP, RL h → ∀ a0 a1 : Int32, ∃ (r : Int32) (d : DP) (d2 : DP), F_X11_list 0 a0 a1 h = some (r, d) ∧ F_X12_list 0 a0 a1 (wd h d) = some (r, d2) ∧ RL (wd (wd h d) d2)
def CP_gained (RL : HP → Prop) : Prop := ∀ h : HP, RL h → ∀ a0 a1 : Int32, ∃ (r : Int32) (d : DP) (d2 : DP), F_X11_gained 0 a0 a1 h = some (r, d) ∧ F_X12_gained 0 a0 a1 (wd h d) = some (r, d2) ∧ RL (wd (wd h d) d2)
def CP_find (RL : HP → Prop) : Prop := ∀ h : HP, RL h → ∀ a0 a1 a2 a3 : Int32, ∃ (r : Int32) (d : HP) (d2 : DP), F_X11_find 0 a0 a1 a2 a3 h = some (r, d) ∧ 0 < gn d 11 ∧ 0 < gn d 12 ∧ F_X12_find 0 a0 a1 a2 a3 d = some (r, d2) ∧ RL (wd d d2)
def CP_forget (RL : HP → Prop) : Prop := ∀ h : HP, RL h → ∃ (r : Int32) (d : DP) (d2 : DP), F_X11_forget 0 h = some (r, d) ∧ F_X12_forget 0 (wd h d) = some (r, d2) ∧ RL (wd (wd h d) d2)
def CP_could (RL : HP → Prop) : Prop := ∀ h : HP, RL h → ∀ a0 : Int32, ∃ (r : Int32), F_X11_could 0 a0 h = some r ∧ F_X12_could 0 a0 h = some r ∧ RL h
def CP_next (RL : HP → Prop) : Prop := ∀ h : HP, RL h → ∀ a0 : Int32, ∃ (r : Int32), F_X11_next 0 a0 h = some r ∧ F_X12_next 0 a0 h = some r ∧ RL h
def CP_laying (RL : HP → Prop) : Prop := ∀ h : HP, RL h → ∀ a0 : Int32, ∃ (r : Int32) (d : DP) (d2 : DP), F_X11_laying 0 a0 h = some (r, d) ∧ F_X12_laying 0 a0 (wd h d) = some (r, d2) ∧ RL (wd (wd h d) d2)
def CP_laid (RL : HP → Prop) : Prop := ∀ h : HP, RL h → ∀ a0 : Int32, ∃ (r : Int32) (d : DP) (d2 : DP), F_X11_laid 0 a0 h = some (r, d) ∧ F_X12_laid 0 a0 (wd h d) = some (r, d2) ∧ RL (wd (wd h d) d2)
def CP_tune (RL : HP → Prop) : Prop := ∀ h : HP, RL h → ∀ a0 a1 : Int32, ∃ (r : Int32) (d : DP) (d2 : DP), F_X11_tune 0 a0 a1 h = some (r, d) ∧ F_X12_tune 0 a0 a1 (wd h d) = some (r, d2) ∧ RL (wd (wd h d) d2)
def CP_peal (RL : HP → Prop) : Prop := ∀ h : HP, RL h → ∀ a0 a1 : Int32, ∃ (r : Int32) (d : DP), F_X11_peal 0 a0 a1 h = some (r, d) ∧ F_X12_peal 0 a0 a1 (wd h d) = some r ∧ RL (wd h d)
def CP_step (RL : HP → Prop) : Prop := ∀ h : HP, RL h → ∀ a0 a1 : Int32, ∃ (r : Int32) (d : DP), F_X11_step 0 a0 a1 h = some (r, d) ∧ F_X12_step 0 a0 a1 (wd h d) = some r ∧ RL (wd h d)
def CP_batch (RL : HP → Prop) : Prop := ∀ h : HP, RL h → ∀ a0 a1 a2 a3 a4 : Int32, ∃ (r : Int32) (d : HP) (d2 : DP), F_X11_batch 0 a0 a1 a2 a3 a4 h = some (r, d) ∧ 0 < gn d 11 ∧ 0 < gn d 12 ∧ F_X12_batch 0 a0 a1 a2 a3 a4 d = some (r, d2) ∧ RL (wd d d2)
def CP_sets (RL : HP → Prop) : Prop := ∀ h : HP, RL h → ∀ a0 a1 : Int32, ∃ (r : Int32) (d2 : DP), F_X11_sets 0 a0 a1 h = some r ∧ F_X12_sets 0 a0 a1 h = some (r, d2) ∧ RL (wd h d2)
def CP_held (RL : HP → Prop) : Prop := ∀ h : HP, RL h → ∀ a0 a1 : Int32, ∃ (r : Int32) (d2 : DP), F_X11_held 0 a0 a1 h = some r ∧ F_X12_held 0 a0 a1 h = some (r, d2) ∧ RL (wd h d2)
def CP_melts (RL : HP → Prop) : Prop := ∀ h : HP, RL h → ∀ a0 a1 : Int32, ∃ (r : Int32) (d : DP) (d2 : DP), F_X11_melts 0 a0 a1 h = some (r, d) ∧ F_X12_melts 0 a0 a1 (wd h d) = some (r, d2) ∧ RL (wd (wd h d) d2)
def CP_shorts (RL : HP → Prop) : Prop := ∀ h : HP, RL h → ∀ a0 a1 : Int32, ∃ (r : Int32) (d : DP) (d2 : DP), F_X11_shorts 0 a0 a1 h = some (r, d) ∧ F_X12_shorts 0 a0 a1 (wd h d) = some (r, d2) ∧ RL (wd (wd h d) d2)
def CP_send (RL : HP → Prop) : Prop := ∀ h : HP, RL h → ∀ a0 a1 a2 : Int32, ∃ (r : Int32) (d : DP) (d2 : DP), F_X11_send 0 a0 a1 a2 h = some (r, d) ∧ F_X12_send 0 a0 a1 a2 (wd h d) = some (r, d2) ∧ RL (wd (wd h d) d2)
def CP_sent (RL : HP → Prop) : Prop := ∀ h : HP, RL h → ∀ a0 : Int32, ∃ (r : Int32) (d : DP) (d2 : DP), F_X11_sent 0 a0 h = some (r, d) ∧ F_X12_sent 0 a0 (wd h d) = some (r, d2) ∧ RL (wd (wd h d) d2)
def CP_claim (RL : HP → Prop) : Prop := ∀ h : HP, RL h → ∀ a0 a1 a2 a3 : Int32, ∃ (r : Int32) (d : DP) (d2 : DP), F_X11_claim 0 a0 a1 a2 a3 h = some (r, d) ∧ F_X12_claim 0 a0 a1 a2 a3 (wd h d) = some (r, d2) ∧ RL (wd (wd h d) d2)
def CP_rank (RL : HP → Prop) : Prop := ∀ h : HP, RL h → ∀ a0 a1 : Int32, ∃ (r : Int32) (d : DP) (d2 : DP), F_X11_rank 0 a0 a1 h = some (r, d) ∧ F_X12_rank 0 a0 a1 (wd h d) = some (r, d2) ∧ RL (wd (wd h d) d2)
def CP_whose (RL : HP → Prop) : Prop := ∀ h : HP, RL h → ∀ a0 a1 : Int32, ∃ (r : Int32), F_X11_whose 0 a0 a1 h = some r ∧ F_X12_whose 0 a0 a1 h = some r ∧ RL h
def CP_lands (RL : HP → Prop) : Prop := ∀ h : HP, RL h → ∀ a0 a1 : Int32, ∃ (r : Int32), F_X11_lands 0 a0 a1 h = some r ∧ F_X12_lands 0 a0 a1 h = some r ∧ RL h
def CP_sheet (RL : HP → Prop) : Prop := ∀ h : HP, RL h → ∀ a0 a1 a2 : Int32, ∃ (r : Int32) (d : DP) (d2 : DP), F_X11_sheet 0 a0 a1 a2 h = some (r, d) ∧ F_X12_sheet 0 a0 a1 a2 (wd h d) = some (r, d2) ∧ RL (wd (wd h d) d2)
def CP_lose (RL : HP → Prop) : Prop := ∀ h : HP, RL h → ∀ a0 : Int32, ∃ (r : Int32) (d : DP) (d2 : DP), F_X11_lose 0 a0 h = some (r, d) ∧ F_X12_lose 0 a0 (wd h d) = some (r, d2) ∧ RL (wd (wd h d) d2)
def CP_put (RL : HP → Prop) : Prop := ∀ h : HP, RL h → ∀ a0 a1 a2 a3 : Int32, ∃ (r : Int32) (d : DP) (d2 : DP), F_X11_put 0 a0 a1 a2 a3 h = some (r, d) ∧ F_X12_put 0 a0 a1 a2 a3 (wd h d) = some (r, d2) ∧ RL (wd (wd h d) d2)
def CP_get (RL : HP → Prop) : Prop := ∀ h : HP, RL h → ∀ a0 a1 a2 : Int32, ∃ (r : Int32) (d : DP) (d2 : DP), F_X11_get 0 a0 a1 a2 h = some (r, d) ∧ F_X12_get 0 a0 a1 a2 (wd h d) = some (r, d2) ∧ RL (wd (wd h d) d2)
def CP_copy (RL : HP → Prop) : Prop := ∀ h : HP, RL h → ∀ a0 a1 a2 a3 a4 : Int32, ∃ (r : Int32) (d : DP) (d2 : DP), F_X11_copy 0 a0 a1 a2 a3 a4 h = some (r, d) ∧ F_X12_copy 0 a0 a1 a2 a3 a4 (wd h d) = some (r, d2) ∧ RL (wd (wd h d) d2)
def CP_write (RL : HP → Prop) : Prop := ∀ h : HP, RL h → ∀ a0 a1 : Int32, ∃ (r : Int32) (d : DP) (d2 : DP), F_X11_write 0 a0 a1 h = some (r, d) ∧ F_X12_write 0 a0 a1 (wd h d) = some (r, d2) ∧ RL (wd (wd h d) d2)
def CP_count (RL : HP → Prop) : Prop := ∀ h : HP, RL h → ∀ a0 : Int32, ∃ (r : Int32), F_X11_count 0 a0 h = some r ∧ F_X12_count 0 a0 h = some r ∧ RL h
def CP_digest (RL : HP → Prop) : Prop := ∀ h : HP, RL h → ∃ (r : Int64) (d : DP) (d2 : DP), F_X11_digest 0 h = some (r, d) ∧ F_X12_digest 0 (wd h d) = some (r, d2) ∧ RL (wd (wd h d) d2)
set_option maxHeartbeats 4000000 in
set_option maxRecDepth 100000 in
theorem lc_pass {p : Program} {l : Launch} {e : Env} {s : State} {m : MethodId} {below : List Frame} {meth : Method} {c : Code} {D : va_G} {cA : Nat → ClassId} {A : Nat → Prop} {b L : Nat} {xs : Nat → Int32} {Q : State → Prop} {RL : HP → Prop} (X : CX p s m #[Value.ref b] c cL_law "BellYardsLaw" 4 D cA A) (hX : va_X b L xs s s.heap) (hbl : b < s.heap.size) (hbA : ¬ A b) (hL : L ≤ 3072) (hal : ∀ h, RL h → 0 < gn h 11 ∧ 0 < gn h 12) (cp : CP_pass RL) {j : Nat} {x3 : Int32} (ex : x3 = nI (6 * j)) (hj : 6 * j + 6 ≤ L) {h : HP} {φ : Nat → Nat → Nat} {H : Heap} {locs : List Loc} {ls : Array Slot} (hR : RL h) (hW : HW D cA A φ h H) (hS : va_S A s.heap H locs) (hl : lv_has ls 4 [(0, .ref b), (1, .ref (φ 11 0)), (2, .ref (φ 12 0)), (3, .int x3)])
    (hend : ∀ (φ : Nat → Nat → Nat) (h : HP) (H : Heap) (locs : List Loc) (ls : Array Slot), RL h → HW D cA A φ h H → va_S A s.heap H locs → lv_has ls 4 [(0, .ref b), (1, .ref (φ 11 0)), (2, .ref (φ 12 0)), (3, .int x3)] → W p l e room_1 s m #[Value.ref b] below meth c H locs (76 + 64 * (j + 1)) (3034 + 768 * (j + 1)) Q (F0 m 1704 ls [])) : W p l e room_1 s m #[Value.ref b] below meth c H locs (76 + 64 * j) (3034 + 768 * j) Q (F0 m 228 ls []) := by
  have hx := X.1
  have hb := X.2.1
  obtain ⟨al1, al2⟩ := hal h hR
  obtain ⟨r, d, d2, e1, e2, hR⟩ := cp h hR (xs (x3 + 1).toNatClampNeg)
  have v0 : vp_in (x3 + 1) L := by rw [ex]; exact li hL hj 1 (by decide)
  refine lv_aload_n hx hb dL_law_228 rfl (lv_at hl 1 rfl) ?_
  refine lv_aload_n hx hb dL_law_229 rfl (lv_at hl 0 rfl) ?_
  refine lv_iload_n hx hb dL_law_230 rfl (lv_at hl 3 rfl) ?_
  refine lv_iconst (v := 1) hx hb dL_law_231 (by decide) ?_
  refine lv_iadd hx hb dL_law_232 ?_
  refine va_sld hx hb hX hbl hbA hS v0 dL_law_233 ?_
  refine rc_i (Af := fun φ => [.ref (φ 11 0), .int (xs (x3 + 1).toNatClampNeg)]) X hW hS ⟨by show _ ≤ 600000; omega, by show _ ≤ 7302250; omega⟩ (rn_V (As := [.int (xs (x3 + 1).toNatClampNeg)]) (rest := []) X hW hS cw_L_13 al1 rfl rfl rfl ⟨Nat.le_of_ble_eq_true rfl, Nat.le_of_ble_eq_true rfl⟩ rfl hl.1 rfl (Nat.le_of_ble_eq_true rfl) dL_law_234) (ok_X11_pass 0 (xs (x3 + 1).toNatClampNeg) al1 e1) (fun H locs hW hS => ?_)
  refine lv_aload_n hx hb dL_law_237 rfl (lv_at hl 2 rfl) ?_
  refine lv_aload_n hx hb dL_law_238 rfl (lv_at hl 0 rfl) ?_
  refine lv_iload_n hx hb dL_law_239 rfl (lv_at hl 3 rfl) ?_
  refine lv_iconst (v := 1) hx hb dL_law_240 (by decide) ?_
  refine lv_iadd hx hb dL_law_241 ?_
  refine va_sld hx hb hX hbl hbA hS v0 dL_law_242 ?_
  refine rc_i (Af := fun φ => [.ref (φ 12 0), .int (xs (x3 + 1).toNatClampNeg)]) X hW hS ⟨by show _ ≤ 600000; omega, by show _ ≤ 7302250; omega⟩ (rn_V (As := [.int (xs (x3 + 1).toNatClampNeg)]) (rest := [.int r]) X hW hS cw_L_17 al2 rfl rfl rfl ⟨Nat.le_of_ble_eq_true rfl, Nat.le_of_ble_eq_true rfl⟩ rfl hl.1 rfl (Nat.le_of_ble_eq_true rfl) dL_law_243) (ok_X12_pass 0 (xs (x3 + 1).toNatClampNeg) al2 e2) (fun H locs hW hS => ?_)
  refine lv_icmp_eq (tgt := 1704) hx hb dL_law_246 (by decide) (fun _ => ?_) (fun c9 => absurd rfl c9)
  refine W.widen (k := (76 + 64 * (j + 1))) (n := (3034 + 768 * (j + 1))) (by omega) (by omega) ?_
  exact hend φ _ H locs ls hR hW hS hl
set_option maxHeartbeats 4000000 in
set_option maxRecDepth 100000 in
theorem lc_parish {p : Program} {l : Launch} {e : Env} {s : State} {m : MethodId} {below : List Frame} {meth : Method} {c : Code} {D : va_G} {cA : Nat → ClassId} {A : Nat → Prop} {b L : Nat} {xs : Nat → Int32} {Q : State → Prop} {RL : HP → Prop} (X : CX p s m #[Value.ref b] c cL_law "BellYardsLaw" 4 D cA A) (hX : va_X b L xs s s.heap) (hbl : b < s.heap.size) (hbA : ¬ A b) (hL : L ≤ 3072) (hal : ∀ h, RL h → 0 < gn h 11 ∧ 0 < gn h 12) (cp : CP_parish RL) {j : Nat} {x3 : Int32} (ex : x3 = nI (6 * j)) (hj : 6 * j + 6 ≤ L) {h : HP} {φ : Nat → Nat → Nat} {H : Heap} {locs : List Loc} {ls : Array Slot} (hR : RL h) (hW : HW D cA A φ h H) (hS : va_S A s.heap H locs) (hl : lv_has ls 4 [(0, .ref b), (1, .ref (φ 11 0)), (2, .ref (φ 12 0)), (3, .int x3)])
    (hend : ∀ (φ : Nat → Nat → Nat) (h : HP) (H : Heap) (locs : List Loc) (ls : Array Slot), RL h → HW D cA A φ h H → va_S A s.heap H locs → lv_has ls 4 [(0, .ref b), (1, .ref (φ 11 0)), (2, .ref (φ 12 0)), (3, .int x3)] → W p l e room_1 s m #[Value.ref b] below meth c H locs (76 + 64 * (j + 1)) (3034 + 768 * (j + 1)) Q (F0 m 1704 ls [])) : W p l e room_1 s m #[Value.ref b] below meth c H locs (76 + 64 * j) (3034 + 768 * j) Q (F0 m 251 ls []) := by
  have hx := X.1
  have hb := X.2.1
  obtain ⟨al1, al2⟩ := hal h hR
  obtain ⟨r, d, d2, e1, e2, hR⟩ := cp h hR (xs (x3 + 1).toNatClampNeg)
  have v0 : vp_in (x3 + 1) L := by rw [ex]; exact li hL hj 1 (by decide)
  refine lv_aload_n hx hb dL_law_251 rfl (lv_at hl 1 rfl) ?_
  refine lv_aload_n hx hb dL_law_252 rfl (lv_at hl 0 rfl) ?_
  refine lv_iload_n hx hb dL_law_253 rfl (lv_at hl 3 rfl) ?_
  refine lv_iconst (v := 1) hx hb dL_law_254 (by decide) ?_
  refine lv_iadd hx hb dL_law_255 ?_
  refine va_sld hx hb hX hbl hbA hS v0 dL_law_256 ?_
  refine rc_i (Af := fun φ => [.ref (φ 11 0), .int (xs (x3 + 1).toNatClampNeg)]) X hW hS ⟨by show _ ≤ 600000; omega, by show _ ≤ 7302250; omega⟩ (rn_V (As := [.int (xs (x3 + 1).toNatClampNeg)]) (rest := []) X hW hS cw_L_18 al1 rfl rfl rfl ⟨Nat.le_of_ble_eq_true rfl, Nat.le_of_ble_eq_true rfl⟩ rfl hl.1 rfl (Nat.le_of_ble_eq_true rfl) dL_law_257) (ok_X11_parish 0 (xs (x3 + 1).toNatClampNeg) al1 e1) (fun H locs hW hS => ?_)
  refine lv_aload_n hx hb dL_law_260 rfl (lv_at hl 2 rfl) ?_
  refine lv_aload_n hx hb dL_law_261 rfl (lv_at hl 0 rfl) ?_
  refine lv_iload_n hx hb dL_law_262 rfl (lv_at hl 3 rfl) ?_
  refine lv_iconst (v := 1) hx hb dL_law_263 (by decide) ?_
  refine lv_iadd hx hb dL_law_264 ?_
  refine va_sld hx hb hX hbl hbA hS v0 dL_law_265 ?_
  refine rc_i (Af := fun φ => [.ref (φ 12 0), .int (xs (x3 + 1).toNatClampNeg)]) X hW hS ⟨by show _ ≤ 600000; omega, by show _ ≤ 7302250; omega⟩ (rn_V (As := [.int (xs (x3 + 1).toNatClampNeg)]) (rest := [.int r]) X hW hS cw_L_21 al2 rfl rfl rfl ⟨Nat.le_of_ble_eq_true rfl, Nat.le_of_ble_eq_true rfl⟩ rfl hl.1 rfl (Nat.le_of_ble_eq_true rfl) dL_law_266) (ok_X12_parish 0 (xs (x3 + 1).toNatClampNeg) al2 e2) (fun H locs hW hS => ?_)
  refine lv_icmp_eq (tgt := 1704) hx hb dL_law_269 (by decide) (fun _ => ?_) (fun c9 => absurd rfl c9)
  refine W.widen (k := (76 + 64 * (j + 1))) (n := (3034 + 768 * (j + 1))) (by omega) (by omega) ?_
  exact hend φ _ H locs ls hR hW hS hl
set_option maxHeartbeats 4000000 in
set_option maxRecDepth 100000 in
theorem lc_moved {p : Program} {l : Launch} {e : Env} {s : State} {m : MethodId} {below : List Frame} {meth : Method} {c : Code} {D : va_G} {cA : Nat → ClassId} {A : Nat → Prop} {b L : Nat} {xs : Nat → Int32} {Q : State → Prop} {RL : HP → Prop} (X : CX p s m #[Value.ref b] c cL_law "BellYardsLaw" 4 D cA A) (hX : va_X b L xs s s.heap) (hbl : b < s.heap.size) (hbA : ¬ A b) (hL : L ≤ 3072) (hal : ∀ h, RL h → 0 < gn h 11 ∧ 0 < gn h 12) (cp : CP_moved RL) {j : Nat} {x3 : Int32} (ex : x3 = nI (6 * j)) (hj : 6 * j + 6 ≤ L) {h : HP} {φ : Nat → Nat → Nat} {H : Heap} {locs : List Loc} {ls : Array Slot} (hR : RL h) (hW : HW D cA A φ h H) (hS : va_S A s.heap H locs) (hl : lv_has ls 4 [(0, .ref b), (1, .ref (φ 11 0)), (2, .ref (φ 12 0)), (3, .int x3)])
    (hend : ∀ (φ : Nat → Nat → Nat) (h : HP) (H : Heap) (locs : List Loc) (ls : Array Slot), RL h → HW D cA A φ h H → va_S A s.heap H locs → lv_has ls 4 [(0, .ref b), (1, .ref (φ 11 0)), (2, .ref (φ 12 0)), (3, .int x3)] → W p l e room_1 s m #[Value.ref b] below meth c H locs (76 + 64 * (j + 1)) (3034 + 768 * (j + 1)) Q (F0 m 1704 ls [])) : W p l e room_1 s m #[Value.ref b] below meth c H locs (76 + 64 * j) (3034 + 768 * j) Q (F0 m 274 ls []) := by
  have hx := X.1
  have hb := X.2.1
  obtain ⟨al1, al2⟩ := hal h hR
  obtain ⟨r, d, d2, e1, e2, hR⟩ := cp h hR (xs (x3 + 1).toNatClampNeg) (xs (x3 + 2).toNatClampNeg)
  have v0 : vp_in (x3 + 1) L := by rw [ex]; exact li hL hj 1 (by decide)
  have v1 : vp_in (x3 + 2) L := by rw [ex]; exact li hL hj 2 (by decide)
  refine lv_aload_n hx hb dL_law_274 rfl (lv_at hl 1 rfl) ?_
  refine lv_aload_n hx hb dL_law_275 rfl (lv_at hl 0 rfl) ?_
  refine lv_iload_n hx hb dL_law_276 rfl (lv_at hl 3 rfl) ?_
  refine lv_iconst (v := 1) hx hb dL_law_277 (by decide) ?_
  refine lv_iadd hx hb dL_law_278 ?_
  refine va_sld hx hb hX hbl hbA hS v0 dL_law_279 ?_
  refine lv_aload_n hx hb dL_law_280 rfl (lv_at hl 0 rfl) ?_
  refine lv_iload_n hx hb dL_law_281 rfl (lv_at hl 3 rfl) ?_
  refine lv_iconst (v := 2) hx hb dL_law_282 (by decide) ?_
  refine lv_iadd hx hb dL_law_283 ?_
  refine va_sld hx hb hX hbl hbA hS v1 dL_law_284 ?_
  refine rc_i (Af := fun φ => [.ref (φ 11 0), .int (xs (x3 + 1).toNatClampNeg), .int (xs (x3 + 2).toNatClampNeg)]) X hW hS ⟨by show _ ≤ 600000; omega, by show _ ≤ 7302250; omega⟩ (rn_V (As := [.int (xs (x3 + 1).toNatClampNeg), .int (xs (x3 + 2).toNatClampNeg)]) (rest := []) X hW hS cw_L_22 al1 rfl rfl rfl ⟨Nat.le_of_ble_eq_true rfl, Nat.le_of_ble_eq_true rfl⟩ rfl hl.1 rfl (Nat.le_of_ble_eq_true rfl) dL_law_285) (ok_X11_moved 0 (xs (x3 + 1).toNatClampNeg) (xs (x3 + 2).toNatClampNeg) al1 e1) (fun H locs hW hS => ?_)
  refine lv_aload_n hx hb dL_law_288 rfl (lv_at hl 2 rfl) ?_
  refine lv_aload_n hx hb dL_law_289 rfl (lv_at hl 0 rfl) ?_
  refine lv_iload_n hx hb dL_law_290 rfl (lv_at hl 3 rfl) ?_
  refine lv_iconst (v := 1) hx hb dL_law_291 (by decide) ?_
  refine lv_iadd hx hb dL_law_292 ?_
  refine va_sld hx hb hX hbl hbA hS v0 dL_law_293 ?_
  refine lv_aload_n hx hb dL_law_294 rfl (lv_at hl 0 rfl) ?_
  refine lv_iload_n hx hb dL_law_295 rfl (lv_at hl 3 rfl) ?_
  refine lv_iconst (v := 2) hx hb dL_law_296 (by decide) ?_
  refine lv_iadd hx hb dL_law_297 ?_
  refine va_sld hx hb hX hbl hbA hS v1 dL_law_298 ?_
  refine rc_i (Af := fun φ => [.ref (φ 12 0), .int (xs (x3 + 1).toNatClampNeg), .int (xs (x3 + 2).toNatClampNeg)]) X hW hS ⟨by show _ ≤ 600000; omega, by show _ ≤ 7302250; omega⟩ (rn_V (As := [.int (xs (x3 + 1).toNatClampNeg), .int (xs (x3 + 2).toNatClampNeg)]) (rest := [.int r]) X hW hS cw_L_26 al2 rfl rfl rfl ⟨Nat.le_of_ble_eq_true rfl, Nat.le_of_ble_eq_true rfl⟩ rfl hl.1 rfl (Nat.le_of_ble_eq_true rfl) dL_law_299) (ok_X12_moved 0 (xs (x3 + 1).toNatClampNeg) (xs (x3 + 2).toNatClampNeg) al2 e2) (fun H locs hW hS => ?_)
  refine lv_icmp_eq (tgt := 1704) hx hb dL_law_302 (by decide) (fun _ => ?_) (fun c9 => absurd rfl c9)
  refine W.widen (k := (76 + 64 * (j + 1))) (n := (3034 + 768 * (j + 1))) (by omega) (by omega) ?_
  exact hend φ _ H locs ls hR hW hS hl
set_option maxHeartbeats 4000000 in
set_option maxRecDepth 100000 in
theorem lc_bell {p : Program} {l : Launch} {e : Env} {s : State} {m : MethodId} {below : List Frame} {meth : Method} {c : Code} {D : va_G} {cA : Nat → ClassId} {A : Nat → Prop} {b L : Nat} {xs : Nat → Int32} {Q : State → Prop} {RL : HP → Prop} (X : CX p s m #[Value.ref b] c cL_law "BellYardsLaw" 4 D cA A) (hX : va_X b L xs s s.heap) (hbl : b < s.heap.size) (hbA : ¬ A b) (hL : L ≤ 3072) (hal : ∀ h, RL h → 0 < gn h 11 ∧ 0 < gn h 12) (cp : CP_bell RL) {j : Nat} {x3 : Int32} (ex : x3 = nI (6 * j)) (hj : 6 * j + 6 ≤ L) {h : HP} {φ : Nat → Nat → Nat} {H : Heap} {locs : List Loc} {ls : Array Slot} (hR : RL h) (hW : HW D cA A φ h H) (hS : va_S A s.heap H locs) (hl : lv_has ls 4 [(0, .ref b), (1, .ref (φ 11 0)), (2, .ref (φ 12 0)), (3, .int x3)])
    (hend : ∀ (φ : Nat → Nat → Nat) (h : HP) (H : Heap) (locs : List Loc) (ls : Array Slot), RL h → HW D cA A φ h H → va_S A s.heap H locs → lv_has ls 4 [(0, .ref b), (1, .ref (φ 11 0)), (2, .ref (φ 12 0)), (3, .int x3)] → W p l e room_1 s m #[Value.ref b] below meth c H locs (76 + 64 * (j + 1)) (3034 + 768 * (j + 1)) Q (F0 m 1704 ls [])) : W p l e room_1 s m #[Value.ref b] below meth c H locs (76 + 64 * j) (3034 + 768 * j) Q (F0 m 307 ls []) := by
  have hx := X.1
  have hb := X.2.1
  obtain ⟨al1, al2⟩ := hal h hR
  obtain ⟨r, d, d2, e1, a1, a2, e2, hR⟩ := cp h hR (xs (x3 + 1).toNatClampNeg) (xs (x3 + 2).toNatClampNeg) (xs (x3 + 3).toNatClampNeg) (xs (x3 + 4).toNatClampNeg)
  have v0 : vp_in (x3 + 1) L := by rw [ex]; exact li hL hj 1 (by decide)
  have v1 : vp_in (x3 + 2) L := by rw [ex]; exact li hL hj 2 (by decide)
  have v2 : vp_in (x3 + 3) L := by rw [ex]; exact li hL hj 3 (by decide)
  have v3 : vp_in (x3 + 4) L := by rw [ex]; exact li hL hj 4 (by decide)
  refine lv_aload_n hx hb dL_law_307 rfl (lv_at hl 1 rfl) ?_
  refine lv_aload_n hx hb dL_law_308 rfl (lv_at hl 0 rfl) ?_
  refine lv_iload_n hx hb dL_law_309 rfl (lv_at hl 3 rfl) ?_
  refine lv_iconst (v := 1) hx hb dL_law_310 (by decide) ?_
  refine lv_iadd hx hb dL_law_311 ?_
  refine va_sld hx hb hX hbl hbA hS v0 dL_law_312 ?_
  refine lv_aload_n hx hb dL_law_313 rfl (lv_at hl 0 rfl) ?_
  refine lv_iload_n hx hb dL_law_314 rfl (lv_at hl 3 rfl) ?_
  refine lv_iconst (v := 2) hx hb dL_law_315 (by decide) ?_
  refine lv_iadd hx hb dL_law_316 ?_
  refine va_sld hx hb hX hbl hbA hS v1 dL_law_317 ?_
  refine lv_aload_n hx hb dL_law_318 rfl (lv_at hl 0 rfl) ?_
  refine lv_iload_n hx hb dL_law_319 rfl (lv_at hl 3 rfl) ?_
  refine lv_iconst (v := 3) hx hb dL_law_320 (by decide) ?_
  refine lv_iadd hx hb dL_law_321 ?_
  refine va_sld hx hb hX hbl hbA hS v2 dL_law_322 ?_
  refine lv_aload_n hx hb dL_law_323 rfl (lv_at hl 0 rfl) ?_
  refine lv_iload_n hx hb dL_law_324 rfl (lv_at hl 3 rfl) ?_
  refine lv_iconst (v := 4) hx hb dL_law_325 (by decide) ?_
  refine lv_iadd hx hb dL_law_326 ?_
  refine va_sld hx hb hX hbl hbA hS v3 dL_law_327 ?_
  refine rc_ia (Af := fun φ => [.ref (φ 11 0), .int (xs (x3 + 1).toNatClampNeg), .int (xs (x3 + 2).toNatClampNeg), .int (xs (x3 + 3).toNatClampNeg), .int (xs (x3 + 4).toNatClampNeg)]) X hW hS ⟨by show _ ≤ 600000; omega, by show _ ≤ 7302250; omega⟩ (rn_V (As := [.int (xs (x3 + 1).toNatClampNeg), .int (xs (x3 + 2).toNatClampNeg), .int (xs (x3 + 3).toNatClampNeg), .int (xs (x3 + 4).toNatClampNeg)]) (rest := []) X hW hS cw_L_27 al1 rfl rfl rfl ⟨Nat.le_of_ble_eq_true rfl, Nat.le_of_ble_eq_true rfl⟩ rfl hl.1 rfl (Nat.le_of_ble_eq_true rfl) dL_law_328) (ok_X11_bell 0 (xs (x3 + 1).toNatClampNeg) (xs (x3 + 2).toNatClampNeg) (xs (x3 + 3).toNatClampNeg) (xs (x3 + 4).toNatClampNeg) al1 e1) (fun u H locs hu hW hS => ?_)
  have hl : lv_has ls 4 [(0, .ref b), (1, .ref (u 11 0)), (2, .ref (u 12 0)), (3, .int x3)] := by rw [hu 11 0 al1, hu 12 0 al2]; exact hl
  obtain ⟨φ, rfl⟩ : ∃ z, z = u := ⟨_, rfl⟩
  have al2 := a2
  refine lv_aload_n hx hb dL_law_331 rfl (lv_at hl 2 rfl) ?_
  refine lv_aload_n hx hb dL_law_332 rfl (lv_at hl 0 rfl) ?_
  refine lv_iload_n hx hb dL_law_333 rfl (lv_at hl 3 rfl) ?_
  refine lv_iconst (v := 1) hx hb dL_law_334 (by decide) ?_
  refine lv_iadd hx hb dL_law_335 ?_
  refine va_sld hx hb hX hbl hbA hS v0 dL_law_336 ?_
  refine lv_aload_n hx hb dL_law_337 rfl (lv_at hl 0 rfl) ?_
  refine lv_iload_n hx hb dL_law_338 rfl (lv_at hl 3 rfl) ?_
  refine lv_iconst (v := 2) hx hb dL_law_339 (by decide) ?_
  refine lv_iadd hx hb dL_law_340 ?_
  refine va_sld hx hb hX hbl hbA hS v1 dL_law_341 ?_
  refine lv_aload_n hx hb dL_law_342 rfl (lv_at hl 0 rfl) ?_
  refine lv_iload_n hx hb dL_law_343 rfl (lv_at hl 3 rfl) ?_
  refine lv_iconst (v := 3) hx hb dL_law_344 (by decide) ?_
  refine lv_iadd hx hb dL_law_345 ?_
  refine va_sld hx hb hX hbl hbA hS v2 dL_law_346 ?_
  refine lv_aload_n hx hb dL_law_347 rfl (lv_at hl 0 rfl) ?_
  refine lv_iload_n hx hb dL_law_348 rfl (lv_at hl 3 rfl) ?_
  refine lv_iconst (v := 4) hx hb dL_law_349 (by decide) ?_
  refine lv_iadd hx hb dL_law_350 ?_
  refine va_sld hx hb hX hbl hbA hS v3 dL_law_351 ?_
  refine rc_i (Af := fun φ => [.ref (φ 12 0), .int (xs (x3 + 1).toNatClampNeg), .int (xs (x3 + 2).toNatClampNeg), .int (xs (x3 + 3).toNatClampNeg), .int (xs (x3 + 4).toNatClampNeg)]) X hW hS ⟨by show _ ≤ 600000; omega, by show _ ≤ 7302250; omega⟩ (rn_V (As := [.int (xs (x3 + 1).toNatClampNeg), .int (xs (x3 + 2).toNatClampNeg), .int (xs (x3 + 3).toNatClampNeg), .int (xs (x3 + 4).toNatClampNeg)]) (rest := [.int r]) X hW hS cw_L_31 al2 rfl rfl rfl ⟨Nat.le_of_ble_eq_true rfl, Nat.le_of_ble_eq_true rfl⟩ rfl hl.1 rfl (Nat.le_of_ble_eq_true rfl) dL_law_352) (ok_X12_bell 0 (xs (x3 + 1).toNatClampNeg) (xs (x3 + 2).toNatClampNeg) (xs (x3 + 3).toNatClampNeg) (xs (x3 + 4).toNatClampNeg) al2 e2) (fun H locs hW hS => ?_)
  refine lv_icmp_eq (tgt := 1704) hx hb dL_law_355 (by decide) (fun _ => ?_) (fun c9 => absurd rfl c9)
  refine W.widen (k := (76 + 64 * (j + 1))) (n := (3034 + 768 * (j + 1))) (by omega) (by omega) ?_
  exact hend φ _ H locs ls hR hW hS hl
set_option maxHeartbeats 4000000 in
set_option maxRecDepth 100000 in
theorem lc_read {p : Program} {l : Launch} {e : Env} {s : State} {m : MethodId} {below : List Frame} {meth : Method} {c : Code} {D : va_G} {cA : Nat → ClassId} {A : Nat → Prop} {b L : Nat} {xs : Nat → Int32} {Q : State → Prop} {RL : HP → Prop} (X : CX p s m #[Value.ref b] c cL_law "BellYardsLaw" 4 D cA A) (hX : va_X b L xs s s.heap) (hbl : b < s.heap.size) (hbA : ¬ A b) (hL : L ≤ 3072) (hal : ∀ h, RL h → 0 < gn h 11 ∧ 0 < gn h 12) (cp : CP_read RL) {j : Nat} {x3 : Int32} (ex : x3 = nI (6 * j)) (hj : 6 * j + 6 ≤ L) {h : HP} {φ : Nat → Nat → Nat} {H : Heap} {locs : List Loc} {ls : Array Slot} (hR : RL h) (hW : HW D cA A φ h H) (hS : va_S A s.heap H locs) (hl : lv_has ls 4 [(0, .ref b), (1, .ref (φ 11 0)), (2, .ref (φ 12 0)), (3, .int x3)])
    (hend : ∀ (φ : Nat → Nat → Nat) (h : HP) (H : Heap) (locs : List Loc) (ls : Array Slot), RL h → HW D cA A φ h H → va_S A s.heap H locs → lv_has ls 4 [(0, .ref b), (1, .ref (φ 11 0)), (2, .ref (φ 12 0)), (3, .int x3)] → W p l e room_1 s m #[Value.ref b] below meth c H locs (76 + 64 * (j + 1)) (3034 + 768 * (j + 1)) Q (F0 m 1704 ls [])) : W p l e room_1 s m #[Value.ref b] below meth c H locs (76 + 64 * j) (3034 + 768 * j) Q (F0 m 360 ls []) := by
  have hx := X.1
  have hb := X.2.1
  obtain ⟨al1, al2⟩ := hal h hR
  obtain ⟨r, d, d2, e1, a1, a2, e2, hR⟩ := cp h hR (xs (x3 + 1).toNatClampNeg)
  have v0 : vp_in (x3 + 1) L := by rw [ex]; exact li hL hj 1 (by decide)
  refine lv_aload_n hx hb dL_law_360 rfl (lv_at hl 1 rfl) ?_
  refine lv_aload_n hx hb dL_law_361 rfl (lv_at hl 0 rfl) ?_
  refine lv_iload_n hx hb dL_law_362 rfl (lv_at hl 3 rfl) ?_
  refine lv_iconst (v := 1) hx hb dL_law_363 (by decide) ?_
  refine lv_iadd hx hb dL_law_364 ?_
  refine va_sld hx hb hX hbl hbA hS v0 dL_law_365 ?_
  refine rc_ia (Af := fun φ => [.ref (φ 11 0), .int (xs (x3 + 1).toNatClampNeg)]) X hW hS ⟨by show _ ≤ 600000; omega, by show _ ≤ 7302250; omega⟩ (rn_V (As := [.int (xs (x3 + 1).toNatClampNeg)]) (rest := []) X hW hS cw_L_32 al1 rfl rfl rfl ⟨Nat.le_of_ble_eq_true rfl, Nat.le_of_ble_eq_true rfl⟩ rfl hl.1 rfl (Nat.le_of_ble_eq_true rfl) dL_law_366) (ok_X11_read 0 (xs (x3 + 1).toNatClampNeg) al1 e1) (fun u H locs hu hW hS => ?_)
  have hl : lv_has ls 4 [(0, .ref b), (1, .ref (u 11 0)), (2, .ref (u 12 0)), (3, .int x3)] := by rw [hu 11 0 al1, hu 12 0 al2]; exact hl
  obtain ⟨φ, rfl⟩ : ∃ z, z = u := ⟨_, rfl⟩
  have al2 := a2
  refine lv_aload_n hx hb dL_law_369 rfl (lv_at hl 2 rfl) ?_
  refine lv_aload_n hx hb dL_law_370 rfl (lv_at hl 0 rfl) ?_
  refine lv_iload_n hx hb dL_law_371 rfl (lv_at hl 3 rfl) ?_
  refine lv_iconst (v := 1) hx hb dL_law_372 (by decide) ?_
  refine lv_iadd hx hb dL_law_373 ?_
  refine va_sld hx hb hX hbl hbA hS v0 dL_law_374 ?_
  refine rc_i (Af := fun φ => [.ref (φ 12 0), .int (xs (x3 + 1).toNatClampNeg)]) X hW hS ⟨by show _ ≤ 600000; omega, by show _ ≤ 7302250; omega⟩ (rn_V (As := [.int (xs (x3 + 1).toNatClampNeg)]) (rest := [.int r]) X hW hS cw_L_35 al2 rfl rfl rfl ⟨Nat.le_of_ble_eq_true rfl, Nat.le_of_ble_eq_true rfl⟩ rfl hl.1 rfl (Nat.le_of_ble_eq_true rfl) dL_law_375) (ok_X12_read 0 (xs (x3 + 1).toNatClampNeg) al2 e2) (fun H locs hW hS => ?_)
  refine lv_icmp_eq (tgt := 1704) hx hb dL_law_378 (by decide) (fun _ => ?_) (fun c9 => absurd rfl c9)
  refine W.widen (k := (76 + 64 * (j + 1))) (n := (3034 + 768 * (j + 1))) (by omega) (by omega) ?_
  exact hend φ _ H locs ls hR hW hS hl
set_option maxHeartbeats 4000000 in
set_option maxRecDepth 100000 in
theorem lc_tone {p : Program} {l : Launch} {e : Env} {s : State} {m : MethodId} {below : List Frame} {meth : Method} {c : Code} {D : va_G} {cA : Nat → ClassId} {A : Nat → Prop} {b L : Nat} {xs : Nat → Int32} {Q : State → Prop} {RL : HP → Prop} (X : CX p s m #[Value.ref b] c cL_law "BellYardsLaw" 4 D cA A) (hX : va_X b L xs s s.heap) (hbl : b < s.heap.size) (hbA : ¬ A b) (hL : L ≤ 3072) (hal : ∀ h, RL h → 0 < gn h 11 ∧ 0 < gn h 12) (cp : CP_tone RL) {j : Nat} {x3 : Int32} (ex : x3 = nI (6 * j)) (hj : 6 * j + 6 ≤ L) {h : HP} {φ : Nat → Nat → Nat} {H : Heap} {locs : List Loc} {ls : Array Slot} (hR : RL h) (hW : HW D cA A φ h H) (hS : va_S A s.heap H locs) (hl : lv_has ls 4 [(0, .ref b), (1, .ref (φ 11 0)), (2, .ref (φ 12 0)), (3, .int x3)])
    (hend : ∀ (φ : Nat → Nat → Nat) (h : HP) (H : Heap) (locs : List Loc) (ls : Array Slot), RL h → HW D cA A φ h H → va_S A s.heap H locs → lv_has ls 4 [(0, .ref b), (1, .ref (φ 11 0)), (2, .ref (φ 12 0)), (3, .int x3)] → W p l e room_1 s m #[Value.ref b] below meth c H locs (76 + 64 * (j + 1)) (3034 + 768 * (j + 1)) Q (F0 m 1704 ls [])) : W p l e room_1 s m #[Value.ref b] below meth c H locs (76 + 64 * j) (3034 + 768 * j) Q (F0 m 383 ls []) := by
  have hx := X.1
  have hb := X.2.1
  obtain ⟨al1, al2⟩ := hal h hR
  obtain ⟨r, d, d2, e1, e2, hR⟩ := cp h hR (xs (x3 + 1).toNatClampNeg) (xs (x3 + 2).toNatClampNeg) (xs (x3 + 3).toNatClampNeg)
  have v0 : vp_in (x3 + 1) L := by rw [ex]; exact li hL hj 1 (by decide)
  have v1 : vp_in (x3 + 2) L := by rw [ex]; exact li hL hj 2 (by decide)
  have v2 : vp_in (x3 + 3) L := by rw [ex]; exact li hL hj 3 (by decide)
  refine lv_aload_n hx hb dL_law_383 rfl (lv_at hl 1 rfl) ?_
  refine lv_aload_n hx hb dL_law_384 rfl (lv_at hl 0 rfl) ?_
  refine lv_iload_n hx hb dL_law_385 rfl (lv_at hl 3 rfl) ?_
  refine lv_iconst (v := 1) hx hb dL_law_386 (by decide) ?_
  refine lv_iadd hx hb dL_law_387 ?_
  refine va_sld hx hb hX hbl hbA hS v0 dL_law_388 ?_
  refine lv_aload_n hx hb dL_law_389 rfl (lv_at hl 0 rfl) ?_
  refine lv_iload_n hx hb dL_law_390 rfl (lv_at hl 3 rfl) ?_
  refine lv_iconst (v := 2) hx hb dL_law_391 (by decide) ?_
  refine lv_iadd hx hb dL_law_392 ?_
  refine va_sld hx hb hX hbl hbA hS v1 dL_law_393 ?_
  refine lv_aload_n hx hb dL_law_394 rfl (lv_at hl 0 rfl) ?_
  refine lv_iload_n hx hb dL_law_395 rfl (lv_at hl 3 rfl) ?_
  refine lv_iconst (v := 3) hx hb dL_law_396 (by decide) ?_
  refine lv_iadd hx hb dL_law_397 ?_
  refine va_sld hx hb hX hbl hbA hS v2 dL_law_398 ?_
  refine rc_i (Af := fun φ => [.ref (φ 11 0), .int (xs (x3 + 1).toNatClampNeg), .int (xs (x3 + 2).toNatClampNeg), .int (xs (x3 + 3).toNatClampNeg)]) X hW hS ⟨by show _ ≤ 600000; omega, by show _ ≤ 7302250; omega⟩ (rn_V (As := [.int (xs (x3 + 1).toNatClampNeg), .int (xs (x3 + 2).toNatClampNeg), .int (xs (x3 + 3).toNatClampNeg)]) (rest := []) X hW hS cw_L_36 al1 rfl rfl rfl ⟨Nat.le_of_ble_eq_true rfl, Nat.le_of_ble_eq_true rfl⟩ rfl hl.1 rfl (Nat.le_of_ble_eq_true rfl) dL_law_399) (ok_X11_tone 0 (xs (x3 + 1).toNatClampNeg) (xs (x3 + 2).toNatClampNeg) (xs (x3 + 3).toNatClampNeg) al1 e1) (fun H locs hW hS => ?_)
  refine lv_aload_n hx hb dL_law_402 rfl (lv_at hl 2 rfl) ?_
  refine lv_aload_n hx hb dL_law_403 rfl (lv_at hl 0 rfl) ?_
  refine lv_iload_n hx hb dL_law_404 rfl (lv_at hl 3 rfl) ?_
  refine lv_iconst (v := 1) hx hb dL_law_405 (by decide) ?_
  refine lv_iadd hx hb dL_law_406 ?_
  refine va_sld hx hb hX hbl hbA hS v0 dL_law_407 ?_
  refine lv_aload_n hx hb dL_law_408 rfl (lv_at hl 0 rfl) ?_
  refine lv_iload_n hx hb dL_law_409 rfl (lv_at hl 3 rfl) ?_
  refine lv_iconst (v := 2) hx hb dL_law_410 (by decide) ?_
  refine lv_iadd hx hb dL_law_411 ?_
  refine va_sld hx hb hX hbl hbA hS v1 dL_law_412 ?_
  refine lv_aload_n hx hb dL_law_413 rfl (lv_at hl 0 rfl) ?_
  refine lv_iload_n hx hb dL_law_414 rfl (lv_at hl 3 rfl) ?_
  refine lv_iconst (v := 3) hx hb dL_law_415 (by decide) ?_
  refine lv_iadd hx hb dL_law_416 ?_
  refine va_sld hx hb hX hbl hbA hS v2 dL_law_417 ?_
  refine rc_i (Af := fun φ => [.ref (φ 12 0), .int (xs (x3 + 1).toNatClampNeg), .int (xs (x3 + 2).toNatClampNeg), .int (xs (x3 + 3).toNatClampNeg)]) X hW hS ⟨by show _ ≤ 600000; omega, by show _ ≤ 7302250; omega⟩ (rn_V (As := [.int (xs (x3 + 1).toNatClampNeg), .int (xs (x3 + 2).toNatClampNeg), .int (xs (x3 + 3).toNatClampNeg)]) (rest := [.int r]) X hW hS cw_L_40 al2 rfl rfl rfl ⟨Nat.le_of_ble_eq_true rfl, Nat.le_of_ble_eq_true rfl⟩ rfl hl.1 rfl (Nat.le_of_ble_eq_true rfl) dL_law_418) (ok_X12_tone 0 (xs (x3 + 1).toNatClampNeg) (xs (x3 + 2).toNatClampNeg) (xs (x3 + 3).toNatClampNeg) al2 e2) (fun H locs hW hS => ?_)
  refine lv_icmp_eq (tgt := 1704) hx hb dL_law_421 (by decide) (fun _ => ?_) (fun c9 => absurd rfl c9)
  refine W.widen (k := (76 + 64 * (j + 1))) (n := (3034 + 768 * (j + 1))) (by omega) (by omega) ?_
  exact hend φ _ H locs ls hR hW hS hl
set_option maxHeartbeats 4000000 in
set_option maxRecDepth 100000 in
theorem lc_about {p : Program} {l : Launch} {e : Env} {s : State} {m : MethodId} {below : List Frame} {meth : Method} {c : Code} {D : va_G} {cA : Nat → ClassId} {A : Nat → Prop} {b L : Nat} {xs : Nat → Int32} {Q : State → Prop} {RL : HP → Prop} (X : CX p s m #[Value.ref b] c cL_law "BellYardsLaw" 4 D cA A) (hX : va_X b L xs s s.heap) (hbl : b < s.heap.size) (hbA : ¬ A b) (hL : L ≤ 3072) (hal : ∀ h, RL h → 0 < gn h 11 ∧ 0 < gn h 12) (cp : CP_about RL) {j : Nat} {x3 : Int32} (ex : x3 = nI (6 * j)) (hj : 6 * j + 6 ≤ L) {h : HP} {φ : Nat → Nat → Nat} {H : Heap} {locs : List Loc} {ls : Array Slot} (hR : RL h) (hW : HW D cA A φ h H) (hS : va_S A s.heap H locs) (hl : lv_has ls 4 [(0, .ref b), (1, .ref (φ 11 0)), (2, .ref (φ 12 0)), (3, .int x3)])
    (hend : ∀ (φ : Nat → Nat → Nat) (h : HP) (H : Heap) (locs : List Loc) (ls : Array Slot), RL h → HW D cA A φ h H → va_S A s.heap H locs → lv_has ls 4 [(0, .ref b), (1, .ref (φ 11 0)), (2, .ref (φ 12 0)), (3, .int x3)] → W p l e room_1 s m #[Value.ref b] below meth c H locs (76 + 64 * (j + 1)) (3034 + 768 * (j + 1)) Q (F0 m 1704 ls [])) : W p l e room_1 s m #[Value.ref b] below meth c H locs (76 + 64 * j) (3034 + 768 * j) Q (F0 m 426 ls []) := by
  have hx := X.1
  have hb := X.2.1
  obtain ⟨al1, al2⟩ := hal h hR
  obtain ⟨r, e1, e2, hR⟩ := cp h hR (xs (x3 + 1).toNatClampNeg) (xs (x3 + 2).toNatClampNeg)
  have v0 : vp_in (x3 + 1) L := by rw [ex]; exact li hL hj 1 (by decide)
  have v1 : vp_in (x3 + 2) L := by rw [ex]; exact li hL hj 2 (by decide)
  refine lv_aload_n hx hb dL_law_426 rfl (lv_at hl 1 rfl) ?_
  refine lv_aload_n hx hb dL_law_427 rfl (lv_at hl 0 rfl) ?_
  refine lv_iload_n hx hb dL_law_428 rfl (lv_at hl 3 rfl) ?_
  refine lv_iconst (v := 1) hx hb dL_law_429 (by decide) ?_
  refine lv_iadd hx hb dL_law_430 ?_
  refine va_sld hx hb hX hbl hbA hS v0 dL_law_431 ?_
  refine lv_aload_n hx hb dL_law_432 rfl (lv_at hl 0 rfl) ?_
  refine lv_iload_n hx hb dL_law_433 rfl (lv_at hl 3 rfl) ?_
  refine lv_iconst (v := 2) hx hb dL_law_434 (by decide) ?_
  refine lv_iadd hx hb dL_law_435 ?_
  refine va_sld hx hb hX hbl hbA hS v1 dL_law_436 ?_
  refine rc_i (Af := fun φ => [.ref (φ 11 0), .int (xs (x3 + 1).toNatClampNeg), .int (xs (x3 + 2).toNatClampNeg)]) X hW hS ⟨by show _ ≤ 600000; omega, by show _ ≤ 7302250; omega⟩ (rn_V (As := [.int (xs (x3 + 1).toNatClampNeg), .int (xs (x3 + 2).toNatClampNeg)]) (rest := []) X hW hS cw_L_41 al1 rfl rfl rfl ⟨Nat.le_of_ble_eq_true rfl, Nat.le_of_ble_eq_true rfl⟩ rfl hl.1 rfl (Nat.le_of_ble_eq_true rfl) dL_law_437) (ok_X11_about 0 (xs (x3 + 1).toNatClampNeg) (xs (x3 + 2).toNatClampNeg) al1 e1) (fun H locs hW hS => ?_)
  refine lv_aload_n hx hb dL_law_440 rfl (lv_at hl 2 rfl) ?_
  refine lv_aload_n hx hb dL_law_441 rfl (lv_at hl 0 rfl) ?_
  refine lv_iload_n hx hb dL_law_442 rfl (lv_at hl 3 rfl) ?_
  refine lv_iconst (v := 1) hx hb dL_law_443 (by decide) ?_
  refine lv_iadd hx hb dL_law_444 ?_
  refine va_sld hx hb hX hbl hbA hS v0 dL_law_445 ?_
  refine lv_aload_n hx hb dL_law_446 rfl (lv_at hl 0 rfl) ?_
  refine lv_iload_n hx hb dL_law_447 rfl (lv_at hl 3 rfl) ?_
  refine lv_iconst (v := 2) hx hb dL_law_448 (by decide) ?_
  refine lv_iadd hx hb dL_law_449 ?_
  refine va_sld hx hb hX hbl hbA hS v1 dL_law_450 ?_
  refine rc_i (Af := fun φ => [.ref (φ 12 0), .int (xs (x3 + 1).toNatClampNeg), .int (xs (x3 + 2).toNatClampNeg)]) X hW hS ⟨by show _ ≤ 600000; omega, by show _ ≤ 7302250; omega⟩ (rn_V (As := [.int (xs (x3 + 1).toNatClampNeg), .int (xs (x3 + 2).toNatClampNeg)]) (rest := [.int r]) X hW hS cw_L_44 al2 rfl rfl rfl ⟨Nat.le_of_ble_eq_true rfl, Nat.le_of_ble_eq_true rfl⟩ rfl hl.1 rfl (Nat.le_of_ble_eq_true rfl) dL_law_451) (ok_X12_about 0 (xs (x3 + 1).toNatClampNeg) (xs (x3 + 2).toNatClampNeg) al2 e2) (fun H locs hW hS => ?_)
  refine lv_icmp_eq (tgt := 1704) hx hb dL_law_454 (by decide) (fun _ => ?_) (fun c9 => absurd rfl c9)
  refine W.widen (k := (76 + 64 * (j + 1))) (n := (3034 + 768 * (j + 1))) (by omega) (by omega) ?_
  exact hend φ _ H locs ls hR hW hS hl
set_option maxHeartbeats 4000000 in
set_option maxRecDepth 100000 in
theorem lc_become {p : Program} {l : Launch} {e : Env} {s : State} {m : MethodId} {below : List Frame} {meth : Method} {c : Code} {D : va_G} {cA : Nat → ClassId} {A : Nat → Prop} {b L : Nat} {xs : Nat → Int32} {Q : State → Prop} {RL : HP → Prop} (X : CX p s m #[Value.ref b] c cL_law "BellYardsLaw" 4 D cA A) (hX : va_X b L xs s s.heap) (hbl : b < s.heap.size) (hbA : ¬ A b) (hL : L ≤ 3072) (hal : ∀ h, RL h → 0 < gn h 11 ∧ 0 < gn h 12) (cp : CP_become RL) {j : Nat} {x3 : Int32} (ex : x3 = nI (6 * j)) (hj : 6 * j + 6 ≤ L) {h : HP} {φ : Nat → Nat → Nat} {H : Heap} {locs : List Loc} {ls : Array Slot} (hR : RL h) (hW : HW D cA A φ h H) (hS : va_S A s.heap H locs) (hl : lv_has ls 4 [(0, .ref b), (1, .ref (φ 11 0)), (2, .ref (φ 12 0)), (3, .int x3)])
    (hend : ∀ (φ : Nat → Nat → Nat) (h : HP) (H : Heap) (locs : List Loc) (ls : Array Slot), RL h → HW D cA A φ h H → va_S A s.heap H locs → lv_has ls 4 [(0, .ref b), (1, .ref (φ 11 0)), (2, .ref (φ 12 0)), (3, .int x3)] → W p l e room_1 s m #[Value.ref b] below meth c H locs (76 + 64 * (j + 1)) (3034 + 768 * (j + 1)) Q (F0 m 1704 ls [])) : W p l e room_1 s m #[Value.ref b] below meth c H locs (76 + 64 * j) (3034 + 768 * j) Q (F0 m 459 ls []) := by
  have hx := X.1
  have hb := X.2.1
  obtain ⟨al1, al2⟩ := hal h hR
  obtain ⟨r, d, d2, e1, e2, hR⟩ := cp h hR (xs (x3 + 1).toNatClampNeg) (xs (x3 + 2).toNatClampNeg)
  have v0 : vp_in (x3 + 1) L := by rw [ex]; exact li hL hj 1 (by decide)
  have v1 : vp_in (x3 + 2) L := by rw [ex]; exact li hL hj 2 (by decide)
  refine lv_aload_n hx hb dL_law_459 rfl (lv_at hl 1 rfl) ?_
  refine lv_aload_n hx hb dL_law_460 rfl (lv_at hl 0 rfl) ?_
  refine lv_iload_n hx hb dL_law_461 rfl (lv_at hl 3 rfl) ?_
  refine lv_iconst (v := 1) hx hb dL_law_462 (by decide) ?_
  refine lv_iadd hx hb dL_law_463 ?_
  refine va_sld hx hb hX hbl hbA hS v0 dL_law_464 ?_
  refine lv_aload_n hx hb dL_law_465 rfl (lv_at hl 0 rfl) ?_
  refine lv_iload_n hx hb dL_law_466 rfl (lv_at hl 3 rfl) ?_
  refine lv_iconst (v := 2) hx hb dL_law_467 (by decide) ?_
  refine lv_iadd hx hb dL_law_468 ?_
  refine va_sld hx hb hX hbl hbA hS v1 dL_law_469 ?_
  refine rc_i (Af := fun φ => [.ref (φ 11 0), .int (xs (x3 + 1).toNatClampNeg), .int (xs (x3 + 2).toNatClampNeg)]) X hW hS ⟨by show _ ≤ 600000; omega, by show _ ≤ 7302250; omega⟩ (rn_V (As := [.int (xs (x3 + 1).toNatClampNeg), .int (xs (x3 + 2).toNatClampNeg)]) (rest := []) X hW hS cw_L_45 al1 rfl rfl rfl ⟨Nat.le_of_ble_eq_true rfl, Nat.le_of_ble_eq_true rfl⟩ rfl hl.1 rfl (Nat.le_of_ble_eq_true rfl) dL_law_470) (ok_X11_become 0 (xs (x3 + 1).toNatClampNeg) (xs (x3 + 2).toNatClampNeg) al1 e1) (fun H locs hW hS => ?_)
  refine lv_aload_n hx hb dL_law_473 rfl (lv_at hl 2 rfl) ?_
  refine lv_aload_n hx hb dL_law_474 rfl (lv_at hl 0 rfl) ?_
  refine lv_iload_n hx hb dL_law_475 rfl (lv_at hl 3 rfl) ?_
  refine lv_iconst (v := 1) hx hb dL_law_476 (by decide) ?_
  refine lv_iadd hx hb dL_law_477 ?_
  refine va_sld hx hb hX hbl hbA hS v0 dL_law_478 ?_
  refine lv_aload_n hx hb dL_law_479 rfl (lv_at hl 0 rfl) ?_
  refine lv_iload_n hx hb dL_law_480 rfl (lv_at hl 3 rfl) ?_
  refine lv_iconst (v := 2) hx hb dL_law_481 (by decide) ?_
  refine lv_iadd hx hb dL_law_482 ?_
  refine va_sld hx hb hX hbl hbA hS v1 dL_law_483 ?_
  refine rc_i (Af := fun φ => [.ref (φ 12 0), .int (xs (x3 + 1).toNatClampNeg), .int (xs (x3 + 2).toNatClampNeg)]) X hW hS ⟨by show _ ≤ 600000; omega, by show _ ≤ 7302250; omega⟩ (rn_V (As := [.int (xs (x3 + 1).toNatClampNeg), .int (xs (x3 + 2).toNatClampNeg)]) (rest := [.int r]) X hW hS cw_L_48 al2 rfl rfl rfl ⟨Nat.le_of_ble_eq_true rfl, Nat.le_of_ble_eq_true rfl⟩ rfl hl.1 rfl (Nat.le_of_ble_eq_true rfl) dL_law_484) (ok_X12_become 0 (xs (x3 + 1).toNatClampNeg) (xs (x3 + 2).toNatClampNeg) al2 e2) (fun H locs hW hS => ?_)
  refine lv_icmp_eq (tgt := 1704) hx hb dL_law_487 (by decide) (fun _ => ?_) (fun c9 => absurd rfl c9)
  refine W.widen (k := (76 + 64 * (j + 1))) (n := (3034 + 768 * (j + 1))) (by omega) (by omega) ?_
  exact hend φ _ H locs ls hR hW hS hl
set_option maxHeartbeats 4000000 in
set_option maxRecDepth 100000 in
theorem lc_was {p : Program} {l : Launch} {e : Env} {s : State} {m : MethodId} {below : List Frame} {meth : Method} {c : Code} {D : va_G} {cA : Nat → ClassId} {A : Nat → Prop} {b L : Nat} {xs : Nat → Int32} {Q : State → Prop} {RL : HP → Prop} (X : CX p s m #[Value.ref b] c cL_law "BellYardsLaw" 4 D cA A) (hX : va_X b L xs s s.heap) (hbl : b < s.heap.size) (hbA : ¬ A b) (hL : L ≤ 3072) (hal : ∀ h, RL h → 0 < gn h 11 ∧ 0 < gn h 12) (cp : CP_was RL) {j : Nat} {x3 : Int32} (ex : x3 = nI (6 * j)) (hj : 6 * j + 6 ≤ L) {h : HP} {φ : Nat → Nat → Nat} {H : Heap} {locs : List Loc} {ls : Array Slot} (hR : RL h) (hW : HW D cA A φ h H) (hS : va_S A s.heap H locs) (hl : lv_has ls 4 [(0, .ref b), (1, .ref (φ 11 0)), (2, .ref (φ 12 0)), (3, .int x3)])
    (hend : ∀ (φ : Nat → Nat → Nat) (h : HP) (H : Heap) (locs : List Loc) (ls : Array Slot), RL h → HW D cA A φ h H → va_S A s.heap H locs → lv_has ls 4 [(0, .ref b), (1, .ref (φ 11 0)), (2, .ref (φ 12 0)), (3, .int x3)] → W p l e room_1 s m #[Value.ref b] below meth c H locs (76 + 64 * (j + 1)) (3034 + 768 * (j + 1)) Q (F0 m 1704 ls [])) : W p l e room_1 s m #[Value.ref b] below meth c H locs (76 + 64 * j) (3034 + 768 * j) Q (F0 m 492 ls []) := by
  have hx := X.1
  have hb := X.2.1
  obtain ⟨al1, al2⟩ := hal h hR
  obtain ⟨r, e1, e2, hR⟩ := cp h hR (xs (x3 + 1).toNatClampNeg) (xs (x3 + 2).toNatClampNeg)
  have v0 : vp_in (x3 + 1) L := by rw [ex]; exact li hL hj 1 (by decide)
  have v1 : vp_in (x3 + 2) L := by rw [ex]; exact li hL hj 2 (by decide)
  refine lv_aload_n hx hb dL_law_492 rfl (lv_at hl 1 rfl) ?_
  refine lv_aload_n hx hb dL_law_493 rfl (lv_at hl 0 rfl) ?_
  refine lv_iload_n hx hb dL_law_494 rfl (lv_at hl 3 rfl) ?_
  refine lv_iconst (v := 1) hx hb dL_law_495 (by decide) ?_
  refine lv_iadd hx hb dL_law_496 ?_
  refine va_sld hx hb hX hbl hbA hS v0 dL_law_497 ?_
  refine lv_aload_n hx hb dL_law_498 rfl (lv_at hl 0 rfl) ?_
  refine lv_iload_n hx hb dL_law_499 rfl (lv_at hl 3 rfl) ?_
  refine lv_iconst (v := 2) hx hb dL_law_500 (by decide) ?_
  refine lv_iadd hx hb dL_law_501 ?_
  refine va_sld hx hb hX hbl hbA hS v1 dL_law_502 ?_
  refine rc_i (Af := fun φ => [.ref (φ 11 0), .int (xs (x3 + 1).toNatClampNeg), .int (xs (x3 + 2).toNatClampNeg)]) X hW hS ⟨by show _ ≤ 600000; omega, by show _ ≤ 7302250; omega⟩ (rn_V (As := [.int (xs (x3 + 1).toNatClampNeg), .int (xs (x3 + 2).toNatClampNeg)]) (rest := []) X hW hS cw_L_49 al1 rfl rfl rfl ⟨Nat.le_of_ble_eq_true rfl, Nat.le_of_ble_eq_true rfl⟩ rfl hl.1 rfl (Nat.le_of_ble_eq_true rfl) dL_law_503) (ok_X11_was 0 (xs (x3 + 1).toNatClampNeg) (xs (x3 + 2).toNatClampNeg) al1 e1) (fun H locs hW hS => ?_)
  refine lv_aload_n hx hb dL_law_506 rfl (lv_at hl 2 rfl) ?_
  refine lv_aload_n hx hb dL_law_507 rfl (lv_at hl 0 rfl) ?_
  refine lv_iload_n hx hb dL_law_508 rfl (lv_at hl 3 rfl) ?_
  refine lv_iconst (v := 1) hx hb dL_law_509 (by decide) ?_
  refine lv_iadd hx hb dL_law_510 ?_
  refine va_sld hx hb hX hbl hbA hS v0 dL_law_511 ?_
  refine lv_aload_n hx hb dL_law_512 rfl (lv_at hl 0 rfl) ?_
  refine lv_iload_n hx hb dL_law_513 rfl (lv_at hl 3 rfl) ?_
  refine lv_iconst (v := 2) hx hb dL_law_514 (by decide) ?_
  refine lv_iadd hx hb dL_law_515 ?_
  refine va_sld hx hb hX hbl hbA hS v1 dL_law_516 ?_
  refine rc_i (Af := fun φ => [.ref (φ 12 0), .int (xs (x3 + 1).toNatClampNeg), .int (xs (x3 + 2).toNatClampNeg)]) X hW hS ⟨by show _ ≤ 600000; omega, by show _ ≤ 7302250; omega⟩ (rn_V (As := [.int (xs (x3 + 1).toNatClampNeg), .int (xs (x3 + 2).toNatClampNeg)]) (rest := [.int r]) X hW hS cw_L_52 al2 rfl rfl rfl ⟨Nat.le_of_ble_eq_true rfl, Nat.le_of_ble_eq_true rfl⟩ rfl hl.1 rfl (Nat.le_of_ble_eq_true rfl) dL_law_517) (ok_X12_was 0 (xs (x3 + 1).toNatClampNeg) (xs (x3 + 2).toNatClampNeg) al2 e2) (fun H locs hW hS => ?_)
  refine lv_icmp_eq (tgt := 1704) hx hb dL_law_520 (by decide) (fun _ => ?_) (fun c9 => absurd rfl c9)
  refine W.widen (k := (76 + 64 * (j + 1))) (n := (3034 + 768 * (j + 1))) (by omega) (by omega) ?_
  exact hend φ _ H locs ls hR hW hS hl
set_option maxHeartbeats 4000000 in
set_option maxRecDepth 100000 in
theorem lc_type {p : Program} {l : Launch} {e : Env} {s : State} {m : MethodId} {below : List Frame} {meth : Method} {c : Code} {D : va_G} {cA : Nat → ClassId} {A : Nat → Prop} {b L : Nat} {xs : Nat → Int32} {Q : State → Prop} {RL : HP → Prop} (X : CX p s m #[Value.ref b] c cL_law "BellYardsLaw" 4 D cA A) (hX : va_X b L xs s s.heap) (hbl : b < s.heap.size) (hbA : ¬ A b) (hL : L ≤ 3072) (hal : ∀ h, RL h → 0 < gn h 11 ∧ 0 < gn h 12) (cp : CP_type RL) {j : Nat} {x3 : Int32} (ex : x3 = nI (6 * j)) (hj : 6 * j + 6 ≤ L) {h : HP} {φ : Nat → Nat → Nat} {H : Heap} {locs : List Loc} {ls : Array Slot} (hR : RL h) (hW : HW D cA A φ h H) (hS : va_S A s.heap H locs) (hl : lv_has ls 4 [(0, .ref b), (1, .ref (φ 11 0)), (2, .ref (φ 12 0)), (3, .int x3)])
    (hend : ∀ (φ : Nat → Nat → Nat) (h : HP) (H : Heap) (locs : List Loc) (ls : Array Slot), RL h → HW D cA A φ h H → va_S A s.heap H locs → lv_has ls 4 [(0, .ref b), (1, .ref (φ 11 0)), (2, .ref (φ 12 0)), (3, .int x3)] → W p l e room_1 s m #[Value.ref b] below meth c H locs (76 + 64 * (j + 1)) (3034 + 768 * (j + 1)) Q (F0 m 1704 ls [])) : W p l e room_1 s m #[Value.ref b] below meth c H locs (76 + 64 * j) (3034 + 768 * j) Q (F0 m 525 ls []) := by
  have hx := X.1
  have hb := X.2.1
  obtain ⟨al1, al2⟩ := hal h hR
  obtain ⟨r, d, d2, e1, e2, hR⟩ := cp h hR (xs (x3 + 1).toNatClampNeg)
  have v0 : vp_in (x3 + 1) L := by rw [ex]; exact li hL hj 1 (by decide)
  refine lv_aload_n hx hb dL_law_525 rfl (lv_at hl 1 rfl) ?_
  refine lv_aload_n hx hb dL_law_526 rfl (lv_at hl 0 rfl) ?_
  refine lv_iload_n hx hb dL_law_527 rfl (lv_at hl 3 rfl) ?_
  refine lv_iconst (v := 1) hx hb dL_law_528 (by decide) ?_
  refine lv_iadd hx hb dL_law_529 ?_
  refine va_sld hx hb hX hbl hbA hS v0 dL_law_530 ?_
  refine rc_i (Af := fun φ => [.ref (φ 11 0), .int (xs (x3 + 1).toNatClampNeg)]) X hW hS ⟨by show _ ≤ 600000; omega, by show _ ≤ 7302250; omega⟩ (rn_V (As := [.int (xs (x3 + 1).toNatClampNeg)]) (rest := []) X hW hS cw_L_53 al1 rfl rfl rfl ⟨Nat.le_of_ble_eq_true rfl, Nat.le_of_ble_eq_true rfl⟩ rfl hl.1 rfl (Nat.le_of_ble_eq_true rfl) dL_law_531) (ok_X11_type 0 (xs (x3 + 1).toNatClampNeg) al1 e1) (fun H locs hW hS => ?_)
  refine lv_aload_n hx hb dL_law_534 rfl (lv_at hl 2 rfl) ?_
  refine lv_aload_n hx hb dL_law_535 rfl (lv_at hl 0 rfl) ?_
  refine lv_iload_n hx hb dL_law_536 rfl (lv_at hl 3 rfl) ?_
  refine lv_iconst (v := 1) hx hb dL_law_537 (by decide) ?_
  refine lv_iadd hx hb dL_law_538 ?_
  refine va_sld hx hb hX hbl hbA hS v0 dL_law_539 ?_
  refine rc_i (Af := fun φ => [.ref (φ 12 0), .int (xs (x3 + 1).toNatClampNeg)]) X hW hS ⟨by show _ ≤ 600000; omega, by show _ ≤ 7302250; omega⟩ (rn_V (As := [.int (xs (x3 + 1).toNatClampNeg)]) (rest := [.int r]) X hW hS cw_L_56 al2 rfl rfl rfl ⟨Nat.le_of_ble_eq_true rfl, Nat.le_of_ble_eq_true rfl⟩ rfl hl.1 rfl (Nat.le_of_ble_eq_true rfl) dL_law_540) (ok_X12_type 0 (xs (x3 + 1).toNatClampNeg) al2 e2) (fun H locs hW hS => ?_)
  refine lv_icmp_eq (tgt := 1704) hx hb dL_law_543 (by decide) (fun _ => ?_) (fun c9 => absurd rfl c9)
  refine W.widen (k := (76 + 64 * (j + 1))) (n := (3034 + 768 * (j + 1))) (by omega) (by omega) ?_
  exact hend φ _ H locs ls hR hW hS hl
set_option maxHeartbeats 4000000 in
set_option maxRecDepth 100000 in
theorem lc_wipe {p : Program} {l : Launch} {e : Env} {s : State} {m : MethodId} {below : List Frame} {meth : Method} {c : Code} {D : va_G} {cA : Nat → ClassId} {A : Nat → Prop} {b L : Nat} {xs : Nat → Int32} {Q : State → Prop} {RL : HP → Prop} (X : CX p s m #[Value.ref b] c cL_law "BellYardsLaw" 4 D cA A) (hX : va_X b L xs s s.heap) (hbl : b < s.heap.size) (hbA : ¬ A b) (hL : L ≤ 3072) (hal : ∀ h, RL h → 0 < gn h 11 ∧ 0 < gn h 12) (cp : CP_wipe RL) {j : Nat} {x3 : Int32} (ex : x3 = nI (6 * j)) (hj : 6 * j + 6 ≤ L) {h : HP} {φ : Nat → Nat → Nat} {H : Heap} {locs : List Loc} {ls : Array Slot} (hR : RL h) (hW : HW D cA A φ h H) (hS : va_S A s.heap H locs) (hl : lv_has ls 4 [(0, .ref b), (1, .ref (φ 11 0)), (2, .ref (φ 12 0)), (3, .int x3)])
    (hend : ∀ (φ : Nat → Nat → Nat) (h : HP) (H : Heap) (locs : List Loc) (ls : Array Slot), RL h → HW D cA A φ h H → va_S A s.heap H locs → lv_has ls 4 [(0, .ref b), (1, .ref (φ 11 0)), (2, .ref (φ 12 0)), (3, .int x3)] → W p l e room_1 s m #[Value.ref b] below meth c H locs (76 + 64 * (j + 1)) (3034 + 768 * (j + 1)) Q (F0 m 1704 ls [])) : W p l e room_1 s m #[Value.ref b] below meth c H locs (76 + 64 * j) (3034 + 768 * j) Q (F0 m 548 ls []) := by
  have hx := X.1
  have hb := X.2.1
  obtain ⟨al1, al2⟩ := hal h hR
  obtain ⟨r, d, d2, e1, e2, hR⟩ := cp h hR 
  refine lv_aload_n hx hb dL_law_548 rfl (lv_at hl 1 rfl) ?_
  refine rc_i (Af := fun φ => [.ref (φ 11 0)]) X hW hS ⟨by show _ ≤ 600000; omega, by show _ ≤ 7302250; omega⟩ (rn_V (As := []) (rest := []) X hW hS cw_L_57 al1 rfl rfl rfl ⟨Nat.le_of_ble_eq_true rfl, Nat.le_of_ble_eq_true rfl⟩ rfl hl.1 rfl (Nat.le_of_ble_eq_true rfl) dL_law_549) (ok_X11_wipe 0 al1 e1) (fun H locs hW hS => ?_)
  refine lv_aload_n hx hb dL_law_552 rfl (lv_at hl 2 rfl) ?_
  refine rc_i (Af := fun φ => [.ref (φ 12 0)]) X hW hS ⟨by show _ ≤ 600000; omega, by show _ ≤ 7302250; omega⟩ (rn_V (As := []) (rest := [.int r]) X hW hS cw_L_61 al2 rfl rfl rfl ⟨Nat.le_of_ble_eq_true rfl, Nat.le_of_ble_eq_true rfl⟩ rfl hl.1 rfl (Nat.le_of_ble_eq_true rfl) dL_law_553) (ok_X12_wipe 0 al2 e2) (fun H locs hW hS => ?_)
  refine lv_icmp_eq (tgt := 1704) hx hb dL_law_556 (by decide) (fun _ => ?_) (fun c9 => absurd rfl c9)
  refine W.widen (k := (76 + 64 * (j + 1))) (n := (3034 + 768 * (j + 1))) (by omega) (by omega) ?_
  exact hend φ _ H locs ls hR hW hS hl
set_option maxHeartbeats 4000000 in
set_option maxRecDepth 100000 in
theorem lc_fault {p : Program} {l : Launch} {e : Env} {s : State} {m : MethodId} {below : List Frame} {meth : Method} {c : Code} {D : va_G} {cA : Nat → ClassId} {A : Nat → Prop} {b L : Nat} {xs : Nat → Int32} {Q : State → Prop} {RL : HP → Prop} (X : CX p s m #[Value.ref b] c cL_law "BellYardsLaw" 4 D cA A) (hX : va_X b L xs s s.heap) (hbl : b < s.heap.size) (hbA : ¬ A b) (hL : L ≤ 3072) (hal : ∀ h, RL h → 0 < gn h 11 ∧ 0 < gn h 12) (cp : CP_fault RL) {j : Nat} {x3 : Int32} (ex : x3 = nI (6 * j)) (hj : 6 * j + 6 ≤ L) {h : HP} {φ : Nat → Nat → Nat} {H : Heap} {locs : List Loc} {ls : Array Slot} (hR : RL h) (hW : HW D cA A φ h H) (hS : va_S A s.heap H locs) (hl : lv_has ls 4 [(0, .ref b), (1, .ref (φ 11 0)), (2, .ref (φ 12 0)), (3, .int x3)])
    (hend : ∀ (φ : Nat → Nat → Nat) (h : HP) (H : Heap) (locs : List Loc) (ls : Array Slot), RL h → HW D cA A φ h H → va_S A s.heap H locs → lv_has ls 4 [(0, .ref b), (1, .ref (φ 11 0)), (2, .ref (φ 12 0)), (3, .int x3)] → W p l e room_1 s m #[Value.ref b] below meth c H locs (76 + 64 * (j + 1)) (3034 + 768 * (j + 1)) Q (F0 m 1704 ls [])) : W p l e room_1 s m #[Value.ref b] below meth c H locs (76 + 64 * j) (3034 + 768 * j) Q (F0 m 561 ls []) := by
  have hx := X.1
  have hb := X.2.1
  obtain ⟨al1, al2⟩ := hal h hR
  obtain ⟨r, d2, e1, e2, hR⟩ := cp h hR 
  refine lv_aload_n hx hb dL_law_561 rfl (lv_at hl 1 rfl) ?_
  refine rc_i (Af := fun φ => [.ref (φ 11 0)]) X hW hS ⟨by show _ ≤ 600000; omega, by show _ ≤ 7302250; omega⟩ (rn_V (As := []) (rest := []) X hW hS cw_L_62 al1 rfl rfl rfl ⟨Nat.le_of_ble_eq_true rfl, Nat.le_of_ble_eq_true rfl⟩ rfl hl.1 rfl (Nat.le_of_ble_eq_true rfl) dL_law_562) (ok_X11_fault 0 al1 e1) (fun H locs hW hS => ?_)
  refine lv_aload_n hx hb dL_law_565 rfl (lv_at hl 2 rfl) ?_
  refine rc_i (Af := fun φ => [.ref (φ 12 0)]) X hW hS ⟨by show _ ≤ 600000; omega, by show _ ≤ 7302250; omega⟩ (rn_V (As := []) (rest := [.int r]) X hW hS cw_L_65 al2 rfl rfl rfl ⟨Nat.le_of_ble_eq_true rfl, Nat.le_of_ble_eq_true rfl⟩ rfl hl.1 rfl (Nat.le_of_ble_eq_true rfl) dL_law_566) (ok_X12_fault 0 al2 e2) (fun H locs hW hS => ?_)
  refine lv_icmp_eq (tgt := 1704) hx hb dL_law_569 (by decide) (fun _ => ?_) (fun c9 => absurd rfl c9)
  refine W.widen (k := (76 + 64 * (j + 1))) (n := (3034 + 768 * (j + 1))) (by omega) (by omega) ?_
  exact hend φ _ H locs ls hR hW hS hl
set_option maxHeartbeats 4000000 in
set_option maxRecDepth 100000 in
theorem lc_letter {p : Program} {l : Launch} {e : Env} {s : State} {m : MethodId} {below : List Frame} {meth : Method} {c : Code} {D : va_G} {cA : Nat → ClassId} {A : Nat → Prop} {b L : Nat} {xs : Nat → Int32} {Q : State → Prop} {RL : HP → Prop} (X : CX p s m #[Value.ref b] c cL_law "BellYardsLaw" 4 D cA A) (hX : va_X b L xs s s.heap) (hbl : b < s.heap.size) (hbA : ¬ A b) (hL : L ≤ 3072) (hal : ∀ h, RL h → 0 < gn h 11 ∧ 0 < gn h 12) (cp : CP_letter RL) {j : Nat} {x3 : Int32} (ex : x3 = nI (6 * j)) (hj : 6 * j + 6 ≤ L) {h : HP} {φ : Nat → Nat → Nat} {H : Heap} {locs : List Loc} {ls : Array Slot} (hR : RL h) (hW : HW D cA A φ h H) (hS : va_S A s.heap H locs) (hl : lv_has ls 4 [(0, .ref b), (1, .ref (φ 11 0)), (2, .ref (φ 12 0)), (3, .int x3)])
    (hend : ∀ (φ : Nat → Nat → Nat) (h : HP) (H : Heap) (locs : List Loc) (ls : Array Slot), RL h → HW D cA A φ h H → va_S A s.heap H locs → lv_has ls 4 [(0, .ref b), (1, .ref (φ 11 0)), (2, .ref (φ 12 0)), (3, .int x3)] → W p l e room_1 s m #[Value.ref b] below meth c H locs (76 + 64 * (j + 1)) (3034 + 768 * (j + 1)) Q (F0 m 1704 ls [])) : W p l e room_1 s m #[Value.ref b] below meth c H locs (76 + 64 * j) (3034 + 768 * j) Q (F0 m 574 ls []) := by
  have hx := X.1
  have hb := X.2.1
  obtain ⟨al1, al2⟩ := hal h hR
  obtain ⟨r, d, d2, e1, e2, hR⟩ := cp h hR (xs (x3 + 1).toNatClampNeg) (xs (x3 + 2).toNatClampNeg)
  have v0 : vp_in (x3 + 1) L := by rw [ex]; exact li hL hj 1 (by decide)
  have v1 : vp_in (x3 + 2) L := by rw [ex]; exact li hL hj 2 (by decide)
  refine lv_aload_n hx hb dL_law_574 rfl (lv_at hl 1 rfl) ?_
  refine lv_aload_n hx hb dL_law_575 rfl (lv_at hl 0 rfl) ?_
  refine lv_iload_n hx hb dL_law_576 rfl (lv_at hl 3 rfl) ?_
  refine lv_iconst (v := 1) hx hb dL_law_577 (by decide) ?_
  refine lv_iadd hx hb dL_law_578 ?_
  refine va_sld hx hb hX hbl hbA hS v0 dL_law_579 ?_
  refine lv_aload_n hx hb dL_law_580 rfl (lv_at hl 0 rfl) ?_
  refine lv_iload_n hx hb dL_law_581 rfl (lv_at hl 3 rfl) ?_
  refine lv_iconst (v := 2) hx hb dL_law_582 (by decide) ?_
  refine lv_iadd hx hb dL_law_583 ?_
  refine va_sld hx hb hX hbl hbA hS v1 dL_law_584 ?_
  refine rc_i (Af := fun φ => [.ref (φ 11 0), .int (xs (x3 + 1).toNatClampNeg), .int (xs (x3 + 2).toNatClampNeg)]) X hW hS ⟨by show _ ≤ 600000; omega, by show _ ≤ 7302250; omega⟩ (rn_V (As := [.int (xs (x3 + 1).toNatClampNeg), .int (xs (x3 + 2).toNatClampNeg)]) (rest := []) X hW hS cw_L_66 al1 rfl rfl rfl ⟨Nat.le_of_ble_eq_true rfl, Nat.le_of_ble_eq_true rfl⟩ rfl hl.1 rfl (Nat.le_of_ble_eq_true rfl) dL_law_585) (ok_X11_letter 0 (xs (x3 + 1).toNatClampNeg) (xs (x3 + 2).toNatClampNeg) al1 e1) (fun H locs hW hS => ?_)
  refine lv_aload_n hx hb dL_law_588 rfl (lv_at hl 2 rfl) ?_
  refine lv_aload_n hx hb dL_law_589 rfl (lv_at hl 0 rfl) ?_
  refine lv_iload_n hx hb dL_law_590 rfl (lv_at hl 3 rfl) ?_
  refine lv_iconst (v := 1) hx hb dL_law_591 (by decide) ?_
  refine lv_iadd hx hb dL_law_592 ?_
  refine va_sld hx hb hX hbl hbA hS v0 dL_law_593 ?_
  refine lv_aload_n hx hb dL_law_594 rfl (lv_at hl 0 rfl) ?_
  refine lv_iload_n hx hb dL_law_595 rfl (lv_at hl 3 rfl) ?_
  refine lv_iconst (v := 2) hx hb dL_law_596 (by decide) ?_
  refine lv_iadd hx hb dL_law_597 ?_
  refine va_sld hx hb hX hbl hbA hS v1 dL_law_598 ?_
  refine rc_i (Af := fun φ => [.ref (φ 12 0), .int (xs (x3 + 1).toNatClampNeg), .int (xs (x3 + 2).toNatClampNeg)]) X hW hS ⟨by show _ ≤ 600000; omega, by show _ ≤ 7302250; omega⟩ (rn_V (As := [.int (xs (x3 + 1).toNatClampNeg), .int (xs (x3 + 2).toNatClampNeg)]) (rest := [.int r]) X hW hS cw_L_69 al2 rfl rfl rfl ⟨Nat.le_of_ble_eq_true rfl, Nat.le_of_ble_eq_true rfl⟩ rfl hl.1 rfl (Nat.le_of_ble_eq_true rfl) dL_law_599) (ok_X12_letter 0 (xs (x3 + 1).toNatClampNeg) (xs (x3 + 2).toNatClampNeg) al2 e2) (fun H locs hW hS => ?_)
  refine lv_icmp_eq (tgt := 1704) hx hb dL_law_602 (by decide) (fun _ => ?_) (fun c9 => absurd rfl c9)
  refine W.widen (k := (76 + 64 * (j + 1))) (n := (3034 + 768 * (j + 1))) (by omega) (by omega) ?_
  exact hend φ _ H locs ls hR hW hS hl
set_option maxHeartbeats 4000000 in
set_option maxRecDepth 100000 in
theorem lc_why {p : Program} {l : Launch} {e : Env} {s : State} {m : MethodId} {below : List Frame} {meth : Method} {c : Code} {D : va_G} {cA : Nat → ClassId} {A : Nat → Prop} {b L : Nat} {xs : Nat → Int32} {Q : State → Prop} {RL : HP → Prop} (X : CX p s m #[Value.ref b] c cL_law "BellYardsLaw" 4 D cA A) (hX : va_X b L xs s s.heap) (hbl : b < s.heap.size) (hbA : ¬ A b) (hL : L ≤ 3072) (hal : ∀ h, RL h → 0 < gn h 11 ∧ 0 < gn h 12) (cp : CP_why RL) {j : Nat} {x3 : Int32} (ex : x3 = nI (6 * j)) (hj : 6 * j + 6 ≤ L) {h : HP} {φ : Nat → Nat → Nat} {H : Heap} {locs : List Loc} {ls : Array Slot} (hR : RL h) (hW : HW D cA A φ h H) (hS : va_S A s.heap H locs) (hl : lv_has ls 4 [(0, .ref b), (1, .ref (φ 11 0)), (2, .ref (φ 12 0)), (3, .int x3)])
    (hend : ∀ (φ : Nat → Nat → Nat) (h : HP) (H : Heap) (locs : List Loc) (ls : Array Slot), RL h → HW D cA A φ h H → va_S A s.heap H locs → lv_has ls 4 [(0, .ref b), (1, .ref (φ 11 0)), (2, .ref (φ 12 0)), (3, .int x3)] → W p l e room_1 s m #[Value.ref b] below meth c H locs (76 + 64 * (j + 1)) (3034 + 768 * (j + 1)) Q (F0 m 1704 ls [])) : W p l e room_1 s m #[Value.ref b] below meth c H locs (76 + 64 * j) (3034 + 768 * j) Q (F0 m 607 ls []) := by
  have hx := X.1
  have hb := X.2.1
  obtain ⟨al1, al2⟩ := hal h hR
  obtain ⟨r, d, d2, e1, e2, hR⟩ := cp h hR (xs (x3 + 1).toNatClampNeg) (xs (x3 + 2).toNatClampNeg)
  have v0 : vp_in (x3 + 1) L := by rw [ex]; exact li hL hj 1 (by decide)
  have v1 : vp_in (x3 + 2) L := by rw [ex]; exact li hL hj 2 (by decide)
  refine lv_aload_n hx hb dL_law_607 rfl (lv_at hl 1 rfl) ?_
  refine lv_aload_n hx hb dL_law_608 rfl (lv_at hl 0 rfl) ?_
  refine lv_iload_n hx hb dL_law_609 rfl (lv_at hl 3 rfl) ?_
  refine lv_iconst (v := 1) hx hb dL_law_610 (by decide) ?_
  refine lv_iadd hx hb dL_law_611 ?_
  refine va_sld hx hb hX hbl hbA hS v0 dL_law_612 ?_
  refine lv_aload_n hx hb dL_law_613 rfl (lv_at hl 0 rfl) ?_
  refine lv_iload_n hx hb dL_law_614 rfl (lv_at hl 3 rfl) ?_
  refine lv_iconst (v := 2) hx hb dL_law_615 (by decide) ?_
  refine lv_iadd hx hb dL_law_616 ?_
  refine va_sld hx hb hX hbl hbA hS v1 dL_law_617 ?_
  refine rc_i (Af := fun φ => [.ref (φ 11 0), .int (xs (x3 + 1).toNatClampNeg), .int (xs (x3 + 2).toNatClampNeg)]) X hW hS ⟨by show _ ≤ 600000; omega, by show _ ≤ 7302250; omega⟩ (rn_V (As := [.int (xs (x3 + 1).toNatClampNeg), .int (xs (x3 + 2).toNatClampNeg)]) (rest := []) X hW hS cw_L_70 al1 rfl rfl rfl ⟨Nat.le_of_ble_eq_true rfl, Nat.le_of_ble_eq_true rfl⟩ rfl hl.1 rfl (Nat.le_of_ble_eq_true rfl) dL_law_618) (ok_X11_why 0 (xs (x3 + 1).toNatClampNeg) (xs (x3 + 2).toNatClampNeg) al1 e1) (fun H locs hW hS => ?_)
  refine lv_aload_n hx hb dL_law_621 rfl (lv_at hl 2 rfl) ?_
  refine lv_aload_n hx hb dL_law_622 rfl (lv_at hl 0 rfl) ?_
  refine lv_iload_n hx hb dL_law_623 rfl (lv_at hl 3 rfl) ?_
  refine lv_iconst (v := 1) hx hb dL_law_624 (by decide) ?_
  refine lv_iadd hx hb dL_law_625 ?_
  refine va_sld hx hb hX hbl hbA hS v0 dL_law_626 ?_
  refine lv_aload_n hx hb dL_law_627 rfl (lv_at hl 0 rfl) ?_
  refine lv_iload_n hx hb dL_law_628 rfl (lv_at hl 3 rfl) ?_
  refine lv_iconst (v := 2) hx hb dL_law_629 (by decide) ?_
  refine lv_iadd hx hb dL_law_630 ?_
  refine va_sld hx hb hX hbl hbA hS v1 dL_law_631 ?_
  refine rc_i (Af := fun φ => [.ref (φ 12 0), .int (xs (x3 + 1).toNatClampNeg), .int (xs (x3 + 2).toNatClampNeg)]) X hW hS ⟨by show _ ≤ 600000; omega, by show _ ≤ 7302250; omega⟩ (rn_V (As := [.int (xs (x3 + 1).toNatClampNeg), .int (xs (x3 + 2).toNatClampNeg)]) (rest := [.int r]) X hW hS cw_L_73 al2 rfl rfl rfl ⟨Nat.le_of_ble_eq_true rfl, Nat.le_of_ble_eq_true rfl⟩ rfl hl.1 rfl (Nat.le_of_ble_eq_true rfl) dL_law_632) (ok_X12_why 0 (xs (x3 + 1).toNatClampNeg) (xs (x3 + 2).toNatClampNeg) al2 e2) (fun H locs hW hS => ?_)
  refine lv_icmp_eq (tgt := 1704) hx hb dL_law_635 (by decide) (fun _ => ?_) (fun c9 => absurd rfl c9)
  refine W.widen (k := (76 + 64 * (j + 1))) (n := (3034 + 768 * (j + 1))) (by omega) (by omega) ?_
  exact hend φ _ H locs ls hR hW hS hl
set_option maxHeartbeats 4000000 in
set_option maxRecDepth 100000 in
theorem lc_kept {p : Program} {l : Launch} {e : Env} {s : State} {m : MethodId} {below : List Frame} {meth : Method} {c : Code} {D : va_G} {cA : Nat → ClassId} {A : Nat → Prop} {b L : Nat} {xs : Nat → Int32} {Q : State → Prop} {RL : HP → Prop} (X : CX p s m #[Value.ref b] c cL_law "BellYardsLaw" 4 D cA A) (hX : va_X b L xs s s.heap) (hbl : b < s.heap.size) (hbA : ¬ A b) (hL : L ≤ 3072) (hal : ∀ h, RL h → 0 < gn h 11 ∧ 0 < gn h 12) (cp : CP_kept RL) {j : Nat} {x3 : Int32} (ex : x3 = nI (6 * j)) (hj : 6 * j + 6 ≤ L) {h : HP} {φ : Nat → Nat → Nat} {H : Heap} {locs : List Loc} {ls : Array Slot} (hR : RL h) (hW : HW D cA A φ h H) (hS : va_S A s.heap H locs) (hl : lv_has ls 4 [(0, .ref b), (1, .ref (φ 11 0)), (2, .ref (φ 12 0)), (3, .int x3)])
    (hend : ∀ (φ : Nat → Nat → Nat) (h : HP) (H : Heap) (locs : List Loc) (ls : Array Slot), RL h → HW D cA A φ h H → va_S A s.heap H locs → lv_has ls 4 [(0, .ref b), (1, .ref (φ 11 0)), (2, .ref (φ 12 0)), (3, .int x3)] → W p l e room_1 s m #[Value.ref b] below meth c H locs (76 + 64 * (j + 1)) (3034 + 768 * (j + 1)) Q (F0 m 1704 ls [])) : W p l e room_1 s m #[Value.ref b] below meth c H locs (76 + 64 * j) (3034 + 768 * j) Q (F0 m 640 ls []) := by
  have hx := X.1
  have hb := X.2.1
  obtain ⟨al1, al2⟩ := hal h hR
  obtain ⟨r, d, d2, e1, e2, hR⟩ := cp h hR (xs (x3 + 1).toNatClampNeg) (xs (x3 + 2).toNatClampNeg)
  have v0 : vp_in (x3 + 1) L := by rw [ex]; exact li hL hj 1 (by decide)
  have v1 : vp_in (x3 + 2) L := by rw [ex]; exact li hL hj 2 (by decide)
  refine lv_aload_n hx hb dL_law_640 rfl (lv_at hl 1 rfl) ?_
  refine lv_aload_n hx hb dL_law_641 rfl (lv_at hl 0 rfl) ?_
  refine lv_iload_n hx hb dL_law_642 rfl (lv_at hl 3 rfl) ?_
  refine lv_iconst (v := 1) hx hb dL_law_643 (by decide) ?_
  refine lv_iadd hx hb dL_law_644 ?_
  refine va_sld hx hb hX hbl hbA hS v0 dL_law_645 ?_
  refine lv_aload_n hx hb dL_law_646 rfl (lv_at hl 0 rfl) ?_
  refine lv_iload_n hx hb dL_law_647 rfl (lv_at hl 3 rfl) ?_
  refine lv_iconst (v := 2) hx hb dL_law_648 (by decide) ?_
  refine lv_iadd hx hb dL_law_649 ?_
  refine va_sld hx hb hX hbl hbA hS v1 dL_law_650 ?_
  refine rc_i (Af := fun φ => [.ref (φ 11 0), .int (xs (x3 + 1).toNatClampNeg), .int (xs (x3 + 2).toNatClampNeg)]) X hW hS ⟨by show _ ≤ 600000; omega, by show _ ≤ 7302250; omega⟩ (rn_V (As := [.int (xs (x3 + 1).toNatClampNeg), .int (xs (x3 + 2).toNatClampNeg)]) (rest := []) X hW hS cw_L_74 al1 rfl rfl rfl ⟨Nat.le_of_ble_eq_true rfl, Nat.le_of_ble_eq_true rfl⟩ rfl hl.1 rfl (Nat.le_of_ble_eq_true rfl) dL_law_651) (ok_X11_kept 0 (xs (x3 + 1).toNatClampNeg) (xs (x3 + 2).toNatClampNeg) al1 e1) (fun H locs hW hS => ?_)
  refine lv_aload_n hx hb dL_law_654 rfl (lv_at hl 2 rfl) ?_
  refine lv_aload_n hx hb dL_law_655 rfl (lv_at hl 0 rfl) ?_
  refine lv_iload_n hx hb dL_law_656 rfl (lv_at hl 3 rfl) ?_
  refine lv_iconst (v := 1) hx hb dL_law_657 (by decide) ?_
  refine lv_iadd hx hb dL_law_658 ?_
  refine va_sld hx hb hX hbl hbA hS v0 dL_law_659 ?_
  refine lv_aload_n hx hb dL_law_660 rfl (lv_at hl 0 rfl) ?_
  refine lv_iload_n hx hb dL_law_661 rfl (lv_at hl 3 rfl) ?_
  refine lv_iconst (v := 2) hx hb dL_law_662 (by decide) ?_
  refine lv_iadd hx hb dL_law_663 ?_
  refine va_sld hx hb hX hbl hbA hS v1 dL_law_664 ?_
  refine rc_i (Af := fun φ => [.ref (φ 12 0), .int (xs (x3 + 1).toNatClampNeg), .int (xs (x3 + 2).toNatClampNeg)]) X hW hS ⟨by show _ ≤ 600000; omega, by show _ ≤ 7302250; omega⟩ (rn_V (As := [.int (xs (x3 + 1).toNatClampNeg), .int (xs (x3 + 2).toNatClampNeg)]) (rest := [.int r]) X hW hS cw_L_77 al2 rfl rfl rfl ⟨Nat.le_of_ble_eq_true rfl, Nat.le_of_ble_eq_true rfl⟩ rfl hl.1 rfl (Nat.le_of_ble_eq_true rfl) dL_law_665) (ok_X12_kept 0 (xs (x3 + 1).toNatClampNeg) (xs (x3 + 2).toNatClampNeg) al2 e2) (fun H locs hW hS => ?_)
  refine lv_icmp_eq (tgt := 1704) hx hb dL_law_668 (by decide) (fun _ => ?_) (fun c9 => absurd rfl c9)
  refine W.widen (k := (76 + 64 * (j + 1))) (n := (3034 + 768 * (j + 1))) (by omega) (by omega) ?_
  exact hend φ _ H locs ls hR hW hS hl
set_option maxHeartbeats 4000000 in
set_option maxRecDepth 100000 in
theorem lc_list {p : Program} {l : Launch} {e : Env} {s : State} {m : MethodId} {below : List Frame} {meth : Method} {c : Code} {D : va_G} {cA : Nat → ClassId} {A : Nat → Prop} {b L : Nat} {xs : Nat → Int32} {Q : State → Prop} {RL : HP → Prop} (X : CX p s m #[Value.ref b] c cL_law "BellYardsLaw" 4 D cA A) (hX : va_X b L xs s s.heap) (hbl : b < s.heap.size) (hbA : ¬ A b) (hL : L ≤ 3072) (hal : ∀ h, RL h → 0 < gn h 11 ∧ 0 < gn h 12) (cp : CP_list RL) {j : Nat} {x3 : Int32} (ex : x3 = nI (6 * j)) (hj : 6 * j + 6 ≤ L) {h : HP} {φ : Nat → Nat → Nat} {H : Heap} {locs : List Loc} {ls : Array Slot} (hR : RL h) (hW : HW D cA A φ h H) (hS : va_S A s.heap H locs) (hl : lv_has ls 4 [(0, .ref b), (1, .ref (φ 11 0)), (2, .ref (φ 12 0)), (3, .int x3)])
    (hend : ∀ (φ : Nat → Nat → Nat) (h : HP) (H : Heap) (locs : List Loc) (ls : Array Slot), RL h → HW D cA A φ h H → va_S A s.heap H locs → lv_has ls 4 [(0, .ref b), (1, .ref (φ 11 0)), (2, .ref (φ 12 0)), (3, .int x3)] → W p l e room_1 s m #[Value.ref b] below meth c H locs (76 + 64 * (j + 1)) (3034 + 768 * (j + 1)) Q (F0 m 1704 ls [])) : W p l e room_1 s m #[Value.ref b] below meth c H locs (76 + 64 * j) (3034 + 768 * j) Q (F0 m 673 ls []) := by
  have hx := X.1
  have hb := X.2.1
  obtain ⟨al1, al2⟩ := hal h hR
  obtain ⟨r, d, d2, e1, e2, hR⟩ := cp h hR (xs (x3 + 1).toNatClampNeg) (xs (x3 + 2).toNatClampNeg)
  have v0 : vp_in (x3 + 1) L := by rw [ex]; exact li hL hj 1 (by decide)
  have v1 : vp_in (x3 + 2) L := by rw [ex]; exact li hL hj 2 (by decide)
  refine lv_aload_n hx hb dL_law_673 rfl (lv_at hl 1 rfl) ?_
  refine lv_aload_n hx hb dL_law_674 rfl (lv_at hl 0 rfl) ?_
  refine lv_iload_n hx hb dL_law_675 rfl (lv_at hl 3 rfl) ?_
  refine lv_iconst (v := 1) hx hb dL_law_676 (by decide) ?_
  refine lv_iadd hx hb dL_law_677 ?_
  refine va_sld hx hb hX hbl hbA hS v0 dL_law_678 ?_
  refine lv_aload_n hx hb dL_law_679 rfl (lv_at hl 0 rfl) ?_
  refine lv_iload_n hx hb dL_law_680 rfl (lv_at hl 3 rfl) ?_
  refine lv_iconst (v := 2) hx hb dL_law_681 (by decide) ?_
  refine lv_iadd hx hb dL_law_682 ?_
  refine va_sld hx hb hX hbl hbA hS v1 dL_law_683 ?_
  refine rc_i (Af := fun φ => [.ref (φ 11 0), .int (xs (x3 + 1).toNatClampNeg), .int (xs (x3 + 2).toNatClampNeg)]) X hW hS ⟨by show _ ≤ 600000; omega, by show _ ≤ 7302250; omega⟩ (rn_V (As := [.int (xs (x3 + 1).toNatClampNeg), .int (xs (x3 + 2).toNatClampNeg)]) (rest := []) X hW hS cw_L_78 al1 rfl rfl rfl ⟨Nat.le_of_ble_eq_true rfl, Nat.le_of_ble_eq_true rfl⟩ rfl hl.1 rfl (Nat.le_of_ble_eq_true rfl) dL_law_684) (ok_X11_list 0 (xs (x3 + 1).toNatClampNeg) (xs (x3 + 2).toNatClampNeg) al1 e1) (fun H locs hW hS => ?_)
  refine lv_aload_n hx hb dL_law_687 rfl (lv_at hl 2 rfl) ?_
  refine lv_aload_n hx hb dL_law_688 rfl (lv_at hl 0 rfl) ?_
  refine lv_iload_n hx hb dL_law_689 rfl (lv_at hl 3 rfl) ?_
  refine lv_iconst (v := 1) hx hb dL_law_690 (by decide) ?_
  refine lv_iadd hx hb dL_law_691 ?_
  refine va_sld hx hb hX hbl hbA hS v0 dL_law_692 ?_
  refine lv_aload_n hx hb dL_law_693 rfl (lv_at hl 0 rfl) ?_
  refine lv_iload_n hx hb dL_law_694 rfl (lv_at hl 3 rfl) ?_
  refine lv_iconst (v := 2) hx hb dL_law_695 (by decide) ?_
  refine lv_iadd hx hb dL_law_696 ?_
  refine va_sld hx hb hX hbl hbA hS v1 dL_law_697 ?_
  refine rc_i (Af := fun φ => [.ref (φ 12 0), .int (xs (x3 + 1).toNatClampNeg), .int (xs (x3 + 2).toNatClampNeg)]) X hW hS ⟨by show _ ≤ 600000; omega, by show _ ≤ 7302250; omega⟩ (rn_V (As := [.int (xs (x3 + 1).toNatClampNeg), .int (xs (x3 + 2).toNatClampNeg)]) (rest := [.int r]) X hW hS cw_L_81 al2 rfl rfl rfl ⟨Nat.le_of_ble_eq_true rfl, Nat.le_of_ble_eq_true rfl⟩ rfl hl.1 rfl (Nat.le_of_ble_eq_true rfl) dL_law_698) (ok_X12_list 0 (xs (x3 + 1).toNatClampNeg) (xs (x3 + 2).toNatClampNeg) al2 e2) (fun H locs hW hS => ?_)
  refine lv_icmp_eq (tgt := 1704) hx hb dL_law_701 (by decide) (fun _ => ?_) (fun c9 => absurd rfl c9)
  refine W.widen (k := (76 + 64 * (j + 1))) (n := (3034 + 768 * (j + 1))) (by omega) (by omega) ?_
  exact hend φ _ H locs ls hR hW hS hl
set_option maxHeartbeats 4000000 in
set_option maxRecDepth 100000 in
theorem lc_gained {p : Program} {l : Launch} {e : Env} {s : State} {m : MethodId} {below : List Frame} {meth : Method} {c : Code} {D : va_G} {cA : Nat → ClassId} {A : Nat → Prop} {b L : Nat} {xs : Nat → Int32} {Q : State → Prop} {RL : HP → Prop} (X : CX p s m #[Value.ref b] c cL_law "BellYardsLaw" 4 D cA A) (hX : va_X b L xs s s.heap) (hbl : b < s.heap.size) (hbA : ¬ A b) (hL : L ≤ 3072) (hal : ∀ h, RL h → 0 < gn h 11 ∧ 0 < gn h 12) (cp : CP_gained RL) {j : Nat} {x3 : Int32} (ex : x3 = nI (6 * j)) (hj : 6 * j + 6 ≤ L) {h : HP} {φ : Nat → Nat → Nat} {H : Heap} {locs : List Loc} {ls : Array Slot} (hR : RL h) (hW : HW D cA A φ h H) (hS : va_S A s.heap H locs) (hl : lv_has ls 4 [(0, .ref b), (1, .ref (φ 11 0)), (2, .ref (φ 12 0)), (3, .int x3)])
    (hend : ∀ (φ : Nat → Nat → Nat) (h : HP) (H : Heap) (locs : List Loc) (ls : Array Slot), RL h → HW D cA A φ h H → va_S A s.heap H locs → lv_has ls 4 [(0, .ref b), (1, .ref (φ 11 0)), (2, .ref (φ 12 0)), (3, .int x3)] → W p l e room_1 s m #[Value.ref b] below meth c H locs (76 + 64 * (j + 1)) (3034 + 768 * (j + 1)) Q (F0 m 1704 ls [])) : W p l e room_1 s m #[Value.ref b] below meth c H locs (76 + 64 * j) (3034 + 768 * j) Q (F0 m 706 ls []) := by
  have hx := X.1
  have hb := X.2.1
  obtain ⟨al1, al2⟩ := hal h hR
  obtain ⟨r, d, d2, e1, e2, hR⟩ := cp h hR (xs (x3 + 1).toNatClampNeg) (xs (x3 + 2).toNatClampNeg)
  have v0 : vp_in (x3 + 1) L := by rw [ex]; exact li hL hj 1 (by decide)
  have v1 : vp_in (x3 + 2) L := by rw [ex]; exact li hL hj 2 (by decide)
  refine lv_aload_n hx hb dL_law_706 rfl (lv_at hl 1 rfl) ?_
  refine lv_aload_n hx hb dL_law_707 rfl (lv_at hl 0 rfl) ?_
  refine lv_iload_n hx hb dL_law_708 rfl (lv_at hl 3 rfl) ?_
  refine lv_iconst (v := 1) hx hb dL_law_709 (by decide) ?_
  refine lv_iadd hx hb dL_law_710 ?_
  refine va_sld hx hb hX hbl hbA hS v0 dL_law_711 ?_
  refine lv_aload_n hx hb dL_law_712 rfl (lv_at hl 0 rfl) ?_
  refine lv_iload_n hx hb dL_law_713 rfl (lv_at hl 3 rfl) ?_
  refine lv_iconst (v := 2) hx hb dL_law_714 (by decide) ?_
  refine lv_iadd hx hb dL_law_715 ?_
  refine va_sld hx hb hX hbl hbA hS v1 dL_law_716 ?_
  refine rc_i (Af := fun φ => [.ref (φ 11 0), .int (xs (x3 + 1).toNatClampNeg), .int (xs (x3 + 2).toNatClampNeg)]) X hW hS ⟨by show _ ≤ 600000; omega, by show _ ≤ 7302250; omega⟩ (rn_V (As := [.int (xs (x3 + 1).toNatClampNeg), .int (xs (x3 + 2).toNatClampNeg)]) (rest := []) X hW hS cw_L_82 al1 rfl rfl rfl ⟨Nat.le_of_ble_eq_true rfl, Nat.le_of_ble_eq_true rfl⟩ rfl hl.1 rfl (Nat.le_of_ble_eq_true rfl) dL_law_717) (ok_X11_gained 0 (xs (x3 + 1).toNatClampNeg) (xs (x3 + 2).toNatClampNeg) al1 e1) (fun H locs hW hS => ?_)
  refine lv_aload_n hx hb dL_law_720 rfl (lv_at hl 2 rfl) ?_
  refine lv_aload_n hx hb dL_law_721 rfl (lv_at hl 0 rfl) ?_
  refine lv_iload_n hx hb dL_law_722 rfl (lv_at hl 3 rfl) ?_
  refine lv_iconst (v := 1) hx hb dL_law_723 (by decide) ?_
  refine lv_iadd hx hb dL_law_724 ?_
  refine va_sld hx hb hX hbl hbA hS v0 dL_law_725 ?_
  refine lv_aload_n hx hb dL_law_726 rfl (lv_at hl 0 rfl) ?_
  refine lv_iload_n hx hb dL_law_727 rfl (lv_at hl 3 rfl) ?_
  refine lv_iconst (v := 2) hx hb dL_law_728 (by decide) ?_
  refine lv_iadd hx hb dL_law_729 ?_
  refine va_sld hx hb hX hbl hbA hS v1 dL_law_730 ?_
  refine rc_i (Af := fun φ => [.ref (φ 12 0), .int (xs (x3 + 1).toNatClampNeg), .int (xs (x3 + 2).toNatClampNeg)]) X hW hS ⟨by show _ ≤ 600000; omega, by show _ ≤ 7302250; omega⟩ (rn_V (As := [.int (xs (x3 + 1).toNatClampNeg), .int (xs (x3 + 2).toNatClampNeg)]) (rest := [.int r]) X hW hS cw_L_85 al2 rfl rfl rfl ⟨Nat.le_of_ble_eq_true rfl, Nat.le_of_ble_eq_true rfl⟩ rfl hl.1 rfl (Nat.le_of_ble_eq_true rfl) dL_law_731) (ok_X12_gained 0 (xs (x3 + 1).toNatClampNeg) (xs (x3 + 2).toNatClampNeg) al2 e2) (fun H locs hW hS => ?_)
  refine lv_icmp_eq (tgt := 1704) hx hb dL_law_734 (by decide) (fun _ => ?_) (fun c9 => absurd rfl c9)
  refine W.widen (k := (76 + 64 * (j + 1))) (n := (3034 + 768 * (j + 1))) (by omega) (by omega) ?_
  exact hend φ _ H locs ls hR hW hS hl
set_option maxHeartbeats 4000000 in
set_option maxRecDepth 100000 in
theorem lc_find {p : Program} {l : Launch} {e : Env} {s : State} {m : MethodId} {below : List Frame} {meth : Method} {c : Code} {D : va_G} {cA : Nat → ClassId} {A : Nat → Prop} {b L : Nat} {xs : Nat → Int32} {Q : State → Prop} {RL : HP → Prop} (X : CX p s m #[Value.ref b] c cL_law "BellYardsLaw" 4 D cA A) (hX : va_X b L xs s s.heap) (hbl : b < s.heap.size) (hbA : ¬ A b) (hL : L ≤ 3072) (hal : ∀ h, RL h → 0 < gn h 11 ∧ 0 < gn h 12) (cp : CP_find RL) {j : Nat} {x3 : Int32} (ex : x3 = nI (6 * j)) (hj : 6 * j + 6 ≤ L) {h : HP} {φ : Nat → Nat → Nat} {H : Heap} {locs : List Loc} {ls : Array Slot} (hR : RL h) (hW : HW D cA A φ h H) (hS : va_S A s.heap H locs) (hl : lv_has ls 4 [(0, .ref b), (1, .ref (φ 11 0)), (2, .ref (φ 12 0)), (3, .int x3)])
    (hend : ∀ (φ : Nat → Nat → Nat) (h : HP) (H : Heap) (locs : List Loc) (ls : Array Slot), RL h → HW D cA A φ h H → va_S A s.heap H locs → lv_has ls 4 [(0, .ref b), (1, .ref (φ 11 0)), (2, .ref (φ 12 0)), (3, .int x3)] → W p l e room_1 s m #[Value.ref b] below meth c H locs (76 + 64 * (j + 1)) (3034 + 768 * (j + 1)) Q (F0 m 1704 ls [])) : W p l e room_1 s m #[Value.ref b] below meth c H locs (76 + 64 * j) (3034 + 768 * j) Q (F0 m 739 ls []) := by
  have hx := X.1
  have hb := X.2.1
  obtain ⟨al1, al2⟩ := hal h hR
  obtain ⟨r, d, d2, e1, a1, a2, e2, hR⟩ := cp h hR (xs (x3 + 1).toNatClampNeg) (xs (x3 + 2).toNatClampNeg) (xs (x3 + 3).toNatClampNeg) (xs (x3 + 4).toNatClampNeg)
  have v0 : vp_in (x3 + 1) L := by rw [ex]; exact li hL hj 1 (by decide)
  have v1 : vp_in (x3 + 2) L := by rw [ex]; exact li hL hj 2 (by decide)
  have v2 : vp_in (x3 + 3) L := by rw [ex]; exact li hL hj 3 (by decide)
  have v3 : vp_in (x3 + 4) L := by rw [ex]; exact li hL hj 4 (by decide)
  refine lv_aload_n hx hb dL_law_739 rfl (lv_at hl 1 rfl) ?_
  refine lv_aload_n hx hb dL_law_740 rfl (lv_at hl 0 rfl) ?_
  refine lv_iload_n hx hb dL_law_741 rfl (lv_at hl 3 rfl) ?_
  refine lv_iconst (v := 1) hx hb dL_law_742 (by decide) ?_
  refine lv_iadd hx hb dL_law_743 ?_
  refine va_sld hx hb hX hbl hbA hS v0 dL_law_744 ?_
  refine lv_aload_n hx hb dL_law_745 rfl (lv_at hl 0 rfl) ?_
  refine lv_iload_n hx hb dL_law_746 rfl (lv_at hl 3 rfl) ?_
  refine lv_iconst (v := 2) hx hb dL_law_747 (by decide) ?_
  refine lv_iadd hx hb dL_law_748 ?_
  refine va_sld hx hb hX hbl hbA hS v1 dL_law_749 ?_
  refine lv_aload_n hx hb dL_law_750 rfl (lv_at hl 0 rfl) ?_
  refine lv_iload_n hx hb dL_law_751 rfl (lv_at hl 3 rfl) ?_
  refine lv_iconst (v := 3) hx hb dL_law_752 (by decide) ?_
  refine lv_iadd hx hb dL_law_753 ?_
  refine va_sld hx hb hX hbl hbA hS v2 dL_law_754 ?_
  refine lv_aload_n hx hb dL_law_755 rfl (lv_at hl 0 rfl) ?_
  refine lv_iload_n hx hb dL_law_756 rfl (lv_at hl 3 rfl) ?_
  refine lv_iconst (v := 4) hx hb dL_law_757 (by decide) ?_
  refine lv_iadd hx hb dL_law_758 ?_
  refine va_sld hx hb hX hbl hbA hS v3 dL_law_759 ?_
  refine rc_ia (Af := fun φ => [.ref (φ 11 0), .int (xs (x3 + 1).toNatClampNeg), .int (xs (x3 + 2).toNatClampNeg), .int (xs (x3 + 3).toNatClampNeg), .int (xs (x3 + 4).toNatClampNeg)]) X hW hS ⟨by show _ ≤ 600000; omega, by show _ ≤ 7302250; omega⟩ (rn_V (As := [.int (xs (x3 + 1).toNatClampNeg), .int (xs (x3 + 2).toNatClampNeg), .int (xs (x3 + 3).toNatClampNeg), .int (xs (x3 + 4).toNatClampNeg)]) (rest := []) X hW hS cw_L_86 al1 rfl rfl rfl ⟨Nat.le_of_ble_eq_true rfl, Nat.le_of_ble_eq_true rfl⟩ rfl hl.1 rfl (Nat.le_of_ble_eq_true rfl) dL_law_760) (ok_X11_find 0 (xs (x3 + 1).toNatClampNeg) (xs (x3 + 2).toNatClampNeg) (xs (x3 + 3).toNatClampNeg) (xs (x3 + 4).toNatClampNeg) al1 e1) (fun u H locs hu hW hS => ?_)
  have hl : lv_has ls 4 [(0, .ref b), (1, .ref (u 11 0)), (2, .ref (u 12 0)), (3, .int x3)] := by rw [hu 11 0 al1, hu 12 0 al2]; exact hl
  obtain ⟨φ, rfl⟩ : ∃ z, z = u := ⟨_, rfl⟩
  have al2 := a2
  refine lv_aload_n hx hb dL_law_763 rfl (lv_at hl 2 rfl) ?_
  refine lv_aload_n hx hb dL_law_764 rfl (lv_at hl 0 rfl) ?_
  refine lv_iload_n hx hb dL_law_765 rfl (lv_at hl 3 rfl) ?_
  refine lv_iconst (v := 1) hx hb dL_law_766 (by decide) ?_
  refine lv_iadd hx hb dL_law_767 ?_
  refine va_sld hx hb hX hbl hbA hS v0 dL_law_768 ?_
  refine lv_aload_n hx hb dL_law_769 rfl (lv_at hl 0 rfl) ?_
  refine lv_iload_n hx hb dL_law_770 rfl (lv_at hl 3 rfl) ?_
  refine lv_iconst (v := 2) hx hb dL_law_771 (by decide) ?_
  refine lv_iadd hx hb dL_law_772 ?_
  refine va_sld hx hb hX hbl hbA hS v1 dL_law_773 ?_
  refine lv_aload_n hx hb dL_law_774 rfl (lv_at hl 0 rfl) ?_
  refine lv_iload_n hx hb dL_law_775 rfl (lv_at hl 3 rfl) ?_
  refine lv_iconst (v := 3) hx hb dL_law_776 (by decide) ?_
  refine lv_iadd hx hb dL_law_777 ?_
  refine va_sld hx hb hX hbl hbA hS v2 dL_law_778 ?_
  refine lv_aload_n hx hb dL_law_779 rfl (lv_at hl 0 rfl) ?_
  refine lv_iload_n hx hb dL_law_780 rfl (lv_at hl 3 rfl) ?_
  refine lv_iconst (v := 4) hx hb dL_law_781 (by decide) ?_
  refine lv_iadd hx hb dL_law_782 ?_
  refine va_sld hx hb hX hbl hbA hS v3 dL_law_783 ?_
  refine rc_i (Af := fun φ => [.ref (φ 12 0), .int (xs (x3 + 1).toNatClampNeg), .int (xs (x3 + 2).toNatClampNeg), .int (xs (x3 + 3).toNatClampNeg), .int (xs (x3 + 4).toNatClampNeg)]) X hW hS ⟨by show _ ≤ 600000; omega, by show _ ≤ 7302250; omega⟩ (rn_V (As := [.int (xs (x3 + 1).toNatClampNeg), .int (xs (x3 + 2).toNatClampNeg), .int (xs (x3 + 3).toNatClampNeg), .int (xs (x3 + 4).toNatClampNeg)]) (rest := [.int r]) X hW hS cw_L_89 al2 rfl rfl rfl ⟨Nat.le_of_ble_eq_true rfl, Nat.le_of_ble_eq_true rfl⟩ rfl hl.1 rfl (Nat.le_of_ble_eq_true rfl) dL_law_784) (ok_X12_find 0 (xs (x3 + 1).toNatClampNeg) (xs (x3 + 2).toNatClampNeg) (xs (x3 + 3).toNatClampNeg) (xs (x3 + 4).toNatClampNeg) al2 e2) (fun H locs hW hS => ?_)
  refine lv_icmp_eq (tgt := 1704) hx hb dL_law_787 (by decide) (fun _ => ?_) (fun c9 => absurd rfl c9)
  refine W.widen (k := (76 + 64 * (j + 1))) (n := (3034 + 768 * (j + 1))) (by omega) (by omega) ?_
  exact hend φ _ H locs ls hR hW hS hl
set_option maxHeartbeats 4000000 in
set_option maxRecDepth 100000 in
theorem lc_forget {p : Program} {l : Launch} {e : Env} {s : State} {m : MethodId} {below : List Frame} {meth : Method} {c : Code} {D : va_G} {cA : Nat → ClassId} {A : Nat → Prop} {b L : Nat} {xs : Nat → Int32} {Q : State → Prop} {RL : HP → Prop} (X : CX p s m #[Value.ref b] c cL_law "BellYardsLaw" 4 D cA A) (hX : va_X b L xs s s.heap) (hbl : b < s.heap.size) (hbA : ¬ A b) (hL : L ≤ 3072) (hal : ∀ h, RL h → 0 < gn h 11 ∧ 0 < gn h 12) (cp : CP_forget RL) {j : Nat} {x3 : Int32} (ex : x3 = nI (6 * j)) (hj : 6 * j + 6 ≤ L) {h : HP} {φ : Nat → Nat → Nat} {H : Heap} {locs : List Loc} {ls : Array Slot} (hR : RL h) (hW : HW D cA A φ h H) (hS : va_S A s.heap H locs) (hl : lv_has ls 4 [(0, .ref b), (1, .ref (φ 11 0)), (2, .ref (φ 12 0)), (3, .int x3)])
    (hend : ∀ (φ : Nat → Nat → Nat) (h : HP) (H : Heap) (locs : List Loc) (ls : Array Slot), RL h → HW D cA A φ h H → va_S A s.heap H locs → lv_has ls 4 [(0, .ref b), (1, .ref (φ 11 0)), (2, .ref (φ 12 0)), (3, .int x3)] → W p l e room_1 s m #[Value.ref b] below meth c H locs (76 + 64 * (j + 1)) (3034 + 768 * (j + 1)) Q (F0 m 1704 ls [])) : W p l e room_1 s m #[Value.ref b] below meth c H locs (76 + 64 * j) (3034 + 768 * j) Q (F0 m 792 ls []) := by
  have hx := X.1
  have hb := X.2.1
  obtain ⟨al1, al2⟩ := hal h hR
  obtain ⟨r, d, d2, e1, e2, hR⟩ := cp h hR 
  refine lv_aload_n hx hb dL_law_792 rfl (lv_at hl 1 rfl) ?_
  refine rc_i (Af := fun φ => [.ref (φ 11 0)]) X hW hS ⟨by show _ ≤ 600000; omega, by show _ ≤ 7302250; omega⟩ (rn_V (As := []) (rest := []) X hW hS cw_L_90 al1 rfl rfl rfl ⟨Nat.le_of_ble_eq_true rfl, Nat.le_of_ble_eq_true rfl⟩ rfl hl.1 rfl (Nat.le_of_ble_eq_true rfl) dL_law_793) (ok_X11_forget 0 al1 e1) (fun H locs hW hS => ?_)
  refine lv_aload_n hx hb dL_law_796 rfl (lv_at hl 2 rfl) ?_
  refine rc_i (Af := fun φ => [.ref (φ 12 0)]) X hW hS ⟨by show _ ≤ 600000; omega, by show _ ≤ 7302250; omega⟩ (rn_V (As := []) (rest := [.int r]) X hW hS cw_L_93 al2 rfl rfl rfl ⟨Nat.le_of_ble_eq_true rfl, Nat.le_of_ble_eq_true rfl⟩ rfl hl.1 rfl (Nat.le_of_ble_eq_true rfl) dL_law_797) (ok_X12_forget 0 al2 e2) (fun H locs hW hS => ?_)
  refine lv_icmp_eq (tgt := 1704) hx hb dL_law_800 (by decide) (fun _ => ?_) (fun c9 => absurd rfl c9)
  refine W.widen (k := (76 + 64 * (j + 1))) (n := (3034 + 768 * (j + 1))) (by omega) (by omega) ?_
  exact hend φ _ H locs ls hR hW hS hl
set_option maxHeartbeats 4000000 in
set_option maxRecDepth 100000 in
theorem lc_could {p : Program} {l : Launch} {e : Env} {s : State} {m : MethodId} {below : List Frame} {meth : Method} {c : Code} {D : va_G} {cA : Nat → ClassId} {A : Nat → Prop} {b L : Nat} {xs : Nat → Int32} {Q : State → Prop} {RL : HP → Prop} (X : CX p s m #[Value.ref b] c cL_law "BellYardsLaw" 4 D cA A) (hX : va_X b L xs s s.heap) (hbl : b < s.heap.size) (hbA : ¬ A b) (hL : L ≤ 3072) (hal : ∀ h, RL h → 0 < gn h 11 ∧ 0 < gn h 12) (cp : CP_could RL) {j : Nat} {x3 : Int32} (ex : x3 = nI (6 * j)) (hj : 6 * j + 6 ≤ L) {h : HP} {φ : Nat → Nat → Nat} {H : Heap} {locs : List Loc} {ls : Array Slot} (hR : RL h) (hW : HW D cA A φ h H) (hS : va_S A s.heap H locs) (hl : lv_has ls 4 [(0, .ref b), (1, .ref (φ 11 0)), (2, .ref (φ 12 0)), (3, .int x3)])
    (hend : ∀ (φ : Nat → Nat → Nat) (h : HP) (H : Heap) (locs : List Loc) (ls : Array Slot), RL h → HW D cA A φ h H → va_S A s.heap H locs → lv_has ls 4 [(0, .ref b), (1, .ref (φ 11 0)), (2, .ref (φ 12 0)), (3, .int x3)] → W p l e room_1 s m #[Value.ref b] below meth c H locs (76 + 64 * (j + 1)) (3034 + 768 * (j + 1)) Q (F0 m 1704 ls [])) : W p l e room_1 s m #[Value.ref b] below meth c H locs (76 + 64 * j) (3034 + 768 * j) Q (F0 m 805 ls []) := by
  have hx := X.1
  have hb := X.2.1
  obtain ⟨al1, al2⟩ := hal h hR
  obtain ⟨r, e1, e2, hR⟩ := cp h hR (xs (x3 + 1).toNatClampNeg)
  have v0 : vp_in (x3 + 1) L := by rw [ex]; exact li hL hj 1 (by decide)
  refine lv_aload_n hx hb dL_law_805 rfl (lv_at hl 1 rfl) ?_
  refine lv_aload_n hx hb dL_law_806 rfl (lv_at hl 0 rfl) ?_
  refine lv_iload_n hx hb dL_law_807 rfl (lv_at hl 3 rfl) ?_
  refine lv_iconst (v := 1) hx hb dL_law_808 (by decide) ?_
  refine lv_iadd hx hb dL_law_809 ?_
  refine va_sld hx hb hX hbl hbA hS v0 dL_law_810 ?_
  refine rc_i (Af := fun φ => [.ref (φ 11 0), .int (xs (x3 + 1).toNatClampNeg)]) X hW hS ⟨by show _ ≤ 600000; omega, by show _ ≤ 7302250; omega⟩ (rn_V (As := [.int (xs (x3 + 1).toNatClampNeg)]) (rest := []) X hW hS cw_L_94 al1 rfl rfl rfl ⟨Nat.le_of_ble_eq_true rfl, Nat.le_of_ble_eq_true rfl⟩ rfl hl.1 rfl (Nat.le_of_ble_eq_true rfl) dL_law_811) (ok_X11_could 0 (xs (x3 + 1).toNatClampNeg) al1 e1) (fun H locs hW hS => ?_)
  refine lv_aload_n hx hb dL_law_814 rfl (lv_at hl 2 rfl) ?_
  refine lv_aload_n hx hb dL_law_815 rfl (lv_at hl 0 rfl) ?_
  refine lv_iload_n hx hb dL_law_816 rfl (lv_at hl 3 rfl) ?_
  refine lv_iconst (v := 1) hx hb dL_law_817 (by decide) ?_
  refine lv_iadd hx hb dL_law_818 ?_
  refine va_sld hx hb hX hbl hbA hS v0 dL_law_819 ?_
  refine rc_i (Af := fun φ => [.ref (φ 12 0), .int (xs (x3 + 1).toNatClampNeg)]) X hW hS ⟨by show _ ≤ 600000; omega, by show _ ≤ 7302250; omega⟩ (rn_V (As := [.int (xs (x3 + 1).toNatClampNeg)]) (rest := [.int r]) X hW hS cw_L_97 al2 rfl rfl rfl ⟨Nat.le_of_ble_eq_true rfl, Nat.le_of_ble_eq_true rfl⟩ rfl hl.1 rfl (Nat.le_of_ble_eq_true rfl) dL_law_820) (ok_X12_could 0 (xs (x3 + 1).toNatClampNeg) al2 e2) (fun H locs hW hS => ?_)
  refine lv_icmp_eq (tgt := 1704) hx hb dL_law_823 (by decide) (fun _ => ?_) (fun c9 => absurd rfl c9)
  refine W.widen (k := (76 + 64 * (j + 1))) (n := (3034 + 768 * (j + 1))) (by omega) (by omega) ?_
  exact hend φ _ H locs ls hR hW hS hl
set_option maxHeartbeats 4000000 in
set_option maxRecDepth 100000 in
theorem lc_next {p : Program} {l : Launch} {e : Env} {s : State} {m : MethodId} {below : List Frame} {meth : Method} {c : Code} {D : va_G} {cA : Nat → ClassId} {A : Nat → Prop} {b L : Nat} {xs : Nat → Int32} {Q : State → Prop} {RL : HP → Prop} (X : CX p s m #[Value.ref b] c cL_law "BellYardsLaw" 4 D cA A) (hX : va_X b L xs s s.heap) (hbl : b < s.heap.size) (hbA : ¬ A b) (hL : L ≤ 3072) (hal : ∀ h, RL h → 0 < gn h 11 ∧ 0 < gn h 12) (cp : CP_next RL) {j : Nat} {x3 : Int32} (ex : x3 = nI (6 * j)) (hj : 6 * j + 6 ≤ L) {h : HP} {φ : Nat → Nat → Nat} {H : Heap} {locs : List Loc} {ls : Array Slot} (hR : RL h) (hW : HW D cA A φ h H) (hS : va_S A s.heap H locs) (hl : lv_has ls 4 [(0, .ref b), (1, .ref (φ 11 0)), (2, .ref (φ 12 0)), (3, .int x3)])
    (hend : ∀ (φ : Nat → Nat → Nat) (h : HP) (H : Heap) (locs : List Loc) (ls : Array Slot), RL h → HW D cA A φ h H → va_S A s.heap H locs → lv_has ls 4 [(0, .ref b), (1, .ref (φ 11 0)), (2, .ref (φ 12 0)), (3, .int x3)] → W p l e room_1 s m #[Value.ref b] below meth c H locs (76 + 64 * (j + 1)) (3034 + 768 * (j + 1)) Q (F0 m 1704 ls [])) : W p l e room_1 s m #[Value.ref b] below meth c H locs (76 + 64 * j) (3034 + 768 * j) Q (F0 m 828 ls []) := by
  have hx := X.1
  have hb := X.2.1
  obtain ⟨al1, al2⟩ := hal h hR
  obtain ⟨r, e1, e2, hR⟩ := cp h hR (xs (x3 + 1).toNatClampNeg)
  have v0 : vp_in (x3 + 1) L := by rw [ex]; exact li hL hj 1 (by decide)
  refine lv_aload_n hx hb dL_law_828 rfl (lv_at hl 1 rfl) ?_
  refine lv_aload_n hx hb dL_law_829 rfl (lv_at hl 0 rfl) ?_
  refine lv_iload_n hx hb dL_law_830 rfl (lv_at hl 3 rfl) ?_
  refine lv_iconst (v := 1) hx hb dL_law_831 (by decide) ?_
  refine lv_iadd hx hb dL_law_832 ?_
  refine va_sld hx hb hX hbl hbA hS v0 dL_law_833 ?_
  refine rc_i (Af := fun φ => [.ref (φ 11 0), .int (xs (x3 + 1).toNatClampNeg)]) X hW hS ⟨by show _ ≤ 600000; omega, by show _ ≤ 7302250; omega⟩ (rn_V (As := [.int (xs (x3 + 1).toNatClampNeg)]) (rest := []) X hW hS cw_L_98 al1 rfl rfl rfl ⟨Nat.le_of_ble_eq_true rfl, Nat.le_of_ble_eq_true rfl⟩ rfl hl.1 rfl (Nat.le_of_ble_eq_true rfl) dL_law_834) (ok_X11_next 0 (xs (x3 + 1).toNatClampNeg) al1 e1) (fun H locs hW hS => ?_)
  refine lv_aload_n hx hb dL_law_837 rfl (lv_at hl 2 rfl) ?_
  refine lv_aload_n hx hb dL_law_838 rfl (lv_at hl 0 rfl) ?_
  refine lv_iload_n hx hb dL_law_839 rfl (lv_at hl 3 rfl) ?_
  refine lv_iconst (v := 1) hx hb dL_law_840 (by decide) ?_
  refine lv_iadd hx hb dL_law_841 ?_
  refine va_sld hx hb hX hbl hbA hS v0 dL_law_842 ?_
  refine rc_i (Af := fun φ => [.ref (φ 12 0), .int (xs (x3 + 1).toNatClampNeg)]) X hW hS ⟨by show _ ≤ 600000; omega, by show _ ≤ 7302250; omega⟩ (rn_V (As := [.int (xs (x3 + 1).toNatClampNeg)]) (rest := [.int r]) X hW hS cw_L_101 al2 rfl rfl rfl ⟨Nat.le_of_ble_eq_true rfl, Nat.le_of_ble_eq_true rfl⟩ rfl hl.1 rfl (Nat.le_of_ble_eq_true rfl) dL_law_843) (ok_X12_next 0 (xs (x3 + 1).toNatClampNeg) al2 e2) (fun H locs hW hS => ?_)
  refine lv_icmp_eq (tgt := 1704) hx hb dL_law_846 (by decide) (fun _ => ?_) (fun c9 => absurd rfl c9)
  refine W.widen (k := (76 + 64 * (j + 1))) (n := (3034 + 768 * (j + 1))) (by omega) (by omega) ?_
  exact hend φ _ H locs ls hR hW hS hl
set_option maxHeartbeats 4000000 in
set_option maxRecDepth 100000 in
theorem lc_laying {p : Program} {l : Launch} {e : Env} {s : State} {m : MethodId} {below : List Frame} {meth : Method} {c : Code} {D : va_G} {cA : Nat → ClassId} {A : Nat → Prop} {b L : Nat} {xs : Nat → Int32} {Q : State → Prop} {RL : HP → Prop} (X : CX p s m #[Value.ref b] c cL_law "BellYardsLaw" 4 D cA A) (hX : va_X b L xs s s.heap) (hbl : b < s.heap.size) (hbA : ¬ A b) (hL : L ≤ 3072) (hal : ∀ h, RL h → 0 < gn h 11 ∧ 0 < gn h 12) (cp : CP_laying RL) {j : Nat} {x3 : Int32} (ex : x3 = nI (6 * j)) (hj : 6 * j + 6 ≤ L) {h : HP} {φ : Nat → Nat → Nat} {H : Heap} {locs : List Loc} {ls : Array Slot} (hR : RL h) (hW : HW D cA A φ h H) (hS : va_S A s.heap H locs) (hl : lv_has ls 4 [(0, .ref b), (1, .ref (φ 11 0)), (2, .ref (φ 12 0)), (3, .int x3)])
    (hend : ∀ (φ : Nat → Nat → Nat) (h : HP) (H : Heap) (locs : List Loc) (ls : Array Slot), RL h → HW D cA A φ h H → va_S A s.heap H locs → lv_has ls 4 [(0, .ref b), (1, .ref (φ 11 0)), (2, .ref (φ 12 0)), (3, .int x3)] → W p l e room_1 s m #[Value.ref b] below meth c H locs (76 + 64 * (j + 1)) (3034 + 768 * (j + 1)) Q (F0 m 1704 ls [])) : W p l e room_1 s m #[Value.ref b] below meth c H locs (76 + 64 * j) (3034 + 768 * j) Q (F0 m 851 ls []) := by
  have hx := X.1
  have hb := X.2.1
  obtain ⟨al1, al2⟩ := hal h hR
  obtain ⟨r, d, d2, e1, e2, hR⟩ := cp h hR (xs (x3 + 1).toNatClampNeg)
  have v0 : vp_in (x3 + 1) L := by rw [ex]; exact li hL hj 1 (by decide)
  refine lv_aload_n hx hb dL_law_851 rfl (lv_at hl 1 rfl) ?_
  refine lv_aload_n hx hb dL_law_852 rfl (lv_at hl 0 rfl) ?_
  refine lv_iload_n hx hb dL_law_853 rfl (lv_at hl 3 rfl) ?_
  refine lv_iconst (v := 1) hx hb dL_law_854 (by decide) ?_
  refine lv_iadd hx hb dL_law_855 ?_
  refine va_sld hx hb hX hbl hbA hS v0 dL_law_856 ?_
  refine rc_i (Af := fun φ => [.ref (φ 11 0), .int (xs (x3 + 1).toNatClampNeg)]) X hW hS ⟨by show _ ≤ 600000; omega, by show _ ≤ 7302250; omega⟩ (rn_V (As := [.int (xs (x3 + 1).toNatClampNeg)]) (rest := []) X hW hS cw_L_102 al1 rfl rfl rfl ⟨Nat.le_of_ble_eq_true rfl, Nat.le_of_ble_eq_true rfl⟩ rfl hl.1 rfl (Nat.le_of_ble_eq_true rfl) dL_law_857) (ok_X11_laying 0 (xs (x3 + 1).toNatClampNeg) al1 e1) (fun H locs hW hS => ?_)
  refine lv_aload_n hx hb dL_law_860 rfl (lv_at hl 2 rfl) ?_
  refine lv_aload_n hx hb dL_law_861 rfl (lv_at hl 0 rfl) ?_
  refine lv_iload_n hx hb dL_law_862 rfl (lv_at hl 3 rfl) ?_
  refine lv_iconst (v := 1) hx hb dL_law_863 (by decide) ?_
  refine lv_iadd hx hb dL_law_864 ?_
  refine va_sld hx hb hX hbl hbA hS v0 dL_law_865 ?_
  refine rc_i (Af := fun φ => [.ref (φ 12 0), .int (xs (x3 + 1).toNatClampNeg)]) X hW hS ⟨by show _ ≤ 600000; omega, by show _ ≤ 7302250; omega⟩ (rn_V (As := [.int (xs (x3 + 1).toNatClampNeg)]) (rest := [.int r]) X hW hS cw_L_105 al2 rfl rfl rfl ⟨Nat.le_of_ble_eq_true rfl, Nat.le_of_ble_eq_true rfl⟩ rfl hl.1 rfl (Nat.le_of_ble_eq_true rfl) dL_law_866) (ok_X12_laying 0 (xs (x3 + 1).toNatClampNeg) al2 e2) (fun H locs hW hS => ?_)
  refine lv_icmp_eq (tgt := 1704) hx hb dL_law_869 (by decide) (fun _ => ?_) (fun c9 => absurd rfl c9)
  refine W.widen (k := (76 + 64 * (j + 1))) (n := (3034 + 768 * (j + 1))) (by omega) (by omega) ?_
  exact hend φ _ H locs ls hR hW hS hl
set_option maxHeartbeats 4000000 in
set_option maxRecDepth 100000 in
theorem lc_laid {p : Program} {l : Launch} {e : Env} {s : State} {m : MethodId} {below : List Frame} {meth : Method} {c : Code} {D : va_G} {cA : Nat → ClassId} {A : Nat → Prop} {b L : Nat} {xs : Nat → Int32} {Q : State → Prop} {RL : HP → Prop} (X : CX p s m #[Value.ref b] c cL_law "BellYardsLaw" 4 D cA A) (hX : va_X b L xs s s.heap) (hbl : b < s.heap.size) (hbA : ¬ A b) (hL : L ≤ 3072) (hal : ∀ h, RL h → 0 < gn h 11 ∧ 0 < gn h 12) (cp : CP_laid RL) {j : Nat} {x3 : Int32} (ex : x3 = nI (6 * j)) (hj : 6 * j + 6 ≤ L) {h : HP} {φ : Nat → Nat → Nat} {H : Heap} {locs : List Loc} {ls : Array Slot} (hR : RL h) (hW : HW D cA A φ h H) (hS : va_S A s.heap H locs) (hl : lv_has ls 4 [(0, .ref b), (1, .ref (φ 11 0)), (2, .ref (φ 12 0)), (3, .int x3)])
    (hend : ∀ (φ : Nat → Nat → Nat) (h : HP) (H : Heap) (locs : List Loc) (ls : Array Slot), RL h → HW D cA A φ h H → va_S A s.heap H locs → lv_has ls 4 [(0, .ref b), (1, .ref (φ 11 0)), (2, .ref (φ 12 0)), (3, .int x3)] → W p l e room_1 s m #[Value.ref b] below meth c H locs (76 + 64 * (j + 1)) (3034 + 768 * (j + 1)) Q (F0 m 1704 ls [])) : W p l e room_1 s m #[Value.ref b] below meth c H locs (76 + 64 * j) (3034 + 768 * j) Q (F0 m 874 ls []) := by
  have hx := X.1
  have hb := X.2.1
  obtain ⟨al1, al2⟩ := hal h hR
  obtain ⟨r, d, d2, e1, e2, hR⟩ := cp h hR (xs (x3 + 1).toNatClampNeg)
  have v0 : vp_in (x3 + 1) L := by rw [ex]; exact li hL hj 1 (by decide)
  refine lv_aload_n hx hb dL_law_874 rfl (lv_at hl 1 rfl) ?_
  refine lv_aload_n hx hb dL_law_875 rfl (lv_at hl 0 rfl) ?_
  refine lv_iload_n hx hb dL_law_876 rfl (lv_at hl 3 rfl) ?_
  refine lv_iconst (v := 1) hx hb dL_law_877 (by decide) ?_
  refine lv_iadd hx hb dL_law_878 ?_
  refine va_sld hx hb hX hbl hbA hS v0 dL_law_879 ?_
  refine rc_i (Af := fun φ => [.ref (φ 11 0), .int (xs (x3 + 1).toNatClampNeg)]) X hW hS ⟨by show _ ≤ 600000; omega, by show _ ≤ 7302250; omega⟩ (rn_V (As := [.int (xs (x3 + 1).toNatClampNeg)]) (rest := []) X hW hS cw_L_106 al1 rfl rfl rfl ⟨Nat.le_of_ble_eq_true rfl, Nat.le_of_ble_eq_true rfl⟩ rfl hl.1 rfl (Nat.le_of_ble_eq_true rfl) dL_law_880) (ok_X11_laid 0 (xs (x3 + 1).toNatClampNeg) al1 e1) (fun H locs hW hS => ?_)
  refine lv_aload_n hx hb dL_law_883 rfl (lv_at hl 2 rfl) ?_
  refine lv_aload_n hx hb dL_law_884 rfl (lv_at hl 0 rfl) ?_
  refine lv_iload_n hx hb dL_law_885 rfl (lv_at hl 3 rfl) ?_
  refine lv_iconst (v := 1) hx hb dL_law_886 (by decide) ?_
  refine lv_iadd hx hb dL_law_887 ?_
  refine va_sld hx hb hX hbl hbA hS v0 dL_law_888 ?_
  refine rc_i (Af := fun φ => [.ref (φ 12 0), .int (xs (x3 + 1).toNatClampNeg)]) X hW hS ⟨by show _ ≤ 600000; omega, by show _ ≤ 7302250; omega⟩ (rn_V (As := [.int (xs (x3 + 1).toNatClampNeg)]) (rest := [.int r]) X hW hS cw_L_109 al2 rfl rfl rfl ⟨Nat.le_of_ble_eq_true rfl, Nat.le_of_ble_eq_true rfl⟩ rfl hl.1 rfl (Nat.le_of_ble_eq_true rfl) dL_law_889) (ok_X12_laid 0 (xs (x3 + 1).toNatClampNeg) al2 e2) (fun H locs hW hS => ?_)
  refine lv_icmp_eq (tgt := 1704) hx hb dL_law_892 (by decide) (fun _ => ?_) (fun c9 => absurd rfl c9)
  refine W.widen (k := (76 + 64 * (j + 1))) (n := (3034 + 768 * (j + 1))) (by omega) (by omega) ?_
  exact hend φ _ H locs ls hR hW hS hl
set_option maxHeartbeats 4000000 in
set_option maxRecDepth 100000 in
theorem lc_tune {p : Program} {l : Launch} {e : Env} {s : State} {m : MethodId} {below : List Frame} {meth : Method} {c : Code} {D : va_G} {cA : Nat → ClassId} {A : Nat → Prop} {b L : Nat} {xs : Nat → Int32} {Q : State → Prop} {RL : HP → Prop} (X : CX p s m #[Value.ref b] c cL_law "BellYardsLaw" 4 D cA A) (hX : va_X b L xs s s.heap) (hbl : b < s.heap.size) (hbA : ¬ A b) (hL : L ≤ 3072) (hal : ∀ h, RL h → 0 < gn h 11 ∧ 0 < gn h 12) (cp : CP_tune RL) {j : Nat} {x3 : Int32} (ex : x3 = nI (6 * j)) (hj : 6 * j + 6 ≤ L) {h : HP} {φ : Nat → Nat → Nat} {H : Heap} {locs : List Loc} {ls : Array Slot} (hR : RL h) (hW : HW D cA A φ h H) (hS : va_S A s.heap H locs) (hl : lv_has ls 4 [(0, .ref b), (1, .ref (φ 11 0)), (2, .ref (φ 12 0)), (3, .int x3)])
    (hend : ∀ (φ : Nat → Nat → Nat) (h : HP) (H : Heap) (locs : List Loc) (ls : Array Slot), RL h → HW D cA A φ h H → va_S A s.heap H locs → lv_has ls 4 [(0, .ref b), (1, .ref (φ 11 0)), (2, .ref (φ 12 0)), (3, .int x3)] → W p l e room_1 s m #[Value.ref b] below meth c H locs (76 + 64 * (j + 1)) (3034 + 768 * (j + 1)) Q (F0 m 1704 ls [])) : W p l e room_1 s m #[Value.ref b] below meth c H locs (76 + 64 * j) (3034 + 768 * j) Q (F0 m 897 ls []) := by
  have hx := X.1
  have hb := X.2.1
  obtain ⟨al1, al2⟩ := hal h hR
  obtain ⟨r, d, d2, e1, e2, hR⟩ := cp h hR (xs (x3 + 1).toNatClampNeg) (xs (x3 + 2).toNatClampNeg)
  have v0 : vp_in (x3 + 1) L := by rw [ex]; exact li hL hj 1 (by decide)
  have v1 : vp_in (x3 + 2) L := by rw [ex]; exact li hL hj 2 (by decide)
  refine lv_aload_n hx hb dL_law_897 rfl (lv_at hl 1 rfl) ?_
  refine lv_aload_n hx hb dL_law_898 rfl (lv_at hl 0 rfl) ?_
  refine lv_iload_n hx hb dL_law_899 rfl (lv_at hl 3 rfl) ?_
  refine lv_iconst (v := 1) hx hb dL_law_900 (by decide) ?_
  refine lv_iadd hx hb dL_law_901 ?_
  refine va_sld hx hb hX hbl hbA hS v0 dL_law_902 ?_
  refine lv_aload_n hx hb dL_law_903 rfl (lv_at hl 0 rfl) ?_
  refine lv_iload_n hx hb dL_law_904 rfl (lv_at hl 3 rfl) ?_
  refine lv_iconst (v := 2) hx hb dL_law_905 (by decide) ?_
  refine lv_iadd hx hb dL_law_906 ?_
  refine va_sld hx hb hX hbl hbA hS v1 dL_law_907 ?_
  refine rc_i (Af := fun φ => [.ref (φ 11 0), .int (xs (x3 + 1).toNatClampNeg), .int (xs (x3 + 2).toNatClampNeg)]) X hW hS ⟨by show _ ≤ 600000; omega, by show _ ≤ 7302250; omega⟩ (rn_V (As := [.int (xs (x3 + 1).toNatClampNeg), .int (xs (x3 + 2).toNatClampNeg)]) (rest := []) X hW hS cw_L_110 al1 rfl rfl rfl ⟨Nat.le_of_ble_eq_true rfl, Nat.le_of_ble_eq_true rfl⟩ rfl hl.1 rfl (Nat.le_of_ble_eq_true rfl) dL_law_908) (ok_X11_tune 0 (xs (x3 + 1).toNatClampNeg) (xs (x3 + 2).toNatClampNeg) al1 e1) (fun H locs hW hS => ?_)
  refine lv_aload_n hx hb dL_law_911 rfl (lv_at hl 2 rfl) ?_
  refine lv_aload_n hx hb dL_law_912 rfl (lv_at hl 0 rfl) ?_
  refine lv_iload_n hx hb dL_law_913 rfl (lv_at hl 3 rfl) ?_
  refine lv_iconst (v := 1) hx hb dL_law_914 (by decide) ?_
  refine lv_iadd hx hb dL_law_915 ?_
  refine va_sld hx hb hX hbl hbA hS v0 dL_law_916 ?_
  refine lv_aload_n hx hb dL_law_917 rfl (lv_at hl 0 rfl) ?_
  refine lv_iload_n hx hb dL_law_918 rfl (lv_at hl 3 rfl) ?_
  refine lv_iconst (v := 2) hx hb dL_law_919 (by decide) ?_
  refine lv_iadd hx hb dL_law_920 ?_
  refine va_sld hx hb hX hbl hbA hS v1 dL_law_921 ?_
  refine rc_i (Af := fun φ => [.ref (φ 12 0), .int (xs (x3 + 1).toNatClampNeg), .int (xs (x3 + 2).toNatClampNeg)]) X hW hS ⟨by show _ ≤ 600000; omega, by show _ ≤ 7302250; omega⟩ (rn_V (As := [.int (xs (x3 + 1).toNatClampNeg), .int (xs (x3 + 2).toNatClampNeg)]) (rest := [.int r]) X hW hS cw_L_113 al2 rfl rfl rfl ⟨Nat.le_of_ble_eq_true rfl, Nat.le_of_ble_eq_true rfl⟩ rfl hl.1 rfl (Nat.le_of_ble_eq_true rfl) dL_law_922) (ok_X12_tune 0 (xs (x3 + 1).toNatClampNeg) (xs (x3 + 2).toNatClampNeg) al2 e2) (fun H locs hW hS => ?_)
  refine lv_icmp_eq (tgt := 1704) hx hb dL_law_925 (by decide) (fun _ => ?_) (fun c9 => absurd rfl c9)
  refine W.widen (k := (76 + 64 * (j + 1))) (n := (3034 + 768 * (j + 1))) (by omega) (by omega) ?_
  exact hend φ _ H locs ls hR hW hS hl
set_option maxHeartbeats 4000000 in
set_option maxRecDepth 100000 in
theorem lc_peal {p : Program} {l : Launch} {e : Env} {s : State} {m : MethodId} {below : List Frame} {meth : Method} {c : Code} {D : va_G} {cA : Nat → ClassId} {A : Nat → Prop} {b L : Nat} {xs : Nat → Int32} {Q : State → Prop} {RL : HP → Prop} (X : CX p s m #[Value.ref b] c cL_law "BellYardsLaw" 4 D cA A) (hX : va_X b L xs s s.heap) (hbl : b < s.heap.size) (hbA : ¬ A b) (hL : L ≤ 3072) (hal : ∀ h, RL h → 0 < gn h 11 ∧ 0 < gn h 12) (cp : CP_peal RL) {j : Nat} {x3 : Int32} (ex : x3 = nI (6 * j)) (hj : 6 * j + 6 ≤ L) {h : HP} {φ : Nat → Nat → Nat} {H : Heap} {locs : List Loc} {ls : Array Slot} (hR : RL h) (hW : HW D cA A φ h H) (hS : va_S A s.heap H locs) (hl : lv_has ls 4 [(0, .ref b), (1, .ref (φ 11 0)), (2, .ref (φ 12 0)), (3, .int x3)])
    (hend : ∀ (φ : Nat → Nat → Nat) (h : HP) (H : Heap) (locs : List Loc) (ls : Array Slot), RL h → HW D cA A φ h H → va_S A s.heap H locs → lv_has ls 4 [(0, .ref b), (1, .ref (φ 11 0)), (2, .ref (φ 12 0)), (3, .int x3)] → W p l e room_1 s m #[Value.ref b] below meth c H locs (76 + 64 * (j + 1)) (3034 + 768 * (j + 1)) Q (F0 m 1704 ls [])) : W p l e room_1 s m #[Value.ref b] below meth c H locs (76 + 64 * j) (3034 + 768 * j) Q (F0 m 930 ls []) := by
  have hx := X.1
  have hb := X.2.1
  obtain ⟨al1, al2⟩ := hal h hR
  obtain ⟨r, d, e1, e2, hR⟩ := cp h hR (xs (x3 + 1).toNatClampNeg) (xs (x3 + 2).toNatClampNeg)
  have v0 : vp_in (x3 + 1) L := by rw [ex]; exact li hL hj 1 (by decide)
  have v1 : vp_in (x3 + 2) L := by rw [ex]; exact li hL hj 2 (by decide)
  refine lv_aload_n hx hb dL_law_930 rfl (lv_at hl 1 rfl) ?_
  refine lv_aload_n hx hb dL_law_931 rfl (lv_at hl 0 rfl) ?_
  refine lv_iload_n hx hb dL_law_932 rfl (lv_at hl 3 rfl) ?_
  refine lv_iconst (v := 1) hx hb dL_law_933 (by decide) ?_
  refine lv_iadd hx hb dL_law_934 ?_
  refine va_sld hx hb hX hbl hbA hS v0 dL_law_935 ?_
  refine lv_aload_n hx hb dL_law_936 rfl (lv_at hl 0 rfl) ?_
  refine lv_iload_n hx hb dL_law_937 rfl (lv_at hl 3 rfl) ?_
  refine lv_iconst (v := 2) hx hb dL_law_938 (by decide) ?_
  refine lv_iadd hx hb dL_law_939 ?_
  refine va_sld hx hb hX hbl hbA hS v1 dL_law_940 ?_
  refine rc_i (Af := fun φ => [.ref (φ 11 0), .int (xs (x3 + 1).toNatClampNeg), .int (xs (x3 + 2).toNatClampNeg)]) X hW hS ⟨by show _ ≤ 600000; omega, by show _ ≤ 7302250; omega⟩ (rn_V (As := [.int (xs (x3 + 1).toNatClampNeg), .int (xs (x3 + 2).toNatClampNeg)]) (rest := []) X hW hS cw_L_114 al1 rfl rfl rfl ⟨Nat.le_of_ble_eq_true rfl, Nat.le_of_ble_eq_true rfl⟩ rfl hl.1 rfl (Nat.le_of_ble_eq_true rfl) dL_law_941) (ok_X11_peal 0 (xs (x3 + 1).toNatClampNeg) (xs (x3 + 2).toNatClampNeg) al1 e1) (fun H locs hW hS => ?_)
  refine lv_aload_n hx hb dL_law_944 rfl (lv_at hl 2 rfl) ?_
  refine lv_aload_n hx hb dL_law_945 rfl (lv_at hl 0 rfl) ?_
  refine lv_iload_n hx hb dL_law_946 rfl (lv_at hl 3 rfl) ?_
  refine lv_iconst (v := 1) hx hb dL_law_947 (by decide) ?_
  refine lv_iadd hx hb dL_law_948 ?_
  refine va_sld hx hb hX hbl hbA hS v0 dL_law_949 ?_
  refine lv_aload_n hx hb dL_law_950 rfl (lv_at hl 0 rfl) ?_
  refine lv_iload_n hx hb dL_law_951 rfl (lv_at hl 3 rfl) ?_
  refine lv_iconst (v := 2) hx hb dL_law_952 (by decide) ?_
  refine lv_iadd hx hb dL_law_953 ?_
  refine va_sld hx hb hX hbl hbA hS v1 dL_law_954 ?_
  refine rc_i (Af := fun φ => [.ref (φ 12 0), .int (xs (x3 + 1).toNatClampNeg), .int (xs (x3 + 2).toNatClampNeg)]) X hW hS ⟨by show _ ≤ 600000; omega, by show _ ≤ 7302250; omega⟩ (rn_V (As := [.int (xs (x3 + 1).toNatClampNeg), .int (xs (x3 + 2).toNatClampNeg)]) (rest := [.int r]) X hW hS cw_L_117 al2 rfl rfl rfl ⟨Nat.le_of_ble_eq_true rfl, Nat.le_of_ble_eq_true rfl⟩ rfl hl.1 rfl (Nat.le_of_ble_eq_true rfl) dL_law_955) (ok_X12_peal 0 (xs (x3 + 1).toNatClampNeg) (xs (x3 + 2).toNatClampNeg) al2 e2) (fun H locs hW hS => ?_)
  refine lv_icmp_eq (tgt := 1704) hx hb dL_law_958 (by decide) (fun _ => ?_) (fun c9 => absurd rfl c9)
  refine W.widen (k := (76 + 64 * (j + 1))) (n := (3034 + 768 * (j + 1))) (by omega) (by omega) ?_
  exact hend φ _ H locs ls hR hW hS hl
set_option maxHeartbeats 4000000 in
set_option maxRecDepth 100000 in
theorem lc_step {p : Program} {l : Launch} {e : Env} {s : State} {m : MethodId} {below : List Frame} {meth : Method} {c : Code} {D : va_G} {cA : Nat → ClassId} {A : Nat → Prop} {b L : Nat} {xs : Nat → Int32} {Q : State → Prop} {RL : HP → Prop} (X : CX p s m #[Value.ref b] c cL_law "BellYardsLaw" 4 D cA A) (hX : va_X b L xs s s.heap) (hbl : b < s.heap.size) (hbA : ¬ A b) (hL : L ≤ 3072) (hal : ∀ h, RL h → 0 < gn h 11 ∧ 0 < gn h 12) (cp : CP_step RL) {j : Nat} {x3 : Int32} (ex : x3 = nI (6 * j)) (hj : 6 * j + 6 ≤ L) {h : HP} {φ : Nat → Nat → Nat} {H : Heap} {locs : List Loc} {ls : Array Slot} (hR : RL h) (hW : HW D cA A φ h H) (hS : va_S A s.heap H locs) (hl : lv_has ls 4 [(0, .ref b), (1, .ref (φ 11 0)), (2, .ref (φ 12 0)), (3, .int x3)])
    (hend : ∀ (φ : Nat → Nat → Nat) (h : HP) (H : Heap) (locs : List Loc) (ls : Array Slot), RL h → HW D cA A φ h H → va_S A s.heap H locs → lv_has ls 4 [(0, .ref b), (1, .ref (φ 11 0)), (2, .ref (φ 12 0)), (3, .int x3)] → W p l e room_1 s m #[Value.ref b] below meth c H locs (76 + 64 * (j + 1)) (3034 + 768 * (j + 1)) Q (F0 m 1704 ls [])) : W p l e room_1 s m #[Value.ref b] below meth c H locs (76 + 64 * j) (3034 + 768 * j) Q (F0 m 963 ls []) := by
  have hx := X.1
  have hb := X.2.1
  obtain ⟨al1, al2⟩ := hal h hR
  obtain ⟨r, d, e1, e2, hR⟩ := cp h hR (xs (x3 + 1).toNatClampNeg) (xs (x3 + 2).toNatClampNeg)
  have v0 : vp_in (x3 + 1) L := by rw [ex]; exact li hL hj 1 (by decide)
  have v1 : vp_in (x3 + 2) L := by rw [ex]; exact li hL hj 2 (by decide)
  refine lv_aload_n hx hb dL_law_963 rfl (lv_at hl 1 rfl) ?_
  refine lv_aload_n hx hb dL_law_964 rfl (lv_at hl 0 rfl) ?_
  refine lv_iload_n hx hb dL_law_965 rfl (lv_at hl 3 rfl) ?_
  refine lv_iconst (v := 1) hx hb dL_law_966 (by decide) ?_
  refine lv_iadd hx hb dL_law_967 ?_
  refine va_sld hx hb hX hbl hbA hS v0 dL_law_968 ?_
  refine lv_aload_n hx hb dL_law_969 rfl (lv_at hl 0 rfl) ?_
  refine lv_iload_n hx hb dL_law_970 rfl (lv_at hl 3 rfl) ?_
  refine lv_iconst (v := 2) hx hb dL_law_971 (by decide) ?_
  refine lv_iadd hx hb dL_law_972 ?_
  refine va_sld hx hb hX hbl hbA hS v1 dL_law_973 ?_
  refine rc_i (Af := fun φ => [.ref (φ 11 0), .int (xs (x3 + 1).toNatClampNeg), .int (xs (x3 + 2).toNatClampNeg)]) X hW hS ⟨by show _ ≤ 600000; omega, by show _ ≤ 7302250; omega⟩ (rn_V (As := [.int (xs (x3 + 1).toNatClampNeg), .int (xs (x3 + 2).toNatClampNeg)]) (rest := []) X hW hS cw_L_118 al1 rfl rfl rfl ⟨Nat.le_of_ble_eq_true rfl, Nat.le_of_ble_eq_true rfl⟩ rfl hl.1 rfl (Nat.le_of_ble_eq_true rfl) dL_law_974) (ok_X11_step 0 (xs (x3 + 1).toNatClampNeg) (xs (x3 + 2).toNatClampNeg) al1 e1) (fun H locs hW hS => ?_)
  refine lv_aload_n hx hb dL_law_977 rfl (lv_at hl 2 rfl) ?_
  refine lv_aload_n hx hb dL_law_978 rfl (lv_at hl 0 rfl) ?_
  refine lv_iload_n hx hb dL_law_979 rfl (lv_at hl 3 rfl) ?_
  refine lv_iconst (v := 1) hx hb dL_law_980 (by decide) ?_
  refine lv_iadd hx hb dL_law_981 ?_
  refine va_sld hx hb hX hbl hbA hS v0 dL_law_982 ?_
  refine lv_aload_n hx hb dL_law_983 rfl (lv_at hl 0 rfl) ?_
  refine lv_iload_n hx hb dL_law_984 rfl (lv_at hl 3 rfl) ?_
  refine lv_iconst (v := 2) hx hb dL_law_985 (by decide) ?_
  refine lv_iadd hx hb dL_law_986 ?_
  refine va_sld hx hb hX hbl hbA hS v1 dL_law_987 ?_
  refine rc_i (Af := fun φ => [.ref (φ 12 0), .int (xs (x3 + 1).toNatClampNeg), .int (xs (x3 + 2).toNatClampNeg)]) X hW hS ⟨by show _ ≤ 600000; omega, by show _ ≤ 7302250; omega⟩ (rn_V (As := [.int (xs (x3 + 1).toNatClampNeg), .int (xs (x3 + 2).toNatClampNeg)]) (rest := [.int r]) X hW hS cw_L_121 al2 rfl rfl rfl ⟨Nat.le_of_ble_eq_true rfl, Nat.le_of_ble_eq_true rfl⟩ rfl hl.1 rfl (Nat.le_of_ble_eq_true rfl) dL_law_988) (ok_X12_step 0 (xs (x3 + 1).toNatClampNeg) (xs (x3 + 2).toNatClampNeg) al2 e2) (fun H locs hW hS => ?_)
  refine lv_icmp_eq (tgt := 1704) hx hb dL_law_991 (by decide) (fun _ => ?_) (fun c9 => absurd rfl c9)
  refine W.widen (k := (76 + 64 * (j + 1))) (n := (3034 + 768 * (j + 1))) (by omega) (by omega) ?_
  exact hend φ _ H locs ls hR hW hS hl
set_option maxHeartbeats 4000000 in
set_option maxRecDepth 100000 in
theorem lc_batch {p : Program} {l : Launch} {e : Env} {s : State} {m : MethodId} {below : List Frame} {meth : Method} {c : Code} {D : va_G} {cA : Nat → ClassId} {A : Nat → Prop} {b L : Nat} {xs : Nat → Int32} {Q : State → Prop} {RL : HP → Prop} (X : CX p s m #[Value.ref b] c cL_law "BellYardsLaw" 4 D cA A) (hX : va_X b L xs s s.heap) (hbl : b < s.heap.size) (hbA : ¬ A b) (hL : L ≤ 3072) (hal : ∀ h, RL h → 0 < gn h 11 ∧ 0 < gn h 12) (cp : CP_batch RL) {j : Nat} {x3 : Int32} (ex : x3 = nI (6 * j)) (hj : 6 * j + 6 ≤ L) {h : HP} {φ : Nat → Nat → Nat} {H : Heap} {locs : List Loc} {ls : Array Slot} (hR : RL h) (hW : HW D cA A φ h H) (hS : va_S A s.heap H locs) (hl : lv_has ls 4 [(0, .ref b), (1, .ref (φ 11 0)), (2, .ref (φ 12 0)), (3, .int x3)])
    (hend : ∀ (φ : Nat → Nat → Nat) (h : HP) (H : Heap) (locs : List Loc) (ls : Array Slot), RL h → HW D cA A φ h H → va_S A s.heap H locs → lv_has ls 4 [(0, .ref b), (1, .ref (φ 11 0)), (2, .ref (φ 12 0)), (3, .int x3)] → W p l e room_1 s m #[Value.ref b] below meth c H locs (76 + 64 * (j + 1)) (3034 + 768 * (j + 1)) Q (F0 m 1704 ls [])) : W p l e room_1 s m #[Value.ref b] below meth c H locs (76 + 64 * j) (3034 + 768 * j) Q (F0 m 996 ls []) := by
  have hx := X.1
  have hb := X.2.1
  obtain ⟨al1, al2⟩ := hal h hR
  obtain ⟨r, d, d2, e1, a1, a2, e2, hR⟩ := cp h hR (xs (x3 + 1).toNatClampNeg) (xs (x3 + 2).toNatClampNeg) (xs (x3 + 3).toNatClampNeg) (xs (x3 + 4).toNatClampNeg) (xs (x3 + 5).toNatClampNeg)
  have v0 : vp_in (x3 + 1) L := by rw [ex]; exact li hL hj 1 (by decide)
  have v1 : vp_in (x3 + 2) L := by rw [ex]; exact li hL hj 2 (by decide)
  have v2 : vp_in (x3 + 3) L := by rw [ex]; exact li hL hj 3 (by decide)
  have v3 : vp_in (x3 + 4) L := by rw [ex]; exact li hL hj 4 (by decide)
  have v4 : vp_in (x3 + 5) L := by rw [ex]; exact li hL hj 5 (by decide)
  refine lv_aload_n hx hb dL_law_996 rfl (lv_at hl 1 rfl) ?_
  refine lv_aload_n hx hb dL_law_997 rfl (lv_at hl 0 rfl) ?_
  refine lv_iload_n hx hb dL_law_998 rfl (lv_at hl 3 rfl) ?_
  refine lv_iconst (v := 1) hx hb dL_law_999 (by decide) ?_
  refine lv_iadd hx hb dL_law_1000 ?_
  refine va_sld hx hb hX hbl hbA hS v0 dL_law_1001 ?_
  refine lv_aload_n hx hb dL_law_1002 rfl (lv_at hl 0 rfl) ?_
  refine lv_iload_n hx hb dL_law_1003 rfl (lv_at hl 3 rfl) ?_
  refine lv_iconst (v := 2) hx hb dL_law_1004 (by decide) ?_
  refine lv_iadd hx hb dL_law_1005 ?_
  refine va_sld hx hb hX hbl hbA hS v1 dL_law_1006 ?_
  refine lv_aload_n hx hb dL_law_1007 rfl (lv_at hl 0 rfl) ?_
  refine lv_iload_n hx hb dL_law_1008 rfl (lv_at hl 3 rfl) ?_
  refine lv_iconst (v := 3) hx hb dL_law_1009 (by decide) ?_
  refine lv_iadd hx hb dL_law_1010 ?_
  refine va_sld hx hb hX hbl hbA hS v2 dL_law_1011 ?_
  refine lv_aload_n hx hb dL_law_1012 rfl (lv_at hl 0 rfl) ?_
  refine lv_iload_n hx hb dL_law_1013 rfl (lv_at hl 3 rfl) ?_
  refine lv_iconst (v := 4) hx hb dL_law_1014 (by decide) ?_
  refine lv_iadd hx hb dL_law_1015 ?_
  refine va_sld hx hb hX hbl hbA hS v3 dL_law_1016 ?_
  refine lv_aload_n hx hb dL_law_1017 rfl (lv_at hl 0 rfl) ?_
  refine lv_iload_n hx hb dL_law_1018 rfl (lv_at hl 3 rfl) ?_
  refine lv_iconst (v := 5) hx hb dL_law_1019 (by decide) ?_
  refine lv_iadd hx hb dL_law_1020 ?_
  refine va_sld hx hb hX hbl hbA hS v4 dL_law_1021 ?_
  refine rc_ia (Af := fun φ => [.ref (φ 11 0), .int (xs (x3 + 1).toNatClampNeg), .int (xs (x3 + 2).toNatClampNeg), .int (xs (x3 + 3).toNatClampNeg), .int (xs (x3 + 4).toNatClampNeg), .int (xs (x3 + 5).toNatClampNeg)]) X hW hS ⟨by show _ ≤ 600000; omega, by show _ ≤ 7302250; omega⟩ (rn_V (As := [.int (xs (x3 + 1).toNatClampNeg), .int (xs (x3 + 2).toNatClampNeg), .int (xs (x3 + 3).toNatClampNeg), .int (xs (x3 + 4).toNatClampNeg), .int (xs (x3 + 5).toNatClampNeg)]) (rest := []) X hW hS cw_L_122 al1 rfl rfl rfl ⟨Nat.le_of_ble_eq_true rfl, Nat.le_of_ble_eq_true rfl⟩ rfl hl.1 rfl (Nat.le_of_ble_eq_true rfl) dL_law_1022) (ok_X11_batch 0 (xs (x3 + 1).toNatClampNeg) (xs (x3 + 2).toNatClampNeg) (xs (x3 + 3).toNatClampNeg) (xs (x3 + 4).toNatClampNeg) (xs (x3 + 5).toNatClampNeg) al1 e1) (fun u H locs hu hW hS => ?_)
  have hl : lv_has ls 4 [(0, .ref b), (1, .ref (u 11 0)), (2, .ref (u 12 0)), (3, .int x3)] := by rw [hu 11 0 al1, hu 12 0 al2]; exact hl
  obtain ⟨φ, rfl⟩ : ∃ z, z = u := ⟨_, rfl⟩
  have al2 := a2
  refine lv_aload_n hx hb dL_law_1025 rfl (lv_at hl 2 rfl) ?_
  refine lv_aload_n hx hb dL_law_1026 rfl (lv_at hl 0 rfl) ?_
  refine lv_iload_n hx hb dL_law_1027 rfl (lv_at hl 3 rfl) ?_
  refine lv_iconst (v := 1) hx hb dL_law_1028 (by decide) ?_
  refine lv_iadd hx hb dL_law_1029 ?_
  refine va_sld hx hb hX hbl hbA hS v0 dL_law_1030 ?_
  refine lv_aload_n hx hb dL_law_1031 rfl (lv_at hl 0 rfl) ?_
  refine lv_iload_n hx hb dL_law_1032 rfl (lv_at hl 3 rfl) ?_
  refine lv_iconst (v := 2) hx hb dL_law_1033 (by decide) ?_
  refine lv_iadd hx hb dL_law_1034 ?_
  refine va_sld hx hb hX hbl hbA hS v1 dL_law_1035 ?_
  refine lv_aload_n hx hb dL_law_1036 rfl (lv_at hl 0 rfl) ?_
  refine lv_iload_n hx hb dL_law_1037 rfl (lv_at hl 3 rfl) ?_
  refine lv_iconst (v := 3) hx hb dL_law_1038 (by decide) ?_
  refine lv_iadd hx hb dL_law_1039 ?_
  refine va_sld hx hb hX hbl hbA hS v2 dL_law_1040 ?_
  refine lv_aload_n hx hb dL_law_1041 rfl (lv_at hl 0 rfl) ?_
  refine lv_iload_n hx hb dL_law_1042 rfl (lv_at hl 3 rfl) ?_
  refine lv_iconst (v := 4) hx hb dL_law_1043 (by decide) ?_
  refine lv_iadd hx hb dL_law_1044 ?_
  refine va_sld hx hb hX hbl hbA hS v3 dL_law_1045 ?_
  refine lv_aload_n hx hb dL_law_1046 rfl (lv_at hl 0 rfl) ?_
  refine lv_iload_n hx hb dL_law_1047 rfl (lv_at hl 3 rfl) ?_
  refine lv_iconst (v := 5) hx hb dL_law_1048 (by decide) ?_
  refine lv_iadd hx hb dL_law_1049 ?_
  refine va_sld hx hb hX hbl hbA hS v4 dL_law_1050 ?_
  refine rc_i (Af := fun φ => [.ref (φ 12 0), .int (xs (x3 + 1).toNatClampNeg), .int (xs (x3 + 2).toNatClampNeg), .int (xs (x3 + 3).toNatClampNeg), .int (xs (x3 + 4).toNatClampNeg), .int (xs (x3 + 5).toNatClampNeg)]) X hW hS ⟨by show _ ≤ 600000; omega, by show _ ≤ 7302250; omega⟩ (rn_V (As := [.int (xs (x3 + 1).toNatClampNeg), .int (xs (x3 + 2).toNatClampNeg), .int (xs (x3 + 3).toNatClampNeg), .int (xs (x3 + 4).toNatClampNeg), .int (xs (x3 + 5).toNatClampNeg)]) (rest := [.int r]) X hW hS cw_L_126 al2 rfl rfl rfl ⟨Nat.le_of_ble_eq_true rfl, Nat.le_of_ble_eq_true rfl⟩ rfl hl.1 rfl (Nat.le_of_ble_eq_true rfl) dL_law_1051) (ok_X12_batch 0 (xs (x3 + 1).toNatClampNeg) (xs (x3 + 2).toNatClampNeg) (xs (x3 + 3).toNatClampNeg) (xs (x3 + 4).toNatClampNeg) (xs (x3 + 5).toNatClampNeg) al2 e2) (fun H locs hW hS => ?_)
  refine lv_icmp_eq (tgt := 1704) hx hb dL_law_1054 (by decide) (fun _ => ?_) (fun c9 => absurd rfl c9)
  refine W.widen (k := (76 + 64 * (j + 1))) (n := (3034 + 768 * (j + 1))) (by omega) (by omega) ?_
  exact hend φ _ H locs ls hR hW hS hl
set_option maxHeartbeats 4000000 in
set_option maxRecDepth 100000 in
theorem lc_sets {p : Program} {l : Launch} {e : Env} {s : State} {m : MethodId} {below : List Frame} {meth : Method} {c : Code} {D : va_G} {cA : Nat → ClassId} {A : Nat → Prop} {b L : Nat} {xs : Nat → Int32} {Q : State → Prop} {RL : HP → Prop} (X : CX p s m #[Value.ref b] c cL_law "BellYardsLaw" 4 D cA A) (hX : va_X b L xs s s.heap) (hbl : b < s.heap.size) (hbA : ¬ A b) (hL : L ≤ 3072) (hal : ∀ h, RL h → 0 < gn h 11 ∧ 0 < gn h 12) (cp : CP_sets RL) {j : Nat} {x3 : Int32} (ex : x3 = nI (6 * j)) (hj : 6 * j + 6 ≤ L) {h : HP} {φ : Nat → Nat → Nat} {H : Heap} {locs : List Loc} {ls : Array Slot} (hR : RL h) (hW : HW D cA A φ h H) (hS : va_S A s.heap H locs) (hl : lv_has ls 4 [(0, .ref b), (1, .ref (φ 11 0)), (2, .ref (φ 12 0)), (3, .int x3)])
    (hend : ∀ (φ : Nat → Nat → Nat) (h : HP) (H : Heap) (locs : List Loc) (ls : Array Slot), RL h → HW D cA A φ h H → va_S A s.heap H locs → lv_has ls 4 [(0, .ref b), (1, .ref (φ 11 0)), (2, .ref (φ 12 0)), (3, .int x3)] → W p l e room_1 s m #[Value.ref b] below meth c H locs (76 + 64 * (j + 1)) (3034 + 768 * (j + 1)) Q (F0 m 1704 ls [])) : W p l e room_1 s m #[Value.ref b] below meth c H locs (76 + 64 * j) (3034 + 768 * j) Q (F0 m 1059 ls []) := by
  have hx := X.1
  have hb := X.2.1
  obtain ⟨al1, al2⟩ := hal h hR
  obtain ⟨r, d2, e1, e2, hR⟩ := cp h hR (xs (x3 + 1).toNatClampNeg) (xs (x3 + 2).toNatClampNeg)
  have v0 : vp_in (x3 + 1) L := by rw [ex]; exact li hL hj 1 (by decide)
  have v1 : vp_in (x3 + 2) L := by rw [ex]; exact li hL hj 2 (by decide)
  refine lv_aload_n hx hb dL_law_1059 rfl (lv_at hl 1 rfl) ?_
  refine lv_aload_n hx hb dL_law_1060 rfl (lv_at hl 0 rfl) ?_
  refine lv_iload_n hx hb dL_law_1061 rfl (lv_at hl 3 rfl) ?_
  refine lv_iconst (v := 1) hx hb dL_law_1062 (by decide) ?_
  refine lv_iadd hx hb dL_law_1063 ?_
  refine va_sld hx hb hX hbl hbA hS v0 dL_law_1064 ?_
  refine lv_aload_n hx hb dL_law_1065 rfl (lv_at hl 0 rfl) ?_
  refine lv_iload_n hx hb dL_law_1066 rfl (lv_at hl 3 rfl) ?_
  refine lv_iconst (v := 2) hx hb dL_law_1067 (by decide) ?_
  refine lv_iadd hx hb dL_law_1068 ?_
  refine va_sld hx hb hX hbl hbA hS v1 dL_law_1069 ?_
  refine rc_i (Af := fun φ => [.ref (φ 11 0), .int (xs (x3 + 1).toNatClampNeg), .int (xs (x3 + 2).toNatClampNeg)]) X hW hS ⟨by show _ ≤ 600000; omega, by show _ ≤ 7302250; omega⟩ (rn_V (As := [.int (xs (x3 + 1).toNatClampNeg), .int (xs (x3 + 2).toNatClampNeg)]) (rest := []) X hW hS cw_L_127 al1 rfl rfl rfl ⟨Nat.le_of_ble_eq_true rfl, Nat.le_of_ble_eq_true rfl⟩ rfl hl.1 rfl (Nat.le_of_ble_eq_true rfl) dL_law_1070) (ok_X11_sets 0 (xs (x3 + 1).toNatClampNeg) (xs (x3 + 2).toNatClampNeg) al1 e1) (fun H locs hW hS => ?_)
  refine lv_aload_n hx hb dL_law_1073 rfl (lv_at hl 2 rfl) ?_
  refine lv_aload_n hx hb dL_law_1074 rfl (lv_at hl 0 rfl) ?_
  refine lv_iload_n hx hb dL_law_1075 rfl (lv_at hl 3 rfl) ?_
  refine lv_iconst (v := 1) hx hb dL_law_1076 (by decide) ?_
  refine lv_iadd hx hb dL_law_1077 ?_
  refine va_sld hx hb hX hbl hbA hS v0 dL_law_1078 ?_
  refine lv_aload_n hx hb dL_law_1079 rfl (lv_at hl 0 rfl) ?_
  refine lv_iload_n hx hb dL_law_1080 rfl (lv_at hl 3 rfl) ?_
  refine lv_iconst (v := 2) hx hb dL_law_1081 (by decide) ?_
  refine lv_iadd hx hb dL_law_1082 ?_
  refine va_sld hx hb hX hbl hbA hS v1 dL_law_1083 ?_
  refine rc_i (Af := fun φ => [.ref (φ 12 0), .int (xs (x3 + 1).toNatClampNeg), .int (xs (x3 + 2).toNatClampNeg)]) X hW hS ⟨by show _ ≤ 600000; omega, by show _ ≤ 7302250; omega⟩ (rn_V (As := [.int (xs (x3 + 1).toNatClampNeg), .int (xs (x3 + 2).toNatClampNeg)]) (rest := [.int r]) X hW hS cw_L_130 al2 rfl rfl rfl ⟨Nat.le_of_ble_eq_true rfl, Nat.le_of_ble_eq_true rfl⟩ rfl hl.1 rfl (Nat.le_of_ble_eq_true rfl) dL_law_1084) (ok_X12_sets 0 (xs (x3 + 1).toNatClampNeg) (xs (x3 + 2).toNatClampNeg) al2 e2) (fun H locs hW hS => ?_)
  refine lv_icmp_eq (tgt := 1704) hx hb dL_law_1087 (by decide) (fun _ => ?_) (fun c9 => absurd rfl c9)
  refine W.widen (k := (76 + 64 * (j + 1))) (n := (3034 + 768 * (j + 1))) (by omega) (by omega) ?_
  exact hend φ _ H locs ls hR hW hS hl
set_option maxHeartbeats 4000000 in
set_option maxRecDepth 100000 in
theorem lc_held {p : Program} {l : Launch} {e : Env} {s : State} {m : MethodId} {below : List Frame} {meth : Method} {c : Code} {D : va_G} {cA : Nat → ClassId} {A : Nat → Prop} {b L : Nat} {xs : Nat → Int32} {Q : State → Prop} {RL : HP → Prop} (X : CX p s m #[Value.ref b] c cL_law "BellYardsLaw" 4 D cA A) (hX : va_X b L xs s s.heap) (hbl : b < s.heap.size) (hbA : ¬ A b) (hL : L ≤ 3072) (hal : ∀ h, RL h → 0 < gn h 11 ∧ 0 < gn h 12) (cp : CP_held RL) {j : Nat} {x3 : Int32} (ex : x3 = nI (6 * j)) (hj : 6 * j + 6 ≤ L) {h : HP} {φ : Nat → Nat → Nat} {H : Heap} {locs : List Loc} {ls : Array Slot} (hR : RL h) (hW : HW D cA A φ h H) (hS : va_S A s.heap H locs) (hl : lv_has ls 4 [(0, .ref b), (1, .ref (φ 11 0)), (2, .ref (φ 12 0)), (3, .int x3)])
    (hend : ∀ (φ : Nat → Nat → Nat) (h : HP) (H : Heap) (locs : List Loc) (ls : Array Slot), RL h → HW D cA A φ h H → va_S A s.heap H locs → lv_has ls 4 [(0, .ref b), (1, .ref (φ 11 0)), (2, .ref (φ 12 0)), (3, .int x3)] → W p l e room_1 s m #[Value.ref b] below meth c H locs (76 + 64 * (j + 1)) (3034 + 768 * (j + 1)) Q (F0 m 1704 ls [])) : W p l e room_1 s m #[Value.ref b] below meth c H locs (76 + 64 * j) (3034 + 768 * j) Q (F0 m 1092 ls []) := by
  have hx := X.1
  have hb := X.2.1
  obtain ⟨al1, al2⟩ := hal h hR
  obtain ⟨r, d2, e1, e2, hR⟩ := cp h hR (xs (x3 + 1).toNatClampNeg) (xs (x3 + 2).toNatClampNeg)
  have v0 : vp_in (x3 + 1) L := by rw [ex]; exact li hL hj 1 (by decide)
  have v1 : vp_in (x3 + 2) L := by rw [ex]; exact li hL hj 2 (by decide)
  refine lv_aload_n hx hb dL_law_1092 rfl (lv_at hl 1 rfl) ?_
  refine lv_aload_n hx hb dL_law_1093 rfl (lv_at hl 0 rfl) ?_
  refine lv_iload_n hx hb dL_law_1094 rfl (lv_at hl 3 rfl) ?_
  refine lv_iconst (v := 1) hx hb dL_law_1095 (by decide) ?_
  refine lv_iadd hx hb dL_law_1096 ?_
  refine va_sld hx hb hX hbl hbA hS v0 dL_law_1097 ?_
  refine lv_aload_n hx hb dL_law_1098 rfl (lv_at hl 0 rfl) ?_
  refine lv_iload_n hx hb dL_law_1099 rfl (lv_at hl 3 rfl) ?_
  refine lv_iconst (v := 2) hx hb dL_law_1100 (by decide) ?_
  refine lv_iadd hx hb dL_law_1101 ?_
  refine va_sld hx hb hX hbl hbA hS v1 dL_law_1102 ?_
  refine rc_i (Af := fun φ => [.ref (φ 11 0), .int (xs (x3 + 1).toNatClampNeg), .int (xs (x3 + 2).toNatClampNeg)]) X hW hS ⟨by show _ ≤ 600000; omega, by show _ ≤ 7302250; omega⟩ (rn_V (As := [.int (xs (x3 + 1).toNatClampNeg), .int (xs (x3 + 2).toNatClampNeg)]) (rest := []) X hW hS cw_L_131 al1 rfl rfl rfl ⟨Nat.le_of_ble_eq_true rfl, Nat.le_of_ble_eq_true rfl⟩ rfl hl.1 rfl (Nat.le_of_ble_eq_true rfl) dL_law_1103) (ok_X11_held 0 (xs (x3 + 1).toNatClampNeg) (xs (x3 + 2).toNatClampNeg) al1 e1) (fun H locs hW hS => ?_)
  refine lv_aload_n hx hb dL_law_1106 rfl (lv_at hl 2 rfl) ?_
  refine lv_aload_n hx hb dL_law_1107 rfl (lv_at hl 0 rfl) ?_
  refine lv_iload_n hx hb dL_law_1108 rfl (lv_at hl 3 rfl) ?_
  refine lv_iconst (v := 1) hx hb dL_law_1109 (by decide) ?_
  refine lv_iadd hx hb dL_law_1110 ?_
  refine va_sld hx hb hX hbl hbA hS v0 dL_law_1111 ?_
  refine lv_aload_n hx hb dL_law_1112 rfl (lv_at hl 0 rfl) ?_
  refine lv_iload_n hx hb dL_law_1113 rfl (lv_at hl 3 rfl) ?_
  refine lv_iconst (v := 2) hx hb dL_law_1114 (by decide) ?_
  refine lv_iadd hx hb dL_law_1115 ?_
  refine va_sld hx hb hX hbl hbA hS v1 dL_law_1116 ?_
  refine rc_i (Af := fun φ => [.ref (φ 12 0), .int (xs (x3 + 1).toNatClampNeg), .int (xs (x3 + 2).toNatClampNeg)]) X hW hS ⟨by show _ ≤ 600000; omega, by show _ ≤ 7302250; omega⟩ (rn_V (As := [.int (xs (x3 + 1).toNatClampNeg), .int (xs (x3 + 2).toNatClampNeg)]) (rest := [.int r]) X hW hS cw_L_134 al2 rfl rfl rfl ⟨Nat.le_of_ble_eq_true rfl, Nat.le_of_ble_eq_true rfl⟩ rfl hl.1 rfl (Nat.le_of_ble_eq_true rfl) dL_law_1117) (ok_X12_held 0 (xs (x3 + 1).toNatClampNeg) (xs (x3 + 2).toNatClampNeg) al2 e2) (fun H locs hW hS => ?_)
  refine lv_icmp_eq (tgt := 1704) hx hb dL_law_1120 (by decide) (fun _ => ?_) (fun c9 => absurd rfl c9)
  refine W.widen (k := (76 + 64 * (j + 1))) (n := (3034 + 768 * (j + 1))) (by omega) (by omega) ?_
  exact hend φ _ H locs ls hR hW hS hl
set_option maxHeartbeats 4000000 in
set_option maxRecDepth 100000 in
theorem lc_melts {p : Program} {l : Launch} {e : Env} {s : State} {m : MethodId} {below : List Frame} {meth : Method} {c : Code} {D : va_G} {cA : Nat → ClassId} {A : Nat → Prop} {b L : Nat} {xs : Nat → Int32} {Q : State → Prop} {RL : HP → Prop} (X : CX p s m #[Value.ref b] c cL_law "BellYardsLaw" 4 D cA A) (hX : va_X b L xs s s.heap) (hbl : b < s.heap.size) (hbA : ¬ A b) (hL : L ≤ 3072) (hal : ∀ h, RL h → 0 < gn h 11 ∧ 0 < gn h 12) (cp : CP_melts RL) {j : Nat} {x3 : Int32} (ex : x3 = nI (6 * j)) (hj : 6 * j + 6 ≤ L) {h : HP} {φ : Nat → Nat → Nat} {H : Heap} {locs : List Loc} {ls : Array Slot} (hR : RL h) (hW : HW D cA A φ h H) (hS : va_S A s.heap H locs) (hl : lv_has ls 4 [(0, .ref b), (1, .ref (φ 11 0)), (2, .ref (φ 12 0)), (3, .int x3)])
    (hend : ∀ (φ : Nat → Nat → Nat) (h : HP) (H : Heap) (locs : List Loc) (ls : Array Slot), RL h → HW D cA A φ h H → va_S A s.heap H locs → lv_has ls 4 [(0, .ref b), (1, .ref (φ 11 0)), (2, .ref (φ 12 0)), (3, .int x3)] → W p l e room_1 s m #[Value.ref b] below meth c H locs (76 + 64 * (j + 1)) (3034 + 768 * (j + 1)) Q (F0 m 1704 ls [])) : W p l e room_1 s m #[Value.ref b] below meth c H locs (76 + 64 * j) (3034 + 768 * j) Q (F0 m 1125 ls []) := by
  have hx := X.1
  have hb := X.2.1
  obtain ⟨al1, al2⟩ := hal h hR
  obtain ⟨r, d, d2, e1, e2, hR⟩ := cp h hR (xs (x3 + 1).toNatClampNeg) (xs (x3 + 2).toNatClampNeg)
  have v0 : vp_in (x3 + 1) L := by rw [ex]; exact li hL hj 1 (by decide)
  have v1 : vp_in (x3 + 2) L := by rw [ex]; exact li hL hj 2 (by decide)
  refine lv_aload_n hx hb dL_law_1125 rfl (lv_at hl 1 rfl) ?_
  refine lv_aload_n hx hb dL_law_1126 rfl (lv_at hl 0 rfl) ?_
  refine lv_iload_n hx hb dL_law_1127 rfl (lv_at hl 3 rfl) ?_
  refine lv_iconst (v := 1) hx hb dL_law_1128 (by decide) ?_
  refine lv_iadd hx hb dL_law_1129 ?_
  refine va_sld hx hb hX hbl hbA hS v0 dL_law_1130 ?_
  refine lv_aload_n hx hb dL_law_1131 rfl (lv_at hl 0 rfl) ?_
  refine lv_iload_n hx hb dL_law_1132 rfl (lv_at hl 3 rfl) ?_
  refine lv_iconst (v := 2) hx hb dL_law_1133 (by decide) ?_
  refine lv_iadd hx hb dL_law_1134 ?_
  refine va_sld hx hb hX hbl hbA hS v1 dL_law_1135 ?_
  refine rc_i (Af := fun φ => [.ref (φ 11 0), .int (xs (x3 + 1).toNatClampNeg), .int (xs (x3 + 2).toNatClampNeg)]) X hW hS ⟨by show _ ≤ 600000; omega, by show _ ≤ 7302250; omega⟩ (rn_V (As := [.int (xs (x3 + 1).toNatClampNeg), .int (xs (x3 + 2).toNatClampNeg)]) (rest := []) X hW hS cw_L_135 al1 rfl rfl rfl ⟨Nat.le_of_ble_eq_true rfl, Nat.le_of_ble_eq_true rfl⟩ rfl hl.1 rfl (Nat.le_of_ble_eq_true rfl) dL_law_1136) (ok_X11_melts 0 (xs (x3 + 1).toNatClampNeg) (xs (x3 + 2).toNatClampNeg) al1 e1) (fun H locs hW hS => ?_)
  refine lv_aload_n hx hb dL_law_1139 rfl (lv_at hl 2 rfl) ?_
  refine lv_aload_n hx hb dL_law_1140 rfl (lv_at hl 0 rfl) ?_
  refine lv_iload_n hx hb dL_law_1141 rfl (lv_at hl 3 rfl) ?_
  refine lv_iconst (v := 1) hx hb dL_law_1142 (by decide) ?_
  refine lv_iadd hx hb dL_law_1143 ?_
  refine va_sld hx hb hX hbl hbA hS v0 dL_law_1144 ?_
  refine lv_aload_n hx hb dL_law_1145 rfl (lv_at hl 0 rfl) ?_
  refine lv_iload_n hx hb dL_law_1146 rfl (lv_at hl 3 rfl) ?_
  refine lv_iconst (v := 2) hx hb dL_law_1147 (by decide) ?_
  refine lv_iadd hx hb dL_law_1148 ?_
  refine va_sld hx hb hX hbl hbA hS v1 dL_law_1149 ?_
  refine rc_i (Af := fun φ => [.ref (φ 12 0), .int (xs (x3 + 1).toNatClampNeg), .int (xs (x3 + 2).toNatClampNeg)]) X hW hS ⟨by show _ ≤ 600000; omega, by show _ ≤ 7302250; omega⟩ (rn_V (As := [.int (xs (x3 + 1).toNatClampNeg), .int (xs (x3 + 2).toNatClampNeg)]) (rest := [.int r]) X hW hS cw_L_138 al2 rfl rfl rfl ⟨Nat.le_of_ble_eq_true rfl, Nat.le_of_ble_eq_true rfl⟩ rfl hl.1 rfl (Nat.le_of_ble_eq_true rfl) dL_law_1150) (ok_X12_melts 0 (xs (x3 + 1).toNatClampNeg) (xs (x3 + 2).toNatClampNeg) al2 e2) (fun H locs hW hS => ?_)
  refine lv_icmp_eq (tgt := 1704) hx hb dL_law_1153 (by decide) (fun _ => ?_) (fun c9 => absurd rfl c9)
  refine W.widen (k := (76 + 64 * (j + 1))) (n := (3034 + 768 * (j + 1))) (by omega) (by omega) ?_
  exact hend φ _ H locs ls hR hW hS hl
set_option maxHeartbeats 4000000 in
set_option maxRecDepth 100000 in
theorem lc_shorts {p : Program} {l : Launch} {e : Env} {s : State} {m : MethodId} {below : List Frame} {meth : Method} {c : Code} {D : va_G} {cA : Nat → ClassId} {A : Nat → Prop} {b L : Nat} {xs : Nat → Int32} {Q : State → Prop} {RL : HP → Prop} (X : CX p s m #[Value.ref b] c cL_law "BellYardsLaw" 4 D cA A) (hX : va_X b L xs s s.heap) (hbl : b < s.heap.size) (hbA : ¬ A b) (hL : L ≤ 3072) (hal : ∀ h, RL h → 0 < gn h 11 ∧ 0 < gn h 12) (cp : CP_shorts RL) {j : Nat} {x3 : Int32} (ex : x3 = nI (6 * j)) (hj : 6 * j + 6 ≤ L) {h : HP} {φ : Nat → Nat → Nat} {H : Heap} {locs : List Loc} {ls : Array Slot} (hR : RL h) (hW : HW D cA A φ h H) (hS : va_S A s.heap H locs) (hl : lv_has ls 4 [(0, .ref b), (1, .ref (φ 11 0)), (2, .ref (φ 12 0)), (3, .int x3)])
    (hend : ∀ (φ : Nat → Nat → Nat) (h : HP) (H : Heap) (locs : List Loc) (ls : Array Slot), RL h → HW D cA A φ h H → va_S A s.heap H locs → lv_has ls 4 [(0, .ref b), (1, .ref (φ 11 0)), (2, .ref (φ 12 0)), (3, .int x3)] → W p l e room_1 s m #[Value.ref b] below meth c H locs (76 + 64 * (j + 1)) (3034 + 768 * (j + 1)) Q (F0 m 1704 ls [])) : W p l e room_1 s m #[Value.ref b] below meth c H locs (76 + 64 * j) (3034 + 768 * j) Q (F0 m 1158 ls []) := by
  have hx := X.1
  have hb := X.2.1
  obtain ⟨al1, al2⟩ := hal h hR
  obtain ⟨r, d, d2, e1, e2, hR⟩ := cp h hR (xs (x3 + 1).toNatClampNeg) (xs (x3 + 2).toNatClampNeg)
  have v0 : vp_in (x3 + 1) L := by rw [ex]; exact li hL hj 1 (by decide)
  have v1 : vp_in (x3 + 2) L := by rw [ex]; exact li hL hj 2 (by decide)
  refine lv_aload_n hx hb dL_law_1158 rfl (lv_at hl 1 rfl) ?_
  refine lv_aload_n hx hb dL_law_1159 rfl (lv_at hl 0 rfl) ?_
  refine lv_iload_n hx hb dL_law_1160 rfl (lv_at hl 3 rfl) ?_
  refine lv_iconst (v := 1) hx hb dL_law_1161 (by decide) ?_
  refine lv_iadd hx hb dL_law_1162 ?_
  refine va_sld hx hb hX hbl hbA hS v0 dL_law_1163 ?_
  refine lv_aload_n hx hb dL_law_1164 rfl (lv_at hl 0 rfl) ?_
  refine lv_iload_n hx hb dL_law_1165 rfl (lv_at hl 3 rfl) ?_
  refine lv_iconst (v := 2) hx hb dL_law_1166 (by decide) ?_
  refine lv_iadd hx hb dL_law_1167 ?_
  refine va_sld hx hb hX hbl hbA hS v1 dL_law_1168 ?_
  refine rc_i (Af := fun φ => [.ref (φ 11 0), .int (xs (x3 + 1).toNatClampNeg), .int (xs (x3 + 2).toNatClampNeg)]) X hW hS ⟨by show _ ≤ 600000; omega, by show _ ≤ 7302250; omega⟩ (rn_V (As := [.int (xs (x3 + 1).toNatClampNeg), .int (xs (x3 + 2).toNatClampNeg)]) (rest := []) X hW hS cw_L_139 al1 rfl rfl rfl ⟨Nat.le_of_ble_eq_true rfl, Nat.le_of_ble_eq_true rfl⟩ rfl hl.1 rfl (Nat.le_of_ble_eq_true rfl) dL_law_1169) (ok_X11_shorts 0 (xs (x3 + 1).toNatClampNeg) (xs (x3 + 2).toNatClampNeg) al1 e1) (fun H locs hW hS => ?_)
  refine lv_aload_n hx hb dL_law_1172 rfl (lv_at hl 2 rfl) ?_
  refine lv_aload_n hx hb dL_law_1173 rfl (lv_at hl 0 rfl) ?_
  refine lv_iload_n hx hb dL_law_1174 rfl (lv_at hl 3 rfl) ?_
  refine lv_iconst (v := 1) hx hb dL_law_1175 (by decide) ?_
  refine lv_iadd hx hb dL_law_1176 ?_
  refine va_sld hx hb hX hbl hbA hS v0 dL_law_1177 ?_
  refine lv_aload_n hx hb dL_law_1178 rfl (lv_at hl 0 rfl) ?_
  refine lv_iload_n hx hb dL_law_1179 rfl (lv_at hl 3 rfl) ?_
  refine lv_iconst (v := 2) hx hb dL_law_1180 (by decide) ?_
  refine lv_iadd hx hb dL_law_1181 ?_
  refine va_sld hx hb hX hbl hbA hS v1 dL_law_1182 ?_
  refine rc_i (Af := fun φ => [.ref (φ 12 0), .int (xs (x3 + 1).toNatClampNeg), .int (xs (x3 + 2).toNatClampNeg)]) X hW hS ⟨by show _ ≤ 600000; omega, by show _ ≤ 7302250; omega⟩ (rn_V (As := [.int (xs (x3 + 1).toNatClampNeg), .int (xs (x3 + 2).toNatClampNeg)]) (rest := [.int r]) X hW hS cw_L_142 al2 rfl rfl rfl ⟨Nat.le_of_ble_eq_true rfl, Nat.le_of_ble_eq_true rfl⟩ rfl hl.1 rfl (Nat.le_of_ble_eq_true rfl) dL_law_1183) (ok_X12_shorts 0 (xs (x3 + 1).toNatClampNeg) (xs (x3 + 2).toNatClampNeg) al2 e2) (fun H locs hW hS => ?_)
  refine lv_icmp_eq (tgt := 1704) hx hb dL_law_1186 (by decide) (fun _ => ?_) (fun c9 => absurd rfl c9)
  refine W.widen (k := (76 + 64 * (j + 1))) (n := (3034 + 768 * (j + 1))) (by omega) (by omega) ?_
  exact hend φ _ H locs ls hR hW hS hl
set_option maxHeartbeats 4000000 in
set_option maxRecDepth 100000 in
theorem lc_send {p : Program} {l : Launch} {e : Env} {s : State} {m : MethodId} {below : List Frame} {meth : Method} {c : Code} {D : va_G} {cA : Nat → ClassId} {A : Nat → Prop} {b L : Nat} {xs : Nat → Int32} {Q : State → Prop} {RL : HP → Prop} (X : CX p s m #[Value.ref b] c cL_law "BellYardsLaw" 4 D cA A) (hX : va_X b L xs s s.heap) (hbl : b < s.heap.size) (hbA : ¬ A b) (hL : L ≤ 3072) (hal : ∀ h, RL h → 0 < gn h 11 ∧ 0 < gn h 12) (cp : CP_send RL) {j : Nat} {x3 : Int32} (ex : x3 = nI (6 * j)) (hj : 6 * j + 6 ≤ L) {h : HP} {φ : Nat → Nat → Nat} {H : Heap} {locs : List Loc} {ls : Array Slot} (hR : RL h) (hW : HW D cA A φ h H) (hS : va_S A s.heap H locs) (hl : lv_has ls 4 [(0, .ref b), (1, .ref (φ 11 0)), (2, .ref (φ 12 0)), (3, .int x3)])
    (hend : ∀ (φ : Nat → Nat → Nat) (h : HP) (H : Heap) (locs : List Loc) (ls : Array Slot), RL h → HW D cA A φ h H → va_S A s.heap H locs → lv_has ls 4 [(0, .ref b), (1, .ref (φ 11 0)), (2, .ref (φ 12 0)), (3, .int x3)] → W p l e room_1 s m #[Value.ref b] below meth c H locs (76 + 64 * (j + 1)) (3034 + 768 * (j + 1)) Q (F0 m 1704 ls [])) : W p l e room_1 s m #[Value.ref b] below meth c H locs (76 + 64 * j) (3034 + 768 * j) Q (F0 m 1191 ls []) := by
  have hx := X.1
  have hb := X.2.1
  obtain ⟨al1, al2⟩ := hal h hR
  obtain ⟨r, d, d2, e1, e2, hR⟩ := cp h hR (xs (x3 + 1).toNatClampNeg) (xs (x3 + 2).toNatClampNeg) (xs (x3 + 3).toNatClampNeg)
  have v0 : vp_in (x3 + 1) L := by rw [ex]; exact li hL hj 1 (by decide)
  have v1 : vp_in (x3 + 2) L := by rw [ex]; exact li hL hj 2 (by decide)
  have v2 : vp_in (x3 + 3) L := by rw [ex]; exact li hL hj 3 (by decide)
  refine lv_aload_n hx hb dL_law_1191 rfl (lv_at hl 1 rfl) ?_
  refine lv_aload_n hx hb dL_law_1192 rfl (lv_at hl 0 rfl) ?_
  refine lv_iload_n hx hb dL_law_1193 rfl (lv_at hl 3 rfl) ?_
  refine lv_iconst (v := 1) hx hb dL_law_1194 (by decide) ?_
  refine lv_iadd hx hb dL_law_1195 ?_
  refine va_sld hx hb hX hbl hbA hS v0 dL_law_1196 ?_
  refine lv_aload_n hx hb dL_law_1197 rfl (lv_at hl 0 rfl) ?_
  refine lv_iload_n hx hb dL_law_1198 rfl (lv_at hl 3 rfl) ?_
  refine lv_iconst (v := 2) hx hb dL_law_1199 (by decide) ?_
  refine lv_iadd hx hb dL_law_1200 ?_
  refine va_sld hx hb hX hbl hbA hS v1 dL_law_1201 ?_
  refine lv_aload_n hx hb dL_law_1202 rfl (lv_at hl 0 rfl) ?_
  refine lv_iload_n hx hb dL_law_1203 rfl (lv_at hl 3 rfl) ?_
  refine lv_iconst (v := 3) hx hb dL_law_1204 (by decide) ?_
  refine lv_iadd hx hb dL_law_1205 ?_
  refine va_sld hx hb hX hbl hbA hS v2 dL_law_1206 ?_
  refine rc_i (Af := fun φ => [.ref (φ 11 0), .int (xs (x3 + 1).toNatClampNeg), .int (xs (x3 + 2).toNatClampNeg), .int (xs (x3 + 3).toNatClampNeg)]) X hW hS ⟨by show _ ≤ 600000; omega, by show _ ≤ 7302250; omega⟩ (rn_V (As := [.int (xs (x3 + 1).toNatClampNeg), .int (xs (x3 + 2).toNatClampNeg), .int (xs (x3 + 3).toNatClampNeg)]) (rest := []) X hW hS cw_L_143 al1 rfl rfl rfl ⟨Nat.le_of_ble_eq_true rfl, Nat.le_of_ble_eq_true rfl⟩ rfl hl.1 rfl (Nat.le_of_ble_eq_true rfl) dL_law_1207) (ok_X11_send 0 (xs (x3 + 1).toNatClampNeg) (xs (x3 + 2).toNatClampNeg) (xs (x3 + 3).toNatClampNeg) al1 e1) (fun H locs hW hS => ?_)
  refine lv_aload_n hx hb dL_law_1210 rfl (lv_at hl 2 rfl) ?_
  refine lv_aload_n hx hb dL_law_1211 rfl (lv_at hl 0 rfl) ?_
  refine lv_iload_n hx hb dL_law_1212 rfl (lv_at hl 3 rfl) ?_
  refine lv_iconst (v := 1) hx hb dL_law_1213 (by decide) ?_
  refine lv_iadd hx hb dL_law_1214 ?_
  refine va_sld hx hb hX hbl hbA hS v0 dL_law_1215 ?_
  refine lv_aload_n hx hb dL_law_1216 rfl (lv_at hl 0 rfl) ?_
  refine lv_iload_n hx hb dL_law_1217 rfl (lv_at hl 3 rfl) ?_
  refine lv_iconst (v := 2) hx hb dL_law_1218 (by decide) ?_
  refine lv_iadd hx hb dL_law_1219 ?_
  refine va_sld hx hb hX hbl hbA hS v1 dL_law_1220 ?_
  refine lv_aload_n hx hb dL_law_1221 rfl (lv_at hl 0 rfl) ?_
  refine lv_iload_n hx hb dL_law_1222 rfl (lv_at hl 3 rfl) ?_
  refine lv_iconst (v := 3) hx hb dL_law_1223 (by decide) ?_
  refine lv_iadd hx hb dL_law_1224 ?_
  refine va_sld hx hb hX hbl hbA hS v2 dL_law_1225 ?_
  refine rc_i (Af := fun φ => [.ref (φ 12 0), .int (xs (x3 + 1).toNatClampNeg), .int (xs (x3 + 2).toNatClampNeg), .int (xs (x3 + 3).toNatClampNeg)]) X hW hS ⟨by show _ ≤ 600000; omega, by show _ ≤ 7302250; omega⟩ (rn_V (As := [.int (xs (x3 + 1).toNatClampNeg), .int (xs (x3 + 2).toNatClampNeg), .int (xs (x3 + 3).toNatClampNeg)]) (rest := [.int r]) X hW hS cw_L_146 al2 rfl rfl rfl ⟨Nat.le_of_ble_eq_true rfl, Nat.le_of_ble_eq_true rfl⟩ rfl hl.1 rfl (Nat.le_of_ble_eq_true rfl) dL_law_1226) (ok_X12_send 0 (xs (x3 + 1).toNatClampNeg) (xs (x3 + 2).toNatClampNeg) (xs (x3 + 3).toNatClampNeg) al2 e2) (fun H locs hW hS => ?_)
  refine lv_icmp_eq (tgt := 1704) hx hb dL_law_1229 (by decide) (fun _ => ?_) (fun c9 => absurd rfl c9)
  refine W.widen (k := (76 + 64 * (j + 1))) (n := (3034 + 768 * (j + 1))) (by omega) (by omega) ?_
  exact hend φ _ H locs ls hR hW hS hl
set_option maxHeartbeats 4000000 in
set_option maxRecDepth 100000 in
theorem lc_sent {p : Program} {l : Launch} {e : Env} {s : State} {m : MethodId} {below : List Frame} {meth : Method} {c : Code} {D : va_G} {cA : Nat → ClassId} {A : Nat → Prop} {b L : Nat} {xs : Nat → Int32} {Q : State → Prop} {RL : HP → Prop} (X : CX p s m #[Value.ref b] c cL_law "BellYardsLaw" 4 D cA A) (hX : va_X b L xs s s.heap) (hbl : b < s.heap.size) (hbA : ¬ A b) (hL : L ≤ 3072) (hal : ∀ h, RL h → 0 < gn h 11 ∧ 0 < gn h 12) (cp : CP_sent RL) {j : Nat} {x3 : Int32} (ex : x3 = nI (6 * j)) (hj : 6 * j + 6 ≤ L) {h : HP} {φ : Nat → Nat → Nat} {H : Heap} {locs : List Loc} {ls : Array Slot} (hR : RL h) (hW : HW D cA A φ h H) (hS : va_S A s.heap H locs) (hl : lv_has ls 4 [(0, .ref b), (1, .ref (φ 11 0)), (2, .ref (φ 12 0)), (3, .int x3)])
    (hend : ∀ (φ : Nat → Nat → Nat) (h : HP) (H : Heap) (locs : List Loc) (ls : Array Slot), RL h → HW D cA A φ h H → va_S A s.heap H locs → lv_has ls 4 [(0, .ref b), (1, .ref (φ 11 0)), (2, .ref (φ 12 0)), (3, .int x3)] → W p l e room_1 s m #[Value.ref b] below meth c H locs (76 + 64 * (j + 1)) (3034 + 768 * (j + 1)) Q (F0 m 1704 ls [])) : W p l e room_1 s m #[Value.ref b] below meth c H locs (76 + 64 * j) (3034 + 768 * j) Q (F0 m 1234 ls []) := by
  have hx := X.1
  have hb := X.2.1
  obtain ⟨al1, al2⟩ := hal h hR
  obtain ⟨r, d, d2, e1, e2, hR⟩ := cp h hR (xs (x3 + 1).toNatClampNeg)
  have v0 : vp_in (x3 + 1) L := by rw [ex]; exact li hL hj 1 (by decide)
  refine lv_aload_n hx hb dL_law_1234 rfl (lv_at hl 1 rfl) ?_
  refine lv_aload_n hx hb dL_law_1235 rfl (lv_at hl 0 rfl) ?_
  refine lv_iload_n hx hb dL_law_1236 rfl (lv_at hl 3 rfl) ?_
  refine lv_iconst (v := 1) hx hb dL_law_1237 (by decide) ?_
  refine lv_iadd hx hb dL_law_1238 ?_
  refine va_sld hx hb hX hbl hbA hS v0 dL_law_1239 ?_
  refine rc_i (Af := fun φ => [.ref (φ 11 0), .int (xs (x3 + 1).toNatClampNeg)]) X hW hS ⟨by show _ ≤ 600000; omega, by show _ ≤ 7302250; omega⟩ (rn_V (As := [.int (xs (x3 + 1).toNatClampNeg)]) (rest := []) X hW hS cw_L_147 al1 rfl rfl rfl ⟨Nat.le_of_ble_eq_true rfl, Nat.le_of_ble_eq_true rfl⟩ rfl hl.1 rfl (Nat.le_of_ble_eq_true rfl) dL_law_1240) (ok_X11_sent 0 (xs (x3 + 1).toNatClampNeg) al1 e1) (fun H locs hW hS => ?_)
  refine lv_aload_n hx hb dL_law_1243 rfl (lv_at hl 2 rfl) ?_
  refine lv_aload_n hx hb dL_law_1244 rfl (lv_at hl 0 rfl) ?_
  refine lv_iload_n hx hb dL_law_1245 rfl (lv_at hl 3 rfl) ?_
  refine lv_iconst (v := 1) hx hb dL_law_1246 (by decide) ?_
  refine lv_iadd hx hb dL_law_1247 ?_
  refine va_sld hx hb hX hbl hbA hS v0 dL_law_1248 ?_
  refine rc_i (Af := fun φ => [.ref (φ 12 0), .int (xs (x3 + 1).toNatClampNeg)]) X hW hS ⟨by show _ ≤ 600000; omega, by show _ ≤ 7302250; omega⟩ (rn_V (As := [.int (xs (x3 + 1).toNatClampNeg)]) (rest := [.int r]) X hW hS cw_L_150 al2 rfl rfl rfl ⟨Nat.le_of_ble_eq_true rfl, Nat.le_of_ble_eq_true rfl⟩ rfl hl.1 rfl (Nat.le_of_ble_eq_true rfl) dL_law_1249) (ok_X12_sent 0 (xs (x3 + 1).toNatClampNeg) al2 e2) (fun H locs hW hS => ?_)
  refine lv_icmp_eq (tgt := 1704) hx hb dL_law_1252 (by decide) (fun _ => ?_) (fun c9 => absurd rfl c9)
  refine W.widen (k := (76 + 64 * (j + 1))) (n := (3034 + 768 * (j + 1))) (by omega) (by omega) ?_
  exact hend φ _ H locs ls hR hW hS hl
set_option maxHeartbeats 4000000 in
set_option maxRecDepth 100000 in
theorem lc_claim {p : Program} {l : Launch} {e : Env} {s : State} {m : MethodId} {below : List Frame} {meth : Method} {c : Code} {D : va_G} {cA : Nat → ClassId} {A : Nat → Prop} {b L : Nat} {xs : Nat → Int32} {Q : State → Prop} {RL : HP → Prop} (X : CX p s m #[Value.ref b] c cL_law "BellYardsLaw" 4 D cA A) (hX : va_X b L xs s s.heap) (hbl : b < s.heap.size) (hbA : ¬ A b) (hL : L ≤ 3072) (hal : ∀ h, RL h → 0 < gn h 11 ∧ 0 < gn h 12) (cp : CP_claim RL) {j : Nat} {x3 : Int32} (ex : x3 = nI (6 * j)) (hj : 6 * j + 6 ≤ L) {h : HP} {φ : Nat → Nat → Nat} {H : Heap} {locs : List Loc} {ls : Array Slot} (hR : RL h) (hW : HW D cA A φ h H) (hS : va_S A s.heap H locs) (hl : lv_has ls 4 [(0, .ref b), (1, .ref (φ 11 0)), (2, .ref (φ 12 0)), (3, .int x3)])
    (hend : ∀ (φ : Nat → Nat → Nat) (h : HP) (H : Heap) (locs : List Loc) (ls : Array Slot), RL h → HW D cA A φ h H → va_S A s.heap H locs → lv_has ls 4 [(0, .ref b), (1, .ref (φ 11 0)), (2, .ref (φ 12 0)), (3, .int x3)] → W p l e room_1 s m #[Value.ref b] below meth c H locs (76 + 64 * (j + 1)) (3034 + 768 * (j + 1)) Q (F0 m 1704 ls [])) : W p l e room_1 s m #[Value.ref b] below meth c H locs (76 + 64 * j) (3034 + 768 * j) Q (F0 m 1257 ls []) := by
  have hx := X.1
  have hb := X.2.1
  obtain ⟨al1, al2⟩ := hal h hR
  obtain ⟨r, d, d2, e1, e2, hR⟩ := cp h hR (xs (x3 + 1).toNatClampNeg) (xs (x3 + 2).toNatClampNeg) (xs (x3 + 3).toNatClampNeg) (xs (x3 + 4).toNatClampNeg)
  have v0 : vp_in (x3 + 1) L := by rw [ex]; exact li hL hj 1 (by decide)
  have v1 : vp_in (x3 + 2) L := by rw [ex]; exact li hL hj 2 (by decide)
  have v2 : vp_in (x3 + 3) L := by rw [ex]; exact li hL hj 3 (by decide)
  have v3 : vp_in (x3 + 4) L := by rw [ex]; exact li hL hj 4 (by decide)
  refine lv_aload_n hx hb dL_law_1257 rfl (lv_at hl 1 rfl) ?_
  refine lv_aload_n hx hb dL_law_1258 rfl (lv_at hl 0 rfl) ?_
  refine lv_iload_n hx hb dL_law_1259 rfl (lv_at hl 3 rfl) ?_
  refine lv_iconst (v := 1) hx hb dL_law_1260 (by decide) ?_
  refine lv_iadd hx hb dL_law_1261 ?_
  refine va_sld hx hb hX hbl hbA hS v0 dL_law_1262 ?_
  refine lv_aload_n hx hb dL_law_1263 rfl (lv_at hl 0 rfl) ?_
  refine lv_iload_n hx hb dL_law_1264 rfl (lv_at hl 3 rfl) ?_
  refine lv_iconst (v := 2) hx hb dL_law_1265 (by decide) ?_
  refine lv_iadd hx hb dL_law_1266 ?_
  refine va_sld hx hb hX hbl hbA hS v1 dL_law_1267 ?_
  refine lv_aload_n hx hb dL_law_1268 rfl (lv_at hl 0 rfl) ?_
  refine lv_iload_n hx hb dL_law_1269 rfl (lv_at hl 3 rfl) ?_
  refine lv_iconst (v := 3) hx hb dL_law_1270 (by decide) ?_
  refine lv_iadd hx hb dL_law_1271 ?_
  refine va_sld hx hb hX hbl hbA hS v2 dL_law_1272 ?_
  refine lv_aload_n hx hb dL_law_1273 rfl (lv_at hl 0 rfl) ?_
  refine lv_iload_n hx hb dL_law_1274 rfl (lv_at hl 3 rfl) ?_
  refine lv_iconst (v := 4) hx hb dL_law_1275 (by decide) ?_
  refine lv_iadd hx hb dL_law_1276 ?_
  refine va_sld hx hb hX hbl hbA hS v3 dL_law_1277 ?_
  refine rc_i (Af := fun φ => [.ref (φ 11 0), .int (xs (x3 + 1).toNatClampNeg), .int (xs (x3 + 2).toNatClampNeg), .int (xs (x3 + 3).toNatClampNeg), .int (xs (x3 + 4).toNatClampNeg)]) X hW hS ⟨by show _ ≤ 600000; omega, by show _ ≤ 7302250; omega⟩ (rn_V (As := [.int (xs (x3 + 1).toNatClampNeg), .int (xs (x3 + 2).toNatClampNeg), .int (xs (x3 + 3).toNatClampNeg), .int (xs (x3 + 4).toNatClampNeg)]) (rest := []) X hW hS cw_L_151 al1 rfl rfl rfl ⟨Nat.le_of_ble_eq_true rfl, Nat.le_of_ble_eq_true rfl⟩ rfl hl.1 rfl (Nat.le_of_ble_eq_true rfl) dL_law_1278) (ok_X11_claim 0 (xs (x3 + 1).toNatClampNeg) (xs (x3 + 2).toNatClampNeg) (xs (x3 + 3).toNatClampNeg) (xs (x3 + 4).toNatClampNeg) al1 e1) (fun H locs hW hS => ?_)
  refine lv_aload_n hx hb dL_law_1281 rfl (lv_at hl 2 rfl) ?_
  refine lv_aload_n hx hb dL_law_1282 rfl (lv_at hl 0 rfl) ?_
  refine lv_iload_n hx hb dL_law_1283 rfl (lv_at hl 3 rfl) ?_
  refine lv_iconst (v := 1) hx hb dL_law_1284 (by decide) ?_
  refine lv_iadd hx hb dL_law_1285 ?_
  refine va_sld hx hb hX hbl hbA hS v0 dL_law_1286 ?_
  refine lv_aload_n hx hb dL_law_1287 rfl (lv_at hl 0 rfl) ?_
  refine lv_iload_n hx hb dL_law_1288 rfl (lv_at hl 3 rfl) ?_
  refine lv_iconst (v := 2) hx hb dL_law_1289 (by decide) ?_
  refine lv_iadd hx hb dL_law_1290 ?_
  refine va_sld hx hb hX hbl hbA hS v1 dL_law_1291 ?_
  refine lv_aload_n hx hb dL_law_1292 rfl (lv_at hl 0 rfl) ?_
  refine lv_iload_n hx hb dL_law_1293 rfl (lv_at hl 3 rfl) ?_
  refine lv_iconst (v := 3) hx hb dL_law_1294 (by decide) ?_
  refine lv_iadd hx hb dL_law_1295 ?_
  refine va_sld hx hb hX hbl hbA hS v2 dL_law_1296 ?_
  refine lv_aload_n hx hb dL_law_1297 rfl (lv_at hl 0 rfl) ?_
  refine lv_iload_n hx hb dL_law_1298 rfl (lv_at hl 3 rfl) ?_
  refine lv_iconst (v := 4) hx hb dL_law_1299 (by decide) ?_
  refine lv_iadd hx hb dL_law_1300 ?_
  refine va_sld hx hb hX hbl hbA hS v3 dL_law_1301 ?_
  refine rc_i (Af := fun φ => [.ref (φ 12 0), .int (xs (x3 + 1).toNatClampNeg), .int (xs (x3 + 2).toNatClampNeg), .int (xs (x3 + 3).toNatClampNeg), .int (xs (x3 + 4).toNatClampNeg)]) X hW hS ⟨by show _ ≤ 600000; omega, by show _ ≤ 7302250; omega⟩ (rn_V (As := [.int (xs (x3 + 1).toNatClampNeg), .int (xs (x3 + 2).toNatClampNeg), .int (xs (x3 + 3).toNatClampNeg), .int (xs (x3 + 4).toNatClampNeg)]) (rest := [.int r]) X hW hS cw_L_154 al2 rfl rfl rfl ⟨Nat.le_of_ble_eq_true rfl, Nat.le_of_ble_eq_true rfl⟩ rfl hl.1 rfl (Nat.le_of_ble_eq_true rfl) dL_law_1302) (ok_X12_claim 0 (xs (x3 + 1).toNatClampNeg) (xs (x3 + 2).toNatClampNeg) (xs (x3 + 3).toNatClampNeg) (xs (x3 + 4).toNatClampNeg) al2 e2) (fun H locs hW hS => ?_)
  refine lv_icmp_eq (tgt := 1704) hx hb dL_law_1305 (by decide) (fun _ => ?_) (fun c9 => absurd rfl c9)
  refine W.widen (k := (76 + 64 * (j + 1))) (n := (3034 + 768 * (j + 1))) (by omega) (by omega) ?_
  exact hend φ _ H locs ls hR hW hS hl
set_option maxHeartbeats 4000000 in
set_option maxRecDepth 100000 in
theorem lc_rank {p : Program} {l : Launch} {e : Env} {s : State} {m : MethodId} {below : List Frame} {meth : Method} {c : Code} {D : va_G} {cA : Nat → ClassId} {A : Nat → Prop} {b L : Nat} {xs : Nat → Int32} {Q : State → Prop} {RL : HP → Prop} (X : CX p s m #[Value.ref b] c cL_law "BellYardsLaw" 4 D cA A) (hX : va_X b L xs s s.heap) (hbl : b < s.heap.size) (hbA : ¬ A b) (hL : L ≤ 3072) (hal : ∀ h, RL h → 0 < gn h 11 ∧ 0 < gn h 12) (cp : CP_rank RL) {j : Nat} {x3 : Int32} (ex : x3 = nI (6 * j)) (hj : 6 * j + 6 ≤ L) {h : HP} {φ : Nat → Nat → Nat} {H : Heap} {locs : List Loc} {ls : Array Slot} (hR : RL h) (hW : HW D cA A φ h H) (hS : va_S A s.heap H locs) (hl : lv_has ls 4 [(0, .ref b), (1, .ref (φ 11 0)), (2, .ref (φ 12 0)), (3, .int x3)])
    (hend : ∀ (φ : Nat → Nat → Nat) (h : HP) (H : Heap) (locs : List Loc) (ls : Array Slot), RL h → HW D cA A φ h H → va_S A s.heap H locs → lv_has ls 4 [(0, .ref b), (1, .ref (φ 11 0)), (2, .ref (φ 12 0)), (3, .int x3)] → W p l e room_1 s m #[Value.ref b] below meth c H locs (76 + 64 * (j + 1)) (3034 + 768 * (j + 1)) Q (F0 m 1704 ls [])) : W p l e room_1 s m #[Value.ref b] below meth c H locs (76 + 64 * j) (3034 + 768 * j) Q (F0 m 1310 ls []) := by
  have hx := X.1
  have hb := X.2.1
  obtain ⟨al1, al2⟩ := hal h hR
  obtain ⟨r, d, d2, e1, e2, hR⟩ := cp h hR (xs (x3 + 1).toNatClampNeg) (xs (x3 + 2).toNatClampNeg)
  have v0 : vp_in (x3 + 1) L := by rw [ex]; exact li hL hj 1 (by decide)
  have v1 : vp_in (x3 + 2) L := by rw [ex]; exact li hL hj 2 (by decide)
  refine lv_aload_n hx hb dL_law_1310 rfl (lv_at hl 1 rfl) ?_
  refine lv_aload_n hx hb dL_law_1311 rfl (lv_at hl 0 rfl) ?_
  refine lv_iload_n hx hb dL_law_1312 rfl (lv_at hl 3 rfl) ?_
  refine lv_iconst (v := 1) hx hb dL_law_1313 (by decide) ?_
  refine lv_iadd hx hb dL_law_1314 ?_
  refine va_sld hx hb hX hbl hbA hS v0 dL_law_1315 ?_
  refine lv_aload_n hx hb dL_law_1316 rfl (lv_at hl 0 rfl) ?_
  refine lv_iload_n hx hb dL_law_1317 rfl (lv_at hl 3 rfl) ?_
  refine lv_iconst (v := 2) hx hb dL_law_1318 (by decide) ?_
  refine lv_iadd hx hb dL_law_1319 ?_
  refine va_sld hx hb hX hbl hbA hS v1 dL_law_1320 ?_
  refine rc_i (Af := fun φ => [.ref (φ 11 0), .int (xs (x3 + 1).toNatClampNeg), .int (xs (x3 + 2).toNatClampNeg)]) X hW hS ⟨by show _ ≤ 600000; omega, by show _ ≤ 7302250; omega⟩ (rn_V (As := [.int (xs (x3 + 1).toNatClampNeg), .int (xs (x3 + 2).toNatClampNeg)]) (rest := []) X hW hS cw_L_155 al1 rfl rfl rfl ⟨Nat.le_of_ble_eq_true rfl, Nat.le_of_ble_eq_true rfl⟩ rfl hl.1 rfl (Nat.le_of_ble_eq_true rfl) dL_law_1321) (ok_X11_rank 0 (xs (x3 + 1).toNatClampNeg) (xs (x3 + 2).toNatClampNeg) al1 e1) (fun H locs hW hS => ?_)
  refine lv_aload_n hx hb dL_law_1324 rfl (lv_at hl 2 rfl) ?_
  refine lv_aload_n hx hb dL_law_1325 rfl (lv_at hl 0 rfl) ?_
  refine lv_iload_n hx hb dL_law_1326 rfl (lv_at hl 3 rfl) ?_
  refine lv_iconst (v := 1) hx hb dL_law_1327 (by decide) ?_
  refine lv_iadd hx hb dL_law_1328 ?_
  refine va_sld hx hb hX hbl hbA hS v0 dL_law_1329 ?_
  refine lv_aload_n hx hb dL_law_1330 rfl (lv_at hl 0 rfl) ?_
  refine lv_iload_n hx hb dL_law_1331 rfl (lv_at hl 3 rfl) ?_
  refine lv_iconst (v := 2) hx hb dL_law_1332 (by decide) ?_
  refine lv_iadd hx hb dL_law_1333 ?_
  refine va_sld hx hb hX hbl hbA hS v1 dL_law_1334 ?_
  refine rc_i (Af := fun φ => [.ref (φ 12 0), .int (xs (x3 + 1).toNatClampNeg), .int (xs (x3 + 2).toNatClampNeg)]) X hW hS ⟨by show _ ≤ 600000; omega, by show _ ≤ 7302250; omega⟩ (rn_V (As := [.int (xs (x3 + 1).toNatClampNeg), .int (xs (x3 + 2).toNatClampNeg)]) (rest := [.int r]) X hW hS cw_L_158 al2 rfl rfl rfl ⟨Nat.le_of_ble_eq_true rfl, Nat.le_of_ble_eq_true rfl⟩ rfl hl.1 rfl (Nat.le_of_ble_eq_true rfl) dL_law_1335) (ok_X12_rank 0 (xs (x3 + 1).toNatClampNeg) (xs (x3 + 2).toNatClampNeg) al2 e2) (fun H locs hW hS => ?_)
  refine lv_icmp_eq (tgt := 1704) hx hb dL_law_1338 (by decide) (fun _ => ?_) (fun c9 => absurd rfl c9)
  refine W.widen (k := (76 + 64 * (j + 1))) (n := (3034 + 768 * (j + 1))) (by omega) (by omega) ?_
  exact hend φ _ H locs ls hR hW hS hl
set_option maxHeartbeats 4000000 in
set_option maxRecDepth 100000 in
theorem lc_whose {p : Program} {l : Launch} {e : Env} {s : State} {m : MethodId} {below : List Frame} {meth : Method} {c : Code} {D : va_G} {cA : Nat → ClassId} {A : Nat → Prop} {b L : Nat} {xs : Nat → Int32} {Q : State → Prop} {RL : HP → Prop} (X : CX p s m #[Value.ref b] c cL_law "BellYardsLaw" 4 D cA A) (hX : va_X b L xs s s.heap) (hbl : b < s.heap.size) (hbA : ¬ A b) (hL : L ≤ 3072) (hal : ∀ h, RL h → 0 < gn h 11 ∧ 0 < gn h 12) (cp : CP_whose RL) {j : Nat} {x3 : Int32} (ex : x3 = nI (6 * j)) (hj : 6 * j + 6 ≤ L) {h : HP} {φ : Nat → Nat → Nat} {H : Heap} {locs : List Loc} {ls : Array Slot} (hR : RL h) (hW : HW D cA A φ h H) (hS : va_S A s.heap H locs) (hl : lv_has ls 4 [(0, .ref b), (1, .ref (φ 11 0)), (2, .ref (φ 12 0)), (3, .int x3)])
    (hend : ∀ (φ : Nat → Nat → Nat) (h : HP) (H : Heap) (locs : List Loc) (ls : Array Slot), RL h → HW D cA A φ h H → va_S A s.heap H locs → lv_has ls 4 [(0, .ref b), (1, .ref (φ 11 0)), (2, .ref (φ 12 0)), (3, .int x3)] → W p l e room_1 s m #[Value.ref b] below meth c H locs (76 + 64 * (j + 1)) (3034 + 768 * (j + 1)) Q (F0 m 1704 ls [])) : W p l e room_1 s m #[Value.ref b] below meth c H locs (76 + 64 * j) (3034 + 768 * j) Q (F0 m 1343 ls []) := by
  have hx := X.1
  have hb := X.2.1
  obtain ⟨al1, al2⟩ := hal h hR
  obtain ⟨r, e1, e2, hR⟩ := cp h hR (xs (x3 + 1).toNatClampNeg) (xs (x3 + 2).toNatClampNeg)
  have v0 : vp_in (x3 + 1) L := by rw [ex]; exact li hL hj 1 (by decide)
  have v1 : vp_in (x3 + 2) L := by rw [ex]; exact li hL hj 2 (by decide)
  refine lv_aload_n hx hb dL_law_1343 rfl (lv_at hl 1 rfl) ?_
  refine lv_aload_n hx hb dL_law_1344 rfl (lv_at hl 0 rfl) ?_
  refine lv_iload_n hx hb dL_law_1345 rfl (lv_at hl 3 rfl) ?_
  refine lv_iconst (v := 1) hx hb dL_law_1346 (by decide) ?_
  refine lv_iadd hx hb dL_law_1347 ?_
  refine va_sld hx hb hX hbl hbA hS v0 dL_law_1348 ?_
  refine lv_aload_n hx hb dL_law_1349 rfl (lv_at hl 0 rfl) ?_
  refine lv_iload_n hx hb dL_law_1350 rfl (lv_at hl 3 rfl) ?_
  refine lv_iconst (v := 2) hx hb dL_law_1351 (by decide) ?_
  refine lv_iadd hx hb dL_law_1352 ?_
  refine va_sld hx hb hX hbl hbA hS v1 dL_law_1353 ?_
  refine rc_i (Af := fun φ => [.ref (φ 11 0), .int (xs (x3 + 1).toNatClampNeg), .int (xs (x3 + 2).toNatClampNeg)]) X hW hS ⟨by show _ ≤ 600000; omega, by show _ ≤ 7302250; omega⟩ (rn_V (As := [.int (xs (x3 + 1).toNatClampNeg), .int (xs (x3 + 2).toNatClampNeg)]) (rest := []) X hW hS cw_L_159 al1 rfl rfl rfl ⟨Nat.le_of_ble_eq_true rfl, Nat.le_of_ble_eq_true rfl⟩ rfl hl.1 rfl (Nat.le_of_ble_eq_true rfl) dL_law_1354) (ok_X11_whose 0 (xs (x3 + 1).toNatClampNeg) (xs (x3 + 2).toNatClampNeg) al1 e1) (fun H locs hW hS => ?_)
  refine lv_aload_n hx hb dL_law_1357 rfl (lv_at hl 2 rfl) ?_
  refine lv_aload_n hx hb dL_law_1358 rfl (lv_at hl 0 rfl) ?_
  refine lv_iload_n hx hb dL_law_1359 rfl (lv_at hl 3 rfl) ?_
  refine lv_iconst (v := 1) hx hb dL_law_1360 (by decide) ?_
  refine lv_iadd hx hb dL_law_1361 ?_
  refine va_sld hx hb hX hbl hbA hS v0 dL_law_1362 ?_
  refine lv_aload_n hx hb dL_law_1363 rfl (lv_at hl 0 rfl) ?_
  refine lv_iload_n hx hb dL_law_1364 rfl (lv_at hl 3 rfl) ?_
  refine lv_iconst (v := 2) hx hb dL_law_1365 (by decide) ?_
  refine lv_iadd hx hb dL_law_1366 ?_
  refine va_sld hx hb hX hbl hbA hS v1 dL_law_1367 ?_
  refine rc_i (Af := fun φ => [.ref (φ 12 0), .int (xs (x3 + 1).toNatClampNeg), .int (xs (x3 + 2).toNatClampNeg)]) X hW hS ⟨by show _ ≤ 600000; omega, by show _ ≤ 7302250; omega⟩ (rn_V (As := [.int (xs (x3 + 1).toNatClampNeg), .int (xs (x3 + 2).toNatClampNeg)]) (rest := [.int r]) X hW hS cw_L_162 al2 rfl rfl rfl ⟨Nat.le_of_ble_eq_true rfl, Nat.le_of_ble_eq_true rfl⟩ rfl hl.1 rfl (Nat.le_of_ble_eq_true rfl) dL_law_1368) (ok_X12_whose 0 (xs (x3 + 1).toNatClampNeg) (xs (x3 + 2).toNatClampNeg) al2 e2) (fun H locs hW hS => ?_)
  refine lv_icmp_eq (tgt := 1704) hx hb dL_law_1371 (by decide) (fun _ => ?_) (fun c9 => absurd rfl c9)
  refine W.widen (k := (76 + 64 * (j + 1))) (n := (3034 + 768 * (j + 1))) (by omega) (by omega) ?_
  exact hend φ _ H locs ls hR hW hS hl
set_option maxHeartbeats 4000000 in
set_option maxRecDepth 100000 in
theorem lc_lands {p : Program} {l : Launch} {e : Env} {s : State} {m : MethodId} {below : List Frame} {meth : Method} {c : Code} {D : va_G} {cA : Nat → ClassId} {A : Nat → Prop} {b L : Nat} {xs : Nat → Int32} {Q : State → Prop} {RL : HP → Prop} (X : CX p s m #[Value.ref b] c cL_law "BellYardsLaw" 4 D cA A) (hX : va_X b L xs s s.heap) (hbl : b < s.heap.size) (hbA : ¬ A b) (hL : L ≤ 3072) (hal : ∀ h, RL h → 0 < gn h 11 ∧ 0 < gn h 12) (cp : CP_lands RL) {j : Nat} {x3 : Int32} (ex : x3 = nI (6 * j)) (hj : 6 * j + 6 ≤ L) {h : HP} {φ : Nat → Nat → Nat} {H : Heap} {locs : List Loc} {ls : Array Slot} (hR : RL h) (hW : HW D cA A φ h H) (hS : va_S A s.heap H locs) (hl : lv_has ls 4 [(0, .ref b), (1, .ref (φ 11 0)), (2, .ref (φ 12 0)), (3, .int x3)])
    (hend : ∀ (φ : Nat → Nat → Nat) (h : HP) (H : Heap) (locs : List Loc) (ls : Array Slot), RL h → HW D cA A φ h H → va_S A s.heap H locs → lv_has ls 4 [(0, .ref b), (1, .ref (φ 11 0)), (2, .ref (φ 12 0)), (3, .int x3)] → W p l e room_1 s m #[Value.ref b] below meth c H locs (76 + 64 * (j + 1)) (3034 + 768 * (j + 1)) Q (F0 m 1704 ls [])) : W p l e room_1 s m #[Value.ref b] below meth c H locs (76 + 64 * j) (3034 + 768 * j) Q (F0 m 1376 ls []) := by
  have hx := X.1
  have hb := X.2.1
  obtain ⟨al1, al2⟩ := hal h hR
  obtain ⟨r, e1, e2, hR⟩ := cp h hR (xs (x3 + 1).toNatClampNeg) (xs (x3 + 2).toNatClampNeg)
  have v0 : vp_in (x3 + 1) L := by rw [ex]; exact li hL hj 1 (by decide)
  have v1 : vp_in (x3 + 2) L := by rw [ex]; exact li hL hj 2 (by decide)
  refine lv_aload_n hx hb dL_law_1376 rfl (lv_at hl 1 rfl) ?_
  refine lv_aload_n hx hb dL_law_1377 rfl (lv_at hl 0 rfl) ?_
  refine lv_iload_n hx hb dL_law_1378 rfl (lv_at hl 3 rfl) ?_
  refine lv_iconst (v := 1) hx hb dL_law_1379 (by decide) ?_
  refine lv_iadd hx hb dL_law_1380 ?_
  refine va_sld hx hb hX hbl hbA hS v0 dL_law_1381 ?_
  refine lv_aload_n hx hb dL_law_1382 rfl (lv_at hl 0 rfl) ?_
  refine lv_iload_n hx hb dL_law_1383 rfl (lv_at hl 3 rfl) ?_
  refine lv_iconst (v := 2) hx hb dL_law_1384 (by decide) ?_
  refine lv_iadd hx hb dL_law_1385 ?_
  refine va_sld hx hb hX hbl hbA hS v1 dL_law_1386 ?_
  refine rc_i (Af := fun φ => [.ref (φ 11 0), .int (xs (x3 + 1).toNatClampNeg), .int (xs (x3 + 2).toNatClampNeg)]) X hW hS ⟨by show _ ≤ 600000; omega, by show _ ≤ 7302250; omega⟩ (rn_V (As := [.int (xs (x3 + 1).toNatClampNeg), .int (xs (x3 + 2).toNatClampNeg)]) (rest := []) X hW hS cw_L_163 al1 rfl rfl rfl ⟨Nat.le_of_ble_eq_true rfl, Nat.le_of_ble_eq_true rfl⟩ rfl hl.1 rfl (Nat.le_of_ble_eq_true rfl) dL_law_1387) (ok_X11_lands 0 (xs (x3 + 1).toNatClampNeg) (xs (x3 + 2).toNatClampNeg) al1 e1) (fun H locs hW hS => ?_)
  refine lv_aload_n hx hb dL_law_1390 rfl (lv_at hl 2 rfl) ?_
  refine lv_aload_n hx hb dL_law_1391 rfl (lv_at hl 0 rfl) ?_
  refine lv_iload_n hx hb dL_law_1392 rfl (lv_at hl 3 rfl) ?_
  refine lv_iconst (v := 1) hx hb dL_law_1393 (by decide) ?_
  refine lv_iadd hx hb dL_law_1394 ?_
  refine va_sld hx hb hX hbl hbA hS v0 dL_law_1395 ?_
  refine lv_aload_n hx hb dL_law_1396 rfl (lv_at hl 0 rfl) ?_
  refine lv_iload_n hx hb dL_law_1397 rfl (lv_at hl 3 rfl) ?_
  refine lv_iconst (v := 2) hx hb dL_law_1398 (by decide) ?_
  refine lv_iadd hx hb dL_law_1399 ?_
  refine va_sld hx hb hX hbl hbA hS v1 dL_law_1400 ?_
  refine rc_i (Af := fun φ => [.ref (φ 12 0), .int (xs (x3 + 1).toNatClampNeg), .int (xs (x3 + 2).toNatClampNeg)]) X hW hS ⟨by show _ ≤ 600000; omega, by show _ ≤ 7302250; omega⟩ (rn_V (As := [.int (xs (x3 + 1).toNatClampNeg), .int (xs (x3 + 2).toNatClampNeg)]) (rest := [.int r]) X hW hS cw_L_166 al2 rfl rfl rfl ⟨Nat.le_of_ble_eq_true rfl, Nat.le_of_ble_eq_true rfl⟩ rfl hl.1 rfl (Nat.le_of_ble_eq_true rfl) dL_law_1401) (ok_X12_lands 0 (xs (x3 + 1).toNatClampNeg) (xs (x3 + 2).toNatClampNeg) al2 e2) (fun H locs hW hS => ?_)
  refine lv_icmp_eq (tgt := 1704) hx hb dL_law_1404 (by decide) (fun _ => ?_) (fun c9 => absurd rfl c9)
  refine W.widen (k := (76 + 64 * (j + 1))) (n := (3034 + 768 * (j + 1))) (by omega) (by omega) ?_
  exact hend φ _ H locs ls hR hW hS hl
set_option maxHeartbeats 4000000 in
set_option maxRecDepth 100000 in
theorem lc_sheet {p : Program} {l : Launch} {e : Env} {s : State} {m : MethodId} {below : List Frame} {meth : Method} {c : Code} {D : va_G} {cA : Nat → ClassId} {A : Nat → Prop} {b L : Nat} {xs : Nat → Int32} {Q : State → Prop} {RL : HP → Prop} (X : CX p s m #[Value.ref b] c cL_law "BellYardsLaw" 4 D cA A) (hX : va_X b L xs s s.heap) (hbl : b < s.heap.size) (hbA : ¬ A b) (hL : L ≤ 3072) (hal : ∀ h, RL h → 0 < gn h 11 ∧ 0 < gn h 12) (cp : CP_sheet RL) {j : Nat} {x3 : Int32} (ex : x3 = nI (6 * j)) (hj : 6 * j + 6 ≤ L) {h : HP} {φ : Nat → Nat → Nat} {H : Heap} {locs : List Loc} {ls : Array Slot} (hR : RL h) (hW : HW D cA A φ h H) (hS : va_S A s.heap H locs) (hl : lv_has ls 4 [(0, .ref b), (1, .ref (φ 11 0)), (2, .ref (φ 12 0)), (3, .int x3)])
    (hend : ∀ (φ : Nat → Nat → Nat) (h : HP) (H : Heap) (locs : List Loc) (ls : Array Slot), RL h → HW D cA A φ h H → va_S A s.heap H locs → lv_has ls 4 [(0, .ref b), (1, .ref (φ 11 0)), (2, .ref (φ 12 0)), (3, .int x3)] → W p l e room_1 s m #[Value.ref b] below meth c H locs (76 + 64 * (j + 1)) (3034 + 768 * (j + 1)) Q (F0 m 1704 ls [])) : W p l e room_1 s m #[Value.ref b] below meth c H locs (76 + 64 * j) (3034 + 768 * j) Q (F0 m 1409 ls []) := by
  have hx := X.1
  have hb := X.2.1
  obtain ⟨al1, al2⟩ := hal h hR
  obtain ⟨r, d, d2, e1, e2, hR⟩ := cp h hR (xs (x3 + 1).toNatClampNeg) (xs (x3 + 2).toNatClampNeg) (xs (x3 + 3).toNatClampNeg)
  have v0 : vp_in (x3 + 1) L := by rw [ex]; exact li hL hj 1 (by decide)
  have v1 : vp_in (x3 + 2) L := by rw [ex]; exact li hL hj 2 (by decide)
  have v2 : vp_in (x3 + 3) L := by rw [ex]; exact li hL hj 3 (by decide)
  refine lv_aload_n hx hb dL_law_1409 rfl (lv_at hl 1 rfl) ?_
  refine lv_aload_n hx hb dL_law_1410 rfl (lv_at hl 0 rfl) ?_
  refine lv_iload_n hx hb dL_law_1411 rfl (lv_at hl 3 rfl) ?_
  refine lv_iconst (v := 1) hx hb dL_law_1412 (by decide) ?_
  refine lv_iadd hx hb dL_law_1413 ?_
  refine va_sld hx hb hX hbl hbA hS v0 dL_law_1414 ?_
  refine lv_aload_n hx hb dL_law_1415 rfl (lv_at hl 0 rfl) ?_
  refine lv_iload_n hx hb dL_law_1416 rfl (lv_at hl 3 rfl) ?_
  refine lv_iconst (v := 2) hx hb dL_law_1417 (by decide) ?_
  refine lv_iadd hx hb dL_law_1418 ?_
  refine va_sld hx hb hX hbl hbA hS v1 dL_law_1419 ?_
  refine lv_aload_n hx hb dL_law_1420 rfl (lv_at hl 0 rfl) ?_
  refine lv_iload_n hx hb dL_law_1421 rfl (lv_at hl 3 rfl) ?_
  refine lv_iconst (v := 3) hx hb dL_law_1422 (by decide) ?_
  refine lv_iadd hx hb dL_law_1423 ?_
  refine va_sld hx hb hX hbl hbA hS v2 dL_law_1424 ?_
  refine rc_i (Af := fun φ => [.ref (φ 11 0), .int (xs (x3 + 1).toNatClampNeg), .int (xs (x3 + 2).toNatClampNeg), .int (xs (x3 + 3).toNatClampNeg)]) X hW hS ⟨by show _ ≤ 600000; omega, by show _ ≤ 7302250; omega⟩ (rn_V (As := [.int (xs (x3 + 1).toNatClampNeg), .int (xs (x3 + 2).toNatClampNeg), .int (xs (x3 + 3).toNatClampNeg)]) (rest := []) X hW hS cw_L_167 al1 rfl rfl rfl ⟨Nat.le_of_ble_eq_true rfl, Nat.le_of_ble_eq_true rfl⟩ rfl hl.1 rfl (Nat.le_of_ble_eq_true rfl) dL_law_1425) (ok_X11_sheet 0 (xs (x3 + 1).toNatClampNeg) (xs (x3 + 2).toNatClampNeg) (xs (x3 + 3).toNatClampNeg) al1 e1) (fun H locs hW hS => ?_)
  refine lv_aload_n hx hb dL_law_1428 rfl (lv_at hl 2 rfl) ?_
  refine lv_aload_n hx hb dL_law_1429 rfl (lv_at hl 0 rfl) ?_
  refine lv_iload_n hx hb dL_law_1430 rfl (lv_at hl 3 rfl) ?_
  refine lv_iconst (v := 1) hx hb dL_law_1431 (by decide) ?_
  refine lv_iadd hx hb dL_law_1432 ?_
  refine va_sld hx hb hX hbl hbA hS v0 dL_law_1433 ?_
  refine lv_aload_n hx hb dL_law_1434 rfl (lv_at hl 0 rfl) ?_
  refine lv_iload_n hx hb dL_law_1435 rfl (lv_at hl 3 rfl) ?_
  refine lv_iconst (v := 2) hx hb dL_law_1436 (by decide) ?_
  refine lv_iadd hx hb dL_law_1437 ?_
  refine va_sld hx hb hX hbl hbA hS v1 dL_law_1438 ?_
  refine lv_aload_n hx hb dL_law_1439 rfl (lv_at hl 0 rfl) ?_
  refine lv_iload_n hx hb dL_law_1440 rfl (lv_at hl 3 rfl) ?_
  refine lv_iconst (v := 3) hx hb dL_law_1441 (by decide) ?_
  refine lv_iadd hx hb dL_law_1442 ?_
  refine va_sld hx hb hX hbl hbA hS v2 dL_law_1443 ?_
  refine rc_i (Af := fun φ => [.ref (φ 12 0), .int (xs (x3 + 1).toNatClampNeg), .int (xs (x3 + 2).toNatClampNeg), .int (xs (x3 + 3).toNatClampNeg)]) X hW hS ⟨by show _ ≤ 600000; omega, by show _ ≤ 7302250; omega⟩ (rn_V (As := [.int (xs (x3 + 1).toNatClampNeg), .int (xs (x3 + 2).toNatClampNeg), .int (xs (x3 + 3).toNatClampNeg)]) (rest := [.int r]) X hW hS cw_L_170 al2 rfl rfl rfl ⟨Nat.le_of_ble_eq_true rfl, Nat.le_of_ble_eq_true rfl⟩ rfl hl.1 rfl (Nat.le_of_ble_eq_true rfl) dL_law_1444) (ok_X12_sheet 0 (xs (x3 + 1).toNatClampNeg) (xs (x3 + 2).toNatClampNeg) (xs (x3 + 3).toNatClampNeg) al2 e2) (fun H locs hW hS => ?_)
  refine lv_icmp_eq (tgt := 1704) hx hb dL_law_1447 (by decide) (fun _ => ?_) (fun c9 => absurd rfl c9)
  refine W.widen (k := (76 + 64 * (j + 1))) (n := (3034 + 768 * (j + 1))) (by omega) (by omega) ?_
  exact hend φ _ H locs ls hR hW hS hl
set_option maxHeartbeats 4000000 in
set_option maxRecDepth 100000 in
theorem lc_lose {p : Program} {l : Launch} {e : Env} {s : State} {m : MethodId} {below : List Frame} {meth : Method} {c : Code} {D : va_G} {cA : Nat → ClassId} {A : Nat → Prop} {b L : Nat} {xs : Nat → Int32} {Q : State → Prop} {RL : HP → Prop} (X : CX p s m #[Value.ref b] c cL_law "BellYardsLaw" 4 D cA A) (hX : va_X b L xs s s.heap) (hbl : b < s.heap.size) (hbA : ¬ A b) (hL : L ≤ 3072) (hal : ∀ h, RL h → 0 < gn h 11 ∧ 0 < gn h 12) (cp : CP_lose RL) {j : Nat} {x3 : Int32} (ex : x3 = nI (6 * j)) (hj : 6 * j + 6 ≤ L) {h : HP} {φ : Nat → Nat → Nat} {H : Heap} {locs : List Loc} {ls : Array Slot} (hR : RL h) (hW : HW D cA A φ h H) (hS : va_S A s.heap H locs) (hl : lv_has ls 4 [(0, .ref b), (1, .ref (φ 11 0)), (2, .ref (φ 12 0)), (3, .int x3)])
    (hend : ∀ (φ : Nat → Nat → Nat) (h : HP) (H : Heap) (locs : List Loc) (ls : Array Slot), RL h → HW D cA A φ h H → va_S A s.heap H locs → lv_has ls 4 [(0, .ref b), (1, .ref (φ 11 0)), (2, .ref (φ 12 0)), (3, .int x3)] → W p l e room_1 s m #[Value.ref b] below meth c H locs (76 + 64 * (j + 1)) (3034 + 768 * (j + 1)) Q (F0 m 1704 ls [])) : W p l e room_1 s m #[Value.ref b] below meth c H locs (76 + 64 * j) (3034 + 768 * j) Q (F0 m 1452 ls []) := by
  have hx := X.1
  have hb := X.2.1
  obtain ⟨al1, al2⟩ := hal h hR
  obtain ⟨r, d, d2, e1, e2, hR⟩ := cp h hR (xs (x3 + 1).toNatClampNeg)
  have v0 : vp_in (x3 + 1) L := by rw [ex]; exact li hL hj 1 (by decide)
  refine lv_aload_n hx hb dL_law_1452 rfl (lv_at hl 1 rfl) ?_
  refine lv_aload_n hx hb dL_law_1453 rfl (lv_at hl 0 rfl) ?_
  refine lv_iload_n hx hb dL_law_1454 rfl (lv_at hl 3 rfl) ?_
  refine lv_iconst (v := 1) hx hb dL_law_1455 (by decide) ?_
  refine lv_iadd hx hb dL_law_1456 ?_
  refine va_sld hx hb hX hbl hbA hS v0 dL_law_1457 ?_
  refine rc_i (Af := fun φ => [.ref (φ 11 0), .int (xs (x3 + 1).toNatClampNeg)]) X hW hS ⟨by show _ ≤ 600000; omega, by show _ ≤ 7302250; omega⟩ (rn_V (As := [.int (xs (x3 + 1).toNatClampNeg)]) (rest := []) X hW hS cw_L_171 al1 rfl rfl rfl ⟨Nat.le_of_ble_eq_true rfl, Nat.le_of_ble_eq_true rfl⟩ rfl hl.1 rfl (Nat.le_of_ble_eq_true rfl) dL_law_1458) (ok_X11_lose 0 (xs (x3 + 1).toNatClampNeg) al1 e1) (fun H locs hW hS => ?_)
  refine lv_aload_n hx hb dL_law_1461 rfl (lv_at hl 2 rfl) ?_
  refine lv_aload_n hx hb dL_law_1462 rfl (lv_at hl 0 rfl) ?_
  refine lv_iload_n hx hb dL_law_1463 rfl (lv_at hl 3 rfl) ?_
  refine lv_iconst (v := 1) hx hb dL_law_1464 (by decide) ?_
  refine lv_iadd hx hb dL_law_1465 ?_
  refine va_sld hx hb hX hbl hbA hS v0 dL_law_1466 ?_
  refine rc_i (Af := fun φ => [.ref (φ 12 0), .int (xs (x3 + 1).toNatClampNeg)]) X hW hS ⟨by show _ ≤ 600000; omega, by show _ ≤ 7302250; omega⟩ (rn_V (As := [.int (xs (x3 + 1).toNatClampNeg)]) (rest := [.int r]) X hW hS cw_L_174 al2 rfl rfl rfl ⟨Nat.le_of_ble_eq_true rfl, Nat.le_of_ble_eq_true rfl⟩ rfl hl.1 rfl (Nat.le_of_ble_eq_true rfl) dL_law_1467) (ok_X12_lose 0 (xs (x3 + 1).toNatClampNeg) al2 e2) (fun H locs hW hS => ?_)
  refine lv_icmp_eq (tgt := 1704) hx hb dL_law_1470 (by decide) (fun _ => ?_) (fun c9 => absurd rfl c9)
  refine W.widen (k := (76 + 64 * (j + 1))) (n := (3034 + 768 * (j + 1))) (by omega) (by omega) ?_
  exact hend φ _ H locs ls hR hW hS hl
set_option maxHeartbeats 4000000 in
set_option maxRecDepth 100000 in
theorem lc_put {p : Program} {l : Launch} {e : Env} {s : State} {m : MethodId} {below : List Frame} {meth : Method} {c : Code} {D : va_G} {cA : Nat → ClassId} {A : Nat → Prop} {b L : Nat} {xs : Nat → Int32} {Q : State → Prop} {RL : HP → Prop} (X : CX p s m #[Value.ref b] c cL_law "BellYardsLaw" 4 D cA A) (hX : va_X b L xs s s.heap) (hbl : b < s.heap.size) (hbA : ¬ A b) (hL : L ≤ 3072) (hal : ∀ h, RL h → 0 < gn h 11 ∧ 0 < gn h 12) (cp : CP_put RL) {j : Nat} {x3 : Int32} (ex : x3 = nI (6 * j)) (hj : 6 * j + 6 ≤ L) {h : HP} {φ : Nat → Nat → Nat} {H : Heap} {locs : List Loc} {ls : Array Slot} (hR : RL h) (hW : HW D cA A φ h H) (hS : va_S A s.heap H locs) (hl : lv_has ls 4 [(0, .ref b), (1, .ref (φ 11 0)), (2, .ref (φ 12 0)), (3, .int x3)])
    (hend : ∀ (φ : Nat → Nat → Nat) (h : HP) (H : Heap) (locs : List Loc) (ls : Array Slot), RL h → HW D cA A φ h H → va_S A s.heap H locs → lv_has ls 4 [(0, .ref b), (1, .ref (φ 11 0)), (2, .ref (φ 12 0)), (3, .int x3)] → W p l e room_1 s m #[Value.ref b] below meth c H locs (76 + 64 * (j + 1)) (3034 + 768 * (j + 1)) Q (F0 m 1704 ls [])) : W p l e room_1 s m #[Value.ref b] below meth c H locs (76 + 64 * j) (3034 + 768 * j) Q (F0 m 1475 ls []) := by
  have hx := X.1
  have hb := X.2.1
  obtain ⟨al1, al2⟩ := hal h hR
  obtain ⟨r, d, d2, e1, e2, hR⟩ := cp h hR (xs (x3 + 1).toNatClampNeg) (xs (x3 + 2).toNatClampNeg) (xs (x3 + 3).toNatClampNeg) (xs (x3 + 4).toNatClampNeg)
  have v0 : vp_in (x3 + 1) L := by rw [ex]; exact li hL hj 1 (by decide)
  have v1 : vp_in (x3 + 2) L := by rw [ex]; exact li hL hj 2 (by decide)
  have v2 : vp_in (x3 + 3) L := by rw [ex]; exact li hL hj 3 (by decide)
  have v3 : vp_in (x3 + 4) L := by rw [ex]; exact li hL hj 4 (by decide)
  refine lv_aload_n hx hb dL_law_1475 rfl (lv_at hl 1 rfl) ?_
  refine lv_aload_n hx hb dL_law_1476 rfl (lv_at hl 0 rfl) ?_
  refine lv_iload_n hx hb dL_law_1477 rfl (lv_at hl 3 rfl) ?_
  refine lv_iconst (v := 1) hx hb dL_law_1478 (by decide) ?_
  refine lv_iadd hx hb dL_law_1479 ?_
  refine va_sld hx hb hX hbl hbA hS v0 dL_law_1480 ?_
  refine lv_aload_n hx hb dL_law_1481 rfl (lv_at hl 0 rfl) ?_
  refine lv_iload_n hx hb dL_law_1482 rfl (lv_at hl 3 rfl) ?_
  refine lv_iconst (v := 2) hx hb dL_law_1483 (by decide) ?_
  refine lv_iadd hx hb dL_law_1484 ?_
  refine va_sld hx hb hX hbl hbA hS v1 dL_law_1485 ?_
  refine lv_aload_n hx hb dL_law_1486 rfl (lv_at hl 0 rfl) ?_
  refine lv_iload_n hx hb dL_law_1487 rfl (lv_at hl 3 rfl) ?_
  refine lv_iconst (v := 3) hx hb dL_law_1488 (by decide) ?_
  refine lv_iadd hx hb dL_law_1489 ?_
  refine va_sld hx hb hX hbl hbA hS v2 dL_law_1490 ?_
  refine lv_aload_n hx hb dL_law_1491 rfl (lv_at hl 0 rfl) ?_
  refine lv_iload_n hx hb dL_law_1492 rfl (lv_at hl 3 rfl) ?_
  refine lv_iconst (v := 4) hx hb dL_law_1493 (by decide) ?_
  refine lv_iadd hx hb dL_law_1494 ?_
  refine va_sld hx hb hX hbl hbA hS v3 dL_law_1495 ?_
  refine rc_i (Af := fun φ => [.ref (φ 11 0), .int (xs (x3 + 1).toNatClampNeg), .int (xs (x3 + 2).toNatClampNeg), .int (xs (x3 + 3).toNatClampNeg), .int (xs (x3 + 4).toNatClampNeg)]) X hW hS ⟨by show _ ≤ 600000; omega, by show _ ≤ 7302250; omega⟩ (rn_V (As := [.int (xs (x3 + 1).toNatClampNeg), .int (xs (x3 + 2).toNatClampNeg), .int (xs (x3 + 3).toNatClampNeg), .int (xs (x3 + 4).toNatClampNeg)]) (rest := []) X hW hS cw_L_175 al1 rfl rfl rfl ⟨Nat.le_of_ble_eq_true rfl, Nat.le_of_ble_eq_true rfl⟩ rfl hl.1 rfl (Nat.le_of_ble_eq_true rfl) dL_law_1496) (ok_X11_put 0 (xs (x3 + 1).toNatClampNeg) (xs (x3 + 2).toNatClampNeg) (xs (x3 + 3).toNatClampNeg) (xs (x3 + 4).toNatClampNeg) al1 e1) (fun H locs hW hS => ?_)
  refine lv_aload_n hx hb dL_law_1499 rfl (lv_at hl 2 rfl) ?_
  refine lv_aload_n hx hb dL_law_1500 rfl (lv_at hl 0 rfl) ?_
  refine lv_iload_n hx hb dL_law_1501 rfl (lv_at hl 3 rfl) ?_
  refine lv_iconst (v := 1) hx hb dL_law_1502 (by decide) ?_
  refine lv_iadd hx hb dL_law_1503 ?_
  refine va_sld hx hb hX hbl hbA hS v0 dL_law_1504 ?_
  refine lv_aload_n hx hb dL_law_1505 rfl (lv_at hl 0 rfl) ?_
  refine lv_iload_n hx hb dL_law_1506 rfl (lv_at hl 3 rfl) ?_
  refine lv_iconst (v := 2) hx hb dL_law_1507 (by decide) ?_
  refine lv_iadd hx hb dL_law_1508 ?_
  refine va_sld hx hb hX hbl hbA hS v1 dL_law_1509 ?_
  refine lv_aload_n hx hb dL_law_1510 rfl (lv_at hl 0 rfl) ?_
  refine lv_iload_n hx hb dL_law_1511 rfl (lv_at hl 3 rfl) ?_
  refine lv_iconst (v := 3) hx hb dL_law_1512 (by decide) ?_
  refine lv_iadd hx hb dL_law_1513 ?_
  refine va_sld hx hb hX hbl hbA hS v2 dL_law_1514 ?_
  refine lv_aload_n hx hb dL_law_1515 rfl (lv_at hl 0 rfl) ?_
  refine lv_iload_n hx hb dL_law_1516 rfl (lv_at hl 3 rfl) ?_
  refine lv_iconst (v := 4) hx hb dL_law_1517 (by decide) ?_
  refine lv_iadd hx hb dL_law_1518 ?_
  refine va_sld hx hb hX hbl hbA hS v3 dL_law_1519 ?_
  refine rc_i (Af := fun φ => [.ref (φ 12 0), .int (xs (x3 + 1).toNatClampNeg), .int (xs (x3 + 2).toNatClampNeg), .int (xs (x3 + 3).toNatClampNeg), .int (xs (x3 + 4).toNatClampNeg)]) X hW hS ⟨by show _ ≤ 600000; omega, by show _ ≤ 7302250; omega⟩ (rn_V (As := [.int (xs (x3 + 1).toNatClampNeg), .int (xs (x3 + 2).toNatClampNeg), .int (xs (x3 + 3).toNatClampNeg), .int (xs (x3 + 4).toNatClampNeg)]) (rest := [.int r]) X hW hS cw_L_178 al2 rfl rfl rfl ⟨Nat.le_of_ble_eq_true rfl, Nat.le_of_ble_eq_true rfl⟩ rfl hl.1 rfl (Nat.le_of_ble_eq_true rfl) dL_law_1520) (ok_X12_put 0 (xs (x3 + 1).toNatClampNeg) (xs (x3 + 2).toNatClampNeg) (xs (x3 + 3).toNatClampNeg) (xs (x3 + 4).toNatClampNeg) al2 e2) (fun H locs hW hS => ?_)
  refine lv_icmp_eq (tgt := 1704) hx hb dL_law_1523 (by decide) (fun _ => ?_) (fun c9 => absurd rfl c9)
  refine W.widen (k := (76 + 64 * (j + 1))) (n := (3034 + 768 * (j + 1))) (by omega) (by omega) ?_
  exact hend φ _ H locs ls hR hW hS hl
set_option maxHeartbeats 4000000 in
set_option maxRecDepth 100000 in
theorem lc_get {p : Program} {l : Launch} {e : Env} {s : State} {m : MethodId} {below : List Frame} {meth : Method} {c : Code} {D : va_G} {cA : Nat → ClassId} {A : Nat → Prop} {b L : Nat} {xs : Nat → Int32} {Q : State → Prop} {RL : HP → Prop} (X : CX p s m #[Value.ref b] c cL_law "BellYardsLaw" 4 D cA A) (hX : va_X b L xs s s.heap) (hbl : b < s.heap.size) (hbA : ¬ A b) (hL : L ≤ 3072) (hal : ∀ h, RL h → 0 < gn h 11 ∧ 0 < gn h 12) (cp : CP_get RL) {j : Nat} {x3 : Int32} (ex : x3 = nI (6 * j)) (hj : 6 * j + 6 ≤ L) {h : HP} {φ : Nat → Nat → Nat} {H : Heap} {locs : List Loc} {ls : Array Slot} (hR : RL h) (hW : HW D cA A φ h H) (hS : va_S A s.heap H locs) (hl : lv_has ls 4 [(0, .ref b), (1, .ref (φ 11 0)), (2, .ref (φ 12 0)), (3, .int x3)])
    (hend : ∀ (φ : Nat → Nat → Nat) (h : HP) (H : Heap) (locs : List Loc) (ls : Array Slot), RL h → HW D cA A φ h H → va_S A s.heap H locs → lv_has ls 4 [(0, .ref b), (1, .ref (φ 11 0)), (2, .ref (φ 12 0)), (3, .int x3)] → W p l e room_1 s m #[Value.ref b] below meth c H locs (76 + 64 * (j + 1)) (3034 + 768 * (j + 1)) Q (F0 m 1704 ls [])) : W p l e room_1 s m #[Value.ref b] below meth c H locs (76 + 64 * j) (3034 + 768 * j) Q (F0 m 1528 ls []) := by
  have hx := X.1
  have hb := X.2.1
  obtain ⟨al1, al2⟩ := hal h hR
  obtain ⟨r, d, d2, e1, e2, hR⟩ := cp h hR (xs (x3 + 1).toNatClampNeg) (xs (x3 + 2).toNatClampNeg) (xs (x3 + 3).toNatClampNeg)
  have v0 : vp_in (x3 + 1) L := by rw [ex]; exact li hL hj 1 (by decide)
  have v1 : vp_in (x3 + 2) L := by rw [ex]; exact li hL hj 2 (by decide)
  have v2 : vp_in (x3 + 3) L := by rw [ex]; exact li hL hj 3 (by decide)
  refine lv_aload_n hx hb dL_law_1528 rfl (lv_at hl 1 rfl) ?_
  refine lv_aload_n hx hb dL_law_1529 rfl (lv_at hl 0 rfl) ?_
  refine lv_iload_n hx hb dL_law_1530 rfl (lv_at hl 3 rfl) ?_
  refine lv_iconst (v := 1) hx hb dL_law_1531 (by decide) ?_
  refine lv_iadd hx hb dL_law_1532 ?_
  refine va_sld hx hb hX hbl hbA hS v0 dL_law_1533 ?_
  refine lv_aload_n hx hb dL_law_1534 rfl (lv_at hl 0 rfl) ?_
  refine lv_iload_n hx hb dL_law_1535 rfl (lv_at hl 3 rfl) ?_
  refine lv_iconst (v := 2) hx hb dL_law_1536 (by decide) ?_
  refine lv_iadd hx hb dL_law_1537 ?_
  refine va_sld hx hb hX hbl hbA hS v1 dL_law_1538 ?_
  refine lv_aload_n hx hb dL_law_1539 rfl (lv_at hl 0 rfl) ?_
  refine lv_iload_n hx hb dL_law_1540 rfl (lv_at hl 3 rfl) ?_
  refine lv_iconst (v := 3) hx hb dL_law_1541 (by decide) ?_
  refine lv_iadd hx hb dL_law_1542 ?_
  refine va_sld hx hb hX hbl hbA hS v2 dL_law_1543 ?_
  refine rc_i (Af := fun φ => [.ref (φ 11 0), .int (xs (x3 + 1).toNatClampNeg), .int (xs (x3 + 2).toNatClampNeg), .int (xs (x3 + 3).toNatClampNeg)]) X hW hS ⟨by show _ ≤ 600000; omega, by show _ ≤ 7302250; omega⟩ (rn_V (As := [.int (xs (x3 + 1).toNatClampNeg), .int (xs (x3 + 2).toNatClampNeg), .int (xs (x3 + 3).toNatClampNeg)]) (rest := []) X hW hS cw_L_179 al1 rfl rfl rfl ⟨Nat.le_of_ble_eq_true rfl, Nat.le_of_ble_eq_true rfl⟩ rfl hl.1 rfl (Nat.le_of_ble_eq_true rfl) dL_law_1544) (ok_X11_get 0 (xs (x3 + 1).toNatClampNeg) (xs (x3 + 2).toNatClampNeg) (xs (x3 + 3).toNatClampNeg) al1 e1) (fun H locs hW hS => ?_)
  refine lv_aload_n hx hb dL_law_1547 rfl (lv_at hl 2 rfl) ?_
  refine lv_aload_n hx hb dL_law_1548 rfl (lv_at hl 0 rfl) ?_
  refine lv_iload_n hx hb dL_law_1549 rfl (lv_at hl 3 rfl) ?_
  refine lv_iconst (v := 1) hx hb dL_law_1550 (by decide) ?_
  refine lv_iadd hx hb dL_law_1551 ?_
  refine va_sld hx hb hX hbl hbA hS v0 dL_law_1552 ?_
  refine lv_aload_n hx hb dL_law_1553 rfl (lv_at hl 0 rfl) ?_
  refine lv_iload_n hx hb dL_law_1554 rfl (lv_at hl 3 rfl) ?_
  refine lv_iconst (v := 2) hx hb dL_law_1555 (by decide) ?_
  refine lv_iadd hx hb dL_law_1556 ?_
  refine va_sld hx hb hX hbl hbA hS v1 dL_law_1557 ?_
  refine lv_aload_n hx hb dL_law_1558 rfl (lv_at hl 0 rfl) ?_
  refine lv_iload_n hx hb dL_law_1559 rfl (lv_at hl 3 rfl) ?_
  refine lv_iconst (v := 3) hx hb dL_law_1560 (by decide) ?_
  refine lv_iadd hx hb dL_law_1561 ?_
  refine va_sld hx hb hX hbl hbA hS v2 dL_law_1562 ?_
  refine rc_i (Af := fun φ => [.ref (φ 12 0), .int (xs (x3 + 1).toNatClampNeg), .int (xs (x3 + 2).toNatClampNeg), .int (xs (x3 + 3).toNatClampNeg)]) X hW hS ⟨by show _ ≤ 600000; omega, by show _ ≤ 7302250; omega⟩ (rn_V (As := [.int (xs (x3 + 1).toNatClampNeg), .int (xs (x3 + 2).toNatClampNeg), .int (xs (x3 + 3).toNatClampNeg)]) (rest := [.int r]) X hW hS cw_L_182 al2 rfl rfl rfl ⟨Nat.le_of_ble_eq_true rfl, Nat.le_of_ble_eq_true rfl⟩ rfl hl.1 rfl (Nat.le_of_ble_eq_true rfl) dL_law_1563) (ok_X12_get 0 (xs (x3 + 1).toNatClampNeg) (xs (x3 + 2).toNatClampNeg) (xs (x3 + 3).toNatClampNeg) al2 e2) (fun H locs hW hS => ?_)
  refine lv_icmp_eq (tgt := 1704) hx hb dL_law_1566 (by decide) (fun _ => ?_) (fun c9 => absurd rfl c9)
  refine W.widen (k := (76 + 64 * (j + 1))) (n := (3034 + 768 * (j + 1))) (by omega) (by omega) ?_
  exact hend φ _ H locs ls hR hW hS hl
set_option maxHeartbeats 4000000 in
set_option maxRecDepth 100000 in
theorem lc_copy {p : Program} {l : Launch} {e : Env} {s : State} {m : MethodId} {below : List Frame} {meth : Method} {c : Code} {D : va_G} {cA : Nat → ClassId} {A : Nat → Prop} {b L : Nat} {xs : Nat → Int32} {Q : State → Prop} {RL : HP → Prop} (X : CX p s m #[Value.ref b] c cL_law "BellYardsLaw" 4 D cA A) (hX : va_X b L xs s s.heap) (hbl : b < s.heap.size) (hbA : ¬ A b) (hL : L ≤ 3072) (hal : ∀ h, RL h → 0 < gn h 11 ∧ 0 < gn h 12) (cp : CP_copy RL) {j : Nat} {x3 : Int32} (ex : x3 = nI (6 * j)) (hj : 6 * j + 6 ≤ L) {h : HP} {φ : Nat → Nat → Nat} {H : Heap} {locs : List Loc} {ls : Array Slot} (hR : RL h) (hW : HW D cA A φ h H) (hS : va_S A s.heap H locs) (hl : lv_has ls 4 [(0, .ref b), (1, .ref (φ 11 0)), (2, .ref (φ 12 0)), (3, .int x3)])
    (hend : ∀ (φ : Nat → Nat → Nat) (h : HP) (H : Heap) (locs : List Loc) (ls : Array Slot), RL h → HW D cA A φ h H → va_S A s.heap H locs → lv_has ls 4 [(0, .ref b), (1, .ref (φ 11 0)), (2, .ref (φ 12 0)), (3, .int x3)] → W p l e room_1 s m #[Value.ref b] below meth c H locs (76 + 64 * (j + 1)) (3034 + 768 * (j + 1)) Q (F0 m 1704 ls [])) : W p l e room_1 s m #[Value.ref b] below meth c H locs (76 + 64 * j) (3034 + 768 * j) Q (F0 m 1571 ls []) := by
  have hx := X.1
  have hb := X.2.1
  obtain ⟨al1, al2⟩ := hal h hR
  obtain ⟨r, d, d2, e1, e2, hR⟩ := cp h hR (xs (x3 + 1).toNatClampNeg) (xs (x3 + 2).toNatClampNeg) (xs (x3 + 3).toNatClampNeg) (xs (x3 + 4).toNatClampNeg) (xs (x3 + 5).toNatClampNeg)
  have v0 : vp_in (x3 + 1) L := by rw [ex]; exact li hL hj 1 (by decide)
  have v1 : vp_in (x3 + 2) L := by rw [ex]; exact li hL hj 2 (by decide)
  have v2 : vp_in (x3 + 3) L := by rw [ex]; exact li hL hj 3 (by decide)
  have v3 : vp_in (x3 + 4) L := by rw [ex]; exact li hL hj 4 (by decide)
  have v4 : vp_in (x3 + 5) L := by rw [ex]; exact li hL hj 5 (by decide)
  refine lv_aload_n hx hb dL_law_1571 rfl (lv_at hl 1 rfl) ?_
  refine lv_aload_n hx hb dL_law_1572 rfl (lv_at hl 0 rfl) ?_
  refine lv_iload_n hx hb dL_law_1573 rfl (lv_at hl 3 rfl) ?_
  refine lv_iconst (v := 1) hx hb dL_law_1574 (by decide) ?_
  refine lv_iadd hx hb dL_law_1575 ?_
  refine va_sld hx hb hX hbl hbA hS v0 dL_law_1576 ?_
  refine lv_aload_n hx hb dL_law_1577 rfl (lv_at hl 0 rfl) ?_
  refine lv_iload_n hx hb dL_law_1578 rfl (lv_at hl 3 rfl) ?_
  refine lv_iconst (v := 2) hx hb dL_law_1579 (by decide) ?_
  refine lv_iadd hx hb dL_law_1580 ?_
  refine va_sld hx hb hX hbl hbA hS v1 dL_law_1581 ?_
  refine lv_aload_n hx hb dL_law_1582 rfl (lv_at hl 0 rfl) ?_
  refine lv_iload_n hx hb dL_law_1583 rfl (lv_at hl 3 rfl) ?_
  refine lv_iconst (v := 3) hx hb dL_law_1584 (by decide) ?_
  refine lv_iadd hx hb dL_law_1585 ?_
  refine va_sld hx hb hX hbl hbA hS v2 dL_law_1586 ?_
  refine lv_aload_n hx hb dL_law_1587 rfl (lv_at hl 0 rfl) ?_
  refine lv_iload_n hx hb dL_law_1588 rfl (lv_at hl 3 rfl) ?_
  refine lv_iconst (v := 4) hx hb dL_law_1589 (by decide) ?_
  refine lv_iadd hx hb dL_law_1590 ?_
  refine va_sld hx hb hX hbl hbA hS v3 dL_law_1591 ?_
  refine lv_aload_n hx hb dL_law_1592 rfl (lv_at hl 0 rfl) ?_
  refine lv_iload_n hx hb dL_law_1593 rfl (lv_at hl 3 rfl) ?_
  refine lv_iconst (v := 5) hx hb dL_law_1594 (by decide) ?_
  refine lv_iadd hx hb dL_law_1595 ?_
  refine va_sld hx hb hX hbl hbA hS v4 dL_law_1596 ?_
  refine rc_i (Af := fun φ => [.ref (φ 11 0), .int (xs (x3 + 1).toNatClampNeg), .int (xs (x3 + 2).toNatClampNeg), .int (xs (x3 + 3).toNatClampNeg), .int (xs (x3 + 4).toNatClampNeg), .int (xs (x3 + 5).toNatClampNeg)]) X hW hS ⟨by show _ ≤ 600000; omega, by show _ ≤ 7302250; omega⟩ (rn_V (As := [.int (xs (x3 + 1).toNatClampNeg), .int (xs (x3 + 2).toNatClampNeg), .int (xs (x3 + 3).toNatClampNeg), .int (xs (x3 + 4).toNatClampNeg), .int (xs (x3 + 5).toNatClampNeg)]) (rest := []) X hW hS cw_L_183 al1 rfl rfl rfl ⟨Nat.le_of_ble_eq_true rfl, Nat.le_of_ble_eq_true rfl⟩ rfl hl.1 rfl (Nat.le_of_ble_eq_true rfl) dL_law_1597) (ok_X11_copy 0 (xs (x3 + 1).toNatClampNeg) (xs (x3 + 2).toNatClampNeg) (xs (x3 + 3).toNatClampNeg) (xs (x3 + 4).toNatClampNeg) (xs (x3 + 5).toNatClampNeg) al1 e1) (fun H locs hW hS => ?_)
  refine lv_aload_n hx hb dL_law_1600 rfl (lv_at hl 2 rfl) ?_
  refine lv_aload_n hx hb dL_law_1601 rfl (lv_at hl 0 rfl) ?_
  refine lv_iload_n hx hb dL_law_1602 rfl (lv_at hl 3 rfl) ?_
  refine lv_iconst (v := 1) hx hb dL_law_1603 (by decide) ?_
  refine lv_iadd hx hb dL_law_1604 ?_
  refine va_sld hx hb hX hbl hbA hS v0 dL_law_1605 ?_
  refine lv_aload_n hx hb dL_law_1606 rfl (lv_at hl 0 rfl) ?_
  refine lv_iload_n hx hb dL_law_1607 rfl (lv_at hl 3 rfl) ?_
  refine lv_iconst (v := 2) hx hb dL_law_1608 (by decide) ?_
  refine lv_iadd hx hb dL_law_1609 ?_
  refine va_sld hx hb hX hbl hbA hS v1 dL_law_1610 ?_
  refine lv_aload_n hx hb dL_law_1611 rfl (lv_at hl 0 rfl) ?_
  refine lv_iload_n hx hb dL_law_1612 rfl (lv_at hl 3 rfl) ?_
  refine lv_iconst (v := 3) hx hb dL_law_1613 (by decide) ?_
  refine lv_iadd hx hb dL_law_1614 ?_
  refine va_sld hx hb hX hbl hbA hS v2 dL_law_1615 ?_
  refine lv_aload_n hx hb dL_law_1616 rfl (lv_at hl 0 rfl) ?_
  refine lv_iload_n hx hb dL_law_1617 rfl (lv_at hl 3 rfl) ?_
  refine lv_iconst (v := 4) hx hb dL_law_1618 (by decide) ?_
  refine lv_iadd hx hb dL_law_1619 ?_
  refine va_sld hx hb hX hbl hbA hS v3 dL_law_1620 ?_
  refine lv_aload_n hx hb dL_law_1621 rfl (lv_at hl 0 rfl) ?_
  refine lv_iload_n hx hb dL_law_1622 rfl (lv_at hl 3 rfl) ?_
  refine lv_iconst (v := 5) hx hb dL_law_1623 (by decide) ?_
  refine lv_iadd hx hb dL_law_1624 ?_
  refine va_sld hx hb hX hbl hbA hS v4 dL_law_1625 ?_
  refine rc_i (Af := fun φ => [.ref (φ 12 0), .int (xs (x3 + 1).toNatClampNeg), .int (xs (x3 + 2).toNatClampNeg), .int (xs (x3 + 3).toNatClampNeg), .int (xs (x3 + 4).toNatClampNeg), .int (xs (x3 + 5).toNatClampNeg)]) X hW hS ⟨by show _ ≤ 600000; omega, by show _ ≤ 7302250; omega⟩ (rn_V (As := [.int (xs (x3 + 1).toNatClampNeg), .int (xs (x3 + 2).toNatClampNeg), .int (xs (x3 + 3).toNatClampNeg), .int (xs (x3 + 4).toNatClampNeg), .int (xs (x3 + 5).toNatClampNeg)]) (rest := [.int r]) X hW hS cw_L_186 al2 rfl rfl rfl ⟨Nat.le_of_ble_eq_true rfl, Nat.le_of_ble_eq_true rfl⟩ rfl hl.1 rfl (Nat.le_of_ble_eq_true rfl) dL_law_1626) (ok_X12_copy 0 (xs (x3 + 1).toNatClampNeg) (xs (x3 + 2).toNatClampNeg) (xs (x3 + 3).toNatClampNeg) (xs (x3 + 4).toNatClampNeg) (xs (x3 + 5).toNatClampNeg) al2 e2) (fun H locs hW hS => ?_)
  refine lv_icmp_eq (tgt := 1704) hx hb dL_law_1629 (by decide) (fun _ => ?_) (fun c9 => absurd rfl c9)
  refine W.widen (k := (76 + 64 * (j + 1))) (n := (3034 + 768 * (j + 1))) (by omega) (by omega) ?_
  exact hend φ _ H locs ls hR hW hS hl
set_option maxHeartbeats 4000000 in
set_option maxRecDepth 100000 in
theorem lc_write {p : Program} {l : Launch} {e : Env} {s : State} {m : MethodId} {below : List Frame} {meth : Method} {c : Code} {D : va_G} {cA : Nat → ClassId} {A : Nat → Prop} {b L : Nat} {xs : Nat → Int32} {Q : State → Prop} {RL : HP → Prop} (X : CX p s m #[Value.ref b] c cL_law "BellYardsLaw" 4 D cA A) (hX : va_X b L xs s s.heap) (hbl : b < s.heap.size) (hbA : ¬ A b) (hL : L ≤ 3072) (hal : ∀ h, RL h → 0 < gn h 11 ∧ 0 < gn h 12) (cp : CP_write RL) {j : Nat} {x3 : Int32} (ex : x3 = nI (6 * j)) (hj : 6 * j + 6 ≤ L) {h : HP} {φ : Nat → Nat → Nat} {H : Heap} {locs : List Loc} {ls : Array Slot} (hR : RL h) (hW : HW D cA A φ h H) (hS : va_S A s.heap H locs) (hl : lv_has ls 4 [(0, .ref b), (1, .ref (φ 11 0)), (2, .ref (φ 12 0)), (3, .int x3)])
    (hend : ∀ (φ : Nat → Nat → Nat) (h : HP) (H : Heap) (locs : List Loc) (ls : Array Slot), RL h → HW D cA A φ h H → va_S A s.heap H locs → lv_has ls 4 [(0, .ref b), (1, .ref (φ 11 0)), (2, .ref (φ 12 0)), (3, .int x3)] → W p l e room_1 s m #[Value.ref b] below meth c H locs (76 + 64 * (j + 1)) (3034 + 768 * (j + 1)) Q (F0 m 1704 ls [])) : W p l e room_1 s m #[Value.ref b] below meth c H locs (76 + 64 * j) (3034 + 768 * j) Q (F0 m 1634 ls []) := by
  have hx := X.1
  have hb := X.2.1
  obtain ⟨al1, al2⟩ := hal h hR
  obtain ⟨r, d, d2, e1, e2, hR⟩ := cp h hR (xs (x3 + 1).toNatClampNeg) (xs (x3 + 2).toNatClampNeg)
  have v0 : vp_in (x3 + 1) L := by rw [ex]; exact li hL hj 1 (by decide)
  have v1 : vp_in (x3 + 2) L := by rw [ex]; exact li hL hj 2 (by decide)
  refine lv_aload_n hx hb dL_law_1634 rfl (lv_at hl 1 rfl) ?_
  refine lv_aload_n hx hb dL_law_1635 rfl (lv_at hl 0 rfl) ?_
  refine lv_iload_n hx hb dL_law_1636 rfl (lv_at hl 3 rfl) ?_
  refine lv_iconst (v := 1) hx hb dL_law_1637 (by decide) ?_
  refine lv_iadd hx hb dL_law_1638 ?_
  refine va_sld hx hb hX hbl hbA hS v0 dL_law_1639 ?_
  refine lv_aload_n hx hb dL_law_1640 rfl (lv_at hl 0 rfl) ?_
  refine lv_iload_n hx hb dL_law_1641 rfl (lv_at hl 3 rfl) ?_
  refine lv_iconst (v := 2) hx hb dL_law_1642 (by decide) ?_
  refine lv_iadd hx hb dL_law_1643 ?_
  refine va_sld hx hb hX hbl hbA hS v1 dL_law_1644 ?_
  refine rc_i (Af := fun φ => [.ref (φ 11 0), .int (xs (x3 + 1).toNatClampNeg), .int (xs (x3 + 2).toNatClampNeg)]) X hW hS ⟨by show _ ≤ 600000; omega, by show _ ≤ 7302250; omega⟩ (rn_V (As := [.int (xs (x3 + 1).toNatClampNeg), .int (xs (x3 + 2).toNatClampNeg)]) (rest := []) X hW hS cw_L_187 al1 rfl rfl rfl ⟨Nat.le_of_ble_eq_true rfl, Nat.le_of_ble_eq_true rfl⟩ rfl hl.1 rfl (Nat.le_of_ble_eq_true rfl) dL_law_1645) (ok_X11_write 0 (xs (x3 + 1).toNatClampNeg) (xs (x3 + 2).toNatClampNeg) al1 e1) (fun H locs hW hS => ?_)
  refine lv_aload_n hx hb dL_law_1648 rfl (lv_at hl 2 rfl) ?_
  refine lv_aload_n hx hb dL_law_1649 rfl (lv_at hl 0 rfl) ?_
  refine lv_iload_n hx hb dL_law_1650 rfl (lv_at hl 3 rfl) ?_
  refine lv_iconst (v := 1) hx hb dL_law_1651 (by decide) ?_
  refine lv_iadd hx hb dL_law_1652 ?_
  refine va_sld hx hb hX hbl hbA hS v0 dL_law_1653 ?_
  refine lv_aload_n hx hb dL_law_1654 rfl (lv_at hl 0 rfl) ?_
  refine lv_iload_n hx hb dL_law_1655 rfl (lv_at hl 3 rfl) ?_
  refine lv_iconst (v := 2) hx hb dL_law_1656 (by decide) ?_
  refine lv_iadd hx hb dL_law_1657 ?_
  refine va_sld hx hb hX hbl hbA hS v1 dL_law_1658 ?_
  refine rc_i (Af := fun φ => [.ref (φ 12 0), .int (xs (x3 + 1).toNatClampNeg), .int (xs (x3 + 2).toNatClampNeg)]) X hW hS ⟨by show _ ≤ 600000; omega, by show _ ≤ 7302250; omega⟩ (rn_V (As := [.int (xs (x3 + 1).toNatClampNeg), .int (xs (x3 + 2).toNatClampNeg)]) (rest := [.int r]) X hW hS cw_L_190 al2 rfl rfl rfl ⟨Nat.le_of_ble_eq_true rfl, Nat.le_of_ble_eq_true rfl⟩ rfl hl.1 rfl (Nat.le_of_ble_eq_true rfl) dL_law_1659) (ok_X12_write 0 (xs (x3 + 1).toNatClampNeg) (xs (x3 + 2).toNatClampNeg) al2 e2) (fun H locs hW hS => ?_)
  refine lv_icmp_eq (tgt := 1704) hx hb dL_law_1662 (by decide) (fun _ => ?_) (fun c9 => absurd rfl c9)
  refine W.widen (k := (76 + 64 * (j + 1))) (n := (3034 + 768 * (j + 1))) (by omega) (by omega) ?_
  exact hend φ _ H locs ls hR hW hS hl
set_option maxHeartbeats 4000000 in
set_option maxRecDepth 100000 in
theorem lc_count {p : Program} {l : Launch} {e : Env} {s : State} {m : MethodId} {below : List Frame} {meth : Method} {c : Code} {D : va_G} {cA : Nat → ClassId} {A : Nat → Prop} {b L : Nat} {xs : Nat → Int32} {Q : State → Prop} {RL : HP → Prop} (X : CX p s m #[Value.ref b] c cL_law "BellYardsLaw" 4 D cA A) (hX : va_X b L xs s s.heap) (hbl : b < s.heap.size) (hbA : ¬ A b) (hL : L ≤ 3072) (hal : ∀ h, RL h → 0 < gn h 11 ∧ 0 < gn h 12) (cp : CP_count RL) {j : Nat} {x3 : Int32} (ex : x3 = nI (6 * j)) (hj : 6 * j + 6 ≤ L) {h : HP} {φ : Nat → Nat → Nat} {H : Heap} {locs : List Loc} {ls : Array Slot} (hR : RL h) (hW : HW D cA A φ h H) (hS : va_S A s.heap H locs) (hl : lv_has ls 4 [(0, .ref b), (1, .ref (φ 11 0)), (2, .ref (φ 12 0)), (3, .int x3)])
    (hend : ∀ (φ : Nat → Nat → Nat) (h : HP) (H : Heap) (locs : List Loc) (ls : Array Slot), RL h → HW D cA A φ h H → va_S A s.heap H locs → lv_has ls 4 [(0, .ref b), (1, .ref (φ 11 0)), (2, .ref (φ 12 0)), (3, .int x3)] → W p l e room_1 s m #[Value.ref b] below meth c H locs (76 + 64 * (j + 1)) (3034 + 768 * (j + 1)) Q (F0 m 1704 ls [])) : W p l e room_1 s m #[Value.ref b] below meth c H locs (76 + 64 * j) (3034 + 768 * j) Q (F0 m 1667 ls []) := by
  have hx := X.1
  have hb := X.2.1
  obtain ⟨al1, al2⟩ := hal h hR
  obtain ⟨r, e1, e2, hR⟩ := cp h hR (xs (x3 + 1).toNatClampNeg)
  have v0 : vp_in (x3 + 1) L := by rw [ex]; exact li hL hj 1 (by decide)
  refine lv_aload_n hx hb dL_law_1667 rfl (lv_at hl 1 rfl) ?_
  refine lv_aload_n hx hb dL_law_1668 rfl (lv_at hl 0 rfl) ?_
  refine lv_iload_n hx hb dL_law_1669 rfl (lv_at hl 3 rfl) ?_
  refine lv_iconst (v := 1) hx hb dL_law_1670 (by decide) ?_
  refine lv_iadd hx hb dL_law_1671 ?_
  refine va_sld hx hb hX hbl hbA hS v0 dL_law_1672 ?_
  refine rc_i (Af := fun φ => [.ref (φ 11 0), .int (xs (x3 + 1).toNatClampNeg)]) X hW hS ⟨by show _ ≤ 600000; omega, by show _ ≤ 7302250; omega⟩ (rn_V (As := [.int (xs (x3 + 1).toNatClampNeg)]) (rest := []) X hW hS cw_L_191 al1 rfl rfl rfl ⟨Nat.le_of_ble_eq_true rfl, Nat.le_of_ble_eq_true rfl⟩ rfl hl.1 rfl (Nat.le_of_ble_eq_true rfl) dL_law_1673) (ok_X11_count 0 (xs (x3 + 1).toNatClampNeg) al1 e1) (fun H locs hW hS => ?_)
  refine lv_aload_n hx hb dL_law_1676 rfl (lv_at hl 2 rfl) ?_
  refine lv_aload_n hx hb dL_law_1677 rfl (lv_at hl 0 rfl) ?_
  refine lv_iload_n hx hb dL_law_1678 rfl (lv_at hl 3 rfl) ?_
  refine lv_iconst (v := 1) hx hb dL_law_1679 (by decide) ?_
  refine lv_iadd hx hb dL_law_1680 ?_
  refine va_sld hx hb hX hbl hbA hS v0 dL_law_1681 ?_
  refine rc_i (Af := fun φ => [.ref (φ 12 0), .int (xs (x3 + 1).toNatClampNeg)]) X hW hS ⟨by show _ ≤ 600000; omega, by show _ ≤ 7302250; omega⟩ (rn_V (As := [.int (xs (x3 + 1).toNatClampNeg)]) (rest := [.int r]) X hW hS cw_L_194 al2 rfl rfl rfl ⟨Nat.le_of_ble_eq_true rfl, Nat.le_of_ble_eq_true rfl⟩ rfl hl.1 rfl (Nat.le_of_ble_eq_true rfl) dL_law_1682) (ok_X12_count 0 (xs (x3 + 1).toNatClampNeg) al2 e2) (fun H locs hW hS => ?_)
  refine lv_icmp_eq (tgt := 1704) hx hb dL_law_1685 (by decide) (fun _ => ?_) (fun c9 => absurd rfl c9)
  refine W.widen (k := (76 + 64 * (j + 1))) (n := (3034 + 768 * (j + 1))) (by omega) (by omega) ?_
  exact hend φ _ H locs ls hR hW hS hl
set_option maxHeartbeats 4000000 in
set_option maxRecDepth 100000 in
theorem lc_digest {p : Program} {l : Launch} {e : Env} {s : State} {m : MethodId} {below : List Frame} {meth : Method} {c : Code} {D : va_G} {cA : Nat → ClassId} {A : Nat → Prop} {b L : Nat} {xs : Nat → Int32} {Q : State → Prop} {RL : HP → Prop} (X : CX p s m #[Value.ref b] c cL_law "BellYardsLaw" 4 D cA A) (hX : va_X b L xs s s.heap) (hbl : b < s.heap.size) (hbA : ¬ A b) (hL : L ≤ 3072) (hal : ∀ h, RL h → 0 < gn h 11 ∧ 0 < gn h 12) (cp : CP_digest RL) {j : Nat} {x3 : Int32} (ex : x3 = nI (6 * j)) (hj : 6 * j + 6 ≤ L) {h : HP} {φ : Nat → Nat → Nat} {H : Heap} {locs : List Loc} {ls : Array Slot} (hR : RL h) (hW : HW D cA A φ h H) (hS : va_S A s.heap H locs) (hl : lv_has ls 4 [(0, .ref b), (1, .ref (φ 11 0)), (2, .ref (φ 12 0)), (3, .int x3)])
    (hend : ∀ (φ : Nat → Nat → Nat) (h : HP) (H : Heap) (locs : List Loc) (ls : Array Slot), RL h → HW D cA A φ h H → va_S A s.heap H locs → lv_has ls 4 [(0, .ref b), (1, .ref (φ 11 0)), (2, .ref (φ 12 0)), (3, .int x3)] → W p l e room_1 s m #[Value.ref b] below meth c H locs (76 + 64 * (j + 1)) (3034 + 768 * (j + 1)) Q (F0 m 1704 ls [])) : W p l e room_1 s m #[Value.ref b] below meth c H locs (76 + 64 * j) (3034 + 768 * j) Q (F0 m 1690 ls []) := by
  have hx := X.1
  have hb := X.2.1
  obtain ⟨al1, al2⟩ := hal h hR
  obtain ⟨r, d, d2, e1, e2, hR⟩ := cp h hR 
  refine lv_aload_n hx hb dL_law_1690 rfl (lv_at hl 1 rfl) ?_
  refine rc_l (Af := fun φ => [.ref (φ 11 0)]) X hW hS ⟨by show _ ≤ 600000; omega, by show _ ≤ 7302250; omega⟩ (rn_V (As := []) (rest := []) X hW hS cw_L_195 al1 rfl rfl rfl ⟨Nat.le_of_ble_eq_true rfl, Nat.le_of_ble_eq_true rfl⟩ rfl hl.1 rfl (Nat.le_of_ble_eq_true rfl) dL_law_1691) (ok_X11_digest 0 al1 e1) (fun H locs hW hS => ?_)
  refine lv_aload_n hx hb dL_law_1694 rfl (lv_at hl 2 rfl) ?_
  refine rc_l (Af := fun φ => [.ref (φ 12 0)]) X hW hS ⟨by show _ ≤ 600000; omega, by show _ ≤ 7302250; omega⟩ (rn_V (As := []) (rest := [.long r]) X hW hS cw_L_199 al2 rfl rfl rfl ⟨Nat.le_of_ble_eq_true rfl, Nat.le_of_ble_eq_true rfl⟩ rfl hl.1 rfl (Nat.le_of_ble_eq_true rfl) dL_law_1695) (ok_X12_digest 0 al2 e2) (fun H locs hW hS => ?_)
  refine W.lcmp hx hb dL_law_1698 ?_
  refine lv_if_eq (tgt := 1704) hx hb dL_law_1699 (by decide) (fun _ => ?_) (fun c9 => absurd (by simp [lg_cmp]) c9)
  refine W.widen (k := (76 + 64 * (j + 1))) (n := (3034 + 768 * (j + 1))) (by omega) (by omega) ?_
  exact hend φ _ H locs ls hR hW hS hl
