/-! stage III: the class works a batch out -/
/-- what the bells are, as a batch asks them -/
def BF (h : HP) (n : Nat) (W T : Nat → Int32) : Prop := gr h 2 0 0 = some 0 ∧ gi h 2 0 1 = nI n ∧ n ≤ 20 ∧ ∀ b, b < n → gr h 23 0 b = some b ∧ gi h 1 b 1 = W b ∧ gi h 1 b 3 = T b ∧ cn (W b) 9999
def E84 (o : Nat) (h h' : HP) : Prop := h'.2.2 = h.2.2 ∧ (∀ k i s, ¬ (k = 84 ∧ i = o) → gi h' k i s = gi h k i s) ∧ gl h' = gl h
theorem BF.eo {o n : Nat} {h h' : HP} {W T : Nat → Int32} (x : EO o h h') (F : BF h n W T) : BF h' n W T := by
  obtain ⟨f1, f2, f3, f4⟩ := F
  refine ⟨by rw [gr_22 x.1]; exact f1, by rw [x.2.1 _ _ _ (by omega)]; exact f2, f3, fun b hb => ?_⟩
  obtain ⟨g1, g2, g3, g4⟩ := f4 b hb
  exact ⟨by rw [gr_22 x.1]; exact g1, by rw [x.2.1 _ _ _ (by omega)]; exact g2, by rw [x.2.1 _ _ _ (by omega)]; exact g3, g4⟩
theorem BF.e84 {o n : Nat} {h h' : HP} {W T : Nat → Int32} (x : E84 o h h') (F : BF h n W T) : BF h' n W T := by
  obtain ⟨f1, f2, f3, f4⟩ := F
  refine ⟨by rw [gr_22 x.1]; exact f1, by rw [x.2.1 _ _ _ (by omega)]; exact f2, f3, fun b hb => ?_⟩
  obtain ⟨g1, g2, g3, g4⟩ := f4 b hb
  exact ⟨by rw [gr_22 x.1]; exact g1, by rw [x.2.1 _ _ _ (by omega)]; exact g2, by rw [x.2.1 _ _ _ (by omega)]; exact g3, g4⟩
/-- the members in their row -/
theorem e_members {h3 : HP} {n m : Nat} {W T : Nat → Int32} (F : BF h3 n W T) (hm : m < 2147483648) (hl : (mbs m n).length ≤ 12) (i0 o : Nat) : ∃ h', loopN LF (B_X0_workOut_11 i0 0 (nI m) o h3) (0, 0, dp h3) = some (nI (mbs m n).length, dp h') ∧ E84 o h3 h' ∧ ∀ t, t < (mbs m n).length → gi h' 84 o t = nI (mb m n t) := by
  have hn := F.2.2.1
  have hl2 : ∃ r : Int32 × DP, loopN LF (B_X0_workOut_11 i0 0 (nI m) o h3) (0, 0, dp h3) = some r ∧ ∃ h', r = (nI (mbs m n).length, dp h') ∧ E84 o h3 h' ∧ ∀ t, t < (mbs m n).length → gi h' 84 o t = nI (mb m n t) := by
    refine loopI (fun b q => ∃ h', q = (nI (mbs m b).length, nI b, dp h') ∧ E84 o h3 h' ∧ ∀ t, t < (mbs m b).length → gi h' 84 o t = nI (mb m n t)) _ n (by omega) ⟨h3, rfl, ⟨rfl, fun _ _ _ _ => rfl, rfl⟩, fun t ht => absurd ht (Nat.not_lt_zero t)⟩ ?_
    intro b q hb ⟨h1, hq, x, g⟩
    subst hq
    have hwd : wd h3 (dp h1) = h1 := wd_dp x.1
    have F1 := F.e84 x
    obtain ⟨l, hpre⟩ := mbs_pre m b n hb
    have hlen : (mbs m n).length = (mbs m b).length + l.length := by rw [hpre, List.length_append]
    by_cases c : b < n
    · by_cases c2 : 12 ≤ (mbs m b).length
      · right
        have hl0 : l = [] := List.eq_nil_of_length_eq_zero (by omega)
        have e : mbs m n = mbs m b := by rw [hpre, hl0, List.append_nil]
        refine ⟨(nI (mbs m b).length, dp h1), ?_, h1, by rw [e], x, by rw [e]; exact g⟩
        unfold B_X0_workOut_11
        simp only [nm, u3, hwd]
        rw [F1.2.1, if_neg (nI_ge c (by omega)), if_pos (show (12 : Int32) ≤ nI (mbs m b).length from nI_le (a := 12) c2 (by omega))]
      · left
        have hs := mbs_s m b
        by_cases c3 : m.testBit b = true
        · rw [if_pos c3] at hs
          have hlb : (mbs m (b + 1)).length = (mbs m b).length + 1 := by rw [hs, List.length_append]; rfl
          refine ⟨(nI (mbs m (b + 1)).length, nI (b + 1), dp (si h1 84 o (mbs m b).length (nI b))), c, ?_, _, rfl, ⟨x.1, fun k i s e => ?_, x.2.2⟩, fun t ht => ?_⟩
          · unfold B_X0_workOut_11
            simp only [nm, u3, hwd]
            rw [F1.2.1, if_neg (nI_ge c (by omega)), if_neg (show ¬ (12 : Int32) ≤ nI (mbs m b).length from nI_ge (a := (mbs m b).length) (b := 12) (by omega) (by omega)), bt_test hm (by omega), if_pos c3, if_pos rfl]
            rw [sa_v (show (mbs m b).length < 12 by omega) (by omega), Option.bind_some, nI_1, nI_1, hlb]
          · rw [gi_si, if_neg (fun q => e ⟨q.1, q.2.1⟩)]
            exact x.2.1 k i s e
          · rw [gi_si]
            by_cases e : t = (mbs m b).length
            · rw [if_pos ⟨rfl, rfl, e⟩, e, mb_at c c3]
            · rw [if_neg (fun q => e q.2.2)]
              exact g t (by omega)
        · rw [if_neg c3] at hs
          refine ⟨(nI (mbs m (b + 1)).length, nI (b + 1), dp h1), c, ?_, h1, rfl, x, by rw [hs]; exact g⟩
          unfold B_X0_workOut_11
          simp only [nm, u3, hwd]
          rw [F1.2.1, if_neg (nI_ge c (by omega)), if_neg (show ¬ (12 : Int32) ≤ nI (mbs m b).length from nI_ge (a := (mbs m b).length) (b := 12) (by omega) (by omega)), bt_test hm (by omega), if_neg c3, if_neg (by decide), nI_1, hs]
    · right
      have e : b = n := by omega
      subst e
      refine ⟨(nI (mbs m b).length, dp h1), ?_, h1, rfl, x, g⟩
      unfold B_X0_workOut_11
      simp only [nm, u3, hwd]
      rw [F1.2.1, if_pos (nI_le (Nat.le_refl _) (by omega))]
  obtain ⟨r, h1, h', e, x⟩ := hl2
  exact ⟨h', by rw [h1, e], x⟩
theorem mb_in {m N k : Nat} (h : k < (mbs m N).length) : mb m N k < N ∧ m.testBit (mb m N k) = true := by
  unfold mb
  rw [List.getElem?_eq_getElem h]
  exact mbs_lt m N _ (List.getElem_mem h)
theorem gx_sub {m N : Nat} (hN : (mbs m N).length ≤ 12) : ∀ t, t < 2 ^ (mbs m N).length → gx (mb m N) t &&& m = gx (mb m N) t := by
  intro t
  induction t with
  | zero => intro _; exact Nat.zero_and _
  | succ t ih =>
    intro h
    have i := ih (by omega)
    have hz := mb_in (m := m) (N := N) (ntz_lt 12 (t + 1) _ (by omega) h hN)
    show (gx (mb m N) t ^^^ 2 ^ mb m N (ntzN 12 (t + 1))) &&& m = _
    apply Nat.eq_of_testBit_eq
    intro j
    rw [Nat.testBit_and, tb_xor]
    by_cases c : mb m N (ntzN 12 (t + 1)) = j
    · rw [← c, hz.2, Bool.and_true]
      show _ = (gx (mb m N) t ^^^ 2 ^ mb m N (ntzN 12 (t + 1))).testBit _
      rw [tb_xor]
    · rw [if_neg c]
      show _ = (gx (mb m N) t ^^^ 2 ^ mb m N (ntzN 12 (t + 1))).testBit _
      rw [tb_xor, if_neg c, ← Nat.testBit_and, i]
theorem sub_le {z m : Nat} (h : z &&& m = z) : z ≤ m := by rw [← h]; exact Nat.and_le_right
/-- a batch as it was told -/
def BT (h : HP) (o : Nat) (w : Nat) (d lo hi : Int32) : Prop := gi h 0 o 0 = nI w ∧ gi h 0 o 1 = d ∧ gi h 0 o 2 = lo ∧ gi h 0 o 3 = hi
theorem stp_cnt (ok : Nat → Bool) : ∀ (l : List Nat) (s : GA), (l.foldl (stp ok) s).1 ≤ s.1 + l.length := by
  intro l
  induction l with
  | nil => intro s; exact Nat.le_refl _
  | cons x l ih =>
    intro s
    have h := ih (stp ok s x)
    have h2 : (stp ok s x).1 ≤ s.1 + 1 := by
      unfold stp
      split
      · exact Nat.le_refl _
      · omega
    show (l.foldl (stp ok) (stp ok s x)).1 ≤ s.1 + (l.length + 1)
    omega
theorem e_workOut {h : HP} {o n m w : Nat} {d lo hi : Int32} {W T : Nat → Int32} (F : BF h n W T) (B : BT h o w d lo hi) (hw : w < 1000000) (hm : m < 2 ^ n) (hl : (mbs m n).length ≤ 12) (z4 : gi h 0 o 4 = 0) (z5 : gi h 0 o 5 = -1) (z6 : gi h 0 o 6 = 0) (z7 : gi h 0 o 7 = 0) :
    ∃ h', F_X0_workOut o 0 (nI m) h = some h' ∧ h'.2.2 = (nw h 84).2.2 ∧ (∀ k i s, k ≠ 84 → ¬ (k = 0 ∧ i = o ∧ 4 ≤ s) → gi h' k i s = gi h k i s) ∧ KR h' o (gall (bl W T (nI w) d lo hi m)) := by
  have hn := F.2.2.1
  have hm20 : m < 2 ^ 20 := Nat.lt_of_lt_of_le hm (Nat.pow_le_pow_right (by decide) hn)
  have h20 : (2 : Nat) ^ 20 = 1048576 := by decide
  have F0 : BF (nw h 84) n W T := by
    obtain ⟨f1, f2, f3, f4⟩ := F
    refine ⟨by rw [gr_nw, if_neg (by omega)]; exact f1, by rw [gi_nw, if_neg (by omega)]; exact f2, f3, fun b hb => ?_⟩
    obtain ⟨g1, g2, g3, g4⟩ := f4 b hb
    exact ⟨by rw [gr_nw, if_neg (by omega)]; exact g1, by rw [gi_nw, if_neg (by omega)]; exact g2, by rw [gi_nw, if_neg (by omega)]; exact g3, g4⟩
  obtain ⟨h1, l1, x1, g1⟩ := e_members F0 (m := m) (by omega) hl o (gn h 84)
  have hwd1 : wd (nw h 84) (dp h1) = h1 := wd_dp x1.1
  have F1 := F0.e84 x1
  have at0 : ∀ s, gi h1 0 o s = gi h 0 o s := fun s => by rw [x1.2.1 _ _ _ (by omega), gi_nw, if_neg (by omega)]
  have sumW : ∀ x, x &&& m = x → ∃ A, A < 1000000000 ∧ sumS W x 20 = nI A := by
    intro x hx
    obtain ⟨A, hA, eA⟩ := sumS_cn (f := W) (S := x) 20 (Nat.le_refl _) (fun b hb c => (F.2.2.2 b (bit_lt hm (sub_bit hx c))).2.2.2)
    exact ⟨A, by omega, eA⟩
  have K0 : KR h1 o (0, 0, 0, 0) := ⟨⟨by rw [at0]; exact z4, by rw [at0]; exact z5, by rw [at0]; exact z6, by rw [at0]; exact z7⟩, by show (0 : Nat) < 1000000; omega, by show (0 : Nat) < 1048576; omega⟩
  obtain ⟨h2, q1, q2, q3⟩ := e_consider (W := W) (T := T) (x := 0) (A := 0) (B := w) (d := d) (lo := lo) (hi := hi) (by omega) (by omega) (sumS_0 W 20) K0 (by rw [at0]; exact B.1) (by rw [at0]; exact B.2.1) (by rw [at0]; exact B.2.2.1) (by rw [at0]; exact B.2.2.2) (by omega) (by show (0 : Nat) < 999999; omega)
  rw [sumS_0, sumS_0] at q1
  have hwd2 : wd h1 (dp h2) = h2 := wd_dp q2.1
  have hp : 2 ^ (mbs m n).length ≤ 4096 := Nat.pow_le_pow_right (by decide) hl
  have hp1 := Nat.two_pow_pos (mbs m n).length
  have l2 : ∃ r : DP, loopN LF (B_X0_workOut_74 o 0 (gn h 84) (nI (mbs m n).length) h2) (0, 0, 0, 1, dp h2) = some r ∧ ∃ h', r = dp h' ∧ EO o h1 h' ∧ KR h' o (((List.range (2 ^ (mbs m n).length)).map (gx (mb m n))).foldl (stp (okB W T (nI w) d lo hi)) (0, 0, 0, 0)) := by
    refine loopI (fun t q => ∃ h', q = (nI (gx (mb m n) t), sumS W (gx (mb m n) t) 20, sumS (fun b => W b * T b) (gx (mb m n) t) 20, nI (t + 1), dp h') ∧ t < 2 ^ (mbs m n).length ∧ EO o h1 h' ∧ KR h' o (((List.range (t + 1)).map (gx (mb m n))).foldl (stp (okB W T (nI w) d lo hi)) (0, 0, 0, 0))) _ (2 ^ (mbs m n).length) (by omega) ⟨h2, ?_, hp1, q2, q3⟩ ?_
    · show _ = (nI 0, sumS W 0 20, sumS (fun b => W b * T b) 0 20, nI 1, dp h2)
      rw [sumS_0, sumS_0]
      rfl
    · intro t q _ ⟨h3, hq, ht, x, K⟩
      subst hq
      have hwd : wd h2 (dp h3) = h3 := wd_dp (x.1.trans q2.1.symm)
      have F3 := F1.eo x
      by_cases c : t + 1 < 2 ^ (mbs m n).length
      · left
        have hz := ntz_lt 12 (t + 1) _ (by omega) c hl
        have hb := (mb_in hz).1
        have hgs := gx_sub hl (t + 1) c
        have hgt := gx_sub hl t ht
        have hle := sub_le hgs
        have hle0 := sub_le hgt
        obtain ⟨f1, f2, f3, f4⟩ := F3
        obtain ⟨r1, r2, r3, r4⟩ := f4 _ hb
        have e84 : gi h3 84 (gn h 84) (ntzN 12 (t + 1)) = nI (mb m n (ntzN 12 (t + 1))) := by rw [x.2.1 _ _ _ (by omega)]; exact g1 _ hz
        have ex : nI (gx (mb m n) t) ^^^ nI (2 ^ mb m n (ntzN 12 (t + 1))) = nI (gx (mb m n) (t + 1)) := nx_xor _ _
        have tbx : (gx (mb m n) (t + 1)).testBit (mb m n (ntzN 12 (t + 1))) = !(gx (mb m n) t).testBit (mb m n (ntzN 12 (t + 1))) := by
          show (gx (mb m n) t ^^^ 2 ^ mb m n (ntzN 12 (t + 1))).testBit _ = _
          rw [tb_xor, if_pos rfl]
        have flip : ∀ f : Nat → Int32, sumS f (gx (mb m n) (t + 1)) 20 = sumS f (gx (mb m n) t) 20 + (if (gx (mb m n) t).testBit (mb m n (ntzN 12 (t + 1))) = true then -f (mb m n (ntzN 12 (t + 1))) else f (mb m n (ntzN 12 (t + 1)))) := fun f => sumS_flip f _ _ 20 (by omega)
        have fW := flip W
        have fP := flip (fun b => W b * T b)
        obtain ⟨A, hA, eA⟩ := sumW _ hgs
        have at3 : ∀ s, s < 4 → gi h3 0 o s = gi h 0 o s := fun s hs => by rw [x.2.1 _ _ _ (by omega)]; exact at0 s
        have cnt := stp_cnt (okB W T (nI w) d lo hi) ((List.range (t + 1)).map (gx (mb m n))) (0, 0, 0, 0)
        rw [List.length_map, List.length_range] at cnt
        have cnt2 : (((List.range (t + 1)).map (gx (mb m n))).foldl (stp (okB W T (nI w) d lo hi)) (0, 0, 0, 0)).1 ≤ 0 + (t + 1) := cnt
        obtain ⟨h4, p1, p2, p3⟩ := e_consider (W := W) (T := T) (x := gx (mb m n) (t + 1)) (A := A) (B := w) (d := d) (lo := lo) (hi := hi) (by omega) hA eA K (by rw [at3 0 (by omega)]; exact B.1) (by rw [at3 1 (by omega)]; exact B.2.1) (by rw [at3 2 (by omega)]; exact B.2.2.1) (by rw [at3 3 (by omega)]; exact B.2.2.2) (by omega) (by omega)
        have j136 : ∀ t0 : Int32, sumS W (gx (mb m n) t) 20 + t0 = sumS W (gx (mb m n) (t + 1)) 20 → sumS (fun b => W b * T b) (gx (mb m n) t) 20 + t0 * T (mb m n (ntzN 12 (t + 1))) = sumS (fun b => W b * T b) (gx (mb m n) (t + 1)) 20 → J_X0_workOut_136 o 0 (gn h 84) (nI (mbs m n).length) (nI (gx (mb m n) (t + 1))) (sumS W (gx (mb m n) t) 20) (sumS (fun b => W b * T b) (gx (mb m n) t) 20) (nI (t + 1)) (nI (mb m n (ntzN 12 (t + 1)))) t0 h3 = some (.inl (nI (gx (mb m n) (t + 1)), sumS W (gx (mb m n) (t + 1)) 20, sumS (fun b => W b * T b) (gx (mb m n) (t + 1)) 20, nI (t + 1 + 1), dp h4)) := by
          intro t0 e1 e2
          unfold J_X0_workOut_136
          simp only [nm]
          rw [e1, f1, Option.bind_some, gar_v (show mb m n (ntzN 12 (t + 1)) < 20 by omega) (by omega), r1, Option.bind_some, r3, e2, p1, Option.bind_some, wd_dp p2.1, nI_1]
        refine ⟨_, by omega, ?_, h4, rfl, c, x.t p2, ?_⟩
        · unfold B_X0_workOut_74
          simp only [nm, u5]
          rw [hwd, bt_shl1 (show (mbs m n).length < 31 by omega), if_neg (nI_ge c (by omega)), e_ntz (show t + 1 < 4096 by omega) (by omega), Option.bind_some, ga_v (show ntzN 12 (t + 1) < 12 by omega) (by omega), Option.bind_some, e84, bt_shl1 (show mb m n (ntzN 12 (t + 1)) < 31 by omega), ex, bt_test (show gx (mb m n) (t + 1) < 2147483648 by omega) (show mb m n (ntzN 12 (t + 1)) < 31 by omega), ite_b1, f1, Option.bind_some, gar_v (show mb m n (ntzN 12 (t + 1)) < 20 by omega) (by omega), r1, Option.bind_some, r2, Option.bind_some, gar_v (show mb m n (ntzN 12 (t + 1)) < 20 by omega) (by omega), r1, Option.bind_some, r2]
          by_cases c5 : (gx (mb m n) t).testBit (mb m n (ntzN 12 (t + 1))) = true
          · rw [if_pos c5] at fW fP
            rw [if_neg (by rw [tbx, c5]; decide)]
            exact j136 _ fW.symm (by rw [fP, Int32.neg_mul])
          · rw [if_neg c5] at fW fP
            rw [if_pos (by rw [tbx, Bool.eq_false_iff.mpr c5]; rfl)]
            exact j136 _ fW.symm fP.symm
        · rw [List.range_succ, List.map_append, List.foldl_append]
          exact p3
      · right
        have e : t + 1 = 2 ^ (mbs m n).length := by omega
        refine ⟨dp h3, ?_, h3, rfl, x, by rw [← e]; exact K⟩
        unfold B_X0_workOut_74
        simp only [nm, u5]
        rw [hwd, bt_shl1 (show (mbs m n).length < 31 by omega), if_pos (nI_le (by omega) (by omega))]
  obtain ⟨r, l2, h5, rfl, x5, K5⟩ := l2
  refine ⟨h5, ?_, x5.1.trans x1.1, fun k i s hk hne => ?_, ?_⟩
  · unfold F_X0_workOut
    simp only [nm, u2]
    rw [l1, Option.bind_some, hwd1, (show F_X0_consider o 0 0 0 h1 = some (dp h2) from q1), Option.bind_some, hwd2, l2, Option.bind_some, wd_dp (x5.1.trans q2.1.symm)]
  · rw [x5.2.1 _ _ _ hne, x1.2.1 _ _ _ (fun q => hk q.1), gi_nw, if_neg (fun q => hk q.1)]
  · rw [← gall_filter] at K5
    unfold bl
    rw [← gall_perm ((gray_subm hm hn hl).filter (okB W T (nI w) d lo hi))]
    exact K5
