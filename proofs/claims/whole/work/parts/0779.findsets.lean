/-! stage III: the reference finds the sets; sets, held, batch -/
theorem ck_43 {h : HP} (R : RQ h) {k : Nat} (hk : k < NK (ms h)) : gr h 43 0 k = some k := (R.k.2.2.2 k hk).1
def blK (m : Nat → Nat → Int32) (k : Nat) : List Nat := bl (m 51) (m 53) (m 72 k) (m 73 k) (m 74 k) (m 75 k) (m 76 k).toNatClampNeg
theorem ck_4 {h : HP} (R : RQ h) {k : Nat} (hk : k < NK (ms h)) : gi h 0 k 4 = nI (blK (ms h) k).length := (R.k.2.2.2 k hk).2.1.1
theorem ck_5 {h : HP} (R : RQ h) {k : Nat} (hk : k < NK (ms h)) : gi h 0 k 5 = hdI (blK (ms h) k) := (R.k.2.2.2 k hk).2.1.2.1
theorem ck_6 {h : HP} (R : RQ h) {k : Nat} (hk : k < NK (ms h)) : gi h 0 k 6 = nI (andL (blK (ms h) k)) := (R.k.2.2.2 k hk).2.1.2.2.1
theorem ck_7 {h : HP} (R : RQ h) {k : Nat} (hk : k < NK (ms h)) : gi h 0 k 7 = nI (orL (blK (ms h) k)) := (R.k.2.2.2 k hk).2.1.2.2.2
def mkN (m : Nat → Nat → Int32) (k : Nat) : Nat := (m 76 k).toNatClampNeg
theorem n_76 {m : Nat → Nat → Int32} (W : MW m) {k : Nat} (hk : k < NK m) : m 76 k = nI (mkN m k) ∧ mkN m k < 2 ^ NB m ∧ fb_ct (fun i => (mkN m k).testBit i) 20 ≤ 12 := by obtain ⟨h, R, rfl⟩ := W; exact (R.k.2.2.2 k hk).2.2.1
theorem n_72 {m : Nat → Nat → Int32} (W : MW m) {k : Nat} (hk : k < NK m) : cn (m 72 k) 99999 := by obtain ⟨h, R, rfl⟩ := W; exact (R.k.2.2.2 k hk).2.2.2.1
theorem fl_len (b : Nat → Nat) : ∀ k X, (fl b k X).length = 2 ^ k := by
  intro k
  induction k with
  | zero => intro X; rfl
  | succ k ih =>
    intro X
    show (fl b k X ++ fl b k (X ^^^ 2 ^ b k)).length = _
    rw [List.length_append, ih, ih, Nat.pow_succ]
    omega
theorem subm_len (m : Nat) (h : fb_ct (fun i => m.testBit i) 20 ≤ 12) : (subm 20 m).length ≤ 4096 := by
  rw [subm_fl m 20 20 (Nat.le_refl _), fl_len, mbs_len]
  exact Nat.pow_le_pow_right (n := 2) (by decide) h
def pre (m x : Nat) : List Nat := (List.range x).filter (isSub m)
theorem pre_s (m x : Nat) : pre m (x + 1) = if isSub m x = true then pre m x ++ [x] else pre m x := by
  unfold pre
  rw [List.range_succ, List.filter_append]
  by_cases c : isSub m x = true
  · rw [if_pos c, List.filter_cons_of_pos c]
    rfl
  · rw [if_neg c, List.filter_cons_of_neg c, List.filter_nil, List.append_nil]
theorem pre_gap (m x : Nat) : ∀ d, (∀ z, x ≤ z → z < x + d → ¬ z &&& m = z) → pre m (x + d) = pre m x := by
  intro d
  induction d with
  | zero => intro _; rfl
  | succ d ih =>
    intro h
    show pre m (x + d + 1) = _
    rw [pre_s, if_neg, ih (fun z h1 h2 => h z h1 (by omega))]
    unfold isSub
    rw [decide_eq_true_eq]
    exact h (x + d) (by omega) (by omega)
theorem pre_next {m x y : Nat} (hx : x &&& m = x) (hy : x < y) (h : ∀ z, x < z → z < y → ¬ z &&& m = z) : pre m y = pre m x ++ [x] := by
  obtain ⟨d, rfl⟩ : ∃ d, y = x + 1 + d := ⟨y - (x + 1), by omega⟩
  rw [pre_gap m (x + 1) d (fun z h1 h2 => h z (by omega) h2), pre_s, if_pos]
  exact decide_eq_true hx
theorem pre_end {m : Nat} (hm : m < 1048576) : pre m m ++ [m] = subm 20 m := by
  have h20 : (2 : Nat) ^ 20 = 1048576 := by decide
  rw [subm_range, h20]
  have e := pre_next (m := m) (x := m) (y := 1048576) (Nat.and_self m) hm (fun z h1 _ h3 => by have := sub_le h3; omega)
  unfold pre at e ⊢
  rw [e]
theorem e_next {x m : Nat} (hm : m < 1048576) (hx : x ≤ m) : (nI x - nI m) &&& nI m = nI ((2 ^ 32 + x - m) &&& m) := by
  have e : nI x - nI m = nI (2 ^ 32 + x - m) := by
    have h1 : nI (2 ^ 32 + x - m) + nI m = nI x := by
      rw [nI_add, show 2 ^ 32 + x - m + m = x + 2 ^ 32 by omega, ← nI_add, show nI (2 ^ 32) = 0 by decide, Int32.add_zero]
    rw [← h1, Int32.sub_eq_add_neg, Int32.add_assoc, Int32.add_right_neg, Int32.add_zero]
  rw [e, fa_and]
theorem f_isSet {h : HP} (G : gR h.2.2) (W : MW (ms h)) {k : Nat} (hk : k < NK (ms h)) {x : Nat} (hx : x < 2 ^ NB (ms h)) : F_X12_isSet 0 (nI k) (nI x) h = some (if okB (ms h 51) (ms h 53) (ms h 72 k) (ms h 73 k) (ms h 74 k) (ms h 75 k) x = true then 1 else 0) := by
  have hb := b_nb W
  have hk6 := b_nk W
  have hx20 : x < 1048576 := Nat.lt_of_lt_of_le hx (Nat.pow_le_pow_right (n := 2) (by decide) hb)
  have l1 : loopN LF (B_X12_isSet_8 0 (nI k) (nI x) h) (0, 0, 0) = some (sumS (ms h 51) x (NB (ms h)), sumS (fun b => ms h 51 b * ms h 53 b) x (NB (ms h))) := by
    refine loopS (fun b => (sumS (ms h 51) x b, sumS (fun b => ms h 51 b * ms h 53 b) x b, nI b)) (NB (ms h)) (by omega) ?_ ?_
    · intro b hbn
      unfold B_X12_isSet_8
      simp only [nm, u3]
      rw [m_12_8, v_nb W, if_neg (nI_ge hbn (by omega)), bt_test (by omega) (by omega), sumS_s, sumS_s]
      by_cases c : x.testBit b = true
      · rw [if_pos c, if_pos rfl, rf_12_10 G, Option.bind_some, ga_v (show b < 20 by omega) (by omega), Option.bind_some, m_51, Option.bind_some, ga_v (show b < 20 by omega) (by omega), Option.bind_some, m_51, rf_12_12 G, Option.bind_some, ga_v (show b < 20 by omega) (by omega), Option.bind_some, m_53, if_pos c, if_pos c, nI_1]
      · rw [if_neg c, if_neg (by decide), if_neg c, if_neg c, nI_1]
    · unfold B_X12_isSet_8
      simp only [u3]
      rw [m_12_8, v_nb W, if_pos (nI_le (Nat.le_refl _) (by omega))]
  obtain ⟨d, hd⟩ : ∃ d, 20 = NB (ms h) + d := ⟨20 - NB (ms h), by omega⟩
  have up : ∀ f, sumS f x (NB (ms h)) = sumS f x 20 := fun f => by
    have := sumS_up f hx d
    rw [← hd] at this
    exact this.symm
  rw [up, up] at l1
  obtain ⟨A, hA, eA⟩ := sumS_cn (f := ms h 51) (S := x) 20 (Nat.le_refl _) (fun b _ c => n_51 W (bit_lt hx c))
  obtain ⟨B, hB, eB⟩ := cn_ex (n_72 W hk)
  unfold F_X12_isSet
  simp only [u2]
  rw [l1, Option.bind_some, rf_12_40 G, Option.bind_some, ga_v (show k < 6 by omega) (by omega), Option.bind_some, m_72, eB, eA, f_apart (show A < 1000000000 by omega) (show B < 1000000000 by omega), Option.bind_some, rf_12_41 G, Option.bind_some, ga_v (show k < 6 by omega) (by omega), Option.bind_some, m_73, rf_12_42 G, Option.bind_some, ga_v (show k < 6 by omega) (by omega), Option.bind_some, m_74, rf_12_43 G, Option.bind_some, ga_v (show k < 6 by omega) (by omega), Option.bind_some, m_75]
  unfold okB
  rw [eA, apI_n A B (by omega) (by omega)]
  by_cases c1 : ms h 73 k < nI (apN A B)
  · rw [if_pos c1, decide_eq_false (fun q => (fa_of_lt c1).2.1 q), Bool.false_and, Bool.false_and, if_neg (by decide)]
  · rw [if_neg c1, decide_eq_true (fa_of_nlt c1), Bool.true_and]
    by_cases c2 : sumS (fun b => ms h 51 b * ms h 53 b) x 20 < ms h 74 k * nI A
    · rw [if_pos c2, decide_eq_false (fun q => (fa_of_lt c2).2.1 q), Bool.false_and, if_neg (by decide)]
    · rw [if_neg c2, decide_eq_true (fa_of_nlt c2), Bool.true_and]
      by_cases c3 : ms h 75 k * nI A < sumS (fun b => ms h 51 b * ms h 53 b) x 20
      · rw [if_pos c3, decide_eq_false (fun q => (fa_of_lt c3).2.1 q), if_neg (by decide)]
      · rw [if_neg c3, decide_eq_true (fa_of_nlt c3), if_pos rfl]
def FS (k s : Nat) : Bool := Nat.beq k 12 && (Nat.beq s 45 || (Nat.beq s 46 || (Nat.beq s 47 || Nat.beq s 48)))
theorem FS_la : ∀ k s, FS k s = true → la k s = false := by
  intro k s e
  unfold FS at e
  simp only [Bool.or_eq_true, Bool.and_eq_true, Nat.beq_eq] at e
  rcases e with ⟨rfl, rfl | rfl | rfl | rfl⟩ <;> rfl
def FR (h : HP) (m : Nat) (s : GA) : Prop := gi h 12 0 45 = nI s.1 ∧ gi h 12 0 46 = (if s.1 = 0 then -1 else nI s.2.1) ∧ gi h 12 0 47 = (if s.1 = 0 then nI m else nI s.2.2.1) ∧ gi h 12 0 48 = nI s.2.2.2
theorem f_findSets {h : HP} (G : gR h.2.2) (W : MW (ms h)) {k : Nat} (hk : k < NK (ms h)) : ∃ h', F_X12_findSets 0 (nI k) h = some (dp h') ∧ EX FS h h' ∧ FR h' (mkN (ms h) k) (gall (blK (ms h) k)) := by
  have hb := b_nb W
  have hk6 := b_nk W
  obtain ⟨em, hmB, hm12⟩ := n_76 W hk
  have hm20 : mkN (ms h) k < 1048576 := Nat.lt_of_lt_of_le hmB (Nat.pow_le_pow_right (n := 2) (by decide) hb)
  have hlen := subm_len _ hm12
  have x0 : EX FS h (si (si (si (si h 12 0 45 0) 12 0 46 (-1)) 12 0 47 (nI (mkN (ms h) k))) 12 0 48 0) := ((((EX.rfl' h).si 0 _ rfl).si 0 _ rfl).si 0 _ rfl).si 0 _ rfl
  have key : ∃ r : DP, loopN LF (B_X12_findSets_29 0 (nI k) (si (si (si (si h 12 0 45 0) 12 0 46 (-1)) 12 0 47 (nI (mkN (ms h) k))) 12 0 48 0)) (0, 1, dp (si (si (si (si h 12 0 45 0) 12 0 46 (-1)) 12 0 47 (nI (mkN (ms h) k))) 12 0 48 0)) = some r ∧ ∃ h', r = dp h' ∧ EX FS h h' ∧ FR h' (mkN (ms h) k) (gall (blK (ms h) k)) := by
    refine loopI (fun i q => ∃ h' s, EX FS h h' ∧ FR h' (mkN (ms h) k) s ∧ s.1 ≤ i ∧
      ((∃ x, q = (nI x, 1, dp h') ∧ x &&& mkN (ms h) k = x ∧ (pre (mkN (ms h) k) x).length = i ∧ i < (subm 20 (mkN (ms h) k)).length ∧ (s.1 = 0 ∨ s.2.1 ≤ x) ∧ s = (pre (mkN (ms h) k) x).foldl (stp (okB (ms h 51) (ms h 53) (ms h 72 k) (ms h 73 k) (ms h 74 k) (ms h 75 k))) (0, 0, 0, 0)) ∨ (q.2.1 = 0 ∧ q.2.2 = dp h' ∧ s = gall (blK (ms h) k)))) _ (subm 20 (mkN (ms h) k)).length (by omega) ⟨_, (0, 0, 0, 0), x0, ⟨?_, ?_, ?_, ?_⟩, Nat.le_refl _, Or.inl ⟨0, rfl, Nat.zero_and _, rfl, ?_, Or.inl rfl, rfl⟩⟩ ?_
    · rw [gi_si, if_neg (by omega), gi_si, if_neg (by omega), gi_si, if_neg (by omega), gi_si, if_pos ⟨rfl, rfl, rfl⟩]; rfl
    · rw [gi_si, if_neg (by omega), gi_si, if_neg (by omega), gi_si, if_pos ⟨rfl, rfl, rfl⟩]; rfl
    · rw [gi_si, if_neg (by omega), gi_si, if_pos ⟨rfl, rfl, rfl⟩]; rfl
    · rw [gi_si, if_pos ⟨rfl, rfl, rfl⟩]; rfl
    · rw [← pre_end hm20, List.length_append]
      show 0 < _ + 1
      omega
    · intro i q hi ⟨h1, s, x, fr, hs, alt⟩
      have hwd : wd (si (si (si (si h 12 0 45 0) 12 0 46 (-1)) 12 0 47 (nI (mkN (ms h) k))) 12 0 48 0) (dp h1) = h1 := wd_dp (x.1.trans x0.1.symm)
      rcases alt with ⟨z, rfl, hz, hlz, hil, hlow, es⟩ | ⟨q1, q2, q3⟩
      · left
        have sq := x.sq FS_la
        have emh : ms h1 = ms h := sq.mq
        have G1 : gR h1.2.2 := by rw [x.1]; exact G
        have hzm := sub_le hz
        have hzB : z < 2 ^ NB (ms h1) := by rw [emh]; omega
        have set := f_isSet (h := h1) G1 (by rw [emh]; exact W) (k := k) (by rw [emh]; exact hk) hzB
        rw [emh] at set
        -- the end of a turn
        have j92 : ∀ H : HP, EX FS h H → ∀ s', FR H (mkN (ms h) k) s' → s'.1 ≤ i + 1 → (s'.1 = 0 ∨ s'.2.1 ≤ z) → s' = (pre (mkN (ms h) k) z ++ [z]).foldl (stp (okB (ms h 51) (ms h 53) (ms h 72 k) (ms h 73 k) (ms h 74 k) (ms h 75 k))) (0, 0, 0, 0) → ∃ q', J_X12_findSets_92 0 (nI k) (nI z) H = some (.inl q') ∧ ∃ h' s, EX FS h h' ∧ FR h' (mkN (ms h) k) s ∧ s.1 ≤ i + 1 ∧
      ((∃ x, q' = (nI x, 1, dp h') ∧ x &&& mkN (ms h) k = x ∧ (pre (mkN (ms h) k) x).length = i + 1 ∧ i + 1 < (subm 20 (mkN (ms h) k)).length ∧ (s.1 = 0 ∨ s.2.1 ≤ x) ∧ s = (pre (mkN (ms h) k) x).foldl (stp (okB (ms h 51) (ms h 53) (ms h 72 k) (ms h 73 k) (ms h 74 k) (ms h 75 k))) (0, 0, 0, 0)) ∨ (q'.2.1 = 0 ∧ q'.2.2 = dp h' ∧ s = gall (blK (ms h) k))) := by
          intro H xH s' frH hs' hl' es'
          have GH : gR H.2.2 := by rw [xH.1]; exact G
          have emH : ms H = ms h := (xH.sq FS_la).mq
          unfold J_X12_findSets_92
          simp only [nm]
          rw [rf_12_44 GH, Option.bind_some, ga_v (show k < 6 by omega) (by omega), Option.bind_some, m_76, emH, em, Option.bind_some, ga_v (show k < 6 by omega) (by omega), Option.bind_some, m_76, emH, em, e_next hm20 hzm]
          have np := nxt_spec 32 z (mkN (ms h) k) (by omega) hz
          generalize hy : (2 ^ 32 + z - mkN (ms h) k) &&& mkN (ms h) k = y at np
          rcases np with ⟨n1, n2⟩ | ⟨n1, n2, n3⟩
          · subst n2
            refine ⟨(0, 0, dp H), by rw [show nI 0 = (0 : Int32) from rfl, if_pos rfl], H, s', xH, frH, hs', Or.inr ⟨rfl, rfl, ?_⟩⟩
            have e : blK (ms h) k = (subm 20 (mkN (ms h) k)).filter (okB (ms h 51) (ms h 53) (ms h 72 k) (ms h 73 k) (ms h 74 k) (ms h 75 k)) := rfl
            rw [e, gall_filter, ← pre_end hm20, es']
            rw [n1]
          · have hyle := sub_le n2
            have hpn := pre_next hz n1 n3
            refine ⟨(nI y, 1, dp H), by rw [if_neg (nI_ne0 (n := y) (by omega) (by omega))], H, s', xH, frH, hs', Or.inl ⟨y, rfl, n2, ?_, ?_, ?_, ?_⟩⟩
            · rw [hpn, List.length_append, hlz]; rfl
            · have hend := pre_end hm20
              have hpl : (pre (mkN (ms h) k) y).length ≤ (pre (mkN (ms h) k) (mkN (ms h) k)).length := by
                obtain ⟨d, hd⟩ : ∃ d, mkN (ms h) k = y + d := ⟨mkN (ms h) k - y, by omega⟩
                unfold pre
                rw [show List.range (mkN (ms h) k) = List.range (y + d) from congrArg _ hd, List.range_add, List.filter_append, List.length_append]
                omega
              rw [hpn, List.length_append, hlz] at hpl
              rw [← hend, List.length_append]
              have h1 : ([z] : List Nat).length = 1 := rfl
              have h2 : ([mkN (ms h) k] : List Nat).length = 1 := rfl
              omega
            · rcases hl' with hl' | hl'
              · exact Or.inl hl'
              · exact Or.inr (by omega)
            · rw [hpn, es']
        have fold1 : (pre (mkN (ms h) k) z ++ [z]).foldl (stp (okB (ms h 51) (ms h 53) (ms h 72 k) (ms h 73 k) (ms h 74 k) (ms h 75 k))) (0, 0, 0, 0) = stp (okB (ms h 51) (ms h 53) (ms h 72 k) (ms h 73 k) (ms h 74 k) (ms h 75 k)) s z := by
          rw [List.foldl_append, ← es]; rfl
        by_cases ok : okB (ms h 51) (ms h 53) (ms h 72 k) (ms h 73 k) (ms h 74 k) (ms h 75 k) z = true
        · have es2 : stp (okB (ms h 51) (ms h 53) (ms h 72 k) (ms h 73 k) (ms h 74 k) (ms h 75 k)) s z = gat s z := by unfold stp; rw [if_pos ok]
          obtain ⟨f1, f2, f3, f4⟩ := fr
          have frn : FR (si (si (si (si h1 12 0 45 (nI (s.1 + 1))) 12 0 46 (if s.1 = 0 then nI z else nI s.2.1)) 12 0 47 ((if s.1 = 0 then nI (mkN (ms h) k) else nI s.2.2.1) &&& nI z)) 12 0 48 (nI s.2.2.2 ||| nI z)) (mkN (ms h) k) (gat s z) := by
            refine ⟨?_, ?_, ?_, ?_⟩
            · rw [gi_si, if_neg (by omega), gi_si, if_neg (by omega), gi_si, if_neg (by omega), gi_si, if_pos ⟨rfl, rfl, rfl⟩]; rfl
            · rw [gi_si, if_neg (by omega), gi_si, if_neg (by omega), gi_si, if_pos ⟨rfl, rfl, rfl⟩]
              show _ = if s.1 + 1 = 0 then -1 else nI (if s.1 = 0 then z else if z < s.2.1 then z else s.2.1)
              rw [if_neg (show ¬ s.1 + 1 = 0 by omega)]
              by_cases c : s.1 = 0
              · rw [if_pos c, if_pos c]
              · rw [if_neg c, if_neg c, if_neg (by omega)]
            · rw [gi_si, if_neg (by omega), gi_si, if_pos ⟨rfl, rfl, rfl⟩]
              show _ = if s.1 + 1 = 0 then nI (mkN (ms h) k) else nI (if s.1 = 0 then z else s.2.2.1 &&& z)
              rw [if_neg (show ¬ s.1 + 1 = 0 by omega)]
              by_cases c : s.1 = 0
              · rw [if_pos c, if_pos c, fa_and, Nat.and_comm, hz]
              · rw [if_neg c, if_neg c, fa_and]
            · rw [gi_si, if_pos ⟨rfl, rfl, rfl⟩, fa_or]; rfl
          have xn : EX FS h (si (si (si (si h1 12 0 45 (nI (s.1 + 1))) 12 0 46 (if s.1 = 0 then nI z else nI s.2.1)) 12 0 47 ((if s.1 = 0 then nI (mkN (ms h) k) else nI s.2.2.1) &&& nI z)) 12 0 48 (nI s.2.2.2 ||| nI z)) := (((x.si 0 _ rfl).si 0 _ rfl).si 0 _ rfl).si 0 _ rfl
          obtain ⟨q', p1, p2⟩ := j92 _ xn (gat s z) frn (by show s.1 + 1 ≤ i + 1; omega) (Or.inr (by
            show (if s.1 = 0 then z else if z < s.2.1 then z else s.2.1) ≤ z
            split
            · exact Nat.le_refl _
            · split <;> omega)) (by rw [fold1, es2])
          refine ⟨q', hil, ?_, p2⟩
          unfold B_X12_findSets_29
          simp only [nm, u3]
          rw [hwd, if_neg (show ¬ (1 : Int32) = 0 by decide), set, Option.bind_some, if_pos ok, if_neg (show ¬ (1 : Int32) = 0 by decide), f1, nI_1]
          have e46 : gi (si h1 12 0 45 (nI (s.1 + 1))) 12 0 46 = (if s.1 = 0 then -1 else nI s.2.1) := by rw [gi_si, if_neg (by omega), f2]
          have j69 : ∀ v, J_X12_findSets_69 0 (nI k) (nI z) v 0 (si h1 12 0 45 (nI (s.1 + 1))) = J_X12_findSets_92 0 (nI k) (nI z) (si (si (si (si h1 12 0 45 (nI (s.1 + 1))) 12 0 46 v) 12 0 47 ((if s.1 = 0 then nI (mkN (ms h) k) else nI s.2.2.1) &&& nI z)) 12 0 48 (nI s.2.2.2 ||| nI z)) := by
            intro v
            unfold J_X12_findSets_69
            simp only [nm]
            have e47 : gi (si (si h1 12 0 45 (nI (s.1 + 1))) 12 0 46 v) 12 0 47 = (if s.1 = 0 then nI (mkN (ms h) k) else nI s.2.2.1) := by rw [gi_si, if_neg (by omega), gi_si, if_neg (by omega), f3]
            have e48 : ∀ u, gi (si (si (si h1 12 0 45 (nI (s.1 + 1))) 12 0 46 v) 12 0 47 u) 12 0 48 = nI s.2.2.2 := fun u => by rw [gi_si, if_neg (by omega), gi_si, if_neg (by omega), gi_si, if_neg (by omega), f4]
            rw [e47, e48]
          rw [e46, j69, j69]
          by_cases c : s.1 = 0
          · rw [if_pos c, if_pos rfl, if_pos c] at *
            exact p1
          · have hm1 : ¬ (nI s.2.1 = -1) := nI_m1 (by omega)
            rw [if_neg c, if_neg hm1, if_neg c] at *
            exact p1
        · have es2 : stp (okB (ms h 51) (ms h 53) (ms h 72 k) (ms h 73 k) (ms h 74 k) (ms h 75 k)) s z = s := by unfold stp; rw [if_neg ok]
          obtain ⟨q', p1, p2⟩ := j92 h1 x s fr (by omega) hlow (by rw [fold1, es2])
          refine ⟨q', hil, ?_, p2⟩
          unfold B_X12_findSets_29
          simp only [nm, u3]
          rw [hwd, if_neg (show ¬ (1 : Int32) = 0 by decide), set, Option.bind_some, if_neg ok, if_pos rfl]
          exact p1
      · right
        obtain ⟨a, b, c⟩ := q
        have q1' : b = 0 := q1
        have q2' : c = dp h1 := q2
        subst q1' q2'
        refine ⟨dp h1, ?_, h1, rfl, x, by rw [← q3]; exact fr⟩
        unfold B_X12_findSets_29
        simp only [nm, u3, hwd, if_true]
  obtain ⟨r, l2, h', rfl, x, fr⟩ := key
  refine ⟨h', ?_, x, fr⟩
  unfold F_X12_findSets
  simp only [nm]
  rw [rf_12_44 (h := si (si h 12 0 45 0) 12 0 46 (-1)) G, Option.bind_some, ga_v (show k < 6 by omega) (by omega), Option.bind_some]
  rw [gi_si, if_neg (by omega), gi_si, if_neg (by omega), m_76, em, l2]
  rw [Option.bind_some, wd_dp (x.1.trans x0.1.symm)]
