/-! stage III: peals -/
def apN (a b : Nat) : Nat := if b ≤ a then a - b else b - a
theorem e_abs_sub {a b : Nat} (ha : a < 1000000000) (hb : b < 1000000000) : F_J_abs (nI a - nI b) = some (nI (apN a b)) := by
  unfold F_J_abs apN
  by_cases c : b ≤ a
  · rw [pk_sub c, if_pos (nI_pos' (by omega)), if_pos c]
  · have e : -(nI a - nI b) = nI (b - a) := by rw [Int32.neg_sub, pk_sub (by omega)]
    rw [if_neg (fun q => (fa_of_lt (pk_sneg (a := a) (b := b) (by omega) (by omega))).2.1 q), if_neg c, e]
theorem f_apart {a b : Nat} (ha : a < 1000000000) (hb : b < 1000000000) : F_X12_apart (nI a) (nI b) = some (nI (apN a b)) := by
  unfold F_X12_apart apN
  by_cases c : b ≤ a
  · rw [if_pos (nI_le c (by omega)), if_pos c, pk_sub c]
  · rw [if_neg (nI_ge (by omega) (by omega)), if_neg c, pk_sub (by omega)]
def offN (x y : Nat) : Nat := (x + 12000 - y) % 1200
theorem ndiv1200 {w : Nat} (hw : w < 2 ^ 31) : (-nI w) / 1200 = -nI (w / 1200) := by
  apply Int32.toInt_inj.mp
  have h100 : (1200 : Int32).toInt = 1200 := by decide
  rw [Int32.toInt_div, sb_negT hw, h100, sb_negT (by omega), Int.neg_tdiv, Int.tdiv_eq_ediv_of_nonneg (by omega), Int.bmod_eq_of_le (by omega) (by omega)]
  omega
theorem nrem1200 {w : Nat} (hw : w < 2 ^ 31) : (-nI w) - (-nI w) / 1200 * 1200 = -nI (w % 1200) := by
  have h := pk_rem (a := w) (d := 1200) hw (by decide) (by decide)
  rw [pk_div hw (by decide) (by decide)] at h
  rw [ndiv1200 hw, ← h]
  show (-nI w) - (-nI (w / 1200)) * nI 1200 = -(nI w - nI (w / 1200) * nI 1200)
  rw [Int32.neg_mul, Int32.neg_sub, Int32.sub_neg, Int32.add_comm, ← Int32.sub_eq_add_neg]
theorem rz_pos {k : Nat} (hk : k < 2147483648) : rz (nI k) 1200 = some (nI (k % 1200)) := by
  unfold rz
  rw [if_neg (show ¬ (1200 : Int32) = 0 by decide)]
  have := pk_rem (a := k) (d := 1200) (by omega) (by decide) (by decide)
  exact congrArg some this
theorem rz_neg {k : Nat} (hk : k < 2147483648) : rz (-nI k) 1200 = some (-nI (k % 1200)) := by
  unfold rz
  rw [if_neg (show ¬ (1200 : Int32) = 0 by decide)]
  exact congrArg some (nrem1200 (by omega))
theorem nneg_iff (x : Int32) : 0 ≤ x ↔ x.toBitVec.msb = false := by
  rw [fa_le, BitVec.msb_eq_toInt]
  have h0 : (0 : Int32).toInt = 0 := by decide
  rw [h0]
  show 0 ≤ x.toBitVec.toInt ↔ _
  simp
theorem xor1200 (x : Int32) : 0 ≤ x ^^^ 1200 ↔ 0 ≤ x := by
  rw [nneg_iff, nneg_iff, Int32.toBitVec_xor, BitVec.msb_xor]
  have : (1200 : Int32).toBitVec.msb = false := by decide
  rw [this, Bool.xor_false]
theorem e_floorMod {x y : Nat} (hx : x ≤ 9999) (hy : y ≤ 9999) : F_J_floorMod (nI x - nI y) 1200 = some (nI (offN x y)) := by
  unfold F_J_floorMod offN
  by_cases c : y ≤ x
  · rw [pk_sub c, rz_pos (by omega), Option.bind_some, if_pos ((xor1200 _).mpr (nI_pos' (by omega)))]
    congr 2
    omega
  · have e : nI x - nI y = -nI (y - x) := by rw [← pk_sub (show x ≤ y by omega), Int32.neg_sub]
    have hn : ¬ 0 ≤ -nI (y - x) := by
      rw [← e]
      exact (fa_of_lt (pk_sneg (a := x) (b := y) (by omega) (by omega))).2.1
    rw [e, rz_neg (by omega), Option.bind_some, if_neg (fun q => hn ((xor1200 _).mp q))]
    by_cases c2 : (y - x) % 1200 = 0
    · rw [c2, if_pos (by decide)]
      show some (-nI 0) = _
      rw [show (x + 12000 - y) % 1200 = 0 by omega]
      rfl
    · have hz : ¬ -nI ((y - x) % 1200) = 0 := by
        intro q
        have := congrArg Int32.toInt q
        rw [sb_negT (by omega)] at this
        have h0 : (0 : Int32).toInt = 0 := by decide
        omega
      rw [if_neg hz]
      refine congrArg some ?_
      show -nI ((y - x) % 1200) + nI 1200 = _
      rw [Int32.add_comm, ← Int32.sub_eq_add_neg, pk_sub (by omega)]
      congr 1
      omega
theorem f_off {x y : Nat} (hx : x ≤ 9999) (hy : y ≤ 9999) : ∃ r, rz (nI x - nI y) 1200 = some r ∧ (if 0 ≤ r then r + 0 else r + 1200) = nI (offN x y) := by
  unfold offN
  by_cases c : y ≤ x
  · refine ⟨_, by rw [pk_sub c, rz_pos (by omega)], ?_⟩
    rw [if_pos (nI_pos' (by omega)), Int32.add_zero]
    congr 1
    omega
  · have e : nI x - nI y = -nI (y - x) := by rw [← pk_sub (show x ≤ y by omega), Int32.neg_sub]
    refine ⟨_, by rw [e, rz_neg (by omega)], ?_⟩
    by_cases c2 : (y - x) % 1200 = 0
    · rw [c2, if_pos (show 0 ≤ -nI 0 by decide), show (x + 12000 - y) % 1200 = 0 by omega]
      rfl
    · have hz : ¬ 0 ≤ -nI ((y - x) % 1200) := by
        intro q
        rw [fa_le, sb_negT (by omega)] at q
        have h0 : (0 : Int32).toInt = 0 := by decide
        omega
      rw [if_neg hz]
      show -nI ((y - x) % 1200) + nI 1200 = _
      rw [Int32.add_comm, ← Int32.sub_eq_add_neg, pk_sub (by omega)]
      congr 1
      omega
/-! the step -/
def stR (near o : Nat) : Nat → Int32 ⊕ Unit
  | 0 => .inr ()
  | k + 1 => if apN o (100 * (12 - k)) ≤ near then .inl (nI (12 - k)) else stR near o k
def stE (s : Int32 ⊕ Unit) : Int32 := match s with
  | .inl q => nI (q.toNatClampNeg % 12)
  | .inr _ => -1
theorem stR_r (near o : Nat) : ∀ k, stR near o k = .inr () ∨ ∃ j, j ≤ 12 ∧ stR near o k = .inl (nI j) := by
  intro k
  induction k with
  | zero => exact Or.inl rfl
  | succ k ih =>
    unfold stR
    split
    · exact Or.inr ⟨12 - k, by omega, rfl⟩
    · exact ih
/-- the nominal of a bell as a number -/
def noN (m : Nat → Nat → Int32) (b : Nat) : Nat := (m 54 (5 * b + 4)).toNatClampNeg
def spV (m : Nat → Nat → Int32) (b : Nat) (g : Int32) : Int32 := if g = -1 then -1 else if m 54 (5 * b + 4) = -1 then -1 else stE (stR (m 12 37).toNatClampNeg (offN (noN m b) (noN m g.toNatClampNeg)) 13)
theorem rz12 {j : Nat} (hj : j ≤ 12) : rz (nI j) 12 = some (nI (j % 12)) := by
  unfold rz
  rw [if_neg (show ¬ (12 : Int32) = 0 by decide)]
  exact congrArg some (pk_rem (a := j) (d := 12) (by omega) (by decide) (by decide))
theorem spV_r (m : Nat → Nat → Int32) (b : Nat) (g : Int32) : spV m b g = -1 ∨ ∃ j, j < 12 ∧ spV m b g = nI j := by
  unfold spV
  split
  · exact Or.inl rfl
  · split
    · exact Or.inl rfl
    · rcases stR_r (m 12 37).toNatClampNeg (offN (noN m b) (noN m g.toNatClampNeg)) 13 with q | ⟨j, q1, q2⟩
      · rw [q]; exact Or.inl rfl
      · rw [q2]
        right
        refine ⟨j % 12, by omega, ?_⟩
        show nI ((nI j).toNatClampNeg % 12) = _
        rw [nI_clamp (by omega)]
theorem nom_v {m : Nat → Nat → Int32} (W : MW m) {b : Nat} (hb : b < NB m) (h : ¬ m 54 (5 * b + 4) = -1) : m 54 (5 * b + 4) = nI (noN m b) ∧ noN m b ≤ 9999 := by
  rcases tb_54 W hb (show 4 < 5 by omega) with q | q
  · exact absurd q h
  · exact ⟨q.1, q.2⟩
/-- a ground: none, or a bell with a nominal -/
def gOk (m : Nat → Nat → Int32) (g : Int32) : Prop := g = -1 ∨ ∃ c, c < NB m ∧ g = nI c ∧ ¬ m 54 (5 * c + 4) = -1
theorem e_stepOf {h : HP} (R : RQ h) {g : Int32} (hg : gOk (ms h) g) (g3 : gi h 7 0 3 = g) (g4 : g = -1 ∨ gi h 7 0 4 = ms h 54 (5 * g.toNatClampNeg + 4)) {b : Nat} (hb : b < NB (ms h)) : F_X7_stepOf 0 b h = some (spV (ms h) b g) := by
  have h3 := b_nb R.m
  unfold F_X7_stepOf spV
  rw [L4]
  rw [rb_4 R hb, Option.bind_some, ga_v (by omega) (by omega), Option.bind_some, g3, cb_20 R hb (show 4 < 5 by omega)]
  rcases hg with rfl | ⟨c, c1, rfl, c2⟩
  · rw [if_pos rfl, if_pos rfl]
  · rw [if_neg (nI_m1 (by omega)), if_neg (nI_m1 (by omega))]
    by_cases d : ms h 54 (5 * b + 4) = -1
    · rw [if_pos d, if_pos d]
    · obtain ⟨v1, v2⟩ := nom_v R.m hb d
      obtain ⟨v3, v4⟩ := nom_v R.m c1 c2
      have g5 : gi h 7 0 4 = nI (noN (ms h) c) := by
        rcases g4 with q | q
        · exact absurd q (nI_m1 (by omega))
        · rw [q, nI_clamp (by omega), v3]
      obtain ⟨nr, hnr, en⟩ := cn_ex (n_37 R.m)
      have ho : offN (noN (ms h) b) (noN (ms h) c) < 1200 := Nat.mod_lt _ (by omega)
      rw [if_neg d, if_neg d, v1, g5, nI_clamp (by omega), en, nI_clamp (by omega)]
      rw [e_floorMod v2 v4, Option.bind_some]
      have hl : loopN LF (B_X7_stepOf_38 0 (nI (offN (noN (ms h) b) (noN (ms h) c))) h) 0 = some (match stR nr (offN (noN (ms h) b) (noN (ms h) c)) 13 with | .inl q => .inl q | .inr _ => .inr ()) := by
        have := loopD (B := B_X7_stepOf_38 0 (nI (offN (noN (ms h) b) (noN (ms h) c))) h) (fun k => nI (13 - k)) (fun k => (match stR nr (offN (noN (ms h) b) (noN (ms h) c)) k with | .inl q => .inl q | .inr _ => .inr () : Int32 ⊕ Unit)) 13 (by omega) (fun k hk => by
          have e1 : 13 - (k + 1) = 12 - k := by omega
          have st : B_X7_stepOf_38 0 (nI (offN (noN (ms h) b) (noN (ms h) c))) h (nI (13 - (k + 1))) = if apN (offN (noN (ms h) b) (noN (ms h) c)) (100 * (12 - k)) ≤ nr then some (.inr (.inl (nI (12 - k)))) else some (.inl (nI (13 - k))) := by
            rw [e1]
            unfold B_X7_stepOf_38
            simp only [nm]
            have ap : apN (offN (noN (ms h) b) (noN (ms h) c)) (100 * (12 - k)) < 10000 := by unfold apN; split <;> omega
            rw [if_neg (show ¬ 12 < nI (12 - k) from nI_nlt (a := 12) (by omega) (by omega)), show (100 : Int32) * nI (12 - k) = nI (100 * (12 - k)) from pk_mul 100 (12 - k), e_abs_sub (by omega) (by omega), Option.bind_some, cw_t0 R, en, nI_1, show 12 - k + 1 = 13 - k by omega]
            by_cases q : apN (offN (noN (ms h) b) (noN (ms h) c)) (100 * (12 - k)) ≤ nr
            · rw [if_neg (nI_nlt q (by omega)), if_pos q]
            · rw [if_pos (nI_lt (by omega) (by omega)), if_neg q]
          rw [st]
          have sx : stR nr (offN (noN (ms h) b) (noN (ms h) c)) (k + 1) = if apN (offN (noN (ms h) b) (noN (ms h) c)) (100 * (12 - k)) ≤ nr then .inl (nI (12 - k)) else stR nr (offN (noN (ms h) b) (noN (ms h) c)) k := rfl
          by_cases q : apN (offN (noN (ms h) b) (noN (ms h) c)) (100 * (12 - k)) ≤ nr
          · right
            rw [if_pos q] at sx ⊢
            simp only [sx]
          · left
            rw [if_neg q] at sx ⊢
            refine ⟨rfl, ?_⟩
            simp only [sx]) (by
          show B_X7_stepOf_38 0 (nI (offN (noN (ms h) b) (noN (ms h) c))) h (nI 13) = _
          unfold B_X7_stepOf_38
          rw [if_pos (show 12 < nI 13 by decide)]
          rfl)
        exact this
      rw [hl, Option.bind_some]
      rcases stR_r nr (offN (noN (ms h) b) (noN (ms h) c)) 13 with q | ⟨j, q1, q2⟩
      · rw [q]; rfl
      · rw [q2]
        show (rz (nI j) 12).bind _ = _
        rw [rz12 q1, Option.bind_some]
        show _ = some (nI ((nI j).toNatClampNeg % 12))
        rw [nI_clamp (by omega)]
theorem f_stepOf {h : HP} (G : gR h.2.2) (W : MW (ms h)) {g : Int32} (hg : gOk (ms h) g) {b : Nat} (hb : b < NB (ms h)) : F_X12_stepOf 0 (nI b) g h = some (spV (ms h) b g) := by
  have h3 := b_nb W
  unfold F_X12_stepOf spV
  rcases hg with rfl | ⟨c, c1, rfl, c2⟩
  · rw [if_pos rfl, if_pos rfl]
  · rw [if_neg (nI_m1 (by omega)), if_neg (nI_m1 (by omega))]
    rw [rf_12_13 G, Option.bind_some, ix54, ga_v (by omega) (by omega), Option.bind_some, m_54]
    by_cases d : ms h 54 (5 * b + 4) = -1
    · rw [if_pos d, if_pos d]
    · obtain ⟨v1, v2⟩ := nom_v W hb d
      obtain ⟨v3, v4⟩ := nom_v W c1 c2
      obtain ⟨nr, hnr, en⟩ := cn_ex (n_37 W)
      have ho : offN (noN (ms h) b) (noN (ms h) c) < 1200 := Nat.mod_lt _ (by omega)
      obtain ⟨r, q1, q2⟩ := f_off v2 v4
      rw [if_neg d, if_neg d, nI_clamp (by omega), en, nI_clamp (by omega)]
      have hJ : ∀ t0, r + t0 = nI (offN (noN (ms h) b) (noN (ms h) c)) → J_X12_stepOf_59 0 t0 r h = some (stE (stR nr (offN (noN (ms h) b) (noN (ms h) c)) 13)) := by
        intro t0 et
        unfold J_X12_stepOf_59
        simp only [nm]
        rw [et]
        have hl : loopN LF (B_X12_stepOf_64 0 (nI (offN (noN (ms h) b) (noN (ms h) c))) h) 0 = some (match stR nr (offN (noN (ms h) b) (noN (ms h) c)) 13 with | .inl q => .inl q | .inr _ => .inr ()) := by
          have := loopD (B := B_X12_stepOf_64 0 (nI (offN (noN (ms h) b) (noN (ms h) c))) h) (fun k => nI (13 - k)) (fun k => (match stR nr (offN (noN (ms h) b) (noN (ms h) c)) k with | .inl q => .inl q | .inr _ => .inr () : Int32 ⊕ Unit)) 13 (by omega) (fun k hk => by
            have e1 : 13 - (k + 1) = 12 - k := by omega
            have st : B_X12_stepOf_64 0 (nI (offN (noN (ms h) b) (noN (ms h) c))) h (nI (13 - (k + 1))) = if apN (offN (noN (ms h) b) (noN (ms h) c)) (100 * (12 - k)) ≤ nr then some (.inr (.inl (nI (12 - k)))) else some (.inl (nI (13 - k))) := by
              rw [e1]
              unfold B_X12_stepOf_64
              simp only [nm]
              have ap : apN (offN (noN (ms h) b) (noN (ms h) c)) (100 * (12 - k)) < 10000 := by unfold apN; split <;> omega
              rw [if_neg (show ¬ 13 ≤ nI (12 - k) from nI_ge (b := 13) (by omega) (by omega)), show (100 : Int32) * nI (12 - k) = nI (100 * (12 - k)) from pk_mul 100 (12 - k), f_apart (by omega) (by omega), Option.bind_some, m_12_37, en, nI_1, show 12 - k + 1 = 13 - k by omega]
              by_cases q : apN (offN (noN (ms h) b) (noN (ms h) c)) (100 * (12 - k)) ≤ nr
              · rw [if_neg (nI_nlt q (by omega)), if_pos q]
              · rw [if_pos (nI_lt (by omega) (by omega)), if_neg q]
            rw [st]
            have sx : stR nr (offN (noN (ms h) b) (noN (ms h) c)) (k + 1) = if apN (offN (noN (ms h) b) (noN (ms h) c)) (100 * (12 - k)) ≤ nr then .inl (nI (12 - k)) else stR nr (offN (noN (ms h) b) (noN (ms h) c)) k := rfl
            by_cases q : apN (offN (noN (ms h) b) (noN (ms h) c)) (100 * (12 - k)) ≤ nr
            · right
              rw [if_pos q] at sx ⊢
              simp only [sx]
            · left
              rw [if_neg q] at sx ⊢
              refine ⟨rfl, ?_⟩
              simp only [sx]) (by
            show B_X12_stepOf_64 0 (nI (offN (noN (ms h) b) (noN (ms h) c))) h (nI 13) = _
            unfold B_X12_stepOf_64
            rw [if_pos (show 13 ≤ nI 13 by decide)]
            rfl)
          exact this
        rw [hl, Option.bind_some]
        rcases stR_r nr (offN (noN (ms h) b) (noN (ms h) c)) 13 with q | ⟨j, q3, q4⟩
        · rw [q]; rfl
        · rw [q4]
          show (rz (nI j) 12).bind _ = _
          rw [rz12 q3, Option.bind_some]
          show _ = some (nI ((nI j).toNatClampNeg % 12))
          rw [nI_clamp (by omega)]
      rw [Option.bind_some, ix54, ga_v (by omega) (by omega), Option.bind_some, m_54, v1, Option.bind_some, ga_v (by omega) (by omega), Option.bind_some, m_54, v3, q1, Option.bind_some]
      by_cases c3 : 0 ≤ r
      · rw [if_pos c3] at q2
        rw [if_pos c3, hJ 0 q2]
      · rw [if_neg c3] at q2
        rw [if_neg c3, hJ 1200 q2]
/-! who rings, the ground -/
def rgP (m : Nat → Nat → Int32) (p : Int32) (b : Nat) : Prop := m 50 b = p ∧ ((stV m b = 0 ∨ stV m b = 5) ∧ ¬ m 54 (5 * b + 4) = -1)
theorem rg_dec (m : Nat → Nat → Int32) (p : Int32) (b : Nat) : (rgP m p b) ∨ ¬ rgP m p b := Classical.em _
theorem e_rings {h : HP} (R : RQ h) {b : Nat} (hb : b < NB (ms h)) : F_X1_rings b h = some (if (stV (ms h) b = 0 ∨ stV (ms h) b = 5) ∧ ¬ ms h 54 (5 * b + 4) = -1 then 1 else 0) := by
  have hJ : J_X1_rings_14 b h = some (if ms h 54 (5 * b + 4) = -1 then 0 else 1) := by
    unfold J_X1_rings_14
    rw [L4]
    rw [rb_4 R hb, Option.bind_some, ga_v (by omega) (by omega), Option.bind_some, cb_20 R hb (show 4 < 5 by omega)]
    split <;> rfl
  unfold F_X1_rings
  rw [e_stateNow R hb, Option.bind_some, hJ]
  by_cases c1 : stV (ms h) b = 0
  · rw [if_pos c1]
    by_cases c2 : ms h 54 (5 * b + 4) = -1
    · rw [if_pos c2, if_neg (fun q => q.2 c2)]
    · rw [if_neg c2, if_pos ⟨Or.inl c1, c2⟩]
  · rw [if_neg c1]
    by_cases c3 : stV (ms h) b = 5
    · rw [if_pos c3]
      by_cases c2 : ms h 54 (5 * b + 4) = -1
      · rw [if_pos c2, if_neg (fun q => q.2 c2)]
      · rw [if_neg c2, if_pos ⟨Or.inr c3, c2⟩]
    · rw [if_neg c3, if_neg (fun q => q.1.elim c1 c3)]
theorem f_rings {h : HP} (G : gR h.2.2) (W : MW (ms h)) (p : Int32) {b : Nat} (hb : b < NB (ms h)) : F_X12_rings 0 p (nI b) h = some (if ms h 50 b = p ∧ ((stV (ms h) b = 0 ∨ stV (ms h) b = 5) ∧ ¬ ms h 54 (5 * b + 4) = -1) then 1 else 0) := by
  have h3 := b_nb W
  have hJ : J_X12_rings_25 0 (nI b) h = some (if ms h 54 (5 * b + 4) = -1 then 0 else 1) := by
    unfold J_X12_rings_25
    rw [rf_12_13 G, Option.bind_some, ix54, ga_v (by omega) (by omega), Option.bind_some, m_54]
    split <;> rfl
  unfold F_X12_rings
  rw [f_stateOf G W hb, Option.bind_some, rf_12_9 G, Option.bind_some, ga_v (by omega) (by omega), Option.bind_some, m_50, hJ]
  by_cases c0 : ms h 50 b = p
  · rw [if_pos c0]
    by_cases c1 : stV (ms h) b = 0
    · rw [if_pos c1]
      by_cases c2 : ms h 54 (5 * b + 4) = -1
      · rw [if_pos c2, if_neg (fun q => q.2.2 c2)]
      · rw [if_neg c2, if_pos ⟨c0, Or.inl c1, c2⟩]
    · rw [if_neg c1]
      by_cases c3 : stV (ms h) b = 5
      · rw [if_pos c3]
        by_cases c2 : ms h 54 (5 * b + 4) = -1
        · rw [if_pos c2, if_neg (fun q => q.2.2 c2)]
        · rw [if_neg c2, if_pos ⟨c0, Or.inr c3, c2⟩]
      · rw [if_neg c3, if_neg (fun q => q.2.1.elim c1 c3)]
  · rw [if_neg c0, if_neg (fun q => c0 q.1)]
def grN (m : Nat → Nat → Int32) (p : Int32) : Nat → Int32
  | 0 => -1
  | b + 1 => if (m 50 b = p ∧ ((stV m b = 0 ∨ stV m b = 5) ∧ ¬ m 54 (5 * b + 4) = -1)) ∧ (grN m p b = -1 ∨ ¬ m 51 b ≤ m 51 (grN m p b).toNatClampNeg) then nI b else grN m p b
def rnN (m : Nat → Nat → Int32) (p : Int32) : Nat → Nat
  | 0 => 0
  | b + 1 => if m 50 b = p ∧ ((stV m b = 0 ∨ stV m b = 5) ∧ ¬ m 54 (5 * b + 4) = -1) then rnN m p b + 1 else rnN m p b
def ouN (m : Nat → Nat → Int32) (p : Int32) : Nat → Nat
  | 0 => 0
  | b + 1 => if (m 50 b = p ∧ ((stV m b = 0 ∨ stV m b = 5) ∧ ¬ m 54 (5 * b + 4) = -1)) ∧ spV m b (grN m p (NB m)) = -1 then ouN m p b + 1 else ouN m p b
def ruN (m : Nat → Nat → Int32) (p : Int32) : Nat → Int32
  | 0 => 0
  | b + 1 => if (m 50 b = p ∧ ((stV m b = 0 ∨ stV m b = 5) ∧ ¬ m 54 (5 * b + 4) = -1)) ∧ ¬ spV m b (grN m p (NB m)) = -1 then ruN m p b ||| ((1 : Int32) <<< (spV m b (grN m p (NB m)) &&& 31)) else ruN m p b
theorem grN_ok (m : Nat → Nat → Int32) (p : Int32) : ∀ b, grN m p b = -1 ∨ ∃ c, c < b ∧ grN m p b = nI c ∧ ¬ m 54 (5 * c + 4) = -1 := by
  intro b
  induction b with
  | zero => exact Or.inl rfl
  | succ b ih =>
    unfold grN
    split
    · rename_i q
      exact Or.inr ⟨b, by omega, rfl, q.1.2.2⟩
    · rcases ih with q | ⟨c, q1, q2, q3⟩
      · exact Or.inl q
      · exact Or.inr ⟨c, by omega, q2, q3⟩
theorem gOk_gr (m : Nat → Nat → Int32) (p : Int32) : gOk m (grN m p (NB m)) := grN_ok m p (NB m)
theorem f_groundOf {h : HP} (G : gR h.2.2) (W : MW (ms h)) (p : Int32) : F_X12_groundOf 0 p h = some (grN (ms h) p (NB (ms h))) := by
  have h3 := b_nb W
  have key : loopN LF (B_X12_groundOf_4 0 p h) (-1, 0) = some (grN (ms h) p (NB (ms h))) := by
    refine loopS (fun b => (grN (ms h) p b, nI b)) (NB (ms h)) (by omega) ?_ ?_
    · intro b hb
      unfold B_X12_groundOf_4
      simp only [nm, u2]
      rw [m_12_8, v_nb W, if_neg (nI_ge hb (by omega)), f_rings G W p hb, Option.bind_some, ite_b, nI_1]
      simp only [grN]
      by_cases c1 : ms h 50 b = p ∧ ((stV (ms h) b = 0 ∨ stV (ms h) b = 5) ∧ ¬ ms h 54 (5 * b + 4) = -1)
      · rw [if_pos c1]
        rcases grN_ok (ms h) p b with q | ⟨c, q1, q2, q3⟩
        · rw [if_pos q, if_pos ⟨c1, Or.inl q⟩]
        · rw [q2, if_neg (nI_m1 (by omega)), nI_clamp (by omega)]
          rw [rf_12_10 G, Option.bind_some, ga_v (by omega) (by omega), Option.bind_some, Option.bind_some, ga_v (by omega) (by omega), Option.bind_some, m_51, m_51]
          by_cases c2 : ms h 51 b ≤ ms h 51 c
          · rw [if_pos c2, if_neg]
            rintro ⟨-, w | w⟩
            · exact nI_m1 (by omega) w
            · exact w c2
          · rw [if_neg c2, if_pos ⟨c1, Or.inr c2⟩]
      · rw [if_neg c1, if_neg (fun q => c1 q.1)]
    · unfold B_X12_groundOf_4
      simp only [u2]
      rw [m_12_8, v_nb W, if_pos (nI_le (Nat.le_refl _) (by omega))]
  unfold F_X12_groundOf
  rw [key]
  rfl
def S7 (k s : Nat) : Bool := Nat.beq k 7 && (Nat.beq s 2 || (Nat.beq s 3 || (Nat.beq s 4 || (Nat.beq s 5 || Nat.beq s 6))))
theorem S7_la : ∀ k s, S7 k s = true → la k s = false := by
  intro k s e
  unfold S7 at e
  simp only [Bool.or_eq_true, Bool.and_eq_true, Nat.beq_eq] at e
  rcases e with ⟨rfl, rfl | rfl | rfl | rfl | rfl⟩ <;> rfl
/-- the class has heard a parish -/
def HE (h : HP) (p : Int32) : Prop := gi h 7 0 2 = nI (rnN (ms h) p (NB (ms h))) ∧ gi h 7 0 3 = grN (ms h) p (NB (ms h)) ∧ (grN (ms h) p (NB (ms h)) = -1 ∨ gi h 7 0 4 = ms h 54 (5 * (grN (ms h) p (NB (ms h))).toNatClampNeg + 4)) ∧ gi h 7 0 5 = nI (ouN (ms h) p (NB (ms h))) ∧ gi h 7 0 6 = ruN (ms h) p (NB (ms h))
theorem e_hear {h : HP} (R : RQ h) (p : Int32) : ∃ h', F_X7_hear 0 0 p h = some (dp h') ∧ EX S7 h h' ∧ HE h' p := by
  have h3 := b_nb R.m
  have x0 : EX S7 h (si (si h 7 0 2 0) 7 0 3 (-1)) := EX.si (EX.si (EX.rfl' h) _ _ rfl) _ _ rfl
  -- the ground
  have l1 : ∃ r : DP, loopN LF (B_X7_hear_12 0 0 p (si (si h 7 0 2 0) 7 0 3 (-1))) (0, dp (si (si h 7 0 2 0) 7 0 3 (-1))) = some r ∧ ∃ h', r = dp h' ∧ EX S7 h h' ∧ gi h' 7 0 2 = nI (rnN (ms h) p (NB (ms h))) ∧ gi h' 7 0 3 = grN (ms h) p (NB (ms h)) ∧ (grN (ms h) p (NB (ms h)) = -1 ∨ gi h' 7 0 4 = ms h 54 (5 * (grN (ms h) p (NB (ms h))).toNatClampNeg + 4)) := by
    refine loopI (fun b s => ∃ h', s = (nI b, dp h') ∧ EX S7 h h' ∧ gi h' 7 0 2 = nI (rnN (ms h) p b) ∧ gi h' 7 0 3 = grN (ms h) p b ∧ (grN (ms h) p b = -1 ∨ gi h' 7 0 4 = ms h 54 (5 * (grN (ms h) p b).toNatClampNeg + 4))) _ (NB (ms h)) (by omega) ⟨_, rfl, x0, by simp only [gi_si, Nat.reduceEqDiff, and_false, if_false, and_self, if_true]; rfl, by simp only [gi_si, and_self, if_true]; rfl, Or.inl rfl⟩ ?_
    intro b s hb0 ⟨h1, hs, x1, g2, g3, g4⟩
    subst hs
    have s1 := x1.sq S7_la
    have R1 := s1.rl R
    have em := s1.mq
    have hw : wd (si (si h 7 0 2 0) 7 0 3 (-1)) (dp h1) = h1 := by simp only [wd_osi]; exact wd_dp x1.1
    by_cases c0 : b < NB (ms h)
    · left
      have hb1 : b < NB (ms h1) := by rw [em]; exact c0
      have st : B_X7_hear_12 0 0 p (si (si h 7 0 2 0) 7 0 3 (-1)) (nI b, dp h1) = (if ms h 50 b = p then (if (stV (ms h) b = 0 ∨ stV (ms h) b = 5) ∧ ¬ ms h 54 (5 * b + 4) = -1 then (if grN (ms h) p b = -1 then J_X7_hear_83 0 0 p (nI b) b (si h1 7 0 2 (nI (rnN (ms h) p b + 1))) else (gar h1 23 0 20 (grN (ms h) p b)).bind fun o44 => if ms h 51 b ≤ gi h1 1 o44 1 then some (.inl (nI (b + 1), dp (si h1 7 0 2 (nI (rnN (ms h) p b + 1))))) else J_X7_hear_83 0 0 p (nI b) b (si h1 7 0 2 (nI (rnN (ms h) p b + 1)))) else some (.inl (nI (b + 1), dp h1))) else some (.inl (nI (b + 1), dp h1))) := by
        unfold B_X7_hear_12
        simp only [nm, u2, hw]
        rw [cw_nb R1, v_nb R1.m, em, if_neg (nI_ge c0 (by omega)), rf_2_0 R1.1, Option.bind_some, gar_v (by omega) (by omega), rb_23 R1 hb1, Option.bind_some, e_rings R1 hb1, Option.bind_some, ite_b, xr_si, rf_2_0 R1.1, Option.bind_some]
        simp only [cb_0 R1 hb1, cb_1 R1 hb1, em, gi_si, Nat.reduceEqDiff, false_and, and_false, if_false, nI_1, g2, g3, xar_si]
      have j83 : ∀ X : HP, EX S7 h X → J_X7_hear_83 0 0 p (nI b) b X = some (.inl (nI (b + 1), dp (si (si X 7 0 3 (nI b)) 7 0 4 (ms h 54 (5 * b + 4))))) := by
        intro X xX
        have sX := xX.sq S7_la
        have RX := sX.rl R
        have eX := sX.mq
        have cX : b < NB (ms X) := by rw [eX]; exact c0
        unfold J_X7_hear_83
        simp only [nm]
        rw [xr_si, rb_4 RX cX, Option.bind_some, L4, ga_v (by omega) (by omega), Option.bind_some]
        have e20 : gi (si X 7 0 3 (nI b)) 20 b 4 = ms h 54 (5 * b + 4) := by rw [gi_si, if_neg (by omega), cb_20 RX (by rw [eX]; exact c0) (by omega), eX]
        rw [e20, nI_1]
      rw [st]
      have x2 : EX S7 h (si h1 7 0 2 (nI (rnN (ms h) p b + 1))) := EX.si x1 _ _ rfl
      by_cases d1 : ms h 50 b = p ∧ ((stV (ms h) b = 0 ∨ stV (ms h) b = 5) ∧ ¬ ms h 54 (5 * b + 4) = -1)
      · have er : rnN (ms h) p (b + 1) = rnN (ms h) p b + 1 := if_pos d1
        rw [if_pos d1.1, if_pos d1.2]
        have take : (grN (ms h) p b = -1 ∨ ¬ ms h 51 b ≤ ms h 51 (grN (ms h) p b).toNatClampNeg) → ∃ s', b < NB (ms h) ∧ J_X7_hear_83 0 0 p (nI b) b (si h1 7 0 2 (nI (rnN (ms h) p b + 1))) = some (.inl s') ∧ ∃ h', s' = (nI (b + 1), dp h') ∧ EX S7 h h' ∧ gi h' 7 0 2 = nI (rnN (ms h) p (b + 1)) ∧ gi h' 7 0 3 = grN (ms h) p (b + 1) ∧ (grN (ms h) p (b + 1) = -1 ∨ gi h' 7 0 4 = ms h 54 (5 * (grN (ms h) p (b + 1)).toNatClampNeg + 4)) := by
          intro hyp
          have eg : grN (ms h) p (b + 1) = nI b := if_pos ⟨d1, hyp⟩
          refine ⟨_, c0, j83 _ x2, _, rfl, EX.si (EX.si x2 _ _ rfl) _ _ rfl, ?_, ?_, Or.inr ?_⟩
          · rw [er]; simp only [gi_si, Nat.reduceEqDiff, and_false, if_false, and_self, if_true]
          · rw [eg]; simp only [gi_si, Nat.reduceEqDiff, and_false, if_false, and_self, if_true]
          · rw [eg, nI_clamp (by omega)]; simp only [gi_si, and_self, if_true]
        rcases grN_ok (ms h) p b with q | ⟨c, q1, q2, q3⟩
        · rw [if_pos q]
          exact take (Or.inl q)
        · rw [if_neg (by rw [q2]; exact nI_m1 (by omega))]
          rw [q2, gar_v (by omega) (by omega), rb_23 R1 (show c < NB (ms h1) by rw [em]; omega), Option.bind_some, cb_1 R1 (show c < NB (ms h1) by rw [em]; omega), em]
          by_cases d2 : ms h 51 b ≤ ms h 51 c
          · rw [if_pos d2]
            have eg : grN (ms h) p (b + 1) = grN (ms h) p b := by
              show (if _ then _ else _) = _
              rw [if_neg]
              rintro ⟨-, w | w⟩
              · rw [q2] at w; exact nI_m1 (by omega) w
              · rw [q2, nI_clamp (by omega)] at w; exact w d2
            refine ⟨_, c0, rfl, _, rfl, x2, ?_, ?_, ?_⟩
            · rw [er]; simp only [gi_si, and_self, if_true]
            · rw [eg]; simp only [gi_si, Nat.reduceEqDiff, and_false, if_false, g3]
            · rw [eg]; simp only [gi_si, Nat.reduceEqDiff, and_false, if_false]; exact g4
          · rw [if_neg d2]
            exact take (Or.inr (by rw [q2, nI_clamp (by omega)]; exact d2))
      · have er : rnN (ms h) p (b + 1) = rnN (ms h) p b := if_neg d1
        have eg : grN (ms h) p (b + 1) = grN (ms h) p b := if_neg (fun q => d1 q.1)
        refine ⟨(nI (b + 1), dp h1), c0, ?_, h1, rfl, x1, by rw [er]; exact g2, by rw [eg]; exact g3, by rw [eg]; exact g4⟩
        by_cases d2 : ms h 50 b = p
        · rw [if_pos d2, if_neg (fun q => d1 ⟨d2, q⟩)]
        · rw [if_neg d2]
    · right
      have e : b = NB (ms h) := by omega
      refine ⟨dp h1, ?_, h1, rfl, x1, by rw [← e]; exact g2, by rw [← e]; exact g3, by rw [← e]; exact g4⟩
      unfold B_X7_hear_12
      simp only [nm, u2, hw]
      rw [cw_nb R1, v_nb R1.m, em, if_pos (nI_le (by omega) (by omega))]
  obtain ⟨r, hr1, h1, rfl, x1, g2, g3, g4⟩ := l1
  have s1 := x1.sq S7_la
  have R1 := s1.rl R
  have em := s1.mq
  have hb1 : NB (ms h1) = NB (ms h) := by rw [em]
  -- the steps
  have y0 : EX S7 h1 (si (si h1 7 0 5 0) 7 0 6 0) := EX.si (EX.si (EX.rfl' h1) _ _ rfl) _ _ rfl
  have l2 : ∃ r : DP, loopN LF (B_X7_hearSteps_12 0 0 p (si (si h1 7 0 5 0) 7 0 6 0)) (0, dp (si (si h1 7 0 5 0) 7 0 6 0)) = some r ∧ ∃ h', r = dp h' ∧ EX S7 h h' ∧ HE h' p := by
    have fin : ∀ h', EX S7 h h' → gi h' 7 0 2 = gi h1 7 0 2 → gi h' 7 0 3 = gi h1 7 0 3 → gi h' 7 0 4 = gi h1 7 0 4 → gi h' 7 0 5 = nI (ouN (ms h) p (NB (ms h))) → gi h' 7 0 6 = ruN (ms h) p (NB (ms h)) → HE h' p := by
      intro h' x' a2 a3 a4 a5 a6
      have e' := (x'.sq S7_la).mq
      unfold HE
      rw [e', a2, a3, a4, a5, a6]
      exact ⟨g2, g3, g4, rfl, rfl⟩
    refine loopI (fun b s => ∃ h', s = (nI b, dp h') ∧ EX S7 h h' ∧ (gi h' 7 0 2 = gi h1 7 0 2 ∧ gi h' 7 0 3 = gi h1 7 0 3 ∧ gi h' 7 0 4 = gi h1 7 0 4) ∧ gi h' 7 0 5 = nI (ouN (ms h) p b) ∧ gi h' 7 0 6 = ruN (ms h) p b) _ (NB (ms h)) (by omega) ⟨_, rfl, x1.trans y0, ⟨by simp only [gi_si, Nat.reduceEqDiff, and_false, if_false], by simp only [gi_si, Nat.reduceEqDiff, and_false, if_false], by simp only [gi_si, Nat.reduceEqDiff, and_false, if_false]⟩, by simp only [gi_si, Nat.reduceEqDiff, and_false, if_false, and_self, if_true]; rfl, by simp only [gi_si, and_self, if_true]; rfl⟩ ?_
    intro b s hb0 ⟨h2, hs, x2, ⟨a2, a3, a4⟩, a5, a6⟩
    subst hs
    have s2 := x2.sq S7_la
    have R2 := s2.rl R
    have em2 := s2.mq
    have hw : wd (si (si h1 7 0 5 0) 7 0 6 0) (dp h2) = h2 := by simp only [wd_osi]; exact wd_dp (x2.1.trans x1.1.symm)
    by_cases c0 : b < NB (ms h)
    · left
      have hb2 : b < NB (ms h2) := by rw [em2]; exact c0
      have es := e_stepOf R2 (g := grN (ms h) p (NB (ms h))) (by rw [em2]; exact gOk_gr (ms h) p) (by rw [a3, g3]) (by rw [a4, em2]; exact g4) hb2
      rw [em2] at es
      have st : B_X7_hearSteps_12 0 0 p (si (si h1 7 0 5 0) 7 0 6 0) (nI b, dp h2) = (if ms h 50 b = p then (if (stV (ms h) b = 0 ∨ stV (ms h) b = 5) ∧ ¬ ms h 54 (5 * b + 4) = -1 then (if spV (ms h) b (grN (ms h) p (NB (ms h))) = -1 then some (.inl (nI (b + 1), dp (si h2 7 0 5 (nI (ouN (ms h) p b + 1))))) else some (.inl (nI (b + 1), dp (si h2 7 0 6 (ruN (ms h) p b ||| ((1 : Int32) <<< (spV (ms h) b (grN (ms h) p (NB (ms h))) &&& 31))))))) else some (.inl (nI (b + 1), dp h2))) else some (.inl (nI (b + 1), dp h2))) := by
        unfold B_X7_hearSteps_12
        simp only [nm, u2, hw]
        rw [cw_nb R2, v_nb R2.m, em2, if_neg (nI_ge c0 (by omega)), rf_2_0 R2.1, Option.bind_some, gar_v (by omega) (by omega), rb_23 R2 hb2, Option.bind_some, e_rings R2 hb2, Option.bind_some, ite_b, es, Option.bind_some]
        simp only [cb_0 R2 hb2, em2, nI_1, a5, a6]
      rw [st]
      by_cases d1 : ms h 50 b = p ∧ ((stV (ms h) b = 0 ∨ stV (ms h) b = 5) ∧ ¬ ms h 54 (5 * b + 4) = -1)
      · rw [if_pos d1.1, if_pos d1.2]
        by_cases d2 : spV (ms h) b (grN (ms h) p (NB (ms h))) = -1
        · have eo : ouN (ms h) p (b + 1) = ouN (ms h) p b + 1 := if_pos ⟨d1, d2⟩
          have eu : ruN (ms h) p (b + 1) = ruN (ms h) p b := if_neg (fun q => q.2 d2)
          rw [if_pos d2]
          refine ⟨_, c0, rfl, _, rfl, EX.si x2 _ _ rfl, ⟨?_, ?_, ?_⟩, ?_, ?_⟩
          · rw [gi_si, if_neg (by decide), a2]
          · rw [gi_si, if_neg (by decide), a3]
          · rw [gi_si, if_neg (by decide), a4]
          · rw [eo, gi_si, if_pos ⟨rfl, rfl, rfl⟩]
          · rw [eu, gi_si, if_neg (by decide), a6]
        · have eo : ouN (ms h) p (b + 1) = ouN (ms h) p b := if_neg (fun q => d2 q.2)
          have eu : ruN (ms h) p (b + 1) = ruN (ms h) p b ||| ((1 : Int32) <<< (spV (ms h) b (grN (ms h) p (NB (ms h))) &&& 31)) := if_pos ⟨d1, d2⟩
          rw [if_neg d2]
          refine ⟨_, c0, rfl, _, rfl, EX.si x2 _ _ rfl, ⟨?_, ?_, ?_⟩, ?_, ?_⟩
          · rw [gi_si, if_neg (by decide), a2]
          · rw [gi_si, if_neg (by decide), a3]
          · rw [gi_si, if_neg (by decide), a4]
          · rw [eo, gi_si, if_neg (by decide), a5]
          · rw [eu, gi_si, if_pos ⟨rfl, rfl, rfl⟩]
      · have eo : ouN (ms h) p (b + 1) = ouN (ms h) p b := if_neg (fun q => d1 q.1)
        have eu : ruN (ms h) p (b + 1) = ruN (ms h) p b := if_neg (fun q => d1 q.1)
        refine ⟨(nI (b + 1), dp h2), c0, ?_, h2, rfl, x2, ⟨a2, a3, a4⟩, by rw [eo]; exact a5, by rw [eu]; exact a6⟩
        by_cases d2 : ms h 50 b = p
        · rw [if_pos d2, if_neg (fun q => d1 ⟨d2, q⟩)]
        · rw [if_neg d2]
    · right
      have e : b = NB (ms h) := by omega
      refine ⟨dp h2, ?_, h2, rfl, x2, fin h2 x2 a2 a3 a4 (by rw [← e]; exact a5) (by rw [← e]; exact a6)⟩
      unfold B_X7_hearSteps_12
      simp only [nm, u2, hw]
      rw [cw_nb R2, v_nb R2.m, em2, if_pos (nI_le (by omega) (by omega))]
  obtain ⟨r, hr2, h2, rfl, x2, he⟩ := l2
  refine ⟨h2, ?_, x2, he⟩
  unfold F_X7_hear F_X7_hearSteps
  simp only [nm]
  have w1 : wd (si (si h 7 0 2 0) 7 0 3 (-1)) (dp h1) = h1 := by simp only [wd_osi]; exact wd_dp x1.1
  have w2 : wd (si (si h1 7 0 5 0) 7 0 6 0) (dp h2) = h2 := by simp only [wd_osi]; exact wd_dp (x2.1.trans x1.1.symm)
  rw [hr1, Option.bind_some, w1, hr2, Option.bind_some, w2]
  rw [Option.bind_some, wd_dp (x2.1.trans x1.1.symm)]
