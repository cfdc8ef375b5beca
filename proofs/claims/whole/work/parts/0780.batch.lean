/-! stage III: sets, held, batch -/
theorem gall_bl (m : Nat → Nat → Int32) (k : Nat) : gall (blK m k) = ((blK m k).length, ((blK m k).head?).getD 0, andL (blK m k), orL (blK m k)) := gall_spec (bl_asc _ _ _ _ _ _ _)
theorem blK_len {m : Nat → Nat → Int32} (W : MW m) {k : Nat} (hk : k < NK m) : (blK m k).length ≤ 4096 := by
  have h := subm_len _ (n_76 W hk).2.2
  exact Nat.le_trans (List.length_filter_le _ _) h
theorem blK_mem {m : Nat → Nat → Int32} (W : MW m) {k : Nat} (hk : k < NK m) {x : Nat} (h : x ∈ blK m k) : x < 1048576 := by
  have h1 : x ∈ subm 20 (mkN m k) := (List.mem_filter.mp h).1
  have h2 := (subm_lt 20 _ x h1).1
  have h20 : (2 : Nat) ^ 20 = 1048576 := by decide
  omega
theorem andL_lt {n : Nat} : ∀ l : List Nat, (∀ x, x ∈ l → x < n) → 0 < n → andL l < n := by
  intro l
  induction l with
  | nil => intro _ h; exact h
  | cons x l ih =>
    intro h hn
    cases l with
    | nil => exact h x List.mem_cons_self
    | cons y l => exact Nat.lt_of_le_of_lt Nat.and_le_left (h x List.mem_cons_self)
theorem orL_lt {n : Nat} : ∀ l : List Nat, (∀ x, x ∈ l → x < 2 ^ n) → orL l < 2 ^ n := by
  intro l
  induction l with
  | nil => intro _; exact Nat.two_pow_pos n
  | cons x l ih =>
    intro h
    show x ||| orL l < 2 ^ n
    exact Nat.or_lt_two_pow (h x List.mem_cons_self) (ih (fun y hy => h y (List.mem_cons_of_mem _ hy)))
theorem p_sets : CP_sets RQ := by
  intro h R a f
  by_cases c1 : 0 ≤ a ∧ a ≤ ms h 12 39 - 1
  · by_cases c2 : 0 ≤ f ∧ f ≤ 1
    · have hk6 := b_nk R.m
      obtain ⟨k, hk, rfl⟩ := in_cnt (v_nk R.m) (by omega) c1
      obtain ⟨h1, r1, x1, f1, f2, f3, f4⟩ := f_findSets R.1 R.m hk
      rw [gall_bl] at f1 f2
      refine ⟨if f = 0 then nI (blK (ms h) k).length else hdI (blK (ms h) k), dp h1, ?_, ?_, ?_⟩
      · unfold F_X11_sets
        rw [e_isBatch R, Option.bind_some, ite_b, if_pos c1, e_from, Option.bind_some, ite_b, if_pos c2]
        by_cases c : f = 0
        · rw [if_pos c, if_pos c, rf_11_9 R.1, Option.bind_some, gar_v (show k < 6 by omega) (by omega), ck_43 R hk, Option.bind_some, ck_4 R hk]
        · rw [if_neg c, if_neg c, rf_11_9 R.1, Option.bind_some, gar_v (show k < 6 by omega) (by omega), ck_43 R hk, Option.bind_some, ck_5 R hk]
      · unfold F_X12_sets
        simp only [nm]
        rw [f_isBatch, Option.bind_some, ite_b, if_pos c1, e_in_0_1, Option.bind_some, ite_b, if_pos c2, r1, Option.bind_some, wd_dp x1.1, f1, f2]
        by_cases c : f = 0
        · rw [if_pos c, if_pos c]
        · rw [if_neg c, if_neg c, hdI_c]
      · rw [wd_dp x1.1]; exact (x1.sq FS_la).rl R
    · refine ⟨-2, dp h, ?_, ?_, R⟩
      · unfold F_X11_sets
        rw [e_isBatch R, Option.bind_some, ite_b, if_pos c1, e_from, Option.bind_some, ite_b, if_neg c2]
      · unfold F_X12_sets
        rw [f_isBatch, Option.bind_some, ite_b, if_pos c1, e_in_0_1, Option.bind_some, ite_b, if_neg c2]
  · refine ⟨-2, dp h, ?_, ?_, R⟩
    · unfold F_X11_sets
      rw [e_isBatch R, Option.bind_some, ite_b, if_neg c1]
    · unfold F_X12_sets
      rw [f_isBatch, Option.bind_some, ite_b, if_neg c1]
theorem p_held : CP_held RQ := by
  intro h R a f
  by_cases c1 : 0 ≤ a ∧ a ≤ ms h 12 39 - 1
  · by_cases c2 : 0 ≤ f ∧ f ≤ ms h 12 8 - 1
    · have hk6 := b_nk R.m
      have hb := b_nb R.m
      obtain ⟨k, hk, rfl⟩ := in_cnt (v_nk R.m) (by omega) c1
      obtain ⟨b, hbn, rfl⟩ := in_cnt (v_nb R.m) (by omega) c2
      obtain ⟨h1, r1, x1, f1, f2, f3, f4⟩ := f_findSets R.1 R.m hk
      rw [gall_bl] at f1 f3 f4
      have hlen := blK_len R.m hk
      have hA : andL (blK (ms h) k) < 1048576 := andL_lt _ (fun x hx => blK_mem R.m hk hx) (by omega)
      have hO : orL (blK (ms h) k) < 2 ^ 20 := orL_lt _ (fun x hx => by
        have := blK_mem R.m hk hx
        have h20 : (2 : Nat) ^ 20 = 1048576 := by decide
        omega)
      have h20 : (2 : Nat) ^ 20 = 1048576 := by decide
      refine ⟨if (andL (blK (ms h) k)).testBit b = true then 2 else if (orL (blK (ms h) k)).testBit b = true then 1 else 0, dp h1, ?_, ?_, ?_⟩
      · unfold F_X11_held
        rw [e_isBatch R, Option.bind_some, ite_b, if_pos c1, rf_11_3 R.1, Option.bind_some, e_has R, Option.bind_some, ite_b, if_pos c2, rf_11_9 R.1, Option.bind_some, gar_v (show k < 6 by omega) (by omega), ck_43 R hk, Option.bind_some, ck_6 R hk, bt_test (show andL (blK (ms h) k) < 2147483648 by omega) (show b < 31 by omega), ite_b1, Option.bind_some, gar_v (show k < 6 by omega) (by omega), ck_43 R hk, Option.bind_some, ck_7 R hk, bt_test (show orL (blK (ms h) k) < 2147483648 by omega) (show b < 31 by omega)]
        by_cases c : (andL (blK (ms h) k)).testBit b = true
        · rw [if_pos c, if_pos c]
        · rw [if_neg c, if_neg c]
      · unfold F_X12_held
        simp only [nm]
        rw [f_isBatch, Option.bind_some, ite_b, if_pos c1, f_isBell, Option.bind_some, ite_b, if_pos c2, r1, Option.bind_some, wd_dp x1.1, f1, f3, f4]
        by_cases z : (blK (ms h) k).length = 0
        · have e := List.eq_nil_of_length_eq_zero z
          rw [if_pos (show nI (blK (ms h) k).length = 0 by rw [z]; rfl), e]
          show _ = some (if (0 : Nat).testBit b = true then 2 else if (0 : Nat).testBit b = true then 1 else 0, dp h1)
          rw [Nat.zero_testBit, if_neg Bool.false_ne_true, if_neg Bool.false_ne_true]
        · rw [if_neg (show ¬ nI (blK (ms h) k).length = 0 from nI_ne0 (by omega) (by omega)), if_neg z, bt_test (show andL (blK (ms h) k) < 2147483648 by omega) (show b < 31 by omega), ite_b1, bt_test (show orL (blK (ms h) k) < 2147483648 by omega) (show b < 31 by omega), ite_b]
          by_cases o : (orL (blK (ms h) k)).testBit b = true
          · rw [if_pos o, if_pos o]
            by_cases c : (andL (blK (ms h) k)).testBit b = true
            · rw [if_pos c, if_pos c]
            · rw [if_neg c, if_neg c]
          · rw [if_neg o, if_neg o]
            have c : ¬ (andL (blK (ms h) k)).testBit b = true := by
              intro c
              apply o
              cases hl : blK (ms h) k with
              | nil => rw [hl] at z; exact absurd rfl z
              | cons x l =>
                rw [hl] at c
                have hx : x.testBit b = true := by
                  cases l with
                  | nil => exact c
                  | cons y l =>
                    have c' : (x &&& andL (y :: l)).testBit b = true := c
                    rw [Nat.testBit_and, Bool.and_eq_true] at c'
                    exact c'.1
                show (x ||| orL l).testBit b = true
                rw [Nat.testBit_or, hx]
                rfl
            rw [if_neg c]
      · rw [wd_dp x1.1]; exact (x1.sq FS_la).rl R
    · refine ⟨-2, dp h, ?_, ?_, R⟩
      · unfold F_X11_held
        rw [e_isBatch R, Option.bind_some, ite_b, if_pos c1, rf_11_3 R.1, Option.bind_some, e_has R, Option.bind_some, ite_b, if_neg c2]
      · unfold F_X12_held
        rw [f_isBatch, Option.bind_some, ite_b, if_pos c1, f_isBell, Option.bind_some, ite_b, if_neg c2]
  · refine ⟨-2, dp h, ?_, ?_, R⟩
    · unfold F_X11_held
      rw [e_isBatch R, Option.bind_some, ite_b, if_neg c1]
    · unfold F_X12_held
      rw [f_isBatch, Option.bind_some, ite_b, if_neg c1]
/-! heaps that have grown -/
def RFX (X : Nat → Bool) (R R' : RF) : Prop := (∀ k i s, X k = false → R'.1 k i s = R.1 k i s) ∧ (∀ k, X k = false → R'.2 k = R.2 k)
theorem gR_rf {X : Nat → Bool} {R R' : RF} (x : RFX X R R') (e : X 2 = false ∧ X 3 = false ∧ X 4 = false ∧ X 5 = false ∧ X 6 = false ∧ X 8 = false ∧ X 11 = false ∧ X 12 = false) (g : gR R) : gR R' := by
  obtain ⟨e2, e3, e4, e5, e6, e8, e11, e12⟩ := e
  unfold gR at *
  simp only [x.1 2 _ _ e2, x.1 3 _ _ e3, x.1 4 _ _ e4, x.1 5 _ _ e5, x.1 6 _ _ e6, x.1 8 _ _ e8, x.1 11 _ _ e11, x.1 12 _ _ e12, x.2 11 e11, x.2 12 e12]
  exact g
theorem gB_rf {X : Nat → Bool} {v : Nat → Nat → Nat → Int32} {R R' : RF} (x : RFX X R R') (e : X 1 = false ∧ X 20 = false ∧ X 21 = false ∧ X 22 = false ∧ X 23 = false) (g : gB v R) : gB v R' := by
  obtain ⟨e1, e20, e21, e22, e23⟩ := e
  unfold gB at *
  simp only [x.1 1 _ _ e1, x.1 23 _ _ e23, x.2 1 e1, x.2 20 e20, x.2 21 e21, x.2 22 e22]
  exact g
theorem gU_rf {X : Nat → Bool} {v : Nat → Nat → Nat → Int32} {R R' : RF} (x : RFX X R R') (e : X 10 = false ∧ X 40 = false ∧ X 42 = false) (g : gU v R) : gU v R' := by
  obtain ⟨e10, e40, e42⟩ := e
  unfold gU at *
  simp only [x.1 10 _ _ e10, x.1 42 _ _ e42, x.2 10 e10, x.2 40 e40]
  exact g
theorem gK_rf {X : Nat → Bool} {v : Nat → Nat → Nat → Int32} {R R' : RF} (x : RFX X R R') (e : X 0 = false ∧ X 43 = false) (g : gK v R) : gK v R' := by
  obtain ⟨e0, e43⟩ := e
  unfold gK at *
  simp only [x.1 43 _ _ e43, x.2 0 e0]
  exact g
theorem gS_rf {X : Nat → Bool} {v : Nat → Nat → Nat → Int32} {R R' : RF} (x : RFX X R R') (e : X 9 = false ∧ X 44 = false) (g : gS v R) : gS v R' := by
  obtain ⟨e9, e44⟩ := e
  unfold gS at *
  simp only [x.1 9 _ _ e9, x.1 44 _ _ e44]
  exact g
/-- the numbers that agree, whatever became of the cells -/
def EI (S : Nat → Nat → Bool) (h h' : HP) : Prop := ∀ k i s, S k s = false → gi h' k i s = gi h k i s
theorem vw_ei {D S : Nat → Nat → Bool} {h h1 : HP} (a : EI S h h1) (hDS : ∀ k s, D k s = true → S k s = false) : vw D h1 = vw D h := by
  funext k1 i1 s1
  unfold vw
  by_cases e : D k1 s1 = true
  · rw [if_pos e, if_pos e, a _ _ _ (hDS _ _ e)]
  · rw [if_neg e, if_neg e]
/-! batch -/
def SKB (k s : Nat) : Bool := Nat.beq k 0 || (Nat.beq k 84 || ((Nat.beq k 11 && Nat.beq s 10) || ((Nat.beq k 12 && Nat.beq s 39) || (Nat.beq k 72 || (Nat.beq k 73 || (Nat.beq k 74 || (Nat.beq k 75 || Nat.beq k 76)))))))
def XKB (k : Nat) : Bool := Nat.beq k 0 || (Nat.beq k 84 || Nat.beq k 43)
theorem pop_mask {m n : Nat} (hm : m < 2 ^ n) (hn : n ≤ 20) : pop m = fb_ct (fun i => m.testBit i) n ∧ fb_ct (fun i => m.testBit i) 20 = fb_ct (fun i => m.testBit i) n := by
  have key : ∀ d, fb_ct (fun i => m.testBit i) (n + d) = fb_ct (fun i => m.testBit i) n := by
    intro d
    rw [fb_ct_split]
    have : fb_ct (fun k => m.testBit (n + k)) d = 0 := fb_ct_zero.mpr (fun k _ => Nat.testBit_lt_two_pow (Nat.lt_of_lt_of_le hm (Nat.pow_le_pow_right (by decide) (by omega))))
    rw [this, Nat.add_zero]
  unfold pop
  constructor
  · rw [show 32 = n + (32 - n) by omega, key]
  · rw [show 20 = n + (20 - n) by omega, key]
theorem pop_pos {m : Nat} (h : 0 < m) (hm : m < 2147483648) : 0 < pop m := by
  have h1 := pop_clear (m + 1) m (by omega) h hm
  omega
/-- which masks may be told -/
theorem e_mayBeTold {h : HP} (R : RQ h) (a : Int32) : F_X11_mayBeTold 0 a h = some (if 0 < a ∧ a.toNatClampNeg < 2 ^ NB (ms h) ∧ pop a.toNatClampNeg ≤ 12 then 1 else 0) := by
  have hb := b_nb R.m
  unfold F_X11_mayBeTold
  by_cases c : a ≤ 0
  · rw [if_pos c, if_neg (fun q => (fa_of_lt q.1).2.1 c)]
  · have c0 := fa_of_nle c
    obtain ⟨m, hm, rfl⟩ := nI_of (x := a) (fa_of_lt c0).2.2.1
    have hm0 : 0 < m := by
      rcases Nat.eq_zero_or_pos m with rfl | q
      · exact absurd c0 (by decide)
      · exact q
    have hp2 := Nat.two_pow_pos (NB (ms h))
    rw [if_neg c, rf_11_3 R.1, Option.bind_some, cw_nb R, v_nb R.m, bt_shr hm (show NB (ms h) < 31 by omega), nI_clamp hm]
    by_cases c2 : m < 2 ^ NB (ms h)
    · have hpl : pop m ≤ 32 := fb_ct_le _ _
      have e0 : nI (m / 2 ^ NB (ms h)) = 0 := by
        rw [Nat.div_eq_of_lt c2]
        rfl
      rw [if_pos e0, e_bitCount hm, Option.bind_some]
      by_cases c3 : pop m ≤ 12
      · rw [if_neg (show ¬ (12 : Int32) < nI (pop m) from nI_nlt (a := 12) c3 (by omega)), if_pos ⟨c0, c2, c3⟩]
      · rw [if_pos (show (12 : Int32) < nI (pop m) from nI_lt (a := 12) (by omega) (by omega)), if_neg (fun q => c3 q.2.2)]
    · have hd : 0 < m / 2 ^ NB (ms h) := Nat.div_pos (by omega) hp2
      have hd2 : m / 2 ^ NB (ms h) ≤ m := Nat.div_le_self _ _
      rw [if_neg (nI_ne0 hd (by omega)), if_neg (fun q => c2 q.2.1)]
theorem f_told {h : HP} (W : MW (ms h)) (a : Int32) (G1 : HP → Option (Int32 × DP)) (no : Option (Int32 × DP)) : (F_X12_areBells 0 a h).bind (fun x10 => if x10 = 0 then no else (F_X12_ones a).bind fun x12 => (F_X12_in x12.toInt64 1 12).bind fun x14 => if x14 = 0 then no else G1 h) = if 0 < a ∧ a.toNatClampNeg < 2 ^ NB (ms h) ∧ pop a.toNatClampNeg ≤ 12 then G1 h else no := by
  have hb := b_nb W
  have hp2 := Nat.two_pow_pos (NB (ms h))
  have hp3 : 2 ^ NB (ms h) ≤ 1048576 := Nat.pow_le_pow_right (n := 2) (by decide) hb
  have e1 : (1 : Int32) <<< (ms h 12 8 &&& 31) - 1 = nI (2 ^ NB (ms h) - 1) := by
    rw [v_nb W, bt_shl1 (show NB (ms h) < 31 by omega)]
    exact pk_sub (b := 1) (by omega)
  unfold F_X12_areBells
  simp only [m_12_8, e1, e_in_0_x, Option.bind_some, e_bz, ite_b]
  by_cases c : 0 ≤ a ∧ a ≤ nI (2 ^ NB (ms h) - 1)
  · obtain ⟨m, hm0, rfl⟩ := nI_of (x := a) (fun q => (fa_of_lt q).2.1 c.1)
    have hm : m ≤ 2 ^ NB (ms h) - 1 := (nI_leI hm0 (by omega)).mp c.2
    have hcl : (nI m).toNatClampNeg = m := nI_clamp (by omega)
    rw [if_pos c, f_ones (show m < 2147483648 by omega), Option.bind_some, e_in_1_12, Option.bind_some, ite_b, hcl]
    have hpl : pop m ≤ 32 := fb_ct_le _ _
    by_cases c0 : m = 0
    · subst c0
      rw [pop_0, if_neg (by decide), if_neg (fun q => absurd q.1 (by decide))]
    · have hpp := pop_pos (m := m) (by omega) (by omega)
      by_cases c3 : pop m ≤ 12
      · rw [if_pos ⟨show (1 : Int32) ≤ nI (pop m) from nI_le (a := 1) hpp (by omega), show nI (pop m) ≤ (12 : Int32) from nI_le (b := 12) c3 (by omega)⟩, if_pos ⟨show (0 : Int32) < nI m from nI_lt (a := 0) (by omega) (by omega), by omega, c3⟩]
      · rw [if_neg (fun q => absurd q.2 (show ¬ nI (pop m) ≤ (12 : Int32) from nI_ge (a := 12) (b := pop m) (by omega) (by omega))), if_neg (fun q => c3 q.2.2)]
  · rw [if_neg c, if_neg]
    rintro ⟨q1, q2, q3⟩
    apply c
    obtain ⟨m, hm, rfl⟩ := nI_of (x := a) (fa_of_lt q1).2.2.1
    rw [nI_clamp hm] at q2
    exact ⟨(fa_of_lt q1).1, nI_le (by omega) (by omega)⟩
theorem gK_new {h H : HP} (R : RQ h) {w : Nat} {d lo hi : Int32} {m : Nat} (hN : NK (ms h) < 6) (hw : w ≤ 99999) (hd : cn d 9999) (hlo : cn lo 100) (hhi : cn hi 100) (hm : m < 2 ^ NB (ms h)) (hp : pop m ≤ 12)
    (c10 : gi H 11 0 10 = nI (NK (ms h) + 1)) (c39 : gi H 12 0 39 = nI (NK (ms h) + 1)) (c8 : gi H 12 0 8 = nI (NB (ms h))) (c51 : ∀ s, gi H 51 0 s = ms h 51 s) (c53 : ∀ s, gi H 53 0 s = ms h 53 s)
    (n0 : gn H 0 = NK (ms h) + 1) (r43 : ∀ k, k < NK (ms h) + 1 → gr H 43 0 k = some k)
    (o0 : ∀ k s, k < NK (ms h) → gi H 0 k s = gi h 0 k s)
    (o72 : ∀ k, k < NK (ms h) → gi H 72 0 k = ms h 72 k ∧ gi H 73 0 k = ms h 73 k ∧ gi H 74 0 k = ms h 74 k ∧ gi H 75 0 k = ms h 75 k ∧ gi H 76 0 k = ms h 76 k)
    (new : KR H (NK (ms h)) (gall (bl (ms h 51) (ms h 53) (nI w) d lo hi m)))
    (n72 : gi H 72 0 (NK (ms h)) = nI w ∧ gi H 73 0 (NK (ms h)) = d ∧ gi H 74 0 (NK (ms h)) = lo ∧ gi H 75 0 (NK (ms h)) = hi ∧ gi H 76 0 (NK (ms h)) = nI m) : gK (vw dK H) H.2.2 := by
  have hb := b_nb R.m
  have hm20 : m < 1048576 := Nat.lt_of_lt_of_le hm (Nat.pow_le_pow_right (n := 2) (by decide) hb)
  have e51 : (fun s => gi H 51 0 s) = ms h 51 := funext c51
  have e53 : (fun s => gi H 53 0 s) = ms h 53 := funext c53
  have nb8 : (gi H 12 0 8).toNatClampNeg = NB (ms h) := by rw [c8, nI_clamp (by omega)]
  have nk9 : (gi H 12 0 39).toNatClampNeg = NK (ms h) + 1 := by rw [c39, nI_clamp (by omega)]
  show gi H 11 0 10 = gi H 12 0 39 ∧ cn (gi H 12 0 39) 6 ∧ gn H 0 = (gi H 12 0 39).toNatClampNeg ∧
    ∀ k, k < (gi H 12 0 39).toNatClampNeg → gr H 43 0 k = some k ∧
      (gi H 0 k 4 = nI (bl (fun s => gi H 51 0 s) (fun s => gi H 53 0 s) (gi H 72 0 k) (gi H 73 0 k) (gi H 74 0 k) (gi H 75 0 k) (gi H 76 0 k).toNatClampNeg).length ∧
       gi H 0 k 5 = hdI (bl (fun s => gi H 51 0 s) (fun s => gi H 53 0 s) (gi H 72 0 k) (gi H 73 0 k) (gi H 74 0 k) (gi H 75 0 k) (gi H 76 0 k).toNatClampNeg) ∧
       gi H 0 k 6 = nI (andL (bl (fun s => gi H 51 0 s) (fun s => gi H 53 0 s) (gi H 72 0 k) (gi H 73 0 k) (gi H 74 0 k) (gi H 75 0 k) (gi H 76 0 k).toNatClampNeg)) ∧
       gi H 0 k 7 = nI (orL (bl (fun s => gi H 51 0 s) (fun s => gi H 53 0 s) (gi H 72 0 k) (gi H 73 0 k) (gi H 74 0 k) (gi H 75 0 k) (gi H 76 0 k).toNatClampNeg))) ∧
      (gi H 76 0 k = nI (gi H 76 0 k).toNatClampNeg ∧ (gi H 76 0 k).toNatClampNeg < 2 ^ (gi H 12 0 8).toNatClampNeg ∧ fb_ct (fun i => (gi H 76 0 k).toNatClampNeg.testBit i) 20 ≤ 12) ∧ (cn (gi H 72 0 k) 99999 ∧ cn (gi H 73 0 k) 9999 ∧ cn (gi H 74 0 k) 100 ∧ cn (gi H 75 0 k) 100)
  rw [nk9, nb8, e51, e53]
  refine ⟨c10.trans c39.symm, by rw [c39]; exact cn_of (by omega) (by omega), n0, fun k hk => ?_⟩
  by_cases c : k < NK (ms h)
  · obtain ⟨q1, q2, q3, q4, q5⟩ := o72 k c
    have old := R.k.2.2.2 k c
    rw [q1, q2, q3, q4, q5, o0 k 4 c, o0 k 5 c, o0 k 6 c, o0 k 7 c]
    exact ⟨r43 k hk, old.2.1, old.2.2.1, old.2.2.2⟩
  · have e : k = NK (ms h) := by omega
    subst e
    obtain ⟨q1, q2, q3, q4, q5⟩ := n72
    obtain ⟨⟨k4, k5, k6, k7⟩, -, -⟩ := new
    rw [gall_spec (bl_asc _ _ _ _ _ _ _)] at k4 k5 k6 k7
    rw [q1, q2, q3, q4, q5, nI_clamp (show m < 2147483648 by omega)]
    refine ⟨r43 _ hk, ⟨k4, ?_, k6, k7⟩, ⟨rfl, hm, ?_⟩, cn_of hw (by omega), hd, hlo, hhi⟩
    · rw [k5, hdI_c]
    · obtain ⟨p1, p2⟩ := pop_mask hm hb
      omega
