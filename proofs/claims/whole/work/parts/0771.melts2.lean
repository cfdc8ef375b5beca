/-! stage III: the melting of one week, and of all -/
abbrev ME : Type := (Nat → Int32) × Nat × Nat
def wt (m : Nat → Nat → Int32) (b : Nat) : Nat := (m 51 b).toNatClampNeg
def nx (m : Nat → Nat → Int32) (s : ME) (w : Int32) : Int32 := coN m s.1 w (NB m)
/-- one bell into the furnace -/
def mel (m : Nat → Nat → Int32) (s : ME) (c : Nat) (w : Int32) : ME := (va_up s.1 c w, s.2.1 + wt m c, s.2.2 + 1)
def mlt (m : Nat → Nat → Int32) (w : Int32) (nd : Nat) : Nat → ME → Bool × ME
  | 0, s => (false, s)
  | k + 1, s => if nd ≤ s.2.1 then (false, s) else if nx m s w = -1 then (true, s) else mlt m w nd k (mel m s (nx m s w).toNatClampNeg w)
def unm (m : Nat → Nat → Int32) (s : ME) : Nat := fb_ct (fun b => decide (s.1 b = -1)) (NB m)
def MZi (m : Nat → Nat → Int32) (s : ME) : Prop := s.2.1 ≤ 9999 * s.2.2 ∧ unm m s + s.2.2 ≤ 20
theorem unm_mel {m : Nat → Nat → Int32} {s : ME} {c w : Nat} (hc : c < NB m) (h1 : s.1 c = -1) (hw : w < 2147483648) : unm m (mel m s c (nI w)) + 1 = unm m s := by
  have := fb_ct_upd (fun b => decide (s.1 b = -1)) (decide (nI w = -1)) hc
  rw [if_pos (show (fun b => decide (s.1 b = -1)) c = true from decide_eq_true h1), if_neg (show ¬ decide (nI w = -1) = true by rw [decide_eq_true_eq]; exact nI_m1 hw)] at this
  unfold unm mel
  rw [show (fun b => decide ((va_up s.1 c (nI w), s.2.1 + wt m c, s.2.2 + 1).1 b = -1)) = (fun b => if b = c then decide (nI w = -1) else decide (s.1 b = -1)) from ?_]
  · omega
  · funext b
    show decide (va_up s.1 c (nI w) b = -1) = _
    unfold va_up
    split <;> rfl
theorem MZi_mel {m : Nat → Nat → Int32} (W : MW m) {s : ME} (I : MZi m s) {c w : Nat} (hc : c < NB m) (h1 : s.1 c = -1) (hw : w < 2147483648) : MZi m (mel m s c (nI w)) := by
  have e := unm_mel hc h1 hw
  obtain ⟨i1, i2⟩ := I
  obtain ⟨n, hn, en⟩ := cn_ex (n_51 W hc)
  have h3 : wt m c ≤ 9999 := by unfold wt; rw [en, nI_clamp (by omega)]; exact hn
  refine ⟨?_, ?_⟩
  · show s.2.1 + wt m c ≤ 9999 * (s.2.2 + 1)
    omega
  · show unm m (mel m s c (nI w)) + (s.2.2 + 1) ≤ 20
    omega
theorem nx_r (m : Nat → Nat → Int32) (s : ME) (w : Int32) : nx m s w = -1 ∨ ∃ c, c < NB m ∧ nx m s w = nI c ∧ s.1 c = -1 := coN_r m s.1 w (NB m)
theorem mlt_I {m : Nat → Nat → Int32} (W : MW m) {w nd : Nat} (hw : w < 2147483648) : ∀ (k : Nat) (s : ME), MZi m s → unm m s < k → MZi m (mlt m (nI w) nd k s).2 ∧ ((mlt m (nI w) nd k s).1 = true ∧ (mlt m (nI w) nd k s).2.2.1 < nd ∨ (mlt m (nI w) nd k s).1 = false ∧ nd ≤ (mlt m (nI w) nd k s).2.2.1) := by
  intro k
  induction k with
  | zero => intro s _ h; omega
  | succ k ih =>
    intro s I h
    have stp : mlt m (nI w) nd (k + 1) s = if nd ≤ s.2.1 then (false, s) else if nx m s (nI w) = -1 then (true, s) else mlt m (nI w) nd k (mel m s (nx m s (nI w)).toNatClampNeg (nI w)) := rfl
    have hb := b_nb W
    by_cases c1 : nd ≤ s.2.1
    · rw [stp, if_pos c1]
      exact ⟨I, Or.inr ⟨rfl, c1⟩⟩
    · rcases nx_r m s (nI w) with q | ⟨c, q1, q2, q3⟩
      · rw [stp, if_neg c1, if_pos q]
        exact ⟨I, Or.inl ⟨rfl, by show s.2.1 < nd; omega⟩⟩
      · rw [stp, if_neg c1, q2, if_neg (nI_m1 (by omega)), nI_clamp (by omega)]
        have := unm_mel q1 q3 hw
        exact ih _ (MZi_mel W I q1 q3 hw) (by omega)
/-- one week -/
def mwk (m : Nat → Nat → Int32) (w nd : Nat) (q : ME × Int64 × Int32) : ME × Int64 × Int32 :=
  if (mlt m (nI w) nd 21 q.1).1 = true then (((mlt m (nI w) nd 21 q.1).2.1, 0, (mlt m (nI w) nd 21 q.1).2.2.2), q.2.1 + lN (nd - (mlt m (nI w) nd 21 q.1).2.2.1), if q.2.2 = -1 then nI w else q.2.2)
  else (((mlt m (nI w) nd 21 q.1).2.1, (mlt m (nI w) nd 21 q.1).2.2.1 - nd, (mlt m (nI w) nd 21 q.1).2.2.2), q.2.1, q.2.2)
def nee (m : Nat → Nat → Int32) (s w : Nat) : Nat := (m 47 (60 * s + w)).toNatClampNeg
def mpl (m : Nat → Nat → Int32) (s : Nat) : Nat → ME × Int64 × Int32
  | 0 => ((fun _ => -1, 0, 0), 0, -1)
  | w + 1 => mwk m w (nee m s w) (mpl m s w)
theorem MZi_0 {m : Nat → Nat → Int32} (W : MW m) : MZi m (fun _ => -1, 0, 0) := by
  have h1 : unm m (fun _ => -1, 0, 0) ≤ NB m := fb_ct_le _ _
  have h2 := b_nb W
  exact ⟨Nat.le_refl _, by show unm m (fun _ => -1, 0, 0) + 0 ≤ 20; omega⟩
theorem MZi_21 {m : Nat → Nat → Int32} {s : ME} (I : MZi m s) : unm m s < 21 := by have := I.2; omega
theorem MZi_stock {m : Nat → Nat → Int32} {s : ME} (I : MZi m s) {n : Nat} (h : n ≤ s.2.1) : MZi m (s.1, n, s.2.2) := ⟨Nat.le_trans h I.1, I.2⟩
theorem MZi_mpl {m : Nat → Nat → Int32} (W : MW m) (s : Nat) : ∀ w, w ≤ 60 → MZi m (mpl m s w).1 := by
  intro w
  induction w with
  | zero => intro _; exact MZi_0 W
  | succ w ih =>
    intro hw
    have I := ih (by omega)
    have I2 := (mlt_I W (w := w) (nd := nee m s w) (by omega) 21 _ I (MZi_21 I)).1
    show MZi m (mwk m w (nee m s w) (mpl m s w)).1
    unfold mwk
    split
    · exact MZi_stock I2 (Nat.zero_le _)
    · exact MZi_stock I2 (Nat.sub_le _ _)
theorem MZi_S {m : Nat → Nat → Int32} {s : ME} (I : MZi m s) : s.2.1 ≤ 199980 ∧ s.2.2 ≤ 20 := by
  obtain ⟨a, b⟩ := I
  exact ⟨by omega, by omega⟩
/-! the class -/
def CM (k s : Nat) : Bool := Nat.beq k 34 || (Nat.beq k 37 || (Nat.beq k 6 && (Nat.beq s 1 || (Nat.beq s 2 || (Nat.beq s 3 || Nat.beq s 4)))))
theorem CM_la : ∀ k s, CM k s = true → la k s = false := by
  intro k s e
  unfold CM at e
  simp only [Bool.or_eq_true, Bool.and_eq_true, Nat.beq_eq] at e
  rcases e with rfl | rfl | ⟨rfl, rfl | rfl | rfl | rfl⟩ <;> rfl
theorem S34_CM : ∀ k s, CM k s = false → S34 k s = false := by
  intro k s e
  cases q : S34 k s with
  | false => rfl
  | true =>
    unfold S34 at q
    rw [Nat.beq_eq] at q
    subst q
    cases e
def MLr (h : HP) (s : ME) : Prop := (∀ b, b < 20 → gi h 37 0 b = s.1 b) ∧ gi h 6 0 1 = nI s.2.1 ∧ gi h 6 0 4 = nI s.2.2
theorem e_choose {h : HP} (R : RQ h) (w : Int32) {s : ME} (M : MLr h s) : ∃ h', F_X6_choose 0 0 0 w h = some (nx (ms h) s w, dp h') ∧ EX S34 h h' := by
  obtain ⟨h1, q1, q2, q3⟩ := e_inForce R w
  have sq := q2.sq S34_la
  have R1 : RQ h1 := sq.rl R
  have I1 : IF h1 w := q3
  have key := e_chooseL R1 I1 (mw := s.1) (fun b hb => (q2.2.1 37 0 b rfl).trans (M.1 b hb))
  rw [sq.mq] at key
  refine ⟨h1, ?_, q2⟩
  unfold F_X6_choose
  simp only [nm, u2]
  rw [q1, Option.bind_some]
  rw [wd_dp q2.1]
  rw [key, Option.bind_some]
  rfl
theorem e_meetL {h0 : HP} (R : RQ h0) {w nd : Nat} (hw : w < 2147483648) (hnd : nd < 2147483648) {s : ME} (I : MZi (ms h0) s) (M : MLr h0 s) : ∃ h', loopN LF (B_X6_meet_3 0 0 0 (nI w) (nI nd) h0) (0, dp h0) = some (if (mlt (ms h0) (nI w) nd 21 s).1 = true then .inl (dp h') else .inr (dp h')) ∧ EX CM h0 h' ∧ MLr h' (mlt (ms h0) (nI w) nd 21 s).2 ∧ gl h' 6 0 2 = gl h0 6 0 2 ∧ gi h' 6 0 3 = gi h0 6 0 3 := by
  have hl : ∃ r : DP ⊕ DP, loopN LF (B_X6_meet_3 0 0 0 (nI w) (nI nd) h0) (0, dp h0) = some r ∧ ∃ h', r = (if (mlt (ms h0) (nI w) nd 21 s).1 = true then .inl (dp h') else .inr (dp h')) ∧ EX CM h0 h' ∧ MLr h' (mlt (ms h0) (nI w) nd 21 s).2 ∧ gl h' 6 0 2 = gl h0 6 0 2 ∧ gi h' 6 0 3 = gi h0 6 0 3 := by
    refine loopI (fun i q => ∃ h' s', q = (nI i, dp h') ∧ EX CM h0 h' ∧ MLr h' s' ∧ MZi (ms h0) s' ∧ unm (ms h0) s' + i < 21 ∧ mlt (ms h0) (nI w) nd (21 - i) s' = mlt (ms h0) (nI w) nd 21 s ∧ gl h' 6 0 2 = gl h0 6 0 2 ∧ gi h' 6 0 3 = gi h0 6 0 3) _ 20 (by omega) ⟨h0, s, rfl, EX.rfl' h0, M, I, MZi_21 I, rfl, rfl, rfl⟩ ?_
    intro i q hi ⟨h1, s1, hq, x, M1, I1, hu, em, eg, e3⟩
    subst hq
    obtain ⟨k, hk⟩ : ∃ k, 21 - i = k + 1 := ⟨20 - i, by omega⟩
    rw [hk, show mlt (ms h0) (nI w) nd (k + 1) s1 = if nd ≤ s1.2.1 then (false, s1) else if nx (ms h0) s1 (nI w) = -1 then (true, s1) else mlt (ms h0) (nI w) nd k (mel (ms h0) s1 (nx (ms h0) s1 (nI w)).toNatClampNeg (nI w)) from rfl] at em
    have sq := x.sq CM_la
    have R1 : RQ h1 := sq.rl R
    have S1 := MZi_S I1
    have hwd : wd h0 (dp h1) = h1 := wd_dp x.1
    by_cases c1 : nd ≤ s1.2.1
    · right
      rw [if_pos c1] at em
      refine ⟨.inr (dp h1), ?_, h1, ?_, x, ?_, eg, e3⟩
      · unfold B_X6_meet_3
        simp only [nm, u2]
        rw [hwd, if_neg (show ¬ (20 : Int32) < nI i from nI_nlt (a := 20) (b := i) (by omega) (by omega)), M1.2.1, if_pos (nI_le c1 (by omega))]
      · rw [← em]; rfl
      · rw [← em]; exact M1
    · rw [if_neg c1] at em
      obtain ⟨h2, q1, q2⟩ := e_choose R1 (nI w) M1
      rw [sq.mq] at q1
      have hwd2 : wd h1 (dp h2) = h2 := wd_dp q2.1
      have x2 : EX CM h0 h2 := x.trans (q2.mono S34_CM)
      have M2 : MLr h2 s1 := ⟨fun b hb => (q2.2.1 37 0 b rfl).trans (M1.1 b hb), (q2.2.1 6 0 1 rfl).trans M1.2.1, (q2.2.1 6 0 4 rfl).trans M1.2.2⟩
      have eg2 : gl h2 6 0 2 = gl h0 6 0 2 := (q2.2.2 6 0 2 rfl).trans eg
      have e32 : gi h2 6 0 3 = gi h0 6 0 3 := (q2.2.1 6 0 3 rfl).trans e3
      rcases nx_r (ms h0) s1 (nI w) with q | ⟨c, g1, g2, g3⟩
      · right
        rw [if_pos q] at em
        refine ⟨.inl (dp h2), ?_, h2, ?_, x2, ?_, eg2, e32⟩
        · unfold B_X6_meet_3
          simp only [nm, u2]
          rw [hwd, if_neg (show ¬ (20 : Int32) < nI i from nI_nlt (a := 20) (b := i) (by omega) (by omega)), M1.2.1, if_neg (nI_ge (by omega) (by omega))]
          rw [q1, Option.bind_some, hwd2, q, if_pos rfl]
        · rw [← em]; rfl
        · rw [← em]; exact M2
      · left
        have hb := b_nb R.m
        have hm1 : ¬ nI c = -1 := nI_m1 (by omega)
        have hcl : (nI c).toNatClampNeg = c := nI_clamp (by omega)
        rw [g2, if_neg hm1, hcl] at em
        have hun := unm_mel (m := ms h0) (s := s1) g1 g3 hw
        have sq2 := x2.sq CM_la
        have R2 : RQ h2 := sq2.rl R
        have e51 : gi h2 1 c 1 = nI (wt (ms h0) c) := by
          rw [cb_1 R2 (by rw [sq2.mq]; exact g1), sq2.mq]
          exact (n_51 R.m g1).1
        have hi20 : i < 20 := by omega
        refine ⟨(nI (i + 1), dp (si (si (si h2 37 0 c (nI w)) 6 0 4 (nI (s1.2.2 + 1))) 6 0 1 (nI (s1.2.1 + wt (ms h0) c)))), hi20, ?_, si (si (si h2 37 0 c (nI w)) 6 0 4 (nI (s1.2.2 + 1))) 6 0 1 (nI (s1.2.1 + wt (ms h0) c)), mel (ms h0) s1 c (nI w), rfl, ((x2.si 0 _ rfl).si 0 _ rfl).si 0 _ rfl, ⟨fun b hb20 => ?_, ?_, ?_⟩, MZi_mel R.m I1 g1 g3 hw, by omega, ?_, eg2, ?_⟩
        · unfold B_X6_meet_3
          simp only [nm, u2]
          rw [hwd, if_neg (show ¬ (20 : Int32) < nI i from nI_nlt (a := 20) (b := i) (by omega) (by omega)), M1.2.1, if_neg (nI_ge (by omega) (by omega))]
          rw [q1, Option.bind_some, hwd2, g2, if_neg hm1, rf_6_0 R2.1, Option.bind_some, sa_v (show c < 20 by omega) (by omega), Option.bind_some]
          simp (disch := first | assumption | decide | omega) only [gi_si, xr_si, xar_si, rf_2_0 R2.1, Option.bind_some, gar_v (show c < 20 by omega) (show 20 < 2147483648 by omega), rb_23 R2 (show c < NB (ms h2) by rw [sq2.mq]; exact g1), M2.2.1, M2.2.2, e51, nI_1, nI_add, Nat.reduceEqDiff, false_and, and_false, if_false, show ¬ (6 = 37 ∧ 0 = 0 ∧ 1 = c) by omega, show ¬ (6 = 37 ∧ 0 = 0 ∧ 4 = c) by omega, show ¬ (1 = 37 ∧ c = 0 ∧ 1 = c) by omega]
        · rw [gi_si, if_neg (by omega), gi_si, if_neg (by omega), gi_si]
          show _ = va_up s1.1 c (nI w) b
          unfold va_up
          by_cases e : b = c
          · rw [if_pos ⟨rfl, rfl, e⟩, if_pos e]
          · rw [if_neg (fun q => e q.2.2), if_neg e, M2.1 b hb20]
        · rw [gi_si, if_pos ⟨rfl, rfl, rfl⟩]; rfl
        · rw [gi_si, if_neg (by omega), gi_si, if_pos ⟨rfl, rfl, rfl⟩]; rfl
        · rw [show 21 - (i + 1) = k by omega]; exact em
        · rw [gi_si, if_neg (by omega), gi_si, if_neg (by omega), gi_si, if_neg (by omega)]; exact e32
  obtain ⟨r, hr, h', e, x⟩ := hl
  exact ⟨h', by rw [hr, e], x⟩
/-- what stands after the weeks -/
def MQz (h : HP) (q : ME × Int64 × Int32) : Prop := MLr h q.1 ∧ gl h 6 0 2 = q.2.1 ∧ gi h 6 0 3 = q.2.2
theorem e_meet {h0 : HP} (R : RQ h0) {w nd : Nat} (hw : w < 2147483648) (hnd : nd < 2147483648) {q : ME × Int64 × Int32} (I : MZi (ms h0) q.1) (M : MQz h0 q) : ∃ h', F_X6_meet 0 0 0 (nI w) (nI nd) h0 = some (dp h') ∧ EX CM h0 h' ∧ MQz h' (mwk (ms h0) w nd q) := by
  obtain ⟨M1, M2, M3⟩ := M
  obtain ⟨h1, hl, x, N1, N2, N3⟩ := e_meetL R hw hnd I M1
  have hwd : wd h0 (dp h1) = h1 := wd_dp x.1
  obtain ⟨I2, e⟩ := mlt_I R.m (nd := nd) hw 21 q.1 I (MZi_21 I)
  have B := MZi_S I2
  rw [M2] at N2
  rw [M3] at N3
  rcases e with ⟨e1, e2⟩ | ⟨e1, e2⟩
  · rw [if_pos e1] at hl
    refine ⟨si (si (sL h1 6 0 2 (q.2.1 + lN (nd - (mlt (ms h0) (nI w) nd 21 q.1).2.2.1))) 6 0 3 (if q.2.2 = -1 then nI w else q.2.2)) 6 0 1 0, ?_, ((x.sL 0 _ rfl).si 0 _ rfl).si 0 _ rfl, ?_⟩
    · unfold F_X6_meet
      rw [hl, Option.bind_some]
      simp only [nm, hwd, N1.2.1, N2, pk_sub (Nat.le_of_lt e2), nI_l (show nd - (mlt (ms h0) (nI w) nd 21 q.1).2.2.1 < 2147483648 by omega), xi_sl, N3]
      unfold J_X6_meet_68
      simp only [nm]
      by_cases c : q.2.2 = -1
      · rw [if_pos c, if_pos c]
      · rw [if_neg c, if_neg c]
    · unfold mwk
      rw [if_pos e1]
      refine ⟨⟨fun b hb => ?_, ?_, ?_⟩, ?_, ?_⟩
      · rw [gi_si, if_neg (by omega), gi_si, if_neg (by omega), xi_sl]; exact N1.1 b hb
      · rw [gi_si, if_pos ⟨rfl, rfl, rfl⟩]; rfl
      · rw [gi_si, if_neg (by omega), gi_si, if_neg (by omega), xi_sl]; exact N1.2.2
      · rw [xl_si, xl_si, gl_sl, if_pos ⟨rfl, rfl, rfl⟩]
      · rw [gi_si, if_neg (by omega), gi_si, if_pos ⟨rfl, rfl, rfl⟩]
  · have e1n : ¬ (mlt (ms h0) (nI w) nd 21 q.1).1 = true := by rw [e1]; decide
    rw [if_neg e1n] at hl
    refine ⟨si h1 6 0 1 (nI ((mlt (ms h0) (nI w) nd 21 q.1).2.2.1 - nd)), ?_, x.si 0 _ rfl, ?_⟩
    · unfold F_X6_meet
      rw [hl, Option.bind_some]
      simp only [nm, hwd, N1.2.1, pk_sub e2]
    · unfold mwk
      rw [if_neg e1n]
      refine ⟨⟨fun b hb => ?_, ?_, ?_⟩, ?_, ?_⟩
      · rw [gi_si, if_neg (by omega)]; exact N1.1 b hb
      · rw [gi_si, if_pos ⟨rfl, rfl, rfl⟩]
      · rw [gi_si, if_neg (by omega)]; exact N1.2.2
      · exact N2
      · rw [gi_si, if_neg (by omega)]; exact N3
theorem max_0 (x : Int32) : F_J_max 0 x = some (nI x.toNatClampNeg) := by
  unfold F_J_max
  by_cases h : x < 0
  · rw [if_neg (fun q => (fa_of_lt q).2.2.1 h)]
    rw [show x.toNatClampNeg = 0 from ?_]
    · rfl
    · rw [fa_lt] at h
      show x.toInt.toNat = 0
      have h0 : (0 : Int32).toInt = 0 := rfl
      omega
  · obtain ⟨j, hj, rfl⟩ := nI_of h
    rw [nI_clamp hj]
    by_cases h2 : j = 0
    · subst h2
      rw [if_neg (by decide)]
      rfl
    · rw [if_pos (show (0 : Int32) < nI j from nI_lt (a := 0) (by omega) hj)]
theorem clamp_lt (x : Int32) : x.toNatClampNeg < 2147483648 := by
  have := fb_rng x
  show x.toInt.toNat < 2147483648
  omega
theorem e_plan {h : HP} (R : RQ h) {s n : Nat} (hs : s < 4) (hn : n ≤ 60) (e2 : gi h 9 s 2 = nI n) (e5 : ∀ i, i < n → gi h 39 s i = ms h 47 (60 * s + i)) : ∃ h', F_X6_plan 0 0 0 s h = some (dp h') ∧ EX CM h h' ∧ MQz h' (mpl (ms h) s n) := by
  have hl : ∀ H : HP, EX CM h H → MQz H (mpl (ms h) s 0) → ∃ r : DP, loopN LF (B_X6_plan_31 0 0 0 s H) (0, dp H) = some r ∧ ∃ h', r = dp h' ∧ EX CM h h' ∧ MQz h' (mpl (ms h) s n) := by
    intro H xH MH
    refine loopI (fun w q => ∃ h', q = (nI w, dp h') ∧ EX CM h h' ∧ MQz h' (mpl (ms h) s w)) _ n (by omega) ⟨H, rfl, xH, MH⟩ ?_
    intro w q hw ⟨h1, hq, x, M⟩
    subst hq
    have hwd : wd H (dp h1) = h1 := wd_dp (x.1.trans xH.1.symm)
    have sq := x.sq CM_la
    have R1 : RQ h1 := sq.rl R
    have f2 : gi h1 9 s 2 = nI n := (x.2.1 9 s 2 rfl).trans e2
    by_cases c : w < n
    · left
      have f5 : gi h1 39 s w = ms h 47 (60 * s + w) := (x.2.1 39 s w rfl).trans (e5 w c)
      obtain ⟨h2, q1, q2, q3⟩ := e_meet R1 (w := w) (nd := nee (ms h) s w) (by omega) (clamp_lt _) (by rw [sq.mq]; exact MZi_mpl R.m s w (by omega)) M
      rw [sq.mq] at q3
      refine ⟨(nI (w + 1), dp h2), c, ?_, h2, rfl, x.trans q2, q3⟩
      unfold B_X6_plan_31
      simp only [nm, u2, hwd]
      rw [f2, if_neg (nI_ge c (by omega)), rs_9 R1 hs, Option.bind_some, ga_v (by omega) (by omega), Option.bind_some, f5, max_0, Option.bind_some, (show F_X6_meet 0 0 0 (nI w) (nI (ms h 47 (60 * s + w)).toNatClampNeg) h1 = some (dp h2) from q1), Option.bind_some, wd_dp q2.1, nI_1]
    · right
      have e : w = n := by omega
      subst e
      refine ⟨dp h1, ?_, h1, rfl, x, M⟩
      unfold B_X6_plan_31
      simp only [nm, u2, hwd]
      rw [f2, if_pos (nI_le (by omega) (by omega))]
  have x0 : EX CM h (si (si (sL (si (srow h 37 0 (fun j => if j < 20 then -1 else gi h 37 0 j)) 6 0 1 0) 6 0 2 0) 6 0 3 (-1)) 6 0 4 0) := ((((EX.srow (EX.rfl' h) 0 _ (fun s => rfl)).si 0 _ rfl).sL 0 _ rfl).si 0 _ rfl).si 0 _ rfl
  obtain ⟨r, hr, h', rfl, x, M⟩ := hl _ x0 ⟨⟨fun b hb => by
      rw [gi_si, if_neg (by omega), gi_si, if_neg (by omega), xi_sl, gi_si, if_neg (by omega), gi_srow, if_pos ⟨rfl, rfl⟩, if_pos hb]
      rfl, by
      rw [gi_si, if_neg (by omega), gi_si, if_neg (by omega), xi_sl, gi_si, if_pos ⟨rfl, rfl, rfl⟩]
      rfl, by
      rw [gi_si, if_pos ⟨rfl, rfl, rfl⟩]
      rfl⟩, by
      rw [xl_si, xl_si, gl_sl, if_pos ⟨rfl, rfl, rfl⟩]
      rfl, by
      rw [gi_si, if_neg (by omega), gi_si, if_pos ⟨rfl, rfl, rfl⟩]
      rfl⟩
  refine ⟨h', ?_, x, M⟩
  unfold F_X6_plan
  rw [rf_6_0 R.1, Option.bind_some, e_fill37, Option.bind_some]
  simp only [nm, wd_srow, wd_self]
  rw [hr]
  simp only [Option.bind_some]
  rw [wd_dp (x.1.trans x0.1.symm)]
/-! the reference -/
def RM (k s : Nat) : Bool := Nat.beq k 77 || (Nat.beq k 12 && (Nat.beq s 50 || (Nat.beq s 51 || Nat.beq s 52)))
theorem RM_la : ∀ k s, RM k s = true → la k s = false := by
  intro k s e
  unfold RM at e
  simp only [Bool.or_eq_true, Bool.and_eq_true, Nat.beq_eq] at e
  rcases e with rfl | ⟨rfl, rfl | rfl | rfl⟩ <;> rfl
theorem PM_RM {h h' : HP} (x : EX RM h h') {L : List PT} (P : PM h L) : PM h' L :=
  ⟨(x.2.1 12 0 23 rfl).trans P.1, fun p y hy => ⟨(x.2.1 62 0 p rfl).trans (P.2 p y hy).1, (x.2.1 63 0 p rfl).trans (P.2 p y hy).2.1, (x.2.1 64 0 p rfl).trans (P.2 p y hy).2.2.1, (x.2.1 65 0 p rfl).trans (P.2 p y hy).2.2.2⟩⟩
def MRz (m : Nat → Nat → Int32) (h : HP) (s : ME) : Prop := (∀ b, b < NB m → gi h 77 0 b = s.1 b) ∧ gi h 12 0 52 = nI s.2.2
theorem MRz_r {h : HP} {m : Nat → Nat → Int32} {s : ME} (M : MRz m h s) : MRz m h s := M
theorem f_meltL {h0 : HP} (G : gR h0.2.2) (W : MW (ms h0)) (P : PM h0 (LW (ms h0))) (a1 : Int32) {w nd : Nat} (hw : w < 2147483648) (hnd : nd < 2147483648) {s : ME} (I : MZi (ms h0) s) (M : MRz (ms h0) h0 s) : ∃ h', loopN LF (B_X12_needs_112 0 a1 (nI w) (lN nd) h0) (lN s.2.1, (if nd ≤ s.2.1 then -1 else nx (ms h0) s (nI w)), dp h0) = some (lN (mlt (ms h0) (nI w) nd 21 s).2.2.1, dp h') ∧ EX RM h0 h' ∧ MRz (ms h0) h' (mlt (ms h0) (nI w) nd 21 s).2 ∧ gl h' 12 0 50 = gl h0 12 0 50 ∧ gi h' 12 0 51 = gi h0 12 0 51 := by
  have hl : ∃ r : Int64 × DP, loopN LF (B_X12_needs_112 0 a1 (nI w) (lN nd) h0) (lN s.2.1, (if nd ≤ s.2.1 then -1 else nx (ms h0) s (nI w)), dp h0) = some r ∧ ∃ h', r = (lN (mlt (ms h0) (nI w) nd 21 s).2.2.1, dp h') ∧ EX RM h0 h' ∧ MRz (ms h0) h' (mlt (ms h0) (nI w) nd 21 s).2 ∧ gl h' 12 0 50 = gl h0 12 0 50 ∧ gi h' 12 0 51 = gi h0 12 0 51 := by
    refine loopI (fun i q => ∃ h' s', q = (lN s'.2.1, (if nd ≤ s'.2.1 then -1 else nx (ms h0) s' (nI w)), dp h') ∧ EX RM h0 h' ∧ MRz (ms h0) h' s' ∧ MZi (ms h0) s' ∧ unm (ms h0) s' + i < 21 ∧ mlt (ms h0) (nI w) nd (21 - i) s' = mlt (ms h0) (nI w) nd 21 s ∧ gl h' 12 0 50 = gl h0 12 0 50 ∧ gi h' 12 0 51 = gi h0 12 0 51) _ 20 (by omega) ⟨h0, s, rfl, EX.rfl' h0, M, I, MZi_21 I, rfl, rfl, rfl⟩ ?_
    intro i q hi ⟨h1, s1, hq, x, M1, I1, hu, em, eg, e3⟩
    subst hq
    obtain ⟨k, hk⟩ : ∃ k, 21 - i = k + 1 := ⟨20 - i, by omega⟩
    rw [hk, show mlt (ms h0) (nI w) nd (k + 1) s1 = if nd ≤ s1.2.1 then (false, s1) else if nx (ms h0) s1 (nI w) = -1 then (true, s1) else mlt (ms h0) (nI w) nd k (mel (ms h0) s1 (nx (ms h0) s1 (nI w)).toNatClampNeg (nI w)) from rfl] at em
    have S1 := MZi_S I1
    have hwd : wd h0 (dp h1) = h1 := wd_dp x.1
    have sq := x.sq RM_la
    have G1 : gR h1.2.2 := by rw [x.1]; exact G
    by_cases c1 : nd ≤ s1.2.1
    · right
      rw [if_pos c1] at em
      refine ⟨(lN s1.2.1, dp h1), ?_, h1, by rw [← em], x, by rw [← em]; exact M1, eg, e3⟩
      unfold B_X12_needs_112
      simp only [nm, u3, hwd, if_pos c1, if_true]
    · rw [if_neg c1] at em
      rcases nx_r (ms h0) s1 (nI w) with q | ⟨c, g1, g2, g3⟩
      · right
        rw [if_pos q] at em
        refine ⟨(lN s1.2.1, dp h1), ?_, h1, by rw [← em], x, by rw [← em]; exact M1, eg, e3⟩
        unfold B_X12_needs_112
        simp only [nm, u3, hwd, if_neg c1, q, if_true]
      · left
        have hb := b_nb W
        have hm1 : ¬ nI c = -1 := nI_m1 (by omega)
        have hcl : (nI c).toNatClampNeg = c := nI_clamp (by omega)
        rw [g2, if_neg hm1, hcl] at em
        have hun := unm_mel (m := ms h0) (s := s1) g1 g3 hw
        have I2 := MZi_mel W I1 g1 g3 hw
        have S2 := MZi_S I2
        have S21 : s1.2.1 + wt (ms h0) c ≤ 199980 := S2.1
        have e51 : ms h0 51 c = nI (wt (ms h0) c) := (n_51 W g1).1
        have hi20 : i < 20 := by omega
        have x2 : EX RM h0 (si (si h1 77 0 c (nI w)) 12 0 52 (nI (s1.2.2 + 1))) := (x.si 0 _ rfl).si 0 _ rfl
        have sq2 := x2.sq RM_la
        have M2 : MRz (ms h0) (si (si h1 77 0 c (nI w)) 12 0 52 (nI (s1.2.2 + 1))) (mel (ms h0) s1 c (nI w)) := by
          refine ⟨fun b hb20 => ?_, ?_⟩
          · rw [gi_si, if_neg (by omega), gi_si]
            show _ = va_up s1.1 c (nI w) b
            unfold va_up
            by_cases e : b = c
            · rw [if_pos ⟨rfl, rfl, e⟩, if_pos e]
            · rw [if_neg (fun q => e q.2.2), if_neg e, M1.1 b hb20]
          · rw [gi_si, if_pos ⟨rfl, rfl, rfl⟩]; rfl
        have nxt := f_nextMelt (h := si (si h1 77 0 c (nI w)) 12 0 52 (nI (s1.2.2 + 1))) G1 (by rw [sq2.mq]; exact W) (by rw [sq2.mq]; exact PM_RM x2 P) (nI w) (mw := (mel (ms h0) s1 c (nI w)).1) (by rw [sq2.mq]; exact M2.1)
        rw [sq2.mq] at nxt
        refine ⟨(lN (s1.2.1 + wt (ms h0) c), (if nd ≤ s1.2.1 + wt (ms h0) c then -1 else nx (ms h0) (mel (ms h0) s1 c (nI w)) (nI w)), dp (si (si h1 77 0 c (nI w)) 12 0 52 (nI (s1.2.2 + 1)))), hi20, ?_, si (si h1 77 0 c (nI w)) 12 0 52 (nI (s1.2.2 + 1)), mel (ms h0) s1 c (nI w), rfl, x2, M2, I2, by omega, ?_, eg, ?_⟩
        · unfold B_X12_needs_112
          simp only [nm, u3]
          rw [hwd, if_neg c1, g2, if_neg hm1]
          rw [rf_12_49 G1, Option.bind_some, sa_v (show c < 20 by omega) (by omega), Option.bind_some]
          rw [gi_si h1, if_neg (show ¬ (12 = 77 ∧ 0 = 0 ∧ 52 = c) by omega), M1.2, nI_1]
          rw [rf_12_10 (h := si (si h1 77 0 c (nI w)) 12 0 52 (nI (s1.2.2 + 1))) G1, Option.bind_some, ga_v (show c < 20 by omega) (by omega), Option.bind_some, m_51, sq2.mq, e51, nI_l (show wt (ms h0) c < 2147483648 by omega), lN_add]
          by_cases c2 : nd ≤ s1.2.1 + wt (ms h0) c
          · rw [if_pos ((lg_cmp_ge _ _).mpr ((lN_le hnd (by omega)).mpr c2)), if_pos c2]
          · rw [if_neg (fun q => c2 ((lN_le hnd (by omega)).mp ((lg_cmp_ge _ _).mp q))), if_neg c2]
            rw [nxt, Option.bind_some]
            rfl
        · rw [show 21 - (i + 1) = k by omega]; exact em
        · rw [gi_si, if_neg (by omega), gi_si, if_neg (by omega)]; exact e3
  obtain ⟨r, hr, h', e, x⟩ := hl
  exact ⟨h', by rw [hr, e], x⟩
def MQr (m : Nat → Nat → Int32) (h : HP) (q : ME × Int64 × Int32) : Prop := MRz m h q.1 ∧ gl h 12 0 50 = q.2.1 ∧ gi h 12 0 51 = q.2.2
/-- one week of the reference -/
theorem f_week {h0 : HP} (G : gR h0.2.2) (W : MW (ms h0)) (P : PM h0 (LW (ms h0))) (a1 : Int32) {w nd : Nat} (hw : w < 200) (hnd : nd < 2147483648) {q : ME × Int64 × Int32} (I : MZi (ms h0) q.1) (M : MQr (ms h0) h0 q) : ∃ h', J_X12_needs_91 0 a1 (lN q.1.2.1) (nI w) (lN nd) h0 = some (.inl (lN (mwk (ms h0) w nd q).1.2.1, nI (w + 1), dp h')) ∧ EX RM h0 h' ∧ MQr (ms h0) h' (mwk (ms h0) w nd q) := by
  obtain ⟨M1, M2, M3⟩ := M
  obtain ⟨h1, hl, x, N1, N2, N3⟩ := f_meltL G W P a1 (w := w) (by omega) hnd I M1
  have hwd : wd h0 (dp h1) = h1 := wd_dp x.1
  obtain ⟨I2, e⟩ := mlt_I W (w := w) (nd := nd) (by omega) 21 q.1 I (MZi_21 I)
  have B0 := MZi_S I
  have B := MZi_S I2
  rw [M2] at N2
  rw [M3] at N3
  have s1 : J_X12_needs_91 0 a1 (lN q.1.2.1) (nI w) (lN nd) h0 = J_X12_needs_110 0 a1 (lN q.1.2.1) (nI w) (lN nd) (if nd ≤ q.1.2.1 then -1 else nx (ms h0) q.1 (nI w)) h0 := by
    unfold J_X12_needs_91
    by_cases c : nd ≤ q.1.2.1
    · rw [if_pos ((lg_cmp_ge _ _).mpr ((lN_le hnd (by omega)).mpr c)), if_pos c]
    · rw [if_neg (fun z => c ((lN_le hnd (by omega)).mp ((lg_cmp_ge _ _).mp z))), if_neg c]
      rw [f_nextMelt G W P (nI w) (mw := q.1.1) M1.1, Option.bind_some]
      rfl
  rw [s1]
  unfold J_X12_needs_110
  simp only [u2, nm]
  rw [hl, Option.bind_some, hwd]
  rcases e with ⟨e1, e2⟩ | ⟨e1, e2⟩
  · have em : mwk (ms h0) w nd q = (((mlt (ms h0) (nI w) nd 21 q.1).2.1, 0, (mlt (ms h0) (nI w) nd 21 q.1).2.2.2), q.2.1 + lN (nd - (mlt (ms h0) (nI w) nd 21 q.1).2.2.1), if q.2.2 = -1 then nI w else q.2.2) := by unfold mwk; rw [if_pos e1]
    rw [if_neg (fun z => by have := (lN_le hnd (by omega)).mp ((lg_cmp_ge _ _).mp z); omega), lN_sub (Nat.le_of_lt e2), N2, xi_sl, N3, em]
    refine ⟨si (sL h1 12 0 50 (q.2.1 + lN (nd - (mlt (ms h0) (nI w) nd 21 q.1).2.2.1))) 12 0 51 (if q.2.2 = -1 then nI w else q.2.2), ?_, (x.sL 0 _ rfl).si 0 _ rfl, ⟨fun b hb => ?_, ?_⟩, ?_, ?_⟩
    · unfold J_X12_needs_208
      simp only [nm, nI_1]
      by_cases c : q.2.2 = -1
      · rw [if_pos c, if_pos c]; rfl
      · rw [if_neg c, if_neg c]; rfl
    · rw [gi_si, if_neg (by omega), xi_sl]; exact N1.1 b hb
    · rw [gi_si, if_neg (by omega), xi_sl]; exact N1.2
    · rw [xl_si, gl_sl, if_pos ⟨rfl, rfl, rfl⟩]
    · rw [gi_si, if_pos ⟨rfl, rfl, rfl⟩]
  · have e1n : ¬ (mlt (ms h0) (nI w) nd 21 q.1).1 = true := by rw [e1]; decide
    have em : mwk (ms h0) w nd q = (((mlt (ms h0) (nI w) nd 21 q.1).2.1, (mlt (ms h0) (nI w) nd 21 q.1).2.2.1 - nd, (mlt (ms h0) (nI w) nd 21 q.1).2.2.2), q.2.1, q.2.2) := by unfold mwk; rw [if_neg e1n]
    rw [if_pos ((lg_cmp_ge _ _).mpr ((lN_le hnd (by omega)).mpr e2)), lN_sub e2, em, nI_1]
    exact ⟨h1, rfl, x, N1, N2, N3⟩
theorem f_needs {h : HP} (G : gR h.2.2) (W : MW (ms h)) {s n : Nat} (hs : s < 4) (hn : n ≤ 60) (e2 : ms h 46 s = nI n) : ∃ h', F_X12_needs 0 (nI s) h = some (dp h') ∧ SQ h h' ∧ MQr (ms h) h' (mpl (ms h) s n) := by
  obtain ⟨h1, r1, r2, r3, r4⟩ := f_readsM G W
  have hwd1 : wd h (dp h1) = h1 := wd_dp r2.1
  have G1 : gR h1.2.2 := by rw [r2.1]; exact G
  have hb := b_nb W
  have l1 : ∃ r : DP, loopN LF (B_X12_needs_7 0 (nI s) h1) (0, dp h1) = some r ∧ ∃ h', r = dp h' ∧ EX RM h1 h' ∧ ∀ b, b < NB (ms h) → gi h' 77 0 b = -1 := by
    refine loopI (fun i q => ∃ h', q = (nI i, dp h') ∧ EX RM h1 h' ∧ ∀ b, b < i → gi h' 77 0 b = -1) _ (NB (ms h)) (by omega) ⟨h1, rfl, EX.rfl' h1, fun b hb => by omega⟩ ?_
    intro i q hi ⟨h2, hq, x, g⟩
    subst hq
    have hwd : wd h1 (dp h2) = h2 := wd_dp x.1
    have G2 : gR h2.2.2 := by rw [x.1]; exact G1
    have em : ms h2 = ms h := (x.sq RM_la).mq.trans r3.mq
    by_cases c : i < NB (ms h)
    · left
      refine ⟨(nI (i + 1), dp (si h2 77 0 i (-1))), c, ?_, _, rfl, x.si 0 _ rfl, fun b hb => ?_⟩
      · unfold B_X12_needs_7
        simp only [nm, u2, hwd]
        rw [m_12_8, em, v_nb W, if_neg (nI_ge c (by omega)), rf_12_49 G2, Option.bind_some, sa_v (by omega) (by omega), Option.bind_some, nI_1]
      · rw [gi_si]
        by_cases e : b = i
        · rw [if_pos ⟨rfl, rfl, e⟩]
        · rw [if_neg (fun q => e q.2.2), g b (by omega)]
    · right
      have e : i = NB (ms h) := by omega
      refine ⟨dp h2, ?_, h2, rfl, x, fun b hb => g b (by omega)⟩
      unfold B_X12_needs_7
      simp only [nm, u2, hwd]
      rw [m_12_8, em, v_nb W, if_pos (nI_le (by omega) (by omega))]
  obtain ⟨r, l1, h2, rfl, x2, g2⟩ := l1
  have x3 : EX RM h1 (si (si (sL h2 12 0 50 0) 12 0 51 (-1)) 12 0 52 0) := ((x2.sL 0 _ rfl).si 0 _ rfl).si 0 _ rfl
  have l2 : ∃ r : DP, loopN LF (B_X12_needs_48 0 (nI s) (si (si (sL h2 12 0 50 0) 12 0 51 (-1)) 12 0 52 0)) (0, 0, dp (si (si (sL h2 12 0 50 0) 12 0 51 (-1)) 12 0 52 0)) = some r ∧ ∃ h', r = dp h' ∧ EX RM h1 h' ∧ MQr (ms h) h' (mpl (ms h) s n) := by
    refine loopI (fun w q => ∃ h', q = (lN (mpl (ms h) s w).1.2.1, nI w, dp h') ∧ EX RM h1 h' ∧ MQr (ms h) h' (mpl (ms h) s w)) _ n (by omega) ⟨_, rfl, x3, ⟨fun b hb => ?_, ?_⟩, ?_, ?_⟩ ?_
    · rw [gi_si, if_neg (by omega), gi_si, if_neg (by omega), xi_sl]; exact g2 b hb
    · rw [gi_si, if_pos ⟨rfl, rfl, rfl⟩]; rfl
    · rw [xl_si, xl_si, gl_sl, if_pos ⟨rfl, rfl, rfl⟩]; rfl
    · rw [gi_si, if_neg (by omega), gi_si, if_pos ⟨rfl, rfl, rfl⟩]; rfl
    · intro w q hw ⟨h4, hq, x4, M⟩
      subst hq
      have hwd : wd (si (si (sL h2 12 0 50 0) 12 0 51 (-1)) 12 0 52 0) (dp h4) = h4 := wd_dp (x4.1.trans x3.1.symm)
      have G4 : gR h4.2.2 := by rw [x4.1]; exact G1
      have em : ms h4 = ms h := (x4.sq RM_la).mq.trans r3.mq
      by_cases c : w < n
      · left
        obtain ⟨h5, q1, q2, q3⟩ := f_week (h0 := h4) G4 (by rw [em]; exact W) (by rw [em]; exact PM_RM x4 r4) (nI s) (w := w) (nd := nee (ms h) s w) (q := mpl (ms h) s w) (by omega) (clamp_lt _) (by rw [em]; exact MZi_mpl W s w (by omega)) (by rw [em]; exact M)
        rw [em] at q1 q3
        refine ⟨(lN (mpl (ms h) s (w + 1)).1.2.1, nI (w + 1), dp h5), c, ?_, h5, rfl, x4.trans q2, q3⟩
        have e1 : ms h 47 (60 * s + w) = nI (nee (ms h) s w) ∨ (¬ 0 ≤ ms h 47 (60 * s + w) ∧ nee (ms h) s w = 0) := by
          by_cases z : ms h 47 (60 * s + w) < 0
          · right
            refine ⟨(fa_of_lt z).2.1, ?_⟩
            rw [fa_lt] at z
            have h0 : (0 : Int32).toInt = 0 := rfl
            show (ms h 47 (60 * s + w)).toInt.toNat = 0
            omega
          · left
            obtain ⟨j, hj, ej⟩ := nI_of z
            unfold nee
            rw [ej, nI_clamp hj]
        have hni : nee (ms h) s w < 2147483648 := clamp_lt (ms h 47 (60 * s + w))
        unfold B_X12_needs_48
        simp only [nm, u3, hwd]
        rw [rf_12_1 G4, Option.bind_some, ga_v (by omega) (by omega), Option.bind_some, m_46, em, e2, if_neg (nI_ge c (by omega)), rf_12_2 G4, Option.bind_some, ix60, ga_v (by omega) (by omega), Option.bind_some, m_47, em]
        rcases e1 with e1 | ⟨e1, e3⟩
        · rw [e1, if_pos (nI_pos' hni), Option.bind_some, ga_v (by omega) (by omega), Option.bind_some, m_47, em, e1, nI_l hni, q1]
          rfl
        · rw [if_neg e1]
          have q1' := q1
          rw [show lN (nee (ms h) s w) = 0 by rw [e3]; rfl] at q1'
          rw [q1']
          rfl
      · right
        have e : w = n := by omega
        subst e
        refine ⟨dp h4, ?_, h4, rfl, x4, M⟩
        unfold B_X12_needs_48
        simp only [nm, u3, hwd]
        rw [rf_12_1 G4, Option.bind_some, ga_v (by omega) (by omega), Option.bind_some, m_46, em, e2, if_pos (nI_le (Nat.le_refl _) (by omega))]
  obtain ⟨r, l2, h', rfl, x5, M⟩ := l2
  refine ⟨h', ?_, r3.t (x5.sq RM_la), M⟩
  unfold F_X12_needs
  simp only [nm, u2]
  rw [r1, Option.bind_some, hwd1, l1, Option.bind_some, wd_dp x2.1, l2, Option.bind_some, wd_dp (x5.1.trans x3.1.symm)]
theorem p_melts : CP_melts RQ := by
  intro h R a b
  by_cases c1 : 0 ≤ a ∧ a ≤ 3
  · by_cases c2 : 0 ≤ b ∧ b ≤ ms h 12 8 - 1
    · obtain ⟨s, hs, rfl⟩ := in_lit (n := 3) (by omega) c1
      obtain ⟨b, hb, rfl⟩ := in_cnt (v_nb R.m) (by have := b_nb R.m; omega) c2
      have hb20 := b_nb R.m
      rcases sh_cases R (s := s) (by omega) with ⟨l1, l2⟩ | ⟨l1, f, n, hf, hn, e1, e2, e3, e4, e5⟩
      · obtain ⟨w1, w2⟩ := find2 R 1
        refine ⟨-11, dp (si h 11 0 15 1), dp (si (si h 11 0 15 1) 12 0 4 1), ?_, ?_, w2⟩
        · unfold F_X11_melts
          simp only [nm, u2]
          rw [e_isSheet, Option.bind_some, ite_b, if_pos c1, rf_11_3 R.1, Option.bind_some, e_has R, Option.bind_some, ite_b, if_pos c2, rf_11_14 R.1, Option.bind_some, gar_v (by omega) (by omega), rs_44 R (by omega), Option.bind_some, l1, if_neg (show ¬ (1 : Int32) = 0 by decide), e_finding, Option.bind_some]
          simp only [wd_si, wd_self]
          rfl
        · rw [w1]
          unfold F_X12_melts
          simp only [nm, u2]
          rw [f_isSheet, Option.bind_some, ite_b, if_pos c1, f_isBell, Option.bind_some, ms_15, ite_b, if_pos c2, rf_12_0 (h := si h 11 0 15 1) R.1, Option.bind_some, ga_v (by omega) (by omega), Option.bind_some, m_45, ms_15, l2, if_neg (show ¬ (0 : Int32) ≤ -1 by decide), f_met, Option.bind_some]
          simp only [wd_si, wd_osi, wd_self]
          rfl
      · obtain ⟨h1, p1, p2, p3⟩ := e_plan R (s := s) (by omega) hn e4 e5
        refine query R (r := (mpl (ms h) s n).1.1 b) (F1 := F_X11_melts 0 (nI s) (nI b)) (F2 := F_X12_melts 0 (nI s) (nI b)) ⟨h1, ?_, p2.sq CM_la⟩ ?_
        · have G1 : gR h1.2.2 := by rw [p2.1]; exact R.1
          unfold F_X11_melts
          simp only [nm]
          rw [e_isSheet, Option.bind_some, ite_b, if_pos c1, rf_11_3 R.1, Option.bind_some, e_has R, Option.bind_some, ite_b, if_pos c2, rf_11_14 R.1, Option.bind_some, gar_v (by omega) (by omega), rs_44 R (by omega), Option.bind_some, l1, if_pos rfl, rf_11_11 R.1, Option.bind_some, Option.bind_some, rf_11_4 R.1, Option.bind_some, Option.bind_some, gar_v (by omega) (by omega), rs_44 R (by omega), Option.bind_some, p1, Option.bind_some, wd_dp p2.1, rf_11_11 G1, Option.bind_some, rf_6_0 G1, Option.bind_some, ga_v (by omega) (by omega), Option.bind_some, p3.1.1 b (by omega)]
        · intro h2 R2 em
          obtain ⟨h3, q1, q2, q3⟩ := f_needs (h := h2) R2.1 R2.m (s := s) (n := n) (by omega) hn (by rw [em]; exact e2)
          rw [em] at q3
          refine ⟨h3, ?_, q2⟩
          have G3 : gR h3.2.2 := by rw [q2.1]; exact R2.1
          unfold F_X12_melts
          simp only [nm]
          rw [f_isSheet, Option.bind_some, ite_b, if_pos c1, f_isBell, Option.bind_some, em, ite_b, if_pos c2, rf_12_0 R2.1, Option.bind_some, ga_v (by omega) (by omega), Option.bind_some, m_45, em, e1, if_pos (nI_pos' (by omega)), q1, Option.bind_some, wd_dp q2.1, rf_12_49 G3, Option.bind_some, ga_v (by omega) (by omega), Option.bind_some, q3.1.1 b hb]
    · refine ⟨-2, dp h, dp h, ?_, ?_, R⟩
      · unfold F_X11_melts
        rw [e_isSheet, Option.bind_some, ite_b, if_pos c1, rf_11_3 R.1, Option.bind_some, e_has R, Option.bind_some, ite_b, if_neg c2]
      · unfold F_X12_melts
        rw [f_isSheet, Option.bind_some, ite_b, if_pos c1, f_isBell, Option.bind_some, wd_self, ite_b, if_neg c2]
  · refine ⟨-2, dp h, dp h, ?_, ?_, R⟩
    · unfold F_X11_melts
      rw [e_isSheet, Option.bind_some, ite_b, if_neg c1]
    · unfold F_X12_melts
      rw [f_isSheet, Option.bind_some, ite_b, if_neg c1]
      rfl
theorem minl_v (x : Int64) : F_J_minl x 1000000000 = some (if lg_cmp x 1000000000 ≤ 0 then x else 1000000000) := by
  unfold F_J_minl
  by_cases c : lg_cmp x 1000000000 ≤ 0
  · rw [if_pos c, if_neg]
    intro q
    exact (fa_of_lt q).2.1 c
  · rw [if_neg c, if_pos (fa_of_nle c)]
theorem p_shorts : CP_shorts RQ := by
  intro h R a b
  by_cases c1 : 0 ≤ a ∧ a ≤ 3
  · by_cases c2 : 0 ≤ b ∧ b ≤ 2
    · obtain ⟨s, hs, rfl⟩ := in_lit (n := 3) (by omega) c1
      rcases sh_cases R (s := s) (by omega) with ⟨l1, l2⟩ | ⟨l1, f, n, hf, hn, e1, e2, e3, e4, e5⟩
      · obtain ⟨w1, w2⟩ := find2 R 1
        refine ⟨-11, dp (si h 11 0 15 1), dp (si (si h 11 0 15 1) 12 0 4 1), ?_, ?_, w2⟩
        · unfold F_X11_shorts
          simp only [nm, u2]
          rw [e_isSheet, Option.bind_some, ite_b, if_pos c1, e_from, Option.bind_some, ite_b, if_pos c2, rf_11_14 R.1, Option.bind_some, gar_v (by omega) (by omega), rs_44 R (by omega), Option.bind_some, l1, if_neg (show ¬ (1 : Int32) = 0 by decide), e_finding, Option.bind_some]
          simp only [wd_si, wd_self]
          rfl
        · rw [w1]
          unfold F_X12_shorts
          simp only [nm, u2]
          rw [f_isSheet, Option.bind_some, ite_b, if_pos c1, e_in_0_2, Option.bind_some, ite_b, if_pos c2, rf_12_0 (h := si h 11 0 15 1) R.1, Option.bind_some, ga_v (by omega) (by omega), Option.bind_some, m_45, ms_15, l2, if_neg (show ¬ (0 : Int32) ≤ -1 by decide), f_met, Option.bind_some]
          simp only [wd_si, wd_osi, wd_self]
          rfl
      · obtain ⟨h1, p1, p2, p3⟩ := e_plan R (s := s) (by omega) hn e4 e5
        refine query R (r := if b = 0 then (if lg_cmp (mpl (ms h) s n).2.1 1000000000 ≤ 0 then (mpl (ms h) s n).2.1 else 1000000000).toInt32 else if b = 1 then (mpl (ms h) s n).2.2 else nI (mpl (ms h) s n).1.2.2) (F1 := F_X11_shorts 0 (nI s) b) (F2 := F_X12_shorts 0 (nI s) b) ⟨h1, ?_, p2.sq CM_la⟩ ?_
        · have G1 : gR h1.2.2 := by rw [p2.1]; exact R.1
          unfold F_X11_shorts
          simp only [nm]
          rw [e_isSheet, Option.bind_some, ite_b, if_pos c1, e_from, Option.bind_some, ite_b, if_pos c2, rf_11_14 R.1, Option.bind_some, gar_v (by omega) (by omega), rs_44 R (by omega), Option.bind_some, l1, if_pos rfl, rf_11_11 R.1, Option.bind_some, rf_11_3 R.1, Option.bind_some, rf_11_4 R.1, Option.bind_some, Option.bind_some, gar_v (by omega) (by omega), rs_44 R (by omega), Option.bind_some, p1, Option.bind_some, wd_dp p2.1]
          by_cases d1 : b = 0
          · rw [if_pos d1, if_pos d1, rf_11_11 G1, Option.bind_some, p3.2.1, minl_v, Option.bind_some]
          · rw [if_neg d1, if_neg d1]
            by_cases d2 : b = 1
            · rw [if_pos d2, if_pos d2, rf_11_11 G1, Option.bind_some, p3.2.2]
            · rw [if_neg d2, if_neg d2, rf_11_11 G1, Option.bind_some, p3.1.2.2]
        · intro h2 R2 em
          obtain ⟨h3, q1, q2, q3⟩ := f_needs (h := h2) R2.1 R2.m (s := s) (n := n) (by omega) hn (by rw [em]; exact e2)
          rw [em] at q3
          refine ⟨h3, ?_, q2⟩
          have G3 : gR h3.2.2 := by rw [q2.1]; exact R2.1
          unfold F_X12_shorts
          simp only [nm]
          rw [f_isSheet, Option.bind_some, ite_b, if_pos c1, e_in_0_2, Option.bind_some, ite_b, if_pos c2, rf_12_0 R2.1, Option.bind_some, ga_v (by omega) (by omega), Option.bind_some, m_45, em, e1, if_pos (nI_pos' (by omega)), q1, Option.bind_some, wd_dp q2.1, q3.2.1, q3.2.2, q3.1.2]
          by_cases d1 : b = 0
          · rw [if_pos d1, if_pos d1]
            by_cases d3 : lg_cmp (mpl (ms h) s n).2.1 1000000000 ≤ 0
            · rw [if_pos d3, if_pos d3]
            · rw [if_neg d3, if_neg d3]
              rfl
          · rw [if_neg d1, if_neg d1]
            by_cases d2 : b = 1
            · rw [if_pos d2, if_pos d2]
            · rw [if_neg d2, if_neg d2]
    · refine ⟨-2, dp h, dp h, ?_, ?_, R⟩
      · unfold F_X11_shorts
        rw [e_isSheet, Option.bind_some, ite_b, if_pos c1, e_from, Option.bind_some, ite_b, if_neg c2]
      · unfold F_X12_shorts
        rw [f_isSheet, Option.bind_some, ite_b, if_pos c1, e_in_0_2, Option.bind_some, ite_b, if_neg c2]
        rfl
  · refine ⟨-2, dp h, dp h, ?_, ?_, R⟩
    · unfold F_X11_shorts
      rw [e_isSheet, Option.bind_some, ite_b, if_neg c1]
    · unfold F_X12_shorts
      rw [f_isSheet, Option.bind_some, ite_b, if_neg c1]
      rfl
