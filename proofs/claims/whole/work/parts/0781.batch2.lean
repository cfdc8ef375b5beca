/-! stage III: batch -/
theorem nbf (a b : Nat) : (Nat.beq a b = false) = (a ≠ b) := by
  rw [eq_iff_iff]
  constructor
  · intro h e
    rw [e, Nat.beq_refl] at h
    cases h
  · intro h
    cases q : Nat.beq a b with
    | false => rfl
    | true => exact absurd (Nat.eq_of_beq_eq_true q) h
theorem sr_22 (h : HP) (k i s : Nat) (v : Option Nat) : gn (sr h k i s v) = gn h := rfl
theorem p_batch : CP_batch RQ := by
  intro h R a1 a2 a3 a4 a5
  have hb := b_nb R.m
  have hk6 := b_nk R.m
  have h11 : 0 < gn h 11 ∧ 0 < gn h 12 := by rw [rn_11 R.1, rn_12 R.1]; omega
  have no : ∀ r : Int32, F_X11_batch 0 a1 a2 a3 a4 a5 h = some (r, h) → F_X12_batch 0 a1 a2 a3 a4 a5 h = some (r, dp h) → ∃ (r : Int32) (d : HP) (d2 : DP), F_X11_batch 0 a1 a2 a3 a4 a5 h = some (r, d) ∧ 0 < gn d 11 ∧ 0 < gn d 12 ∧ F_X12_batch 0 a1 a2 a3 a4 a5 d = some (r, d2) ∧ RQ (wd d d2) :=
    fun r e1 e2 => ⟨r, h, dp h, e1, h11.1, h11.2, e2, R⟩
  have j32 : ∀ t0 : Int32, (¬ (0 ≤ a1 ∧ a1 ≤ 99999) ∨ ¬ (0 ≤ a2 ∧ a2 ≤ 9999) ∨ t0 = 0 ∨ ¬ (0 < a5 ∧ a5.toNatClampNeg < 2 ^ NB (ms h) ∧ pop a5.toNatClampNeg ≤ 12)) → J_X11_batch_32 0 a1 a2 a3 a4 a5 t0 h = some (-2, h) := by
    intro t0 q
    unfold J_X11_batch_32
    by_cases c1 : 0 ≤ a1 ∧ a1 ≤ 99999
    · by_cases c2 : 0 ≤ a2 ∧ a2 ≤ 9999
      · by_cases c3 : t0 = 0
        · rw [e_from, Option.bind_some, ite_b, if_pos c1, e_from, Option.bind_some, ite_b, if_pos c2, if_pos c3]
        · rw [e_from, Option.bind_some, ite_b, if_pos c1, e_from, Option.bind_some, ite_b, if_pos c2, if_neg c3, e_mayBeTold R, Option.bind_some, ite_b]
          rcases q with q | q | q | q
          · exact absurd c1 q
          · exact absurd c2 q
          · exact absurd q c3
          · rw [if_neg q]
      · rw [e_from, Option.bind_some, ite_b, if_pos c1, e_from, Option.bind_some, ite_b, if_neg c2]
    · rw [e_from, Option.bind_some, ite_b, if_neg c1]
  have cls : F_X11_batch 0 a1 a2 a3 a4 a5 h = J_X11_batch_32 0 a1 a2 a3 a4 a5 (if (0 ≤ a3 ∧ a3 ≤ 100) ∧ (0 ≤ a4 ∧ a4 ≤ 100) ∧ a3 ≤ a4 then 1 else 0) h := by
    unfold F_X11_batch
    by_cases c3 : 0 ≤ a3 ∧ a3 ≤ 100
    · by_cases c4 : 0 ≤ a4 ∧ a4 ≤ 100
      · rw [e_from, Option.bind_some, ite_b, if_pos c3, e_from, Option.bind_some, ite_b, if_pos c4]
        by_cases c5 : a4 < a3
        · rw [if_pos c5, if_neg (fun q => (fa_of_lt c5).2.1 q.2.2)]
        · rw [if_neg c5, if_pos ⟨c3, c4, fa_of_nlt c5⟩]
      · rw [e_from, Option.bind_some, ite_b, if_pos c3, e_from, Option.bind_some, ite_b, if_neg c4, if_neg (fun q => c4 q.2.1)]
    · rw [e_from, Option.bind_some, ite_b, if_neg c3, if_neg (fun q => c3 q.1)]
  have ref0 : ∀ X : HP, ms X = ms h → F_X12_batch 0 a1 a2 a3 a4 a5 X = (if 0 ≤ a1 ∧ a1 ≤ 99999 then (if 0 ≤ a2 ∧ a2 ≤ 9999 then (if 0 ≤ a4 ∧ a4 ≤ 100 then (if 0 ≤ a3 ∧ a3 ≤ a4 then (if 0 < a5 ∧ a5.toNatClampNeg < 2 ^ NB (ms h) ∧ pop a5.toNatClampNeg ≤ 12 then
      (if gi X 12 0 39 = 6 then some (-4, dp X) else
      (gr X 12 0 40).bind fun o15 =>
      (sa X 72 o15 6 (gi X 12 0 39) a1).bind fun h18 =>
      (gr h18 12 0 41).bind fun o22 =>
      (sa h18 73 o22 6 (gi h18 12 0 39) a2).bind fun h25 =>
      (gr h25 12 0 42).bind fun o29 =>
      (sa h25 74 o29 6 (gi h25 12 0 39) a3).bind fun h32 =>
      (gr h32 12 0 43).bind fun o36 =>
      (sa h32 75 o36 6 (gi h32 12 0 39) a4).bind fun h39 =>
      (gr h39 12 0 44).bind fun o43 =>
      (sa h39 76 o43 6 (gi h39 12 0 39) a5).bind fun h46 =>
      some (gi (si h46 12 0 39 (gi h46 12 0 39 + 1)) 12 0 39 - 1, dp (si h46 12 0 39 (gi h46 12 0 39 + 1))))
      else some (-2, dp X)) else some (-2, dp X)) else some (-2, dp X)) else some (-2, dp X)) else some (-2, dp X)) := by
    intro X eX
    have told := f_told (h := X) (by rw [eX]; exact R.m) a5 (fun X => if gi X 12 0 39 = 6 then some (-4, dp X) else
      (gr X 12 0 40).bind fun o15 =>
      (sa X 72 o15 6 (gi X 12 0 39) a1).bind fun h18 =>
      (gr h18 12 0 41).bind fun o22 =>
      (sa h18 73 o22 6 (gi h18 12 0 39) a2).bind fun h25 =>
      (gr h25 12 0 42).bind fun o29 =>
      (sa h25 74 o29 6 (gi h25 12 0 39) a3).bind fun h32 =>
      (gr h32 12 0 43).bind fun o36 =>
      (sa h32 75 o36 6 (gi h32 12 0 39) a4).bind fun h39 =>
      (gr h39 12 0 44).bind fun o43 =>
      (sa h39 76 o43 6 (gi h39 12 0 39) a5).bind fun h46 =>
      some (gi (si h46 12 0 39 (gi h46 12 0 39 + 1)) 12 0 39 - 1, dp (si h46 12 0 39 (gi h46 12 0 39 + 1)))) (some (-2, dp X))
    rw [eX] at told
    unfold F_X12_batch
    simp only [nm]
    rw [told]
    rw [e_in_0_99999, Option.bind_some, ite_b, e_in_0_9999, Option.bind_some, ite_b, e_in_0_100, Option.bind_some, ite_b, e_in_0_x, Option.bind_some, ite_b]
  have okr : ∀ X : HP, ms X = ms h → (¬ (0 ≤ a1 ∧ a1 ≤ 99999) ∨ ¬ (0 ≤ a2 ∧ a2 ≤ 9999) ∨ ¬ (0 ≤ a4 ∧ a4 ≤ 100) ∨ ¬ (0 ≤ a3 ∧ a3 ≤ a4) ∨ ¬ (0 < a5 ∧ a5.toNatClampNeg < 2 ^ NB (ms h) ∧ pop a5.toNatClampNeg ≤ 12)) → F_X12_batch 0 a1 a2 a3 a4 a5 X = some (-2, dp X) := by
    intro X eX q
    rw [ref0 X eX]
    by_cases c1 : 0 ≤ a1 ∧ a1 ≤ 99999
    · rw [if_pos c1]
      by_cases c2 : 0 ≤ a2 ∧ a2 ≤ 9999
      · rw [if_pos c2]
        by_cases c4 : 0 ≤ a4 ∧ a4 ≤ 100
        · rw [if_pos c4]
          by_cases c3 : 0 ≤ a3 ∧ a3 ≤ a4
          · rw [if_pos c3]
            rcases q with q | q | q | q | q
            · exact absurd c1 q
            · exact absurd c2 q
            · exact absurd c4 q
            · exact absurd c3 q
            · rw [if_neg q]
          · rw [if_neg c3]
        · rw [if_neg c4]
      · rw [if_neg c2]
    · rw [if_neg c1]
  by_cases c1 : 0 ≤ a1 ∧ a1 ≤ 99999
  · by_cases c2 : 0 ≤ a2 ∧ a2 ≤ 9999
    · by_cases c4 : 0 ≤ a4 ∧ a4 ≤ 100
      · by_cases c3 : 0 ≤ a3 ∧ a3 ≤ a4
        · by_cases c5 : 0 < a5 ∧ a5.toNatClampNeg < 2 ^ NB (ms h) ∧ pop a5.toNatClampNeg ≤ 12
          · have c3' : 0 ≤ a3 ∧ a3 ≤ 100 := ⟨c3.1, by
              have := c3.2
              have := c4.2
              rw [fa_le] at *
              omega⟩
            rw [if_pos ⟨c3', c4, c3.2⟩] at cls
            by_cases c6 : NK (ms h) < 6
            · -- a new batch
              have e10 : gi h 11 0 10 = nI (NK (ms h)) := (cw_nk R).trans (v_nk R.m)
              have n0 : gn h 0 = NK (ms h) := R.k.2.2.1
              obtain ⟨m, hm, rfl⟩ := nI_of (x := a5) (fa_of_lt c5.1).2.2.1
              rw [nI_clamp hm] at c5
              obtain ⟨w, hw, rfl⟩ := in_lit (n := 99999) (by omega) c1
              have hw2 : cn a2 9999 := cn_in 9999 c2.1 c2.2
              have h9f : ∀ k i s, ¬ k = 0 → gi (nw h 0) k i s = gi h k i s := fun k i s hk => by rw [gi_nw, if_neg (fun q => hk q.1)]
              have init : F_X0_init (NK (ms h)) (nI w) a2 a3 a4 (nw h 0) = some (si (si (si (si (si (nw h 0) 0 (NK (ms h)) 5 (-1)) 0 (NK (ms h)) 0 (nI w)) 0 (NK (ms h)) 1 a2) 0 (NK (ms h)) 2 a3) 0 (NK (ms h)) 3 a4) := rfl
              generalize hh14 : si (si (si (si (si (nw h 0) 0 (NK (ms h)) 5 (-1)) 0 (NK (ms h)) 0 (nI w)) 0 (NK (ms h)) 1 a2) 0 (NK (ms h)) 2 a3) 0 (NK (ms h)) 3 a4 = h14 at init
              have r14 : gr h14 = gr (nw h 0) := by rw [← hh14]; rfl
              have n14 : gn h14 = gn (nw h 0) := by rw [← hh14]; rfl
              have i14 : ∀ k i s, ¬ (k = 0 ∧ i = NK (ms h)) → gi h14 k i s = gi h k i s := by
                intro k i s hk
                rw [← hh14, gi_si, if_neg (fun q => hk ⟨q.1, q.2.1⟩), gi_si, if_neg (fun q => hk ⟨q.1, q.2.1⟩), gi_si, if_neg (fun q => hk ⟨q.1, q.2.1⟩), gi_si, if_neg (fun q => hk ⟨q.1, q.2.1⟩), gi_si, if_neg (fun q => hk ⟨q.1, q.2.1⟩), gi_nw, if_neg (by rw [n0]; exact hk)]
              have z14 : ∀ s, 6 ≤ s ∨ s = 4 → gi h14 0 (NK (ms h)) s = 0 := by
                intro s hs
                rw [← hh14, gi_si, if_neg (by omega), gi_si, if_neg (by omega), gi_si, if_neg (by omega), gi_si, if_neg (by omega), gi_si, if_neg (by omega), gi_nw, if_pos ⟨rfl, n0.symm⟩]
              have BF14 : BF h14 (NB (ms h)) (ms h 51) (ms h 53) := by
                refine ⟨?_, ?_, hb, fun b hbn => ⟨?_, ?_, ?_, n_51 R.m hbn⟩⟩
                · rw [r14, gr_nw, if_neg (by omega)]; exact rf_2_0 R.1
                · rw [i14 _ _ _ (by omega), cw_nb R]; exact v_nb R.m
                · rw [r14, gr_nw, if_neg (by omega)]; exact rb_23 R hbn
                · rw [i14 _ _ _ (by omega)]; exact cb_1 R hbn
                · rw [i14 _ _ _ (by omega)]; exact cb_3 R hbn
              have BT14 : BT h14 (NK (ms h)) w a2 a3 a4 := by
                refine ⟨?_, ?_, ?_, ?_⟩
                · rw [← hh14, gi_si, if_neg (by omega), gi_si, if_neg (by omega), gi_si, if_neg (by omega), gi_si, if_pos ⟨rfl, rfl, rfl⟩]
                · rw [← hh14, gi_si, if_neg (by omega), gi_si, if_neg (by omega), gi_si, if_pos ⟨rfl, rfl, rfl⟩]
                · rw [← hh14, gi_si, if_neg (by omega), gi_si, if_pos ⟨rfl, rfl, rfl⟩]
                · rw [← hh14, gi_si, if_pos ⟨rfl, rfl, rfl⟩]
              have hml : (mbs m (NB (ms h))).length ≤ 12 := by
                rw [mbs_len, ← (pop_mask c5.2.1 hb).1]
                exact c5.2.2
              have z5 : gi h14 0 (NK (ms h)) 5 = -1 := by rw [← hh14, gi_si, if_neg (by omega), gi_si, if_neg (by omega), gi_si, if_neg (by omega), gi_si, if_neg (by omega), gi_si, if_pos ⟨rfl, rfl, rfl⟩]
              obtain ⟨h20, wo, w22, wi, wK⟩ := e_workOut BF14 BT14 (by omega) c5.2.1 hml (z14 4 (by omega)) z5 (z14 6 (by omega)) (z14 7 (by omega))
              have r20 : ∀ k i s, k ≠ 0 → k ≠ 84 → gr h20 k i s = gr h k i s := by
                intro k i s hk hk2
                rw [gr_22 w22, gr_nw, if_neg (fun q => hk2 q.1), r14, gr_nw, if_neg (fun q => hk q.1)]
              have n20 : ∀ k, k ≠ 0 → k ≠ 84 → gn h20 k = gn h k := by
                intro k hk hk2
                rw [gn_22 w22, gn_nw, if_neg hk2, n14, gn_nw, if_neg hk]
              have n200 : gn h20 0 = NK (ms h) + 1 := by rw [gn_22 w22, gn_nw, if_neg (by omega), n14, gn_nw, if_pos rfl, n0]
              have i20 : ∀ k i s, k ≠ 84 → ¬ (k = 0 ∧ i = NK (ms h)) → gi h20 k i s = gi h k i s := by
                intro k i s hk hk2
                rw [wi k i s hk (fun q => hk2 ⟨q.1, q.2.1⟩), i14 k i s hk2]
              have e20 : gi h20 11 0 10 = nI (NK (ms h)) := by rw [i20 _ _ _ (by omega) (by omega)]; exact e10
              -- the class's heap
              generalize hd : si (sr h20 43 0 (NK (ms h)) (some (NK (ms h)))) 11 0 10 (nI (NK (ms h) + 1)) = d
              have rd : ∀ k i s, k ≠ 0 → k ≠ 84 → k ≠ 43 → gr d k i s = gr h k i s := by
                intro k i s hk hk2 hk3
                rw [← hd, gr_si, gr_sr, if_neg (fun q => hk3 q.1), r20 k i s hk hk2]
              have nd : gn d = gn h20 := by rw [← hd]; rfl
              have id : ∀ k i s, k ≠ 84 → ¬ (k = 0 ∧ i = NK (ms h)) → ¬ (k = 11 ∧ i = 0 ∧ s = 10) → gi d k i s = gi h k i s := by
                intro k i s hk hk2 hk3
                rw [← hd, gi_si, if_neg hk3, gi_sr, i20 k i s hk hk2]
              have eid : EI (fun k s => Nat.beq k 0 || (Nat.beq k 84 || (Nat.beq k 11 && Nat.beq s 10))) h d := by
                intro k i s e
                simp only [Bool.or_eq_false_iff, Bool.and_eq_false_iff, nbf] at e
                exact id k i s e.2.1 (fun q => e.1 q.1) (fun q => by rcases e.2.2 with z | z <;> omega)
              have emd : ms d = ms h := by
                funext k s
                unfold ms
                by_cases e : mk k s = true
                · rw [if_pos e, if_pos e]
                  refine eid k 0 s ?_
                  cases hq : (Nat.beq k 0 || (Nat.beq k 84 || (Nat.beq k 11 && Nat.beq s 10))) with
                  | false => exact hq
                  | true =>
                    exfalso
                    simp only [Bool.or_eq_true, Bool.and_eq_true, Nat.beq_eq] at hq
                    rcases hq with rfl | rfl | ⟨rfl, rfl⟩ <;> cases e
                · rw [if_neg e, if_neg e]
              have xd : RFX XKB h.2.2 d.2.2 := by
                refine ⟨fun k i s e => ?_, fun k e => ?_⟩
                · unfold XKB at e
                  simp only [Bool.or_eq_false_iff, nbf] at e
                  exact rd k i s e.1 e.2.1 e.2.2
                · unfold XKB at e
                  simp only [Bool.or_eq_false_iff, nbf] at e
                  show gn d k = gn h k
                  rw [nd]
                  exact n20 k e.1 e.2.1
              have Gd : gR d.2.2 := gR_rf xd (by decide) R.1
              have e39 : gi d 12 0 39 = nI (NK (ms h)) := by rw [m_12_39, emd]; exact v_nk R.m
              generalize hH : si (si (si (si (si (si d 72 0 (NK (ms h)) (nI w)) 73 0 (NK (ms h)) a2) 74 0 (NK (ms h)) a3) 75 0 (NK (ms h)) a4) 76 0 (NK (ms h)) (nI m)) 12 0 39 (nI (NK (ms h) + 1)) = H
              have HR : H.2.2 = d.2.2 := by rw [← hH]; rfl
              have iH : ∀ k i s, ¬ (i = 0 ∧ s = NK (ms h) ∧ 72 ≤ k ∧ k ≤ 76) → ¬ (k = 12 ∧ i = 0 ∧ s = 39) → gi H k i s = gi d k i s := by
                intro k i s q1 q2
                rw [← hH, gi_si, if_neg q2, gi_si, if_neg (by omega), gi_si, if_neg (by omega), gi_si, if_neg (by omega), gi_si, if_neg (by omega), gi_si, if_neg (by omega)]
              have EH : EI SKB h H := by
                intro k i s e
                unfold SKB at e
                simp only [Bool.or_eq_false_iff, Bool.and_eq_false_iff, nbf] at e
                rw [iH k i s (by omega) (by omega), id k i s (by omega) (by omega) (by omega)]
              refine ⟨nI (NK (ms h)), d, dp H, ?_, by rw [rn_11 Gd]; omega, by rw [rn_12 Gd]; omega, ?_, ?_⟩
              · rw [cls]
                unfold J_X11_batch_32
                simp only [nm, n0]
                rw [e_from, Option.bind_some, ite_b, if_pos c1, e_from, Option.bind_some, ite_b, if_pos c2, if_neg (show ¬ (1 : Int32) = 0 by decide), e_mayBeTold R, Option.bind_some, nI_clamp hm, ite_b, if_pos c5, e10, if_pos (show nI (NK (ms h)) < (6 : Int32) from nI_lt (b := 6) c6 (by omega)), init, Option.bind_some]
                rw [(show gr h14 11 0 3 = some 0 by rw [r14, gr_nw, if_neg (by omega), rf_11_3 R.1]), Option.bind_some, wo, Option.bind_some, (show gr h20 11 0 9 = some 0 by rw [r20 _ _ _ (by omega) (by omega), rf_11_9 R.1]), Option.bind_some, e20, sar_v (show NK (ms h) < 6 by omega) (by omega), Option.bind_some, gi_sr, e20, nI_1, hd]
                rw [show gi d 11 0 10 = nI (NK (ms h) + 1) by rw [← hd, gi_si, if_pos ⟨rfl, rfl, rfl⟩]]
                rw [show nI (NK (ms h) + 1) - 1 = nI (NK (ms h)) from pk_sub (b := 1) (by omega)]
              · rw [ref0 d emd, if_pos c1, if_pos c2, if_pos c4, if_pos c3, nI_clamp hm, if_pos c5, e39, if_neg (show ¬ nI (NK (ms h)) = (6 : Int32) from fun q => by have := (nI_eq (a := NK (ms h)) (b := 6) (by omega) (by omega)).mp q; omega)]
                have t12 : ∀ (k : Nat) (X : HP) (v : Int32), k ≠ 12 → gi (si X k 0 (NK (ms h)) v) 12 0 39 = gi X 12 0 39 := fun k X v hk => by rw [gi_si, if_neg (fun q => hk q.1.symm)]
                have k6 : NK (ms h) < 6 := c6
                rw [rf_12_40 Gd, Option.bind_some, sa_v k6 (by omega), Option.bind_some, rf_12_41 (h := si d 72 0 (NK (ms h)) (nI w)) Gd, Option.bind_some, t12 72 _ _ (by omega), e39, sa_v k6 (by omega), Option.bind_some, rf_12_42 (h := si (si d 72 0 (NK (ms h)) (nI w)) 73 0 (NK (ms h)) a2) Gd, Option.bind_some, t12 73 _ _ (by omega), t12 72 _ _ (by omega), e39, sa_v k6 (by omega), Option.bind_some, rf_12_43 (h := si (si (si d 72 0 (NK (ms h)) (nI w)) 73 0 (NK (ms h)) a2) 74 0 (NK (ms h)) a3) Gd, Option.bind_some, t12 74 _ _ (by omega), t12 73 _ _ (by omega), t12 72 _ _ (by omega), e39, sa_v k6 (by omega), Option.bind_some, rf_12_44 (h := si (si (si (si d 72 0 (NK (ms h)) (nI w)) 73 0 (NK (ms h)) a2) 74 0 (NK (ms h)) a3) 75 0 (NK (ms h)) a4) Gd, Option.bind_some, t12 75 _ _ (by omega), t12 74 _ _ (by omega), t12 73 _ _ (by omega), t12 72 _ _ (by omega), e39, sa_v k6 (by omega), Option.bind_some, t12 76 _ _ (by omega), t12 75 _ _ (by omega), t12 74 _ _ (by omega), t12 73 _ _ (by omega), t12 72 _ _ (by omega), e39, nI_1, hH]
                rw [show gi H 12 0 39 = nI (NK (ms h) + 1) by rw [← hH, gi_si, if_pos ⟨rfl, rfl, rfl⟩]]
                rw [show nI (NK (ms h) + 1) - 1 = nI (NK (ms h)) from pk_sub (b := 1) (by omega)]
              · rw [wd_dp HR]
                have hS : ∀ k, k < 4 → True := fun _ _ => trivial
                refine RQ.mk R (by rw [HR]; exact Gd) ?_ ?_ ?_ ?_ ?_ ?_ ?_ ?_ ?_ ?_
                · rw [vw_ei EH (by intro k s e; unfold dW at e; simp only [Bool.or_eq_true, Bool.and_eq_true, Nat.beq_eq] at e; rcases e with ⟨rfl, rfl⟩ | ⟨rfl, rfl⟩ <;> rfl)]; exact R.w
                · rw [vw_ei EH (by intro k s e; unfold dP at e; simp only [Bool.or_eq_true, Bool.and_eq_true, Nat.beq_eq] at e; rcases e with ⟨rfl, rfl⟩ | ⟨rfl, rfl⟩ | rfl | rfl <;> rfl)]; exact R.p
                · rw [vw_ei EH (by intro k s e; unfold dB at e; simp only [Bool.or_eq_true, Bool.and_eq_true, Nat.beq_eq] at e; rcases e with ⟨rfl, rfl | rfl | rfl | rfl | rfl | rfl | rfl | rfl⟩ | ⟨rfl, rfl⟩ | ⟨rfl, rfl | rfl⟩ | rfl | rfl | rfl | rfl | rfl | rfl | rfl | rfl | rfl | rfl | rfl | rfl | rfl | rfl <;> rfl), HR]; exact gB_rf xd (by decide) R.b
                · rw [vw_ei EH (by intro k s e; unfold dL at e; simp only [Bool.or_eq_true, Bool.and_eq_true, Nat.beq_eq] at e; rcases e with ⟨rfl, rfl | rfl | rfl⟩ | ⟨rfl, rfl⟩ | rfl | rfl | rfl | rfl | rfl | rfl <;> rfl)]; exact R.l
                · rw [vw_ei EH (by intro k s e; unfold dU at e; simp only [Bool.or_eq_true, Bool.and_eq_true, Nat.beq_eq] at e; rcases e with ⟨rfl, rfl | rfl | rfl⟩ | ⟨rfl, rfl⟩ | ⟨rfl, rfl⟩ | rfl | rfl | rfl | rfl | rfl <;> rfl), HR]; exact gU_rf xd (by decide) R.u
                · rw [vw_ei EH (by intro k s e; unfold dT at e; simp only [Bool.or_eq_true, Bool.and_eq_true, Nat.beq_eq] at e; rcases e with ⟨rfl, rfl | rfl⟩ | ⟨rfl, rfl | rfl⟩ <;> rfl)]; exact R.t
                · refine gK_new R (w := w) (d := a2) (lo := a3) (hi := a4) (m := m) c6 (by omega) hw2 (cn_in 100 c3'.1 c3'.2) (cn_in 100 c4.1 c4.2) c5.2.1 c5.2.2 ?_ ?_ ?_ ?_ ?_ ?_ ?_ ?_ ?_ ?_ ?_
                  · rw [iH _ _ _ (by omega) (by omega), ← hd, gi_si, if_pos ⟨rfl, rfl, rfl⟩]
                  · rw [← hH, gi_si, if_pos ⟨rfl, rfl, rfl⟩]
                  · rw [iH _ _ _ (by omega) (by omega), m_12_8, emd]; exact v_nb R.m
                  · intro s; rw [iH _ _ _ (by omega) (by omega), m_51, emd]
                  · intro s; rw [iH _ _ _ (by omega) (by omega), m_53, emd]
                  · rw [gn_22 HR, nd]; exact n200
                  · intro k hk
                    rw [gr_22 HR, ← hd, gr_si, gr_sr]
                    by_cases e : k = NK (ms h)
                    · rw [if_pos ⟨rfl, rfl, e⟩, e]
                    · rw [if_neg (fun q => e q.2.2), r20 _ _ _ (by omega) (by omega)]
                      exact ck_43 R (by omega)
                  · intro k s hk
                    rw [iH _ _ _ (by omega) (by omega), id _ _ _ (by omega) (by omega) (by omega)]
                  · intro k hk
                    refine ⟨?_, ?_, ?_, ?_, ?_⟩
                    · rw [iH _ _ _ (by omega) (by omega), m_72, emd]
                    · rw [iH _ _ _ (by omega) (by omega), m_73, emd]
                    · rw [iH _ _ _ (by omega) (by omega), m_74, emd]
                    · rw [iH _ _ _ (by omega) (by omega), m_75, emd]
                    · rw [iH _ _ _ (by omega) (by omega), m_76, emd]
                  · obtain ⟨⟨k4, k5, k6, k7⟩, kb, kl⟩ := wK
                    have e0 : ∀ s, gi H 0 (NK (ms h)) s = gi h20 0 (NK (ms h)) s := fun s => by rw [iH _ _ _ (by omega) (by omega), ← hd, gi_si, if_neg (by omega), gi_sr]
                    exact ⟨⟨by rw [e0]; exact k4, by rw [e0]; exact k5, by rw [e0]; exact k6, by rw [e0]; exact k7⟩, kb, kl⟩
                  · refine ⟨?_, ?_, ?_, ?_, ?_⟩
                    · rw [← hH, gi_si, if_neg (by omega), gi_si, if_neg (by omega), gi_si, if_neg (by omega), gi_si, if_neg (by omega), gi_si, if_neg (by omega), gi_si, if_pos ⟨rfl, rfl, rfl⟩]
                    · rw [← hH, gi_si, if_neg (by omega), gi_si, if_neg (by omega), gi_si, if_neg (by omega), gi_si, if_neg (by omega), gi_si, if_pos ⟨rfl, rfl, rfl⟩]
                    · rw [← hH, gi_si, if_neg (by omega), gi_si, if_neg (by omega), gi_si, if_neg (by omega), gi_si, if_pos ⟨rfl, rfl, rfl⟩]
                    · rw [← hH, gi_si, if_neg (by omega), gi_si, if_neg (by omega), gi_si, if_pos ⟨rfl, rfl, rfl⟩]
                    · rw [← hH, gi_si, if_neg (by omega), gi_si, if_pos ⟨rfl, rfl, rfl⟩]
                · rw [vw_ei EH (by intro k s e; unfold dC at e; simp only [Bool.or_eq_true, Bool.and_eq_true, Nat.beq_eq] at e; rcases e with ⟨rfl, rfl⟩ | ⟨rfl, rfl⟩ | rfl | rfl | rfl | rfl | rfl | rfl | rfl | rfl | rfl | rfl <;> rfl)]; exact R.c
                · rw [vw_ei EH (by intro k s e; unfold dS at e; simp only [Bool.or_eq_true, Bool.and_eq_true, Nat.beq_eq] at e; rcases e with ⟨rfl, rfl | rfl | rfl⟩ | rfl | rfl | rfl | rfl <;> rfl), HR]; exact gS_rf xd (by decide) R.s
                · rw [vw_ei EH (by intro k s e; unfold dF at e; simp only [Bool.or_eq_true, Bool.and_eq_true, Nat.beq_eq] at e; rcases e with ⟨rfl, rfl⟩ | ⟨rfl, rfl⟩ <;> rfl)]; exact R.f
            · -- no room
              have e : NK (ms h) = 6 := by omega
              have e10 : gi h 11 0 10 = nI 6 := by rw [(cw_nk R).trans (v_nk R.m), e]
              refine no (-4) ?_ ?_
              · rw [cls]
                unfold J_X11_batch_32
                rw [e_from, Option.bind_some, ite_b, if_pos c1, e_from, Option.bind_some, ite_b, if_pos c2, if_neg (show ¬ (1 : Int32) = 0 by decide), e_mayBeTold R, Option.bind_some, ite_b, if_pos c5, e10, if_neg (show ¬ nI 6 < (6 : Int32) by decide)]
              · rw [ref0 h rfl, if_pos c1, if_pos c2, if_pos c4, if_pos c3, if_pos c5, if_pos]
                rw [m_12_39, v_nk R.m, e]
                rfl
          · exact no (-2) (by rw [cls]; exact j32 _ (Or.inr (Or.inr (Or.inr c5)))) (okr h rfl (Or.inr (Or.inr (Or.inr (Or.inr c5)))))
        · refine no (-2) (by rw [cls]; exact j32 _ (Or.inr (Or.inr (Or.inl (if_neg (fun q => c3 ⟨q.1.1, q.2.2⟩)))))) (okr h rfl (Or.inr (Or.inr (Or.inr (Or.inl c3)))))
      · exact no (-2) (by rw [cls]; exact j32 _ (Or.inr (Or.inr (Or.inl (if_neg (fun q => c4 q.2.1)))))) (okr h rfl (Or.inr (Or.inr (Or.inl c4))))
    · exact no (-2) (by rw [cls]; exact j32 _ (Or.inr (Or.inl c2))) (okr h rfl (Or.inr (Or.inl c2)))
  · exact no (-2) (by rw [cls]; exact j32 _ (Or.inl c1)) (okr h rfl (Or.inl c1))
