/-! stage III: the laying, the reference -/
def FXR (fx : Nat → Nat) (X : HP) : Prop := ∀ u, u < 8 → gi X 71 0 u = nI (fx u) ∧ fx u ≤ 21
def S70 (k s : Nat) : Bool := Nat.beq k 70 || (Nat.beq k 12 && (Nat.beq s 35 || Nat.beq s 36))
def S71 (k s : Nat) : Bool := Nat.beq k 71
def S70k (k s : Nat) : Bool := Nat.beq k 70
theorem S70_la : ∀ k s, S70 k s = true → la k s = false := by
  intro k s e
  unfold S70 at e
  simp only [Bool.or_eq_true, Bool.and_eq_true, Nat.beq_eq] at e
  rcases e with rfl | ⟨rfl, rfl | rfl⟩ <;> rfl
theorem S71_la : ∀ k s, S71 k s = true → la k s = false := by
  intro k s e
  unfold S71 at e
  simp only [Nat.beq_eq] at e
  subst e
  rfl
theorem S70k_70 : ∀ k s, S70 k s = false → S70k k s = false := by
  intro k s e
  unfold S70 at e
  simp only [Bool.or_eq_false_iff] at e
  exact e.1
theorem EX.fxr {X Y : HP} {fx : Nat → Nat} (x : EX S70 X Y) (f : FXR fx X) : FXR fx Y := fun u hu => by
  rw [x.2.1 71 0 u rfl]
  exact f u hu
theorem f_isFixed {X : HP} {fx : Nat → Nat} (G : gR X.2.2) (W : MW (ms X)) (f : FXR fx X) {b : Nat} (hb : b ≤ 20) : F_X12_isFixed 0 (nI b) X = some (if hasF fx b (NU (ms X)) = true then 1 else 0) := by
  have hU := b_nu W
  have key : loopN LF (B_X12_isFixed_4 0 (nI b) X) ((if hasF fx b 0 = true then 1 else 0), nI 0) = some (if hasF fx b (NU (ms X)) = true then 1 else 0) := by
    refine loopS (fun u => ((if hasF fx b u = true then (1 : Int32) else 0), nI u)) (NU (ms X)) (by omega) (fun u hu => ?_) ?_
    · obtain ⟨f1, f2⟩ := f u (by omega)
      have st : hasF fx b (u + 1) = (hasF fx b u || decide (fx u = b)) := rfl
      unfold B_X12_isFixed_4
      simp only [nm, u2]
      rw [m_12_28, v_nu W, if_neg (nI_ge hu (by omega)), ite_b, nI_1]
      by_cases c : hasF fx b u = true
      · rw [if_pos c, st, c, Bool.true_or]
        rfl
      · rw [if_neg c]
        have c' : hasF fx b u = false := by
          cases e : hasF fx b u with
          | false => rfl
          | true => exact absurd e c
        rw [rf_12_34 G, Option.bind_some, ga_v (show u < 8 by omega) (by omega), Option.bind_some, f1]
        rw [st, c', Bool.false_or]
        by_cases c2 : fx u = b
        · rw [if_pos ((nI_eq (by omega) (by omega)).mpr c2), decide_eq_true c2]
          rfl
        · rw [if_neg (fun q => c2 ((nI_eq (by omega) (by omega)).mp q)), decide_eq_false c2]
          rfl
    · unfold B_X12_isFixed_4
      simp only [nm, u2]
      rw [m_12_28, v_nu W, if_pos (nI_le (Nat.le_refl _) (by omega))]
  unfold F_X12_isFixed
  rw [show loopN LF (B_X12_isFixed_4 0 (nI b) X) (0, 0) = _ from key, Option.bind_some, e_bz]
  rfl
theorem f_differences {h : HP} (G : gR h.2.2) (W : MW (ms h)) {u b : Nat} (hu : u < NU (ms h)) (hb : b < NB (ms h)) : F_X12_differences 0 (nI u) (nI b) h = some (nI (dfN (ms h) u b)) := by
  have h3 := b_nb W
  have h4 := b_nu W
  have key : loopN LF (B_X12_differences_5 0 (nI u) (nI b) h) (nI (fb_sm (fun t => apV (ms h) u b t) 0), nI 0) = some (nI (dfN (ms h) u b)) := by
    refine loopS (fun t => (nI (fb_sm (fun t => apV (ms h) u b t) t), nI t)) 5 (by omega) (fun t ht => ?_) ?_
    · unfold B_X12_differences_5
      simp only [nm, u2]
      rw [if_neg (show ¬ (5 : Int32) ≤ nI t from nI_ge (b := 5) ht (by omega)), rf_12_29 G, Option.bind_some, ix5, ga_v (by omega) (by omega), Option.bind_some, m_66, rf_12_13 G, Option.bind_some, ix5, ga_v (by omega) (by omega), Option.bind_some, m_54, nI_1]
      rw [fb_sm_succ]
      by_cases c1 : ms h 66 (5 * u + t) = -1
      · have : apV (ms h) u b t = 0 := if_pos c1
        rw [if_pos c1, this, Int32.add_zero]
        rfl
      · rw [if_neg c1]
        by_cases c2 : ms h 54 (5 * b + t) = -1
        · have : apV (ms h) u b t = 0 := by unfold apV; rw [if_neg c1, if_pos c2]
          rw [if_pos c2, this, Int32.add_zero]
          rfl
        · rw [if_neg c2]
          obtain ⟨x, hx, ex⟩ := tn_v (n_66 W hu ht) c1
          obtain ⟨y, hy, ey⟩ := tn_v (tb_54 W hb ht) c2
          have ap : apV (ms h) u b t = apN x y := by unfold apV; rw [if_neg c1, if_neg c2, ex, ey, nI_clamp (by omega), nI_clamp (by omega)]
          rw [ex, ey, f_apart (by omega) (by omega), Option.bind_some, nI_add, ap]
    · unfold B_X12_differences_5
      simp only [nm, u2]
      rw [if_pos (show (5 : Int32) ≤ nI 5 from nI_le (a := 5) (Nat.le_refl _) (by omega))]
      rfl
  unfold F_X12_differences
  rw [show loopN LF (B_X12_differences_5 0 (nI u) (nI b) h) (0, 0) = _ from key]
  rfl
/-- the table in the heap -/
def TB7 (U : Nat) (G : Nat → Option Int) (X : HP) : Prop :=
  (∀ S, S < 2 ^ U → G S = none → gi X 70 0 S = nI 1000000000) ∧ ∀ S v, S < 2 ^ U → G S = some v → gi X 70 0 S = nI v.toNat
theorem okf_cb {U : Nat} {ok : Nat → Nat → Bool} {fx : Nat → Nat} {df : Nat → Nat → Int} {B : Nat} (hd : ∀ u b, u < U → b < B → ok u b = true → 0 ≤ df u b ∧ df u b ≤ 495) : ∀ u b, u < U → b < B → okf U ok fx u b = true → 0 ≤ df u b ∧ df u b ≤ 495 :=
  fun u b hu hb e => hd u b hu hb (okf_iff.mp e).1
theorem f_layin {X : HP} {fx : Nat → Nat} (G0 : gR X.2.2) (W : MW (ms X)) (f : FXR fx X) {b x : Nat} (hb : b < NB (ms X)) {F G : Nat → Option Int}
    (d : DPI (NU (ms X)) (okf (NU (ms X)) (cbV (ms X)) fx) (dfI (ms X)) 0 b F) (s : STo (NU (ms X)) (okf (NU (ms X)) (cbV (ms X)) fx) (dfI (ms X)) 0 b F (x + 1) G) (tb : TB7 (NU (ms X)) G X) (hx : x < 2 ^ NU (ms X)) :
    ∃ r : DP, loopN LF (B_X12_lays_57 0 (nI b) (nI x) X) (0, dp X) = some r ∧ ∃ Y G', r = dp Y ∧ EX S70k X Y ∧ STo (NU (ms X)) (okf (NU (ms X)) (cbV (ms X)) fx) (dfI (ms X)) 0 b F x G' ∧ TB7 (NU (ms X)) G' Y := by
  have hU := b_nu W
  have hB := b_nb W
  have p8 := pow8 hU
  have hd := okf_cb (fx := fx) (U := NU (ms X)) (B := 20) (dfI_cb W (B := 20) (by omega))
  cases hGx : G x with
  | none =>
    refine loopI (fun _ q => q = (nI 0, dp X)) _ 0 (by omega) rfl ?_
    rintro i q hi rfl
    right
    refine ⟨dp X, ?_, X, G, rfl, EX.rfl' X, s.none hGx, tb⟩
    unfold B_X12_lays_57
    simp only [nm, u2, wd_self]
    rw [m_12_28, v_nu W]
    by_cases c : NU (ms X) = 0
    · rw [c, if_pos (nI_le (Nat.le_refl _) (by omega))]
    · rw [if_neg (nI_ge (show 0 < NU (ms X) by omega) (by omega)), rf_12_33 G0, Option.bind_some, ga_v (show x < 256 by omega) (by omega), Option.bind_some, tb.1 x hx hGx]
      rw [if_pos (show (1000000000 : Int32) ≤ nI 1000000000 from nI_le (a := 1000000000) (Nat.le_refl _) (by omega))]
  | some v =>
    have hFx : F x = some v := by rw [← s.2.1 x (by omega)]; exact hGx
    obtain ⟨g1, ag1, -, vg1⟩ := d.1 x v hx hFx
    have bv := VS_bound (df := dfI (ms X)) ag1 (fun u c hu hc h => hd u c hu (by omega) h)
    have v0 : 0 ≤ v ∧ v ≤ 3960 := by omega
    refine loopI (fun j q => ∃ Y G, q = (nI j, dp Y) ∧ j ≤ NU (ms X) ∧ EX S70k X Y ∧ STp (NU (ms X)) (okf (NU (ms X)) (cbV (ms X)) fx) (dfI (ms X)) 0 b F (x + 1) x j G ∧ TB7 (NU (ms X)) G Y) _ (NU (ms X)) (by omega) ⟨X, G, rfl, Nat.zero_le _, EX.rfl' X, s.enter, tb⟩ ?_
    rintro j q hj ⟨Y, G, rfl, -, xY, sY, tY⟩
    have hwd : wd X (dp Y) = Y := wd_dp xY.1
    have x70 : EX S70 X Y := xY.mono S70k_70
    have GY : gR Y.2.2 := by rw [xY.1]; exact G0
    have eY : ms Y = ms X := (x70.sq S70_la).mq
    have WY : MW (ms Y) := by rw [eY]; exact W
    have fY : FXR fx Y := x70.fxr f
    have e28 : gi Y 12 0 28 = nI (NU (ms X)) := by rw [m_12_28, eY]; exact v_nu W
    by_cases c : j < NU (ms X)
    · left
      have hG : G x = some v := by rw [sY.2.1 x (by omega)]; exact hFx
      have ev : gi Y 70 0 x = nI v.toNat := tY.2 x v hx hG
      have hlt : ¬ (1000000000 : Int32) ≤ nI v.toNat := nI_ge (b := 1000000000) (by omega) (by omega)
      obtain ⟨f1, f2⟩ := fY j (by omega)
      have isf := f_isFixed GY WY fY (b := b) (by omega)
      rw [eY] at isf
      have cb := f_couldBe GY WY (u := j) (b := b) (by rw [eY]; exact c) (by rw [eY]; exact hb)
      rw [eY] at cb
      have df := f_differences GY WY (u := j) (b := b) (by rw [eY]; exact c) (by rw [eY]; exact hb)
      rw [eY] at df
      -- one that is not laid, or not to b
      have skip : ¬ (x.testBit j = false ∧ okf (NU (ms X)) (cbV (ms X)) fx j b = true) → B_X12_lays_57 0 (nI b) (nI x) X (nI j, dp Y) = some (.inl (nI (j + 1), dp Y)) → ∃ s', j < NU (ms X) ∧ B_X12_lays_57 0 (nI b) (nI x) X (nI j, dp Y) = some (.inl s') ∧ ∃ Y G, s' = (nI (j + 1), dp Y) ∧ j + 1 ≤ NU (ms X) ∧ EX S70k X Y ∧ STp (NU (ms X)) (okf (NU (ms X)) (cbV (ms X)) fx) (dfI (ms X)) 0 b F (x + 1) x (j + 1) G ∧ TB7 (NU (ms X)) G Y :=
        fun h1 h2 => ⟨_, c, h2, Y, G, rfl, by omega, xY, sY.skip h1, tY⟩
      have head : B_X12_lays_57 0 (nI b) (nI x) X (nI j, dp Y) = if x.testBit j = true then some (.inl (nI (j + 1), dp Y)) else if fx j = b then J_X12_lays_114 0 (nI b) (nI x) (nI j) Y else if fx j = 21 then (if hasF fx b (NU (ms X)) = true then some (.inl (nI (j + 1), dp Y)) else J_X12_lays_114 0 (nI b) (nI x) (nI j) Y) else some (.inl (nI (j + 1), dp Y)) := by
        unfold B_X12_lays_57
        simp only [nm, u2, hwd]
        rw [e28, if_neg (nI_ge c (by omega)), rf_12_33 GY, Option.bind_some, ga_v (show x < 256 by omega) (by omega), Option.bind_some, ev, if_neg hlt, bt_test (show x < 2147483648 by omega) (show j < 31 by omega), ite_b]
        by_cases z : x.testBit j = true
        · rw [if_pos z, if_pos z, nI_1]
        · rw [if_neg z, if_neg z, rf_12_34 GY, Option.bind_some, ga_v (show j < 8 by omega) (by omega), Option.bind_some, f1]
          by_cases z2 : fx j = b
          · rw [if_pos ((nI_eq (by omega) (by omega)).mpr z2), if_pos z2]
          · rw [if_neg (fun q => z2 ((nI_eq (by omega) (by omega)).mp q)), if_neg z2, Option.bind_some, ga_v (show j < 8 by omega) (by omega), Option.bind_some, f1]
            by_cases z3 : fx j = 21
            · rw [if_pos (show nI (fx j) = (21 : Int32) by rw [z3]; rfl), if_pos z3, isf, Option.bind_some, ite_b, nI_1]
            · rw [if_neg (show ¬ nI (fx j) = (21 : Int32) from fun q => z3 ((nI_eq (b := 21) (by omega) (by omega)).mp q)), if_neg z3, nI_1]
      by_cases z : x.testBit j = true
      · exact skip (fun q => by rw [z] at q; cases q.1) (by rw [head, if_pos z])
      · have z' : x.testBit j = false := by
          cases e : x.testBit j with
          | false => rfl
          | true => exact absurd e z
        by_cases fr : fx j = b ∨ (fx j = 21 ∧ ¬ hasF fx b (NU (ms X)) = true)
        · have go : B_X12_lays_57 0 (nI b) (nI x) X (nI j, dp Y) = J_X12_lays_114 0 (nI b) (nI x) (nI j) Y := by
            rw [head, if_neg z]
            by_cases z2 : fx j = b
            · rw [if_pos z2]
            · have := fr.resolve_left z2
              rw [if_neg z2, if_pos this.1, if_neg this.2]
          by_cases hcb : cbV (ms X) j b = true
          · have hok : okf (NU (ms X)) (cbV (ms X)) fx j b = true := okf_iff.mpr ⟨hcb, fr.elim Or.inl (fun q => Or.inr ⟨q.1, fun e => q.2 ((hasF_iff _ _ _).mpr e)⟩)⟩
            have hw : x ||| 2 ^ j < 2 ^ NU (ms X) := or_lt2 hx c
            have dle := dfN_cb W c hcb
            have new := sY.upd (by omega) d hx c hG z' hok
            have esum : (v + dfI (ms X) j b).toNat = v.toNat + dfN (ms X) j b := by unfold dfI; omega
            have bs : v + dfI (ms X) j b = ((v.toNat + dfN (ms X) j b : Nat) : Int) := by unfold dfI; omega
            have bw : ∀ w, G (x ||| 2 ^ j) = some w → 0 ≤ w ∧ w ≤ 3960 := by
              intro w hw'
              obtain ⟨g2, ag2, -, vg2⟩ := sY.1 _ w hw hw'
              have := VS_bound (df := dfI (ms X)) ag2 (fun u c hu hc h => hd u c hu (by omega) h)
              omega
            have emin : (if gi Y 70 0 (x ||| 2 ^ j) ≤ nI (v.toNat + dfN (ms X) j b) then gi Y 70 0 (x ||| 2 ^ j) else nI (v.toNat + dfN (ms X) j b)) = nI (tmn (G (x ||| 2 ^ j)) (v + dfI (ms X) j b)).toNat := by
              cases hg : G (x ||| 2 ^ j) with
              | none =>
                rw [tY.1 _ hw hg, if_neg (nI_ge (by omega) (by omega))]
                show _ = nI (v + dfI (ms X) j b).toNat
                rw [esum]
              | some w =>
                have hw2 := bw w hg
                rw [tY.2 _ w hw hg]
                show _ = nI (if w ≤ v + dfI (ms X) j b then w else v + dfI (ms X) j b).toNat
                by_cases q : w ≤ v + dfI (ms X) j b
                · rw [if_pos (nI_le (by omega) (by omega)), if_pos q]
                · rw [if_neg (nI_ge (by omega) (by omega)), if_neg q, esum]
            refine ⟨(nI (j + 1), dp (si Y 70 0 (x ||| 2 ^ j) (nI (tmn (G (x ||| 2 ^ j)) (v + dfI (ms X) j b)).toNat))), c, ?_, _, _, rfl, by omega, xY.si 0 _ rfl, new, fun S hS e => ?_, fun S w hS e => ?_⟩
            · rw [go, ← emin]
              have j177 : ∀ t, J_X12_lays_177 0 (nI b) (nI x) (nI j) t (nI (x ||| 2 ^ j)) 0 Y = some (.inl (nI (j + 1), dp (si Y 70 0 (x ||| 2 ^ j) t))) := by
                intro t
                unfold J_X12_lays_177
                simp only [nm]
                rw [sa_v (show x ||| 2 ^ j < 256 by omega) (by omega), Option.bind_some, nI_1]
              unfold J_X12_lays_114
              simp only [nm]
              rw [cb, Option.bind_some, ite_b, if_pos hcb, rf_12_33 GY, Option.bind_some, ga_v (show x < 256 by omega) (by omega), Option.bind_some, df, Option.bind_some, ev, nI_add, Option.bind_some, Option.bind_some, bt_or (show j < 31 by omega), ga_v (show x ||| 2 ^ j < 256 by omega) (by omega), Option.bind_some, j177]
              by_cases q : gi Y 70 0 (x ||| 2 ^ j) ≤ nI (v.toNat + dfN (ms X) j b)
              · rw [if_pos q, if_pos q, Option.bind_some, ga_v (show x ||| 2 ^ j < 256 by omega) (by omega), Option.bind_some, j177]
              · rw [if_neg q, if_neg q]
            · rw [gi_si]
              unfold tup at e
              by_cases q : S = x ||| 2 ^ j
              · rw [if_pos q] at e; cases e
              · rw [if_neg q] at e
                rw [if_neg (fun z => q z.2.2)]
                exact tY.1 S hS e
            · rw [gi_si]
              unfold tup at e
              by_cases q : S = x ||| 2 ^ j
              · rw [if_pos q] at e
                injection e with e
                rw [if_pos ⟨rfl, rfl, q⟩, e]
              · rw [if_neg q] at e
                rw [if_neg (fun z => q z.2.2)]
                exact tY.2 S w hS e
          · refine skip (fun q => hcb (okf_iff.mp q.2).1) ?_
            rw [go]
            unfold J_X12_lays_114
            simp only [nm]
            rw [cb, Option.bind_some, ite_b, if_neg hcb, nI_1]
        · refine skip (fun q => fr ((okf_iff.mp q.2).2.elim Or.inl (fun w => Or.inr ⟨w.1, fun e => w.2 ((hasF_iff _ _ _).mp e)⟩))) ?_
          rw [head, if_neg z, if_neg (fun q => fr (Or.inl q))]
          by_cases z3 : fx j = 21
          · rw [if_pos z3, if_pos (Decidable.not_not.mp (fun q => fr (Or.inr ⟨z3, q⟩)))]
          · rw [if_neg z3]
    · right
      have : j = NU (ms X) := by omega
      subst this
      refine ⟨dp Y, ?_, Y, G, rfl, xY, sY.leave, tY⟩
      unfold B_X12_lays_57
      simp only [nm, u2, hwd]
      rw [e28, if_pos (nI_le (Nat.le_refl _) (by omega))]
theorem f_layset {X : HP} {fx : Nat → Nat} (G0 : gR X.2.2) (W : MW (ms X)) (f : FXR fx X) {b : Nat} (hb : b < NB (ms X)) {F : Nat → Option Int}
    (d : DPI (NU (ms X)) (okf (NU (ms X)) (cbV (ms X)) fx) (dfI (ms X)) 0 b F) (tb : TB7 (NU (ms X)) F X) :
    ∃ r : DP, loopN LF (B_X12_lays_51 0 (nI b) X) (nI (2 ^ NU (ms X)) - 1, dp X) = some r ∧ ∃ Y G, r = dp Y ∧ EX S70k X Y ∧ DPI (NU (ms X)) (okf (NU (ms X)) (cbV (ms X)) fx) (dfI (ms X)) 0 (b + 1) G ∧ TB7 (NU (ms X)) G Y := by
  have hU := b_nu W
  have hB := b_nb W
  have p8 := pow8 hU
  refine loopI (fun j q => ∃ y Y G, y + j = 2 ^ NU (ms X) ∧ q = (nI y - 1, dp Y) ∧ EX S70k X Y ∧ STo (NU (ms X)) (okf (NU (ms X)) (cbV (ms X)) fx) (dfI (ms X)) 0 b F y G ∧ TB7 (NU (ms X)) G Y) _ (2 ^ NU (ms X)) (by omega) ⟨2 ^ NU (ms X), X, F, by omega, rfl, EX.rfl' X, STo.begin d, tb⟩ ?_
  rintro j q hj ⟨y, Y, G, hy, rfl, xY, sY, tY⟩
  have hwd : wd X (dp Y) = Y := wd_dp xY.1
  have x70 : EX S70 X Y := xY.mono S70k_70
  have GY : gR Y.2.2 := by rw [xY.1]; exact G0
  have eY : ms Y = ms X := (x70.sq S70_la).mq
  have WY : MW (ms Y) := by rw [eY]; exact W
  have fY : FXR fx Y := x70.fxr f
  cases y with
  | zero =>
    right
    refine ⟨dp Y, ?_, Y, G, rfl, xY, sY.fin (by omega) d, tY⟩
    unfold B_X12_lays_51
    simp only [nm, u2, hwd]
    rw [if_pos (show nI 0 - 1 < 0 by decide)]
  | succ x =>
    left
    rw [nI_pred]
    obtain ⟨r, l1, Z, G', rfl, xZ, sZ, tZ⟩ := f_layin GY WY fY (b := b) (x := x) (by rw [eY]; exact hb) (F := F) (G := G) (by rw [eY]; exact d) (by rw [eY]; exact sY) (by rw [eY]; exact tY) (by rw [eY]; omega)
    rw [eY] at sZ tZ
    refine ⟨(nI x - 1, dp Z), by omega, ?_, x, Z, G', by omega, rfl, xY.trans xZ, sZ, tZ⟩
    unfold B_X12_lays_51
    simp only [nm, u2, hwd]
    rw [if_neg (nI_pos (n := x) (by omega)), l1, Option.bind_some, add_m1, wd_dp xZ.1]
theorem f_lay2 (h : HP) (G : gR h.2.2) : ∃ r : DP, loopN LF (B_X12_lays_2 0 h) (0, dp h) = some r ∧ ∃ Y, r = dp Y ∧ EX S70k h Y ∧ gi Y 70 0 0 = nI 0 ∧ ∀ s, s < 256 → s ≠ 0 → gi Y 70 0 s = nI 1000000000 := by
  have l1 : ∃ r : DP, loopN LF (B_X12_lays_2 0 h) (0, dp h) = some r ∧ ∃ Y, r = dp Y ∧ EX S70k h Y ∧ ∀ s, s < 256 → gi Y 70 0 s = if s = 0 then nI 0 else nI 1000000000 := by
    refine loopI (fun j q => ∃ Y, q = (nI j, dp Y) ∧ EX S70k h Y ∧ ∀ s, s < j → gi Y 70 0 s = if s = 0 then nI 0 else nI 1000000000) _ 256 (by omega) ⟨h, rfl, EX.rfl' h, fun s hs => absurd hs (Nat.not_lt_zero s)⟩ ?_
    rintro j q hj ⟨Y, rfl, xY, y1⟩
    have hwd : wd h (dp Y) = Y := wd_dp xY.1
    have GY : gR Y.2.2 := by rw [xY.1]; exact G
    by_cases c : j < 256
    · left
      have J : ∀ v : Int32, J_X12_lays_25 0 (nI j) v (nI j) 0 Y = some (.inl (nI (j + 1), dp (si Y 70 0 j v))) := by
        intro v
        unfold J_X12_lays_25
        simp only [nm]
        rw [sa_v (show j < 256 by omega) (by omega), Option.bind_some, nI_1]
      have hj0 : nI j = 0 ↔ j = 0 := nI_eq (b := 0) (by omega) (by omega)
      refine ⟨(nI (j + 1), dp (si Y 70 0 j (if j = 0 then nI 0 else nI 1000000000))), c, ?_, _, rfl, xY.si 0 _ rfl, fun s hs => ?_⟩
      · unfold B_X12_lays_2
        simp only [nm, u2, hwd]
        rw [if_neg (show ¬ (256 : Int32) ≤ nI j from nI_ge (b := 256) c (by omega)), rf_12_33 GY, Option.bind_some, J, J]
        by_cases z : j = 0
        · rw [if_pos (hj0.mpr z), if_pos z]; rfl
        · rw [if_neg (fun q => z (hj0.mp q)), if_neg z]; rfl
      · rw [gi_si]
        by_cases q : s = j
        · rw [if_pos ⟨rfl, rfl, q⟩, q]
        · rw [if_neg (fun z => q z.2.2)]; exact y1 s (by omega)
    · right
      refine ⟨dp Y, ?_, Y, rfl, xY, fun s hs => y1 s (by omega)⟩
      unfold B_X12_lays_2
      simp only [nm, u2, hwd]
      rw [if_pos (show (256 : Int32) ≤ nI j from nI_le (a := 256) (by omega) (by omega))]
  obtain ⟨r, l1, Y, rfl, xY, y1⟩ := l1
  exact ⟨_, l1, Y, rfl, xY, by rw [y1 0 (by omega), if_pos rfl], fun s hs q => by rw [y1 s hs, if_neg q]⟩
theorem cnG_ct (g : Nat → Nat) : ∀ n, cnG n g = (fb_ct (fun u => !Nat.beq (g u) 20) n : Int) := by
  intro n
  induction n with
  | zero => rfl
  | succ n ih =>
    rw [fb_ct_succ]
    show cnG n g + (if g n = 20 then 0 else 1) = _
    rw [ih, nb20]
    by_cases q : g n = 20
    · rw [if_pos q, decide_eq_false (fun z => z q), if_neg (by decide)]
      rfl
    · rw [if_neg q, decide_eq_true q, if_pos rfl]
      rfl
theorem cnG_pop {U : Nat} (hU : U ≤ 20) (g : Nat → Nat) : cnG U g = (pop (dm U g) : Int) := by
  rw [cnG_ct, (pop_mask (dm_lt U g) hU).1]
  congr 1
  exact fb_ct_cong (fun k hk => by rw [dm_bit, nb20, decide_eq_true hk, Bool.true_and])
/-- the best of all sets, as the reference looks for it -/
theorem f_lay208 {X : HP} {fx : Nat → Nat} (G0 : gR X.2.2) (W : MW (ms X)) {B : Nat} (hB : B ≤ NB (ms X)) {G : Nat → Option Int} (d : DPI (NU (ms X)) (okf (NU (ms X)) (cbV (ms X)) fx) (dfI (ms X)) 0 B G) (tb : TB7 (NU (ms X)) G X)
    (e35 : gi X 12 0 35 = nI 0) (e36 : gi X 12 0 36 = nI 0) :
    ∃ r : DP, loopN LF (B_X12_lays_208 0 X) (1, dp X) = some r ∧ ∃ Y many off, r = dp Y ∧ EX S70 X Y ∧ gi Y 12 0 35 = nI many ∧ gi Y 12 0 36 = nI off ∧ many ≤ 8 ∧ off ≤ 3960 ∧ BST (NU (ms X)) (okf (NU (ms X)) (cbV (ms X)) fx) (dfI (ms X)) B many off := by
  have hU := b_nu W
  have hN := b_nb W
  have p8 := pow8 hU
  have pU : 0 < 2 ^ NU (ms X) := Nat.pow_pos (by omega)
  have hd := okf_cb (fx := fx) (U := NU (ms X)) (B := B) (dfI_cb W (B := B) (by omega))
  have n0 : AS (NU (ms X)) (okf (NU (ms X)) (cbV (ms X)) fx) B (fun _ => 20) := ⟨fun u _ => Or.inl rfl, fun _ _ _ _ _ => Or.inl rfl⟩
  have z0 : cnG (NU (ms X)) (fun _ => 20) = 0 := by rw [cnG_pop (by omega), dm_none, pop_0]; rfl
  have z1 : VS (NU (ms X)) (dfI (ms X)) (fun _ => 20) = 0 := by
    unfold VS
    rw [sI_cong (g := fun _ => 0) _ (fun i _ => if_pos rfl), sI_const, Int.mul_zero]
  have b0 : ∀ v, G 0 = some v → v = 0 := by
    intro v hv
    obtain ⟨g, ag, dg, vg⟩ := d.1 0 v pU hv
    have : ∀ u, u < NU (ms X) → g u = 20 := by
      intro u hu
      have := dm_bit (NU (ms X)) g u
      rw [dg, Nat.zero_testBit, decide_eq_true hu, Bool.true_and] at this
      have := of_decide_eq_false this.symm
      omega
    rw [vg]
    unfold VS
    rw [sI_cong (g := fun _ => 0) _ (fun i hi => if_pos (this i hi)), sI_const, Int.mul_zero]
    rfl
  refine loopI (fun j q => ∃ Y many off, q = (nI (1 + j), dp Y) ∧ 1 + j ≤ 2 ^ NU (ms X) ∧ EX S70 X Y ∧ (∀ s, gi Y 70 0 s = gi X 70 0 s) ∧ gi Y 12 0 35 = nI many ∧ gi Y 12 0 36 = nI off ∧
    (∃ g, AS (NU (ms X)) (okf (NU (ms X)) (cbV (ms X)) fx) B g ∧ cnG (NU (ms X)) g = many ∧ VS (NU (ms X)) (dfI (ms X)) g = off) ∧ ∀ S v, S < 1 + j → G S = some v → pop S < many ∨ (pop S = many ∧ (off : Int) ≤ v)) _ (2 ^ NU (ms X) - 1) (by omega)
    ⟨X, 0, 0, rfl, by omega, EX.rfl' X, fun _ => rfl, e35, e36, ⟨_, n0, z0, z1⟩, fun S v hS e => by
      have : S = 0 := by omega
      subst this
      rw [b0 v e, pop_0]
      exact Or.inr ⟨rfl, Int.le_refl _⟩⟩ ?_
  rintro j q hj ⟨Y, many, off, rfl, hj2, xY, y70, y35, y36, ⟨g, ag, cg, vg⟩, yl⟩
  have hwd : wd X (dp Y) = Y := wd_dp xY.1
  have GY : gR Y.2.2 := by rw [xY.1]; exact G0
  have eY : ms Y = ms X := (xY.sq S70_la).mq
  have e28 : gi Y 12 0 28 = nI (NU (ms X)) := by rw [m_12_28, eY]; exact v_nu W
  have cb := cnG_bound (NU (ms X)) g
  have vb := VS_bound (df := dfI (ms X)) ag hd
  have hm : many ≤ 8 := by omega
  have ho : off ≤ 3960 := by omega
  have hp32 : pop (1 + j) ≤ 32 := fb_ct_le _ 32
  by_cases c : 1 + j < 2 ^ NU (ms X)
  · left
    have ge : ¬ (1 <<< (nI (NU (ms X)) &&& 31) : Int32) ≤ nI (1 + j) := by rw [bt_shl1 (by omega)]; exact nI_ge c (by omega)
    have o1 := f_ones (n := 1 + j) (by omega)
    have keep : (∀ v, G (1 + j) = some v → pop (1 + j) < many ∨ (pop (1 + j) = many ∧ (off : Int) ≤ v)) → B_X12_lays_208 0 X (nI (1 + j), dp Y) = some (.inl (nI (1 + (j + 1)), dp Y)) → ∃ s', j < 2 ^ NU (ms X) - 1 ∧ B_X12_lays_208 0 X (nI (1 + j), dp Y) = some (.inl s') ∧ ∃ Y many off, s' = (nI (1 + (j + 1)), dp Y) ∧ 1 + (j + 1) ≤ 2 ^ NU (ms X) ∧ EX S70 X Y ∧ (∀ s, gi Y 70 0 s = gi X 70 0 s) ∧ gi Y 12 0 35 = nI many ∧ gi Y 12 0 36 = nI off ∧
        (∃ g, AS (NU (ms X)) (okf (NU (ms X)) (cbV (ms X)) fx) B g ∧ cnG (NU (ms X)) g = many ∧ VS (NU (ms X)) (dfI (ms X)) g = off) ∧ ∀ S v, S < 1 + (j + 1) → G S = some v → pop S < many ∨ (pop S = many ∧ (off : Int) ≤ v) := by
      intro k1 k2
      refine ⟨_, by omega, k2, Y, many, off, rfl, by omega, xY, y70, y35, y36, ⟨g, ag, cg, vg⟩, fun S v hS e => ?_⟩
      by_cases q : S = 1 + j
      · subst q; exact k1 v e
      · exact yl S v (by omega) e
    cases hg : G (1 + j) with
    | none =>
      refine keep (fun v e => by rw [hg] at e; cases e) ?_
      unfold B_X12_lays_208
      simp only [nm, u2, hwd]
      rw [e28, if_neg ge, rf_12_33 GY, Option.bind_some, ga_v (show 1 + j < 256 by omega) (by omega), Option.bind_some, y70, tb.1 _ c hg]
      rw [if_pos (show (1000000000 : Int32) ≤ nI 1000000000 from nI_le (a := 1000000000) (Nat.le_refl _) (by omega)), nI_1]
      rfl
    | some v =>
      have ev := tb.2 _ v c hg
      obtain ⟨g2, ag2, dg2, vg2⟩ := d.1 _ v c hg
      have vb2 := VS_bound (df := dfI (ms X)) ag2 hd
      have cg2 : cnG (NU (ms X)) g2 = (pop (1 + j) : Int) := by rw [cnG_pop (by omega), dg2]
      have v0 : 0 ≤ v ∧ v ≤ 3960 := by omega
      have hlt : ¬ (1000000000 : Int32) ≤ nI v.toNat := nI_ge (b := 1000000000) (by omega) (by omega)
      have J : J_X12_lays_265 0 (nI (1 + j)) Y = some (.inl (nI (1 + (j + 1)), dp (si (si Y 12 0 35 (nI (pop (1 + j)))) 12 0 36 (nI v.toNat)))) := by
        unfold J_X12_lays_265
        simp only [nm]
        rw [o1, Option.bind_some, rf_12_33 (h := si Y 12 0 35 (nI (pop (1 + j)))) GY, Option.bind_some, ga_v (show 1 + j < 256 by omega) (by omega), Option.bind_some, gi_si, if_neg (show ¬ (70 = 12 ∧ 0 = 0 ∧ 1 + j = 35) by omega), y70, ev, nI_1]
        rfl
      have take : (pop (1 + j) > many ∨ (pop (1 + j) = many ∧ v < off)) → B_X12_lays_208 0 X (nI (1 + j), dp Y) = J_X12_lays_265 0 (nI (1 + j)) Y → ∃ s', j < 2 ^ NU (ms X) - 1 ∧ B_X12_lays_208 0 X (nI (1 + j), dp Y) = some (.inl s') ∧ ∃ Y many off, s' = (nI (1 + (j + 1)), dp Y) ∧ 1 + (j + 1) ≤ 2 ^ NU (ms X) ∧ EX S70 X Y ∧ (∀ s, gi Y 70 0 s = gi X 70 0 s) ∧ gi Y 12 0 35 = nI many ∧ gi Y 12 0 36 = nI off ∧
          (∃ g, AS (NU (ms X)) (okf (NU (ms X)) (cbV (ms X)) fx) B g ∧ cnG (NU (ms X)) g = many ∧ VS (NU (ms X)) (dfI (ms X)) g = off) ∧ ∀ S v, S < 1 + (j + 1) → G S = some v → pop S < many ∨ (pop S = many ∧ (off : Int) ≤ v) := by
        intro k1 k2
        refine ⟨_, by omega, (by rw [k2, J]), _, pop (1 + j), v.toNat, rfl, by omega, (xY.si 0 _ rfl).si 0 _ rfl, fun s => ?_, ?_, ?_, ⟨g2, ag2, cg2, by omega⟩, fun S w hS e => ?_⟩
        · rw [gi_si, if_neg (by omega), gi_si, if_neg (by omega)]; exact y70 s
        · rw [gi_si, if_neg (by omega), gi_si, if_pos ⟨rfl, rfl, rfl⟩]
        · rw [gi_si, if_pos ⟨rfl, rfl, rfl⟩]
        · by_cases q : S = 1 + j
          · subst q
            rw [hg] at e
            injection e with e
            exact Or.inr ⟨rfl, by omega⟩
          · have := yl S w (by omega) e
            omega
      have head : B_X12_lays_208 0 X (nI (1 + j), dp Y) = if many < pop (1 + j) then J_X12_lays_265 0 (nI (1 + j)) Y else if pop (1 + j) = many then (if nI off ≤ nI v.toNat then some (.inl (nI (1 + (j + 1)), dp Y)) else J_X12_lays_265 0 (nI (1 + j)) Y) else some (.inl (nI (1 + (j + 1)), dp Y)) := by
        unfold B_X12_lays_208
        simp only [nm, u2, hwd]
        rw [e28, if_neg ge, rf_12_33 GY, Option.bind_some, ga_v (show 1 + j < 256 by omega) (by omega), Option.bind_some, y70, ev, if_neg hlt, o1, Option.bind_some, y35]
        by_cases q : many < pop (1 + j)
        · rw [if_pos (nI_lt q (by omega)), if_pos q]
        · rw [if_neg (nlt_not (show pop (1 + j) ≤ many by omega) (by omega)), if_neg q, Option.bind_some]
          by_cases q2 : pop (1 + j) = many
          · rw [if_pos ((nI_eq (by omega) (by omega)).mpr q2), if_pos q2, Option.bind_some, ga_v (show 1 + j < 256 by omega) (by omega), Option.bind_some, y36, y70, ev, nI_1]
            rfl
          · rw [if_neg (fun z => q2 ((nI_eq (by omega) (by omega)).mp z)), if_neg q2, nI_1]
            rfl
      by_cases q : many < pop (1 + j)
      · exact take (Or.inl q) (by rw [head, if_pos q])
      · by_cases q2 : pop (1 + j) = many
        · by_cases q3 : (off : Int) ≤ v
          · exact keep (fun w e => by rw [hg] at e; injection e with e; exact Or.inr ⟨q2, by omega⟩) (by rw [head, if_neg q, if_pos q2, if_pos (nI_le (by omega) (by omega))])
          · exact take (Or.inr ⟨q2, by omega⟩) (by rw [head, if_neg q, if_pos q2, if_neg (nI_ge (by omega) (by omega))])
        · exact keep (fun w e => Or.inl (by omega)) (by rw [head, if_neg q, if_neg q2])
  · right
    refine ⟨dp Y, ?_, Y, many, off, rfl, xY, y35, y36, hm, ho, ⟨g, ag, cg, vg⟩, fun g' a' => ?_⟩
    · unfold B_X12_lays_208
      simp only [nm, u2, hwd]
      rw [e28, bt_shl1 (by omega), if_pos (nI_le (by omega) (by omega))]
    · obtain ⟨v, e1, e2⟩ := d.2 g' a'
      have := yl _ v (by have := dm_lt (NU (ms X)) g'; omega) e1
      rw [cnG_pop (by omega)]
      omega
theorem f_lays {X : HP} {fx : Nat → Nat} (G0 : gR X.2.2) (W : MW (ms X)) (f : FXR fx X) :
    ∃ Y many off, F_X12_lays 0 X = some (dp Y) ∧ EX S70 X Y ∧ gi Y 12 0 35 = nI many ∧ gi Y 12 0 36 = nI off ∧ many ≤ 8 ∧ off ≤ 3960 ∧ BST (NU (ms X)) (okf (NU (ms X)) (cbV (ms X)) fx) (dfI (ms X)) (NB (ms X)) many off := by
  have hU := b_nu W
  have hN := b_nb W
  have p8 := pow8 hU
  obtain ⟨r, l2, X2, rfl, x2, v0, v1⟩ := f_lay2 X G0
  have G2 : gR X2.2.2 := by rw [x2.1]; exact G0
  have x2' : EX S70 X X2 := x2.mono S70k_70
  have e2 : ms X2 = ms X := (x2'.sq S70_la).mq
  have tb2 : TB7 (NU (ms X)) (fun S => if S = 0 then some 0 else none) X2 := by
    refine ⟨fun S hS e => ?_, fun S v hS e => ?_⟩
    · have e' : (if S = 0 then some (0 : Int) else none) = none := e
      by_cases q : S = 0
      · rw [if_pos q] at e'; cases e'
      · exact v1 S (by omega) q
    · have e' : (if S = 0 then some (0 : Int) else none) = some v := e
      by_cases q : S = 0
      · rw [if_pos q] at e'
        cases e'
        rw [q]
        exact v0
      · rw [if_neg q] at e'; cases e'
  have l34 : ∃ r : DP, loopN LF (B_X12_lays_34 0 X2) (0, dp X2) = some r ∧ ∃ Y G, r = dp Y ∧ EX S70k X2 Y ∧ DPI (NU (ms X)) (okf (NU (ms X)) (cbV (ms X)) fx) (dfI (ms X)) 0 (NB (ms X)) G ∧ TB7 (NU (ms X)) G Y := by
    refine loopI (fun j q => ∃ Y G, q = (nI j, dp Y) ∧ j ≤ NB (ms X) ∧ EX S70k X2 Y ∧ DPI (NU (ms X)) (okf (NU (ms X)) (cbV (ms X)) fx) (dfI (ms X)) 0 j G ∧ TB7 (NU (ms X)) G Y) _ (NB (ms X)) (by omega) ⟨X2, _, rfl, Nat.zero_le _, EX.rfl' X2, dpi_zero, tb2⟩ ?_
    rintro j q hj ⟨Y, G, rfl, -, xY, dY, tY⟩
    have hwd : wd X2 (dp Y) = Y := wd_dp xY.1
    have x70 : EX S70 X Y := x2'.trans (xY.mono S70k_70)
    have GY : gR Y.2.2 := by rw [xY.1]; exact G2
    have eY : ms Y = ms X := (x70.sq S70_la).mq
    have WY : MW (ms Y) := by rw [eY]; exact W
    have fY : FXR fx Y := x70.fxr f
    by_cases c : j < NB (ms X)
    · left
      obtain ⟨r, l1, Z, G', rfl, xZ, dZ, tZ⟩ := f_layset GY WY fY (b := j) (by rw [eY]; exact c) (F := G) (by rw [eY]; exact dY) (by rw [eY]; exact tY)
      rw [eY] at l1 dZ tZ
      refine ⟨(nI (j + 1), dp Z), c, ?_, Z, G', rfl, by omega, xY.trans xZ, dZ, tZ⟩
      unfold B_X12_lays_34
      simp only [nm, u2, hwd]
      rw [m_12_8, eY, v_nb W, if_neg (nI_ge c (by omega)), m_12_28, eY, v_nu W, bt_shl1 (show NU (ms X) < 31 by omega), l1, Option.bind_some, wd_dp xZ.1, nI_1]
    · right
      have : j = NB (ms X) := by omega
      subst this
      refine ⟨dp Y, ?_, Y, G, rfl, xY, dY, tY⟩
      unfold B_X12_lays_34
      simp only [nm, u2, hwd]
      rw [m_12_8, eY, v_nb W, if_pos (nI_le (Nat.le_refl _) (by omega))]
  obtain ⟨r, l34, X3, G, rfl, x3, d3, t3⟩ := l34
  have x3' : EX S70 X X3 := x2'.trans (x3.mono S70k_70)
  generalize hX4 : si (si X3 12 0 35 0) 12 0 36 0 = X4
  have x4 : EX S70 X X4 := by rw [← hX4]; exact (x3'.si 0 _ rfl).si 0 _ rfl
  have G4 : gR X4.2.2 := by rw [x4.1]; exact G0
  have e4 : ms X4 = ms X := (x4.sq S70_la).mq
  have t4 : TB7 (NU (ms X)) G X4 := by
    have e : ∀ s, gi X4 70 0 s = gi X3 70 0 s := fun s => by rw [← hX4, gi_si, if_neg (by omega), gi_si, if_neg (by omega)]
    exact ⟨fun S hS q => by rw [e]; exact t3.1 S hS q, fun S v hS q => by rw [e]; exact t3.2 S v hS q⟩
  obtain ⟨r, l208, Y, many, off, rfl, xY, y1, y2, y3, y4, y5⟩ := f_lay208 (X := X4) (fx := fx) G4 (by rw [e4]; exact W) (B := NB (ms X)) (by rw [e4]; exact Nat.le_refl _) (G := G) (by rw [e4]; exact d3) (by rw [e4]; exact t4) (by rw [← hX4, gi_si, if_neg (by omega), gi_si, if_pos ⟨rfl, rfl, rfl⟩]; rfl) (by rw [← hX4, gi_si, if_pos ⟨rfl, rfl, rfl⟩]; rfl)
  rw [e4] at y5
  refine ⟨Y, many, off, ?_, x4.trans xY, y1, y2, y3, y4, y5⟩
  unfold F_X12_lays
  rw [l2, Option.bind_some]
  simp only [nm]
  rw [wd_dp x2.1, l34, Option.bind_some, wd_dp x3.1, hX4, l208, Option.bind_some, wd_dp xY.1]
theorem f_frees {h : HP} (G : gR h.2.2) : ∃ Y, F_X12_frees 0 h = some (dp Y) ∧ EX S71 h Y ∧ FXR (fun _ => 21) Y := by
  have l1 : ∃ r : DP, loopN LF (B_X12_frees_2 0 h) (0, dp h) = some r ∧ ∃ Y, r = dp Y ∧ EX S71 h Y ∧ ∀ s, s < 8 → gi Y 71 0 s = nI 21 := by
    refine loopI (fun j q => ∃ Y, q = (nI j, dp Y) ∧ EX S71 h Y ∧ ∀ s, s < j → gi Y 71 0 s = nI 21) _ 8 (by omega) ⟨h, rfl, EX.rfl' h, fun s hs => absurd hs (Nat.not_lt_zero s)⟩ ?_
    rintro j q hj ⟨Y, rfl, xY, y1⟩
    have hwd : wd h (dp Y) = Y := wd_dp xY.1
    have GY : gR Y.2.2 := by rw [xY.1]; exact G
    by_cases c : j < 8
    · left
      refine ⟨(nI (j + 1), dp (si Y 71 0 j (nI 21))), c, ?_, _, rfl, xY.si 0 _ rfl, fun s hs => ?_⟩
      · unfold B_X12_frees_2
        simp only [nm, u2, hwd]
        rw [if_neg (show ¬ (8 : Int32) ≤ nI j from nI_ge (b := 8) c (by omega)), rf_12_34 GY, Option.bind_some, sa_v (show j < 8 by omega) (by omega), Option.bind_some, nI_1]
        rfl
      · rw [gi_si]
        by_cases q : s = j
        · rw [if_pos ⟨rfl, rfl, q⟩]
        · rw [if_neg (fun z => q z.2.2)]; exact y1 s (by omega)
    · right
      refine ⟨dp Y, ?_, Y, rfl, xY, fun s hs => y1 s (by omega)⟩
      unfold B_X12_frees_2
      simp only [nm, u2, hwd]
      rw [if_pos (show (8 : Int32) ≤ nI j from nI_le (a := 8) (by omega) (by omega))]
  obtain ⟨r, l1, Y, rfl, xY, y1⟩ := l1
  refine ⟨Y, ?_, xY, fun u hu => ⟨y1 u hu, Nat.le_refl _⟩⟩
  unfold F_X12_frees
  rw [l1, Option.bind_some]
  simp only [nm]
  rw [wd_dp xY.1]
