/-! stage III: layings, pure -/
def sI (g : Nat → Int) : Nat → Int
  | 0 => 0
  | n + 1 => sI g n + g n
theorem sI_cong {f g : Nat → Int} : ∀ n, (∀ i, i < n → f i = g i) → sI f n = sI g n := by
  intro n
  induction n with
  | zero => intro _; rfl
  | succ n ih =>
    intro e
    show sI f n + f n = sI g n + g n
    rw [ih (fun i hi => e i (by omega)), e n (by omega)]
theorem sI_upd {f g : Nat → Int} {u : Nat} : ∀ n, u < n → (∀ i, i < n → i ≠ u → f i = g i) → sI f n = sI g n + f u - g u := by
  intro n
  induction n with
  | zero => intro h; omega
  | succ n ih =>
    intro hu e
    show sI f n + f n = sI g n + g n + f u - g u
    by_cases q : u = n
    · subst q
      rw [sI_cong u (fun i hi => e i (by omega) (by omega))]
      omega
    · rw [ih (by omega) (fun i hi hh => e i (by omega) hh), e n (by omega) (by omega)]
      omega
theorem sI_le {f g : Nat → Int} : ∀ n, (∀ i, i < n → f i ≤ g i) → sI f n ≤ sI g n := by
  intro n
  induction n with
  | zero => intro _; exact Int.le_refl _
  | succ n ih =>
    intro e
    have h1 := ih (fun i hi => e i (by omega))
    have h2 := e n (by omega)
    show sI f n + f n ≤ sI g n + g n
    omega
theorem sI_const (c : Int) : ∀ n : Nat, sI (fun _ => c) n = n * c := by
  intro n
  induction n with
  | zero => show (0 : Int) = (0 : Nat) * c; simp
  | succ n ih =>
    show sI (fun _ => c) n + c = ((n + 1 : Nat) : Int) * c
    rw [ih]
    rw [show ((n + 1 : Nat) : Int) = (n : Int) + 1 by omega, Int.add_mul, Int.one_mul]
/-- a laying: each of U is laid to a bell below B, or to none (20) -/
def AS (U : Nat) (ok : Nat → Nat → Bool) (B : Nat) (g : Nat → Nat) : Prop :=
  (∀ u, u < U → g u = 20 ∨ (g u < B ∧ ok u (g u) = true)) ∧ ∀ u v, u < U → v < U → g u = g v → g u = 20 ∨ u = v
def dm (U : Nat) (g : Nat → Nat) : Nat := mskB (fun u => !Nat.beq (g u) 20) U
def VS (U : Nat) (c : Nat → Nat → Int) (g : Nat → Nat) : Int := sI (fun u => if g u = 20 then 0 else c u (g u)) U
def gup (g : Nat → Nat) (u b : Nat) : Nat → Nat := fun i => if i = u then b else g i
theorem gup_s (g : Nat → Nat) (u b : Nat) : gup g u b u = b := by unfold gup; rw [if_pos rfl]
theorem gup_o (g : Nat → Nat) {u i : Nat} (b : Nat) (h : i ≠ u) : gup g u b i = g i := by unfold gup; rw [if_neg h]
theorem nb20 (x : Nat) : (!Nat.beq x 20) = decide (x ≠ 20) := by
  by_cases h : x = 20
  · subst h; rfl
  · rw [decide_eq_true h]
    cases e : Nat.beq x 20 with
    | false => rfl
    | true => exact absurd (Nat.eq_of_beq_eq_true e) h
theorem dm_bit (U : Nat) (g : Nat → Nat) (i : Nat) : (dm U g).testBit i = (decide (i < U) && decide (g i ≠ 20)) := by
  unfold dm
  rw [mskB_bit, nb20]
theorem dm_lt (U : Nat) (g : Nat → Nat) : dm U g < 2 ^ U := mskB_lt _ U
theorem dm_up {U u b : Nat} {g : Nat → Nat} (hu : u < U) (hb : b ≠ 20) : dm U (gup g u b) = dm U g ||| 2 ^ u := by
  apply Nat.eq_of_testBit_eq
  intro i
  rw [or_bit, dm_bit, dm_bit]
  by_cases e : i = u
  · subst e
    rw [gup_s, decide_eq_true hb, decide_eq_true hu, decide_eq_true (show i = i from rfl)]
    simp
  · rw [gup_o g b e, decide_eq_false e, Bool.or_false]
theorem VS_up {U u b : Nat} {c : Nat → Nat → Int} {g : Nat → Nat} (hu : u < U) (hg : g u = 20) (hb : b ≠ 20) : VS U c (gup g u b) = VS U c g + c u b := by
  unfold VS
  rw [sI_upd (u := u) (f := fun i => if gup g u b i = 20 then 0 else c i (gup g u b i)) (g := fun i => if g i = 20 then 0 else c i (g i)) U hu (fun i _ hh => by show (if gup g u b i = 20 then (0 : Int) else c i (gup g u b i)) = if g i = 20 then 0 else c i (g i); rw [gup_o g b hh])]
  show _ + (if gup g u b u = 20 then (0 : Int) else c u (gup g u b u)) - (if g u = 20 then 0 else c u (g u)) = _
  rw [gup_s, if_neg hb, if_pos hg]
  omega
theorem AS.mono {U B B' : Nat} {ok : Nat → Nat → Bool} {g : Nat → Nat} (a : AS U ok B g) (h : B ≤ B') : AS U ok B' g :=
  ⟨fun u hu => (a.1 u hu).elim Or.inl (fun q => Or.inr ⟨by omega, q.2⟩), a.2⟩
/-- one more is laid, to the new bell -/
theorem AS.up {U B u : Nat} {ok : Nat → Nat → Bool} {g : Nat → Nat} (a : AS U ok B g) (hB : B < 20) (hk : ok u B = true) : AS U ok (B + 1) (gup g u B) := by
  refine ⟨fun i hi => ?_, fun i j hi hj e => ?_⟩
  · by_cases q : i = u
    · subst q; rw [gup_s]; exact Or.inr ⟨by omega, hk⟩
    · rw [gup_o g B q]; exact (a.mono (Nat.le_succ B)).1 i hi
  · by_cases q : i = u
    · subst q
      by_cases q2 : j = i
      · exact Or.inr q2.symm
      · rw [gup_s, gup_o g B q2] at e
        rcases a.1 j hj with r | r
        · rw [r] at e; omega
        · omega
    · rw [gup_o g B q] at e ⊢
      by_cases q2 : j = u
      · subst q2
        rw [gup_s] at e
        rcases a.1 i hi with r | r
        · exact Or.inl r
        · omega
      · rw [gup_o g B q2] at e
        exact a.2 i j hi hj e
/-- without the one that has the new bell -/
theorem AS.dn {U B u : Nat} {ok : Nat → Nat → Bool} {g : Nat → Nat} (a : AS U ok (B + 1) g) (hu : u < U) (hB : B < 20) (hg : g u = B) : AS U ok B (gup g u 20) := by
  refine ⟨fun i hi => ?_, fun i j hi hj e => ?_⟩
  · by_cases q : i = u
    · subst q; exact Or.inl (gup_s _ _ _)
    · rw [gup_o g 20 q]
      rcases a.1 i hi with r | r
      · exact Or.inl r
      · right
        refine ⟨?_, r.2⟩
        have : g i ≠ B := by
          intro e
          rcases a.2 i u hi hu (e.trans hg.symm) with z | z
          · omega
          · exact q z
        omega
  · by_cases q : i = u
    · subst q; exact Or.inl (gup_s _ _ _)
    · rw [gup_o g 20 q] at e ⊢
      by_cases q2 : j = u
      · subst q2; rw [gup_s] at e; exact Or.inl e
      · rw [gup_o g 20 q2] at e; exact a.2 i j hi hj e
theorem AS.same {U B : Nat} {ok : Nat → Nat → Bool} {g : Nat → Nat} (a : AS U ok (B + 1) g) (h : ∀ u, u < U → g u ≠ B) : AS U ok B g := by
  refine ⟨fun i hi => ?_, a.2⟩
  rcases a.1 i hi with r | r
  · exact Or.inl r
  · exact Or.inr ⟨by have := h i hi; omega, r.2⟩
theorem ex_or_all (g : Nat → Nat) (B : Nat) : ∀ n, (∃ u, u < n ∧ g u = B) ∨ ∀ u, u < n → g u ≠ B := by
  intro n
  induction n with
  | zero => exact Or.inr (fun u hu => absurd hu (Nat.not_lt_zero u))
  | succ n ih =>
    rcases ih with ⟨u, h1, h2⟩ | h
    · exact Or.inl ⟨u, by omega, h2⟩
    · by_cases e : g n = B
      · exact Or.inl ⟨n, by omega, e⟩
      · refine Or.inr (fun u hu => ?_)
        by_cases q : u = n
        · subst q; exact e
        · exact h u (by omega)
/-- a table of the least worths, a set a row: bells below B -/
def DPI (U : Nat) (ok : Nat → Nat → Bool) (c : Nat → Nat → Int) (V0 : Int) (B : Nat) (G : Nat → Option Int) : Prop :=
  (∀ S v, S < 2 ^ U → G S = some v → ∃ g, AS U ok B g ∧ dm U g = S ∧ v = V0 + VS U c g) ∧ ∀ g, AS U ok B g → ∃ v, G (dm U g) = some v ∧ v ≤ V0 + VS U c g
/-- within bell B: the sets above x are through, of x those below j -/
def STp (U : Nat) (ok : Nat → Nat → Bool) (c : Nat → Nat → Int) (V0 : Int) (B : Nat) (F : Nat → Option Int) (y x j : Nat) (G : Nat → Option Int) : Prop :=
  (∀ S v, S < 2 ^ U → G S = some v → ∃ g, AS U ok (B + 1) g ∧ dm U g = S ∧ v = V0 + VS U c g) ∧
  (∀ S, S < y → G S = F S) ∧
  (∀ S v, S < 2 ^ U → F S = some v → ∃ w, G S = some w ∧ w ≤ v) ∧
  (∀ S v u, S < 2 ^ U → F S = some v → u < U → S.testBit u = false → ok u B = true → (x < S ∨ (S = x ∧ u < j)) → ∃ w, G (S ||| 2 ^ u) = some w ∧ w ≤ v + c u B)
/-- all sets from y on are through -/
def STo (U : Nat) (ok : Nat → Nat → Bool) (c : Nat → Nat → Int) (V0 : Int) (B : Nat) (F : Nat → Option Int) (y : Nat) (G : Nat → Option Int) : Prop :=
  (∀ S v, S < 2 ^ U → G S = some v → ∃ g, AS U ok (B + 1) g ∧ dm U g = S ∧ v = V0 + VS U c g) ∧
  (∀ S, S < y → G S = F S) ∧
  (∀ S v, S < 2 ^ U → F S = some v → ∃ w, G S = some w ∧ w ≤ v) ∧
  (∀ S v u, S < 2 ^ U → F S = some v → u < U → S.testBit u = false → ok u B = true → y ≤ S → ∃ w, G (S ||| 2 ^ u) = some w ∧ w ≤ v + c u B)
theorem STo.begin {U B : Nat} {ok : Nat → Nat → Bool} {c : Nat → Nat → Int} {V0 : Int} {F : Nat → Option Int} (d : DPI U ok c V0 B F) : STo U ok c V0 B F (2 ^ U) F := by
  refine ⟨fun S v hS e => ?_, fun S _ => rfl, fun S v _ e => ⟨v, e, Int.le_refl _⟩, fun S v u hS _ _ _ _ q => by omega⟩
  obtain ⟨g, a, b, e⟩ := d.1 S v hS e
  exact ⟨g, a.mono (Nat.le_succ B), b, e⟩
theorem STo.enter {U B : Nat} {ok : Nat → Nat → Bool} {c : Nat → Nat → Int} {V0 : Int} {F : Nat → Option Int} {x : Nat} {G : Nat → Option Int} (s : STo U ok c V0 B F (x + 1) G) : STp U ok c V0 B F (x + 1) x 0 G :=
  ⟨s.1, s.2.1, s.2.2.1, fun S v u hS e hu hb hk q => s.2.2.2 S v u hS e hu hb hk (by omega)⟩
theorem STp.leave {U B : Nat} {ok : Nat → Nat → Bool} {c : Nat → Nat → Int} {V0 : Int} {F : Nat → Option Int} {x : Nat} {G : Nat → Option Int} (s : STp U ok c V0 B F (x + 1) x U G) : STo U ok c V0 B F x G :=
  ⟨s.1, fun S hS => s.2.1 S (by omega), s.2.2.1, fun S v u hS e hu hb hk q => s.2.2.2 S v u hS e hu hb hk (by omega)⟩
/-- no laying makes the set x: nothing to do -/
theorem STo.none {U B : Nat} {ok : Nat → Nat → Bool} {c : Nat → Nat → Int} {V0 : Int} {F : Nat → Option Int} {x : Nat} {G : Nat → Option Int} (s : STo U ok c V0 B F (x + 1) G) (e : G x = none) : STo U ok c V0 B F x G := by
  refine ⟨s.1, fun S hS => s.2.1 S (by omega), s.2.2.1, fun S v u hS ef hu hb hk q => ?_⟩
  by_cases r : S = x
  · subst r
    rw [← s.2.1 S (by omega), e] at ef
    cases ef
  · exact s.2.2.2 S v u hS ef hu hb hk (by omega)
theorem STp.skip {U B : Nat} {ok : Nat → Nat → Bool} {c : Nat → Nat → Int} {V0 : Int} {F : Nat → Option Int} {x j : Nat} {G : Nat → Option Int} (s : STp U ok c V0 B F (x + 1) x j G) (h : ¬ (x.testBit j = false ∧ ok j B = true)) : STp U ok c V0 B F (x + 1) x (j + 1) G := by
  refine ⟨s.1, s.2.1, s.2.2.1, fun S v u hS e hu hb hk q => ?_⟩
  by_cases r : S = x ∧ u = j
  · obtain ⟨rfl, rfl⟩ := r
    exact absurd ⟨hb, hk⟩ h
  · exact s.2.2.2 S v u hS e hu hb hk (by omega)
def tup (G : Nat → Option Int) (T : Nat) (v : Int) : Nat → Option Int := fun S => if S = T then some v else G S
/-- the least of what stands and what comes -/
def tmn (o : Option Int) (v : Int) : Int := match o with
  | none => v
  | some w => if w ≤ v then w else v
theorem tmn_c (o : Option Int) (v : Int) : (tmn o v = v ∧ ∀ w, o = some w → v ≤ w) ∨ (o = some (tmn o v) ∧ tmn o v ≤ v) := by
  cases o with
  | none => exact Or.inl ⟨rfl, fun w e => by cases e⟩
  | some w =>
    by_cases h : w ≤ v
    · right
      have e : tmn (some w) v = w := by show (if w ≤ v then w else v) = w; rw [if_pos h]
      rw [e]
      exact ⟨rfl, h⟩
    · left
      have e : tmn (some w) v = v := by show (if w ≤ v then w else v) = v; rw [if_neg h]
      rw [e]
      refine ⟨rfl, fun w' e' => ?_⟩
      cases e'
      omega
theorem or_ge (x j : Nat) : x ≤ x ||| 2 ^ j := Nat.left_le_or
theorem or_gt {x j : Nat} (h : x.testBit j = false) : x < x ||| 2 ^ j := by
  have h1 := or_ge x j
  by_cases e : x = x ||| 2 ^ j
  · exfalso
    have : (x ||| 2 ^ j).testBit j = true := by rw [or_bit, decide_eq_true (show j = j from rfl), Bool.or_true]
    rw [← e, h] at this
    cases this
  · omega
theorem or_lt2 {x j U : Nat} (h : x < 2 ^ U) (hj : j < U) : x ||| 2 ^ j < 2 ^ U := Nat.or_lt_two_pow h (Nat.pow_lt_pow_right (by omega) hj)
theorem STp.upd {U B : Nat} {ok : Nat → Nat → Bool} {c : Nat → Nat → Int} {V0 : Int} {F : Nat → Option Int} {x j : Nat} {G : Nat → Option Int} (s : STp U ok c V0 B F (x + 1) x j G) (hB : B < 20) (d : DPI U ok c V0 B F) {v : Int} (hx : x < 2 ^ U) (hj : j < U) (e : G x = some v) (hb : x.testBit j = false) (hk : ok j B = true) :
    STp U ok c V0 B F (x + 1) x (j + 1) (tup G (x ||| 2 ^ j) (tmn (G (x ||| 2 ^ j)) (v + c j B))) := by
  have hF : F x = some v := by rw [← s.2.1 x (by omega)]; exact e
  have hgt := or_gt hb
  have mono : ∀ S w, G S = some w → ∃ w', tup G (x ||| 2 ^ j) (tmn (G (x ||| 2 ^ j)) (v + c j B)) S = some w' ∧ w' ≤ w := by
    intro S w ew
    unfold tup
    by_cases q : S = x ||| 2 ^ j
    · subst q
      rw [if_pos rfl]
      refine ⟨_, rfl, ?_⟩
      rcases tmn_c (G (x ||| 2 ^ j)) (v + c j B) with ⟨t1, t2⟩ | ⟨t1, -⟩
      · rw [t1]; exact t2 w ew
      · have := t1.symm.trans ew
        injection this with z
        omega
    · rw [if_neg q]; exact ⟨w, ew, Int.le_refl _⟩
  refine ⟨fun S w hS ew => ?_, fun S hS => ?_, fun S w hS ew => ?_, fun S w u hS ew hu hb' hk' q => ?_⟩
  · unfold tup at ew
    by_cases q : S = x ||| 2 ^ j
    · rw [if_pos q] at ew
      injection ew with ew
      rcases tmn_c (G (x ||| 2 ^ j)) (v + c j B) with ⟨t1, -⟩ | ⟨t1, -⟩
      · obtain ⟨g, a, b, e3⟩ := d.1 x v hx hF
        have hg : g j = 20 := by
          have := dm_bit U g j
          rw [b, hb, decide_eq_true hj, Bool.true_and] at this
          have := of_decide_eq_false this.symm
          omega
        refine ⟨gup g j B, a.up hB hk, ?_, ?_⟩
        · rw [dm_up hj (by omega), b, q]
        · rw [VS_up hj hg (by omega), ← ew, t1, e3]
          omega
      · rw [ew] at t1
        obtain ⟨g, a, b, e3⟩ := s.1 (x ||| 2 ^ j) w (q ▸ hS) t1
        exact ⟨g, a, b.trans q.symm, e3⟩
    · rw [if_neg q] at ew
      exact s.1 S w hS ew
  · unfold tup
    rw [if_neg (by omega)]
    exact s.2.1 S hS
  · obtain ⟨w', e1, e2⟩ := s.2.2.1 S w hS ew
    obtain ⟨w2, e3, e4⟩ := mono S w' e1
    exact ⟨w2, e3, Int.le_trans e4 e2⟩
  · by_cases r : S = x ∧ u = j
    · obtain ⟨rfl, rfl⟩ := r
      have : w = v := by have := ew.symm.trans hF; injection this
      subst this
      unfold tup
      rw [if_pos rfl]
      refine ⟨_, rfl, ?_⟩
      rcases tmn_c (G (S ||| 2 ^ u)) (w + c u B) with ⟨t1, -⟩ | ⟨-, t1⟩
      · rw [t1]; exact Int.le_refl _
      · exact t1
    · obtain ⟨w', e1, e2⟩ := s.2.2.2 S w u hS ew hu hb' hk' (by omega)
      obtain ⟨w2, e3, e4⟩ := mono _ w' e1
      exact ⟨w2, e3, Int.le_trans e4 e2⟩
theorem STo.fin {U B : Nat} {ok : Nat → Nat → Bool} {c : Nat → Nat → Int} {V0 : Int} {F G : Nat → Option Int} (s : STo U ok c V0 B F 0 G) (hB : B < 20) (d : DPI U ok c V0 B F) : DPI U ok c V0 (B + 1) G := by
  refine ⟨s.1, fun g a => ?_⟩
  rcases ex_or_all g B U with ⟨u, hu, hg⟩ | h
  · obtain ⟨v, e1, e2⟩ := d.2 _ (a.dn hu hB hg)
    have hk : ok u B = true := by
      rcases a.1 u hu with q | q
      · omega
      · rw [hg] at q; exact q.2
    have hbit : (dm U (gup g u 20)).testBit u = false := by
      rw [dm_bit, gup_s]
      simp
    obtain ⟨w, e3, e4⟩ := s.2.2.2 _ v u (dm_lt U _) e1 hu hbit hk (Nat.zero_le _)
    have back : gup (gup g u 20) u B = g := by
      funext i
      unfold gup
      by_cases q : i = u
      · rw [if_pos q, q, hg]
      · rw [if_neg q, if_neg q]
    have h1 := dm_up (U := U) (u := u) (b := B) (g := gup g u 20) hu (by omega)
    have h2 := VS_up (c := c) (U := U) (u := u) (b := B) (g := gup g u 20) hu (gup_s _ _ _) (by omega)
    rw [back] at h1 h2
    rw [h1, h2]
    exact ⟨w, e3, by omega⟩
  · obtain ⟨v, e1, e2⟩ := d.2 _ (a.same h)
    obtain ⟨w, e3, e4⟩ := s.2.2.1 _ v (dm_lt U _) e1
    exact ⟨w, e3, Int.le_trans e4 e2⟩
/-- a bell that none can take -/
theorem DPI.skip {U B : Nat} {ok : Nat → Nat → Bool} {c : Nat → Nat → Int} {V0 : Int} {F : Nat → Option Int} (d : DPI U ok c V0 B F) (hB : B < 20) (h : ∀ u, u < U → ok u B = false) : DPI U ok c V0 (B + 1) F := by
  refine ⟨fun S v hS e => ?_, fun g a => d.2 g (a.same (fun u hu e => ?_))⟩
  · obtain ⟨g, a, b, e⟩ := d.1 S v hS e
    exact ⟨g, a.mono (Nat.le_succ B), b, e⟩
  · rcases a.1 u hu with q | q
    · omega
    · rw [e, h u hu] at q; cases q.2
/-- at the start: none is laid -/
theorem DPI.zero {U : Nat} {ok : Nat → Nat → Bool} {c : Nat → Nat → Int} {V0 : Int} {G : Nat → Option Int} (h0 : G 0 = some V0) (h1 : ∀ S, S < 2 ^ U → S ≠ 0 → G S = none) : DPI U ok c V0 0 G := by
  have z : ∀ g, (∀ u, u < U → g u = 20) → dm U g = 0 ∧ VS U c g = 0 := by
    intro g hg
    constructor
    · apply Nat.eq_of_testBit_eq
      intro i
      rw [dm_bit, Nat.zero_testBit]
      by_cases q : i < U
      · rw [hg i q]; simp
      · rw [decide_eq_false q, Bool.false_and]
    · unfold VS
      rw [sI_cong (g := fun _ => 0) U (fun i hi => by show (if g i = 20 then (0 : Int) else c i (g i)) = 0; rw [if_pos (hg i hi)]), sI_const, Int.mul_zero]
  refine ⟨fun S v hS e => ?_, fun g a => ?_⟩
  · by_cases q : S = 0
    · subst q
      rw [h0] at e
      injection e with e
      obtain ⟨z1, z2⟩ := z (fun _ => 20) (fun _ _ => rfl)
      exact ⟨fun _ => 20, ⟨fun u _ => Or.inl rfl, fun _ _ _ _ _ => Or.inl rfl⟩, z1, by rw [z2]; omega⟩
    · rw [h1 S hS q] at e; cases e
  · have hg : ∀ u, u < U → g u = 20 := fun u hu => (a.1 u hu).elim id (fun q => by omega)
    obtain ⟨z1, z2⟩ := z g hg
    rw [z1, z2]
    exact ⟨V0, h0, by omega⟩
