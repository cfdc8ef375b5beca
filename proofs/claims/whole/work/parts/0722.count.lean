/-! count -/
def cntN (m : Nat → Nat → Int32) (s : Int32) : Nat → Nat
  | 0 => 0
  | b + 1 => if stV m b = s then cntN m s b + 1 else cntN m s b
def ctV (m : Nat → Nat → Int32) (x : Int32) : Int32 :=
  if x = 0 then m 12 5 else if x = 1 then m 12 6 else if x = 2 then m 12 8 else if x = 3 then nI (cntN m 3 (NB m)) else if x = 4 then nI (cntN m 4 (NB m)) else if x = 5 then m 12 28 else if x = 6 then m 12 39 else if x = 7 then m 12 54 else if x = 8 then m 12 4 else if x = 9 then m 12 21 else -2
theorem e_inState {h : HP} (R : RQ h) (s : Int32) : F_X2_inState 0 s h = some (nI (cntN (ms h) s (NB (ms h)))) := by
  have h3 := b_nb R.m
  unfold F_X2_inState
  have key : loopN LF (B_X2_inState_4 0 s h) (0, 0) = some (nI (cntN (ms h) s (NB (ms h)))) := by
    refine loopS (fun b => (nI (cntN (ms h) s b), nI b)) (NB (ms h)) (by omega) ?_ ?_
    · intro b hb
      unfold B_X2_inState_4 u2 nm
      simp only []
      rw [cw_nb R, v_nb R.m, if_neg (nI_ge hb (by omega)), rf_2_0 R.1, Option.bind_some, gar_v (by omega) (by omega), rb_23 R hb, Option.bind_some, e_stateNow R hb, Option.bind_some]
      simp only [cntN, nI_1]
      split <;> rfl
    · unfold B_X2_inState_4 u2
      simp only []
      rw [cw_nb R, v_nb R.m, if_pos (nI_le (Nat.le_refl _) (by omega))]
  rw [key]
  rfl
theorem f_cnt {h : HP} (G : gR h.2.2) (W : MW (ms h)) (s : Int32) : J_X12_count_71 0 s 0 h = some (nI (cntN (ms h) s (NB (ms h)))) := by
  have h3 := b_nb W
  unfold J_X12_count_71
  have key : loopN LF (B_X12_count_73 0 s h) (0, 0) = some (nI (cntN (ms h) s (NB (ms h)))) := by
    refine loopS (fun b => (nI (cntN (ms h) s b), nI b)) (NB (ms h)) (by omega) ?_ ?_
    · intro b hb
      unfold B_X12_count_73 u2 nm
      simp only []
      rw [m_12_8, v_nb W, if_neg (nI_ge hb (by omega)), f_stateOf G W hb, Option.bind_some]
      simp only [cntN, nI_1, Int32.add_zero]
      split <;> rfl
    · unfold B_X12_count_73 u2
      simp only []
      rw [m_12_8, v_nb W, if_pos (nI_le (Nat.le_refl _) (by omega))]
  rw [key]
  rfl
theorem e_count {h : HP} (R : RQ h) (x : Int32) : F_X11_count 0 x h = some (ctV (ms h) x) := by
  unfold F_X11_count
  rw [rf_11_3 R.1, rf_11_13 R.1, rf_11_4 R.1]
  simp only [Option.bind_some, cw_wk R, cw_np R, cw_nb R, cw_nt R, cw_nu R, cw_nk R, cw_nc R, cw_fi R, e_inState R]
  unfold ctV
  repeat' split
  all_goals rfl
theorem f_count {h : HP} (G : gR h.2.2) (W : MW (ms h)) (x : Int32) : F_X12_count 0 x h = some (ctV (ms h) x) := by
  unfold F_X12_count ctV
  by_cases h3 : x = 3
  · subst h3
    rw [f_cnt G W]
    rfl
  · by_cases h4 : x = 4
    · subst h4
      rw [f_cnt G W]
      rfl
    · simp only [h3, h4, if_false]
      repeat' split
      all_goals rfl
theorem p_count : CP_count RQ := fun h R x => ⟨_, e_count R x, f_count R.1 R.m x, R⟩
