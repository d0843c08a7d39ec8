theorem l_fix {σ : gs_Mem} (h : Rel σ) {u v : Int} (hu : gn u = u) (hv : v = 0 ∨ v = 1) : Agree (f_X6_fix u v σ) (f_X7_fix u v) := by
  have h8 := h.1.1.n8
  have hgv : gn v = v := by
    rcases hv with e | e
    · rw [e]; exact gn_0
    · rw [e]; exact gn_1
  unfold f_X6_fix
  rw [i_has h.1.2.1.1 h8, Option.bind_some, hu, gn_iteP]
  by_cases c1 : 0 ≤ u ∧ u < (nS (σ 71) : Int)
  · obtain ⟨s, rfl, hs⟩ := nat_of c1
    have hc := h.1.1.c hs
    have hf := h.1.1.f hs
    rw [if_pos c1, if_neg no10, i_ch (h.1.2.pa h.1.1) h.1.1.rg hs, Option.bind_some, Ch_lt hs, gnS (x := σ 71 (6 + 4 * s)) (by omega)]
    by_cases c2 : σ 71 (6 + 4 * s) = -1
    · rw [if_pos c2]
      refine ⟨-3, σ, σ, rfl, ?_, h⟩
      unfold f_X7_fix
      rw [m_isStation h.1.1, Option.bind_some, hu, gn_iteP, if_pos c1, if_neg no10, m_ch8 (by omega), Option.bind_some, c2, if_neg (by decide +kernel)]
    · rw [if_neg c2, i_fixed h.1.2 h.1.1 hs, Option.bind_some, gn_ite1]
      obtain ⟨σ', e, hP, hF⟩ := i_pin h.1.2 h.1.1 hs v
      have e71 : σ' 71 = σ 71 := hF 71 (by decide)
      have hfv : (if gn v = 0 ∨ σ 71 (6 + 4 * s) = -1 then (0 : Int) else 1) = v := by
        rw [hgv]
        rcases hv with q | q
        · rw [if_pos (Or.inl q), q]
        · rw [if_neg (by omega), q]
      rw [hfv] at hP
      have e3 : (if (if Fx (σ 71) s = true then (1 : Int) else 0) = 0 then f_X6_fix_J43 (s : Int) v 0 σ else f_X6_fix_J43 (s : Int) v 1 σ) = some (σ 71 (7 + 4 * s), σ') := by
        unfold f_X6_fix_J43
        rw [e, Option.bind_some, Option.bind_some, Fx_lt hs]
        rcases hf with q | q
        · rw [q]; rfl
        · rw [q]; rfl
      rw [e3]
      refine ⟨_, σ', rw_ σ' 71 (pcf (σ 71) s (σ 71 (6 + 4 * s)) v), rfl, ?_, Rel_pcf h hs hF hP (by omega) hv (fun _ => by omega)⟩
      have hW : WF (σ' 71) := by rw [e71]; exact h.1.1
      unfold f_X7_fix f_X7_fix_J54
      rw [m_isStation hW, Option.bind_some, hu, gn_iteP, e71, if_pos c1, if_neg no10, m_ch8 (by omega), Option.bind_some, e71]
      simp (disch := omega) only [gnS, gs_chk_t, t7]
      rw [if_pos (by omega)]
      have fin : ∀ w, gs_st σ' 71 (7 + 4 * s) w = rw_ σ' 71 (pcf (σ 71) s (σ 71 (6 + 4 * s)) w) := fun w => by
        rw [gs_st_rw, e71]
        unfold pcf
        rw [show rs (σ 71) (6 + 4 * s) (σ 71 (6 + 4 * s)) = σ 71 from funext fun i => by
          rw [rs_at]; split
          · next q => rw [q]
          · rfl]
      rcases hv with q | q
      · rw [q, if_pos rfl, fin]
      · rw [q, if_neg no10, fin]
  · rw [if_neg c1, if_pos rfl]
    refine ⟨-1, σ, σ, rfl, ?_, h⟩
    unfold f_X7_fix
    rw [m_isStation h.1.1, Option.bind_some, hu, gn_iteP, if_neg c1, if_pos rfl]
theorem Rel_pxy {σ σ' : gs_Mem} (h : Rel σ) {s : Nat} (hs : s < nS (σ 71)) {x y : Int} (hF : Fr σ σ' 2) (hP : PlR σ' 2 (pxy (σ 71) s x y)) (hx : 0 ≤ x ∧ x ≤ 31) (hy : 0 ≤ y ∧ y ≤ 31) (hf : stA (σ 71) x y < 0 ∨ stA (σ 71) x y = (s : Int)) : Rel (rw_ σ' 71 (pxy (σ 71) s x y)) := by
  have h8 := h.1.1.n8
  refine Rel_plane h hF hP (pxy_WF h.1.1 hs hx hy hf) ?_ (Nat.le_of_eq (pxy_n _ _ _ _).symm)
  unfold pxy
  exact rest_rs (rest_rs (rest_refl _) _ (by omega)) _ (by omega)
theorem m_moveJ {σ : gs_Mem} (h : WF (σ 71)) {s : Nat} (hs : s < nS (σ 71)) (x y : Int) : f_X7_move_J43 (s : Int) x y σ = some ((x - σ 71 (4 + 4 * s)) * (x - σ 71 (4 + 4 * s)) + (y - σ 71 (5 + 4 * s)) * (y - σ 71 (5 + 4 * s)), rw_ σ 71 (pxy (σ 71) s x y)) := by
  have h8 := h.n8
  unfold f_X7_move_J43
  rw [m_x (by omega), m_y (by omega), Option.bind_some, m_square, Option.bind_some, Option.bind_some, m_square, Option.bind_some]
  simp (disch := omega) only [gnS, gs_chk_t, t4, t5]
  rw [gs_st_rw, gs_st_rw, rw_same, rw_rw]
  rfl
theorem l_move {σ : gs_Mem} (h : Rel σ) {u v w : Int} (hu : gn u = u) (hv : gn v = v) (hw : gn w = w) : Agree (f_X6_move u v w σ) (f_X7_move u v w) := by
  have h8 := h.1.1.n8
  unfold f_X6_move
  rw [i_has h.1.2.1.1 h8, Option.bind_some, hu, gn_iteP, i_onPlane, Option.bind_some, gn_iteP, hv, hw]
  by_cases c1 : 0 ≤ u ∧ u < (nS (σ 71) : Int)
  · obtain ⟨s, rfl, hs⟩ := nat_of c1
    rw [if_pos c1, if_neg no10]
    by_cases c2 : (0 ≤ v ∧ v ≤ 31) ∧ (0 ≤ w ∧ w ≤ 31)
    · have hrng := stA_rng (σ 71) v w
      have hgr : -1 ≤ stA (σ 71) v w ∧ stA (σ 71) v w < 8 := by rcases hrng with e | ⟨s, hs, e, _⟩ <;> omega
      rw [if_pos c2, if_neg no10, i_whoIsAt h.1.2.1 h.1.1 c2.1 c2.2, Option.bind_some, gnS (x := stA (σ 71) v w) (by omega)]
      have good : (stA (σ 71) v w < 0 ∨ stA (σ 71) v w = (s : Int)) → Agree (f_X6_move_J54 (s : Int) v w σ) (f_X7_move (s : Int) v w) := fun hf => by
        obtain ⟨σ', e, hP, hF⟩ := i_carry h.1.2 h.1.1 hs c2.1 c2.2 hf
        have e71 : σ' 71 = σ 71 := hF 71 (by decide)
        have hW : WF (σ' 71) := by rw [e71]; exact h.1.1
        refine ⟨(v - σ 71 (4 + 4 * s)) * (v - σ 71 (4 + 4 * s)) + (w - σ 71 (5 + 4 * s)) * (w - σ 71 (5 + 4 * s)), σ', _, ?_, ?_, Rel_pxy h hs hF hP c2.1 c2.2 hf⟩
        · unfold f_X6_move_J54
          rw [e, Option.bind_some]
        · unfold f_X7_move
          rw [m_isStation hW, Option.bind_some, hu, gn_iteP, e71, if_pos c1, if_neg no10, m_isPlace, Option.bind_some, gn_iteP, hv, hw, if_pos c2, if_neg no10, m_stationAt hW c2.1 c2.2, Option.bind_some, e71, gnS (x := stA (σ 71) v w) (by omega), m_moveJ hW (by rw [e71]; exact hs), e71]
          rcases hf with q | q
          · rw [if_pos q]
          · rw [if_neg (show ¬ stA (σ 71) v w < 0 by omega), if_pos q]
      by_cases c3 : stA (σ 71) v w < 0
      · rw [if_pos c3]; exact good (Or.inl c3)
      · rw [if_neg c3]
        by_cases c4 : stA (σ 71) v w = (s : Int)
        · rw [if_pos c4]; exact good (Or.inr c4)
        · rw [if_neg c4]
          refine ⟨-3, σ, σ, rfl, ?_, h⟩
          unfold f_X7_move
          rw [m_isStation h.1.1, Option.bind_some, hu, gn_iteP, if_pos c1, if_neg no10, m_isPlace, Option.bind_some, gn_iteP, hv, hw, if_pos c2, if_neg no10, m_stationAt h.1.1 c2.1 c2.2, Option.bind_some, gnS (x := stA (σ 71) v w) (by omega), if_neg c3, if_neg c4]
    · rw [if_neg c2, if_pos rfl]
      refine ⟨-2, σ, σ, rfl, ?_, h⟩
      unfold f_X7_move
      rw [m_isStation h.1.1, Option.bind_some, hu, gn_iteP, if_pos c1, if_neg no10, m_isPlace, Option.bind_some, gn_iteP, hv, hw, if_neg c2, if_pos rfl]
  · rw [if_neg c1, if_pos rfl]
    refine ⟨-1, σ, σ, rfl, ?_, h⟩
    unfold f_X7_move
    rw [m_isStation h.1.1, Option.bind_some, hu, gn_iteP, if_neg c1, if_pos rfl]
/-- two readers agree -/
def Same (f g : Option Int) : Prop := ∃ a : Int, f = some a ∧ g = some a
theorem l_at {σ : gs_Mem} (h : Rel σ) {v w : Int} (hv : gn v = v) (hw : gn w = w) : Same (f_X6_at v w σ) (f_X7_at v w σ) := by
  unfold f_X6_at f_X7_at
  rw [i_onPlane, m_isPlace, Option.bind_some, Option.bind_some, gn_iteP, hv, hw]
  by_cases c2 : (0 ≤ v ∧ v ≤ 31) ∧ (0 ≤ w ∧ w ≤ 31)
  · rw [if_pos c2, if_neg no10, if_neg no10, i_whoIsAt h.1.2.1 h.1.1 c2.1 c2.2, m_stationAt h.1.1 c2.1 c2.2, Option.bind_some]
    by_cases c3 : 0 ≤ gn (stA (σ 71) v w)
    · rw [if_pos c3]; exact ⟨_, rfl, rfl⟩
    · rw [if_neg c3]; exact ⟨_, rfl, rfl⟩
  · rw [if_neg c2, if_pos rfl, if_pos rfl]
    exact ⟨_, rfl, rfl⟩
theorem l_apart {σ : gs_Mem} (h : Rel σ) {v w : Int} (hv : gn v = v) (hw : gn w = w) : Same (f_X6_apart v w σ) (f_X7_apart v w σ) := by
  have h8 := h.1.1.n8
  unfold f_X6_apart f_X7_apart
  rw [i_has h.1.2.1.1 h8, i_has h.1.2.1.1 h8, m_isStation h.1.1, m_isStation h.1.1, Option.bind_some, Option.bind_some, Option.bind_some, Option.bind_some, gn_iteP, gn_iteP, hv, hw]
  by_cases c1 : 0 ≤ v ∧ v < (nS (σ 71) : Int)
  · rw [if_pos c1, if_neg no10]
    by_cases c2 : 0 ≤ w ∧ w < (nS (σ 71) : Int)
    · rw [if_pos c2, if_neg no10]
      obtain ⟨a, rfl, ha⟩ := nat_of c1
      obtain ⟨b, rfl, hb⟩ := nat_of c2
      by_cases c3 : (a : Int) = (b : Int)
      · rw [if_pos c3, if_neg no10, if_neg no10, if_pos c3]; exact ⟨_, rfl, rfl⟩
      · rw [if_neg c3, if_neg no10, if_neg no10, if_neg c3, i_between (h.1.2.pa h.1.1) h.1.1.rg ha hb, m_apartOf h.1.1 ha hb (by omega)]
        exact ⟨_, rfl, rfl⟩
    · rw [if_neg c2, if_pos rfl]
      by_cases c3 : v = w
      · rw [if_pos c3]; exact ⟨_, rfl, rfl⟩
      · rw [if_neg c3]; exact ⟨_, rfl, rfl⟩
  · rw [if_neg c1, if_pos rfl]
    by_cases c3 : v = w
    · rw [if_pos c3]; exact ⟨_, rfl, by rw [if_pos rfl]⟩
    · rw [if_neg c3]; exact ⟨_, rfl, by rw [if_pos rfl]⟩
