theorem i_xs {σ : gs_Mem} {r : Nat} {p : Nat → Int} (hp : PlR σ r p) (h : WF p) {s : Nat} (hs : s < nS p) : f_X0_x r (s : Int) σ = some (p (4 + 4 * s)) ∧ f_X0_y r (s : Int) σ = some (p (5 + 4 * s)) ∧ f_X0_neighboursOf r (s : Int) σ = some ((apM (nS p) (Ap p) s : Nat) : Int) := by
  have h8 := h.n8
  unfold f_X0_x f_X0_y f_X0_neighboursOf
  rw [i_has_s hp.1.1 h8 hs, Option.bind_some, gn_1, if_neg no10, Option.bind_some, gn_1, if_neg no10]
  simp (disch := omega) only [gnS, gs_chk_t, t1]
  rw [(hp.1.2.1 s hs).1, (hp.1.2.1 s hs).2, hp.2.2.2.1 s hs]
  exact ⟨rfl, rfl, rfl⟩
theorem l_of {σ : gs_Mem} (h : Rel σ) {v w : Int} (hv : gn v = v) (hw : gn w = w) : Same (f_X6_of v w σ) (f_X7_of v w σ) := by
  have h8 := h.1.1.n8
  have hA := h.1.2.pa h.1.1
  have hg := h.1.1.rg
  unfold f_X6_of f_X7_of
  rw [i_has h.1.2.1.1 h8, m_isStation h.1.1, Option.bind_some, Option.bind_some, gn_iteP, hv, hw]
  by_cases c1 : 0 ≤ v ∧ v < (nS (σ 71) : Int)
  · obtain ⟨s, rfl, hs⟩ := nat_of c1
    have hx := h.1.1.x hs
    have hy := h.1.1.y hs
    have hc := h.1.1.c hs
    have hf := h.1.1.f hs
    obtain ⟨x1, x2, x3⟩ := i_xs h.1.2 h.1.1 hs
    have ein : f_X7_in w 0 7 σ = some (if 0 ≤ w ∧ w ≤ 7 then 1 else 0) := by
      have := in_v hw (lo := 0) (hi := 7) (by decide) (by decide) σ
      rw [hw] at this; exact this
    rw [if_pos c1, if_neg no10, if_neg no10, ein, Option.bind_some, gn_iteP]
    by_cases c2 : 0 ≤ w ∧ w ≤ 7
    · rw [if_pos c2, if_neg no10]
      have cases8 : w = 0 ∨ w = 1 ∨ w = 2 ∨ w = 3 ∨ w = 4 ∨ w = 5 ∨ w = 6 ∨ w = 7 := by omega
      unfold f_X7_of_J95
      rcases cases8 with e | e | e | e | e | e | e | e
      · subst e
        rw [if_pos rfl, x1, if_neg (by decide), if_neg (by decide), if_neg (by decide), if_neg (by decide), if_neg (by decide), if_neg (by decide), Option.bind_some, Int.add_zero]
        simp (disch := omega) only [gnS, gs_chk_t, t4]
        exact ⟨_, rfl, rfl⟩
      · subst e
        rw [if_neg (by decide), if_pos rfl, x2, if_neg (by decide), if_neg (by decide), if_neg (by decide), if_neg (by decide), if_neg (by decide), if_neg (by decide), Option.bind_some]
        simp (disch := omega) only [gnS, gs_chk_t, t5]
        exact ⟨_, rfl, rfl⟩
      · subst e
        rw [if_neg (by decide), if_neg (by decide), if_pos rfl, if_pos rfl, i_chAbs h.1.2 h.1.1 hs, m_ch8 (by omega), Option.bind_some, Option.bind_some, m_told hc]
        exact ⟨_, rfl, rfl⟩
      · subst e
        rw [if_neg (by decide), if_neg (by decide), if_neg (by decide), if_pos rfl, if_neg (by decide), if_pos rfl, i_fixed h.1.2 h.1.1 hs, Option.bind_some, gn_ite1, Fx_lt hs]
        simp (disch := omega) only [gnS, gs_chk_t, t7]
        rcases hf with q | q
        · rw [q]; exact ⟨0, rfl, rfl⟩
        · rw [q]; exact ⟨1, rfl, rfl⟩
      · subst e
        obtain ⟨M, e, hM, hb⟩ := i_allowedFor hA hg hs
        have ea := m_allowed h.1.1 hs (w := 20) (by decide)
        rw [if_neg (by decide), if_neg (by decide), if_neg (by decide), if_neg (by decide), if_pos rfl, if_neg (by decide), if_neg (by decide), if_pos rfl, e, Option.bind_some, bitCount_spec (by omega), popc_alw hM hb, Option.bind_some]
        exact ⟨_, rfl, by rw [show (20 : Int) = ((20 : Nat) : Int) from rfl, ea]; rfl⟩
      · subst e
        obtain ⟨M, e, hM, hb⟩ := i_allowedFor hA hg hs
        rw [if_neg (by decide), if_neg (by decide), if_neg (by decide), if_neg (by decide), if_neg (by decide), if_pos rfl, if_neg (by decide), if_neg (by decide), if_neg (by decide), if_pos rfl, e, Option.bind_some, leastOf_alw hM hb, Option.bind_some, m_leastAllowed h.1.1 hs]
        exact ⟨_, rfl, rfl⟩
      · subst e
        rw [if_neg (by decide), if_neg (by decide), if_neg (by decide), if_neg (by decide), if_neg (by decide), if_neg (by decide), if_pos rfl, if_neg (by decide), if_neg (by decide), if_neg (by decide), if_neg (by decide), if_pos rfl, x3, m_apartMany h.1.1 hs]
        exact ⟨_, rfl, rfl⟩
      · subst e
        rw [if_neg (by decide), if_neg (by decide), if_neg (by decide), if_neg (by decide), if_neg (by decide), if_neg (by decide), if_neg (by decide), if_pos rfl, if_neg (by decide), if_neg (by decide), if_neg (by decide), if_neg (by decide), if_neg (by decide), if_pos rfl, i_clashesOf hA hg hs, m_clashesOf h.1.1 hs]
        exact ⟨_, rfl, rfl⟩
    · rw [if_neg c2, if_pos rfl, if_neg (by omega), if_neg (by omega), if_neg (by omega), if_neg (by omega), if_neg (by omega), if_neg (by omega), if_neg (by omega), if_neg (by omega)]
      exact ⟨_, rfl, rfl⟩
  · rw [if_neg c1, if_pos rfl, if_pos rfl]
    exact ⟨_, rfl, rfl⟩
theorem l_clique {σ : gs_Mem} (h : Rel σ) {v : Int} (hv : gn v = v) : ∃ (a : Int) (σ' : gs_Mem), f_X6_clique v σ = some (a, σ') ∧ f_X7_clique v σ' = some a ∧ Rel σ' := by
  have hA := h.1.2.pa h.1.1
  have hg := h.1.1.rg
  unfold f_X6_clique
  rw [i_isGap, Option.bind_some, gn_iteP, hv]
  by_cases c1 : 1 ≤ v ∧ v ≤ 4
  · rw [if_pos c1, if_neg no10, i_largestClique (by decide) hg (by omega) σ hA, Option.bind_some]
    have hrow : ∀ a, a ≠ 49 → frW (Ap (σ 71)) v (nS (σ 71)) σ (nS (σ 71)) a = σ a := fun a ha => frW_row _ _ _ _ ha _
    have hR : Rel (frW (Ap (σ 71)) v (nS (σ 71)) σ (nS (σ 71))) := Rel_scratch h (fun c h1 _ => hrow c (by omega))
    have e71 := hrow 71 (by decide)
    refine ⟨_, _, rfl, ?_, hR⟩
    generalize frW (Ap (σ 71)) v (nS (σ 71)) σ (nS (σ 71)) = τ at hR e71 ⊢
    unfold f_X7_clique
    rw [in_v hv (by decide) (by decide), Option.bind_some, gn_iteP, if_pos c1, if_neg no10, m_cliqueBy hR.1.1 (by omega), Option.bind_some, e71]
  · rw [if_neg c1, if_pos rfl]
    refine ⟨-2, σ, rfl, ?_, h⟩
    unfold f_X7_clique
    rw [in_v hv (by decide) (by decide), Option.bind_some, gn_iteP, if_neg c1, if_pos rfl]
theorem hav_le (n : Nat) (c : Nat → Int) : hav n c ≤ n := cN_le _ n
theorem i_isPart (v : Int) (σ : gs_Mem) : f_X6_isPart v σ = some (if 0 ≤ gn v ∧ gn v ≤ 1 then 1 else 0) := by
  unfold f_X6_isPart f_X6_isPart_J9
  by_cases c1 : gn v = 0
  · rw [if_pos c1, if_pos (by omega)]
  · rw [if_neg c1]
    by_cases c2 : gn v = 1
    · rw [if_pos c2, if_pos (by omega)]
    · rw [if_neg c2, if_neg (by omega)]
theorem l_mean {σ : gs_Mem} (h : Rel σ) {v : Int} (hv : gn v = v) : Same (f_X6_mean v σ) (f_X7_mean v σ) := by
  have h8 := h.1.1.n8
  have hA := h.1.2.pa h.1.1
  have hg := h.1.1.rg
  have hh := hav_le (nS (σ 71)) (Ch (σ 71))
  have hs := chs_le hg.2.1 (nS (σ 71))
  unfold f_X6_mean f_X7_mean
  rw [i_tuned hA hg, m_having h.1.1, Option.bind_some, Option.bind_some, i_isPart, Option.bind_some, gn_iteP, in_v hv (by decide) (by decide), Option.bind_some, gn_iteP, hv]
  by_cases c1 : 0 ≤ v ∧ v ≤ 1
  · rw [if_pos c1, if_neg no10, if_neg no10, gnN (by omega)]
    by_cases c2 : hav (nS (σ 71)) (Ch (σ 71)) = 0
    · rw [if_pos (by omega), if_pos (by omega)]
      exact ⟨_, rfl, rfl⟩
    · rw [if_neg (by omega), if_neg (by omega), i_sum hA hg, Option.bind_some, i_partOf (by omega) (by omega) (by omega), m_sum h.1.1 v, m_lowest (by omega) (by omega) (by omega)]
      exact ⟨_, rfl, rfl⟩
  · rw [if_neg c1, if_pos rfl, if_pos rfl]
    exact ⟨_, rfl, rfl⟩
