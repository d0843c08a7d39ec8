/-! ===== rule, channel, fix, move, at, apart, of ===== -/
theorem no10 : ¬ (1 : Int) = 0 := by decide
theorem i_isNear (v : Int) (σ : gs_Mem) : f_X6_isNear v σ = some (if 0 ≤ gn v ∧ gn v ≤ 40 then 1 else 0) := by
  unfold f_X6_isNear
  by_cases c1 : gn v < 0
  · rw [if_pos c1, if_neg (by omega)]
  · rw [if_neg c1]
    by_cases c2 : 40 < gn v
    · rw [if_pos c2, if_neg (by omega)]
    · rw [if_neg c2, if_pos (by omega)]
theorem i_isGap (v : Int) (σ : gs_Mem) : f_X6_isGap v σ = some (if 1 ≤ gn v ∧ gn v ≤ 4 then 1 else 0) := by
  unfold f_X6_isGap
  by_cases c1 : gn v < 1
  · rw [if_pos c1, if_neg (by omega)]
  · rw [if_neg c1]
    by_cases c2 : 4 < gn v
    · rw [if_pos c2, if_neg (by omega)]
    · rw [if_neg c2, if_pos (by omega)]
theorem i_isChannel (v : Int) (σ : gs_Mem) : f_X6_isChannel v σ = some (if 0 ≤ gn v ∧ gn v ≤ 19 then 1 else 0) := by
  unfold f_X6_isChannel
  by_cases c1 : gn v < 0
  · rw [if_pos c1, if_neg (by omega)]
  · rw [if_neg c1]
    by_cases c2 : 20 ≤ gn v
    · rw [if_pos c2, if_neg (by omega)]
    · rw [if_neg c2, if_pos (by omega)]
theorem in_v {v lo hi : Int} (hv : gn v = v) (hl : -2147483648 ≤ lo ∧ lo < 2147483648) (hh : -2147483648 ≤ hi ∧ hi < 2147483648) (σ : gs_Mem) : f_X7_in (gn v) lo hi σ = some (if lo ≤ v ∧ v ≤ hi then 1 else 0) := by
  rw [in_gn v (by omega) (by omega), hv]
theorem l_rule {σ : gs_Mem} (h : Rel σ) {u v w : Int} (hu : gn u = u) (hv : gn v = v) (hw : gn w = w) : Agree (f_X6_rule u v w σ) (f_X7_rule u v w) := by
  unfold f_X6_rule
  rw [i_isRule, Option.bind_some, gn_iteP, hu, i_isNear, Option.bind_some, gn_iteP, hv, i_isGap, Option.bind_some, gn_iteP, hw]
  by_cases c1 : 0 ≤ u ∧ u ≤ 2
  · rw [if_pos c1, if_neg no10]
    by_cases c2 : 0 ≤ v ∧ v ≤ 40
    · rw [if_pos c2, if_neg no10]
      by_cases c3 : 1 ≤ w ∧ w ≤ 4
      · rw [if_pos c3, if_neg no10]
        obtain ⟨q, rfl⟩ : ∃ q : Nat, u = q := ⟨u.toNat, by omega⟩
        obtain ⟨σ', e, hP, hF⟩ := i_change h.1.2 h.1.1 (show q < 3 by omega) c2 c3
        have e71 : σ' 71 = σ 71 := hF 71 (by decide)
        rw [e, Option.bind_some]
        refine ⟨_, σ', rw_ σ' 71 (prl (σ 71) q v w), rfl, ?_, ?_⟩
        · unfold f_X7_rule gs_let
          rw [in_v hu (by decide) (by decide), Option.bind_some, gn_iteP, if_pos c1, if_neg no10, in_v hv (by decide) (by decide), Option.bind_some, gn_iteP, if_pos c2, if_neg no10, in_v hw (by decide) (by decide), Option.bind_some, gn_iteP, if_pos c3, if_neg no10]
          simp (disch := omega) only [gnS, gs_chk_t, t36, t37]
          rw [e71, gs_st_rw, gs_st_rw, rw_same, rw_rw, e71]
          rfl
        · refine Rel_plane h hF hP (prl_WF h.1.1 (by omega) c2 c3) ?_ (Nat.le_of_eq (prl_n _ _ _ _).symm)
          unfold prl
          exact rest_rs (rest_rs (rest_refl _) _ (by omega)) _ (by omega)
      · rw [if_neg c3, if_pos rfl]
        refine ⟨-2, σ, σ, rfl, ?_, h⟩
        unfold f_X7_rule
        rw [in_v hu (by decide) (by decide), Option.bind_some, gn_iteP, if_pos c1, if_neg no10, in_v hv (by decide) (by decide), Option.bind_some, gn_iteP, if_pos c2, if_neg no10, in_v hw (by decide) (by decide), Option.bind_some, gn_iteP, if_neg c3, if_pos rfl]
    · rw [if_neg c2, if_pos rfl]
      refine ⟨-2, σ, σ, rfl, ?_, h⟩
      unfold f_X7_rule
      rw [in_v hu (by decide) (by decide), Option.bind_some, gn_iteP, if_pos c1, if_neg no10, in_v hv (by decide) (by decide), Option.bind_some, gn_iteP, if_neg c2, if_pos rfl]
  · rw [if_neg c1, if_pos rfl]
    refine ⟨-1, σ, σ, rfl, ?_, h⟩
    unfold f_X7_rule
    rw [in_v hu (by decide) (by decide), Option.bind_some, gn_iteP, if_neg c1, if_pos rfl]
/-- a call's station, as a number of its own -/
theorem nat_of {v : Int} {n : Nat} (h : 0 ≤ v ∧ v < (n : Int)) : ∃ s : Nat, v = (s : Int) ∧ s < n := ⟨v.toNat, by omega, by omega⟩
theorem Rel_pcf {σ σ' : gs_Mem} (h : Rel σ) {s : Nat} (hs : s < nS (σ 71)) {c f : Int} (hF : Fr σ σ' 2) (hP : PlR σ' 2 (pcf (σ 71) s c f)) (hc : -1 ≤ c ∧ c ≤ 19) (hf : f = 0 ∨ f = 1) (hfc : f = 1 → 0 ≤ c) : Rel (rw_ σ' 71 (pcf (σ 71) s c f)) := by
  have h8 := h.1.1.n8
  refine Rel_plane h hF hP (pcf_WF h.1.1 hs hc hf hfc) ?_ (Nat.le_of_eq (geo_nS (pcf_geo _ (by omega) c f)).symm)
  unfold pcf
  exact rest_rs (rest_rs (rest_refl _) _ (by omega)) _ (by omega)
theorem i_fixed {σ : gs_Mem} {r : Nat} {p : Nat → Int} (hp : PlR σ r p) (h : WF p) {s : Nat} (hs : s < nS p) : f_X0_isFixed r (s : Int) σ = some (if Fx p s then 1 else 0) := by
  have h8 := h.n8
  obtain ⟨m, m1, m2, m3⟩ := hp.2.2.2.2
  unfold f_X0_isFixed
  rw [i_has_s hp.1.1 h8 hs, Option.bind_some, gn_1, if_neg no10, m1, gbit (by omega) (by omega), m3 s]
  cases Fx p s <;> rfl
theorem Fx_lt {p : Nat → Int} {s : Nat} (hs : s < nS p) : Fx p s = decide (p (7 + 4 * s) = 1) := by
  unfold Fx; rw [decide_eq_true hs, Bool.true_and]
theorem i_chAbs {σ : gs_Mem} {r : Nat} {p : Nat → Int} (hp : PlR σ r p) (h : WF p) {s : Nat} (hs : s < nS p) : f_X0_channelOrAbsent r (s : Int) σ = some (if p (6 + 4 * s) = -1 then -5 else p (6 + 4 * s)) := by
  have hc := h.c hs
  unfold f_X0_channelOrAbsent
  rw [i_ch (hp.pa h) h.rg hs, Option.bind_some, Ch_lt hs, gnS (by omega)]
  split <;> rfl
theorem m_told {c : Int} (hc : -1 ≤ c ∧ c ≤ 19) (σ : gs_Mem) : f_X7_toldOf c σ = some (if c = -1 then -5 else c) := by
  unfold f_X7_toldOf
  rw [gnS (by omega)]
  by_cases e : c = -1
  · rw [if_neg (by omega), if_pos e]
  · rw [if_pos (by omega), if_neg e]
theorem m_chJ {σ : gs_Mem} (h : WF (σ 71)) {s : Nat} (hs : s < nS (σ 71)) (v : Int) : f_X7_channel_J42 (s : Int) v σ = some (if σ 71 (6 + 4 * s) = -1 then -5 else σ 71 (6 + 4 * s), rw_ σ 71 (pcf (σ 71) s v 0)) := by
  have h8 := h.n8
  unfold f_X7_channel_J42
  rw [m_ch8 (by omega), Option.bind_some, m_has (by omega), Option.bind_some]
  simp (disch := omega) only [gnS, gs_chk_t, t7]
  rw [m_told (h.c hs), Option.bind_some, gs_st_rw, gs_st_rw, rw_same, rw_rw]
  rfl
theorem l_channel {σ : gs_Mem} (h : Rel σ) {u v : Int} (hu : gn u = u) (hv : gn v = v) : Agree (f_X6_channel u v σ) (f_X7_channel u v) := by
  have h8 := h.1.1.n8
  unfold f_X6_channel
  rw [i_has h.1.2.1.1 h8, Option.bind_some, hu, hv, gn_iteP]
  by_cases c1 : 0 ≤ u ∧ u < (nS (σ 71) : Int)
  · obtain ⟨s, rfl, hs⟩ := nat_of c1
    have hc := h.1.1.c hs
    have hf := h.1.1.f hs
    rw [if_pos c1, if_neg no10]
    have good : ∀ τ, (τ = f_X6_channel_J49 (s : Int) v σ) → (-1 ≤ v ∧ v ≤ 19) → (Fx (σ 71) s = false ∨ v < 0) → Agree τ (f_X7_channel (s : Int) v) := fun τ hτ hvv hfx => by
      rw [hτ]
      obtain ⟨σ', e, hP, hF⟩ := i_tune h.1.2 h.1.1 hs hvv
      have e71 : σ' 71 = σ 71 := hF 71 (by decide)
      have e0 : (if v = -1 then (0 : Int) else σ 71 (7 + 4 * s)) = 0 := by
        by_cases c : v = -1
        · rw [if_pos c]
        · rw [if_neg c]
          rcases hfx with q | q
          · rw [Fx_lt hs, decide_eq_false_iff_not] at q
            omega
          · omega
      rw [e0] at hP
      refine ⟨if σ 71 (6 + 4 * s) = -1 then -5 else σ 71 (6 + 4 * s), σ', rw_ σ' 71 (pcf (σ 71) s v 0), ?_, ?_, Rel_pcf (f := 0) h hs hF hP hvv (Or.inl rfl) (fun q => absurd q (by decide))⟩
      · unfold f_X6_channel_J49
        rw [i_chAbs h.1.2 h.1.1 hs, Option.bind_some, e, Option.bind_some]
      · unfold f_X7_channel
        have hW : WF (σ' 71) := by rw [e71]; exact h.1.1
        rw [m_isStation hW, Option.bind_some, hu, gn_iteP, e71, if_pos c1, if_neg no10, in_v hv (by decide) (by decide), Option.bind_some, gn_iteP, if_pos (show -1 ≤ v ∧ v ≤ 19 by omega), if_neg no10, m_fixed hW (by rw [e71]; exact hs), Option.bind_some, gn_ite1, e71, m_chJ hW (by rw [e71]; exact hs), e71]
        by_cases cf : Fx (σ 71) s = true
        · rw [if_pos cf, if_neg no10, if_pos (by
            rcases hfx with q | q
            · rw [cf] at q; cases q
            · rw [hv]; exact q)]
        · rw [if_neg cf, if_pos rfl]
    by_cases c2 : v = -1
    · rw [if_pos c2]
      unfold f_X6_channel_J33
      rw [hv, if_pos c2]
      exact good _ rfl (by omega) (Or.inr (by omega))
    · rw [if_neg c2, i_isChannel, Option.bind_some, hv, gn_iteP]
      by_cases c3 : 0 ≤ v ∧ v ≤ 19
      · rw [if_pos c3, if_neg no10]
        unfold f_X6_channel_J33
        rw [hv, if_neg c2, i_fixed h.1.2 h.1.1 hs, Option.bind_some, gn_ite1]
        by_cases cf : Fx (σ 71) s = true
        · rw [if_pos cf, if_neg no10]
          refine ⟨-3, σ, σ, rfl, ?_, h⟩
          unfold f_X7_channel
          rw [m_isStation h.1.1, Option.bind_some, hu, gn_iteP, if_pos c1, if_neg no10, in_v hv (by decide) (by decide), Option.bind_some, gn_iteP, if_pos (show -1 ≤ v ∧ v ≤ 19 by omega), if_neg no10, m_fixed h.1.1 hs, Option.bind_some, gn_ite1, if_pos cf, if_neg no10, hv, if_neg (show ¬ v < 0 by omega)]
        · rw [if_neg cf, if_pos rfl]
          exact good _ rfl (by omega) (Or.inl (by simpa using cf))
      · rw [if_neg c3, if_pos rfl]
        refine ⟨-2, σ, σ, rfl, ?_, h⟩
        have hr := gn_rng v
        rw [hv] at hr
        unfold f_X7_channel
        rw [m_isStation h.1.1, Option.bind_some, hu, gn_iteP, if_pos c1, if_neg no10, in_v hv (by decide) (by decide), Option.bind_some, gn_iteP, if_neg (show ¬ (-1 ≤ v ∧ v ≤ 19) by omega), if_pos rfl]
  · rw [if_neg c1, if_pos rfl]
    refine ⟨-1, σ, σ, rfl, ?_, h⟩
    unfold f_X7_channel
    rw [m_isStation h.1.1, Option.bind_some, hu, gn_iteP, if_neg c1, if_pos rfl]
