/-! ===== told ===== -/
theorem bd_nat {p : Nat → Int} (hn : 0 < nS p) : ∃ b : Nat, (1 ≤ b ∧ b ≤ 125) ∧ bdN (nS p) (Ap p) 4 = (b : Int) := by
  have h1 := bdN_pos hn (Ap p)
  have h2 := bdN_rng (nS p) (Ap p) 4 (by decide)
  exact ⟨(bdN (nS p) (Ap p) 4).toNat, by omega, by omega⟩
/-- both sides' least, from memories that hold the same -/
theorem both_least {σ : gs_Mem} (h : Rel σ) : ∃ (v : Int) (σ' : gs_Mem), f_X5_leastWidth 2 σ = some (v, σ') ∧ (∀ c, c ≠ 49 → c ≠ 50 → σ' c = σ c) ∧ -5 ≤ v ∧ v ≤ 125 ∧ ∀ τ : gs_Mem, τ 71 = σ 71 → ∃ τ', f_X7_least τ = some (v, τ') ∧ ∀ c, c ≠ 72 → τ' c = τ c := by
  have hW := h.1.1
  have hP := h.1.2
  have h8 := hW.n8
  unfold f_X5_leastWidth
  rw [i_size (hP.pa hW), Option.bind_some, gnN (by omega)]
  by_cases hn : nS (σ 71) = 0
  · rw [if_pos (by omega)]
    refine ⟨0, σ, rfl, fun _ _ _ => rfl, by decide, by decide, fun τ e => ⟨τ, ?_, fun _ _ => rfl⟩⟩
    have n0 := hW.n0
    unfold f_X7_least
    rw [e, gs_chk_t (by decide) (by decide), n0, gnN (by omega), if_pos (by omega)]
  · rw [if_neg (by omega)]
    obtain ⟨b, hb, eb⟩ := bd_nat (p := σ 71) (by omega)
    obtain ⟨σ1, a1, a2⟩ := i_bound (by decide) hW.rg σ (hP.pa hW)
    rw [eb] at a1
    rw [a1, Option.bind_some]
    have hP1 : PlR σ1 2 (σ 71) := PlR_keep hP (fun c h1 h2 => a2 c (by omega))
    obtain ⟨v, σ2, b1, b2, b3⟩ := i_least hP1 hW (by omega) hb
    have rng : -5 ≤ v ∧ v ≤ 125 := by
      rcases b3 with ⟨q, -⟩ | ⟨w, q, -, q2, -⟩ <;> omega
    refine ⟨v, σ2, b1, fun c h1 h2 => by rw [b2.1 c h2, a2 c h1], rng.1, rng.2, fun τ e => ?_⟩
    obtain ⟨v', c1, c2⟩ := m_least (σ := τ) (by rw [e]; exact hW) (by rw [e]; omega) hb (by rw [e]; exact eb)
    rw [e] at c2
    rw [Lst_same c2 b3] at c1
    exact ⟨_, c1, fun c hc => rw_ne _ _ _ hc⟩
theorem l_told {σ : gs_Mem} (h : Rel σ) {v : Int} (hv : gn v = v) : Agree (f_X6_told v σ) (f_X7_told v) := by
  have hW := h.1.1
  have hP := h.1.2
  have h8 := hW.n8
  have hA := hP.pa hW
  have hg := hW.rg
  unfold f_X6_told
  rw [hv]
  by_cases c0 : v = 0
  · rw [if_pos c0]
    refine ⟨(nS (σ 71) : Int), σ, σ, by rw [i_size hA, Option.bind_some], ?_, h⟩
    unfold f_X7_told
    rw [hv, if_pos c0, gs_chk_t (by decide) (by decide), hW.n0]
  rw [if_neg c0]
  by_cases c1 : v = 1
  · rw [if_pos c1]
    refine ⟨_, σ, σ, by rw [i_span hA hg, Option.bind_some], ?_, h⟩
    unfold f_X7_told
    rw [hv, if_neg c0, if_pos c1, m_span hW, Option.bind_some]
  rw [if_neg c1]
  by_cases c2 : v = 2
  · rw [if_pos c2]
    refine ⟨_, σ, σ, by rw [i_clashes hA hg, Option.bind_some], ?_, h⟩
    unfold f_X7_told
    rw [hv, if_neg c0, if_neg c1, if_pos c2, m_clashes hW, Option.bind_some]
  rw [if_neg c2]
  by_cases c3 : v = 3
  · rw [if_pos c3]
    obtain ⟨σ1, a1, a2⟩ := i_bound (by decide) hg σ hA
    refine ⟨_, σ1, σ1, by rw [a1, Option.bind_some], ?_, Rel_scratch h (fun c h1 h2 => a2 c (by omega))⟩
    have mb := m_bound (σ := σ1) (by rw [a2 71 (by decide)]; exact hW)
    rw [a2 71 (by decide)] at mb
    unfold f_X7_told
    rw [hv, if_neg c0, if_neg c1, if_neg c2, if_pos c3, mb, Option.bind_some]
  rw [if_neg c3]
  by_cases c4 : v = 4
  · rw [if_pos c4]
    obtain ⟨x, σ1, a1, a2, -, -, a3⟩ := both_least h
    obtain ⟨τ, b1, b2⟩ := a3 σ1 (a2 71 (by decide) (by decide))
    refine ⟨x, σ1, τ, by rw [a1, Option.bind_some], ?_, Rel_scratch h (fun c h1 h2 => by rw [b2 c h2, a2 c (by omega) (by omega)])⟩
    unfold f_X7_told
    rw [hv, if_neg c0, if_neg c1, if_neg c2, if_neg c3, if_pos c4, b1, Option.bind_some]
  rw [if_neg c4]
  by_cases c5 : v = 5
  · rw [if_pos c5]
    obtain ⟨x, σ1, a1, a2, x1, x2, a3⟩ := both_least h
    have e71 : σ1 71 = σ 71 := a2 71 (by decide) (by decide)
    have hP1 : PlR σ1 2 (σ 71) := PlR_keep hP (fun c h1 h2 => a2 c (by omega) (by omega))
    obtain ⟨σ2, d1, d2⟩ := i_bound (by decide) hg σ1 (hP1.pa hW)
    have e71' : σ2 71 = σ 71 := by rw [d2 71 (by decide), e71]
    obtain ⟨τ, b1, b2⟩ := a3 σ2 e71'
    have mb := m_bound (σ := τ) (by rw [b2 71 (by decide), e71']; exact hW)
    rw [b2 71 (by decide), e71'] at mb
    refine ⟨if gn x = gn (bdN (nS (σ 71)) (Ap (σ 71)) 4) then 1 else 0, σ2, τ, ?_, ?_, Rel_scratch h (fun c h1 h2 => by rw [b2 c h2, d2 c (by omega), a2 c (by omega) (by omega)])⟩
    · rw [a1, Option.bind_some]
      dsimp only
      rw [d1, Option.bind_some]
      dsimp only
      by_cases z : gn x = gn (bdN (nS (σ 71)) (Ap (σ 71)) 4)
      · rw [if_pos z, if_pos z]
      · rw [if_neg z, if_neg z]
    · unfold f_X7_told
      rw [hv, if_neg c0, if_neg c1, if_neg c2, if_neg c3, if_neg c4, if_pos c5, b1, Option.bind_some]
      dsimp only
      rw [mb, Option.bind_some]
      by_cases z : gn x = gn (bdN (nS (σ 71)) (Ap (σ 71)) 4)
      · rw [if_pos z, if_pos z]
      · rw [if_neg z, if_neg z]
  rw [if_neg c5]
  by_cases c6 : v = 6
  · rw [if_pos c6]
    refine ⟨_, σ, σ, by rw [i_tuned hA hg, Option.bind_some], ?_, h⟩
    unfold f_X7_told
    rw [hv, if_neg c0, if_neg c1, if_neg c2, if_neg c3, if_neg c4, if_neg c5, if_pos c6, m_having hW, Option.bind_some]
  rw [if_neg c6]
  by_cases c7 : v = 7
  · rw [if_pos c7]
    have lt := usd_lt hg.2.1 (nS (σ 71))
    refine ⟨((popc (usd (Ch (σ 71)) (nS (σ 71))) : Nat) : Int), σ, σ, ?_, ?_, h⟩
    · rw [i_used hA hg, Option.bind_some, bitCount_spec (by omega), Option.bind_some]
    · unfold f_X7_told
      rw [hv, if_neg c0, if_neg c1, if_neg c2, if_neg c3, if_neg c4, if_neg c5, if_neg c6, if_pos c7, m_unlike hW, Option.bind_some]
  rw [if_neg c7]
  by_cases c8 : v = 8
  · rw [if_pos c8]
    unfold f_X0_fixedBits
    refine ⟨_, σ, σ, by rw [Option.bind_some], ?_, h⟩
    unfold f_X7_told
    rw [hv, if_neg c0, if_neg c1, if_neg c2, if_neg c3, if_neg c4, if_neg c5, if_neg c6, if_neg c7, if_pos c8, m_fixedSet hW, Option.bind_some, i_fixedBits hP hW]
  rw [if_neg c8]
  refine ⟨-1, σ, σ, rfl, ?_, h⟩
  unfold f_X7_told
  rw [hv, if_neg c0, if_neg c1, if_neg c2, if_neg c3, if_neg c4, if_neg c5, if_neg c6, if_neg c7, if_neg c8]
