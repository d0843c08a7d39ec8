/-! ===== judge ===== -/
theorem gn_far {x : Int} (h1 : 2147483648 ≤ x) (h2 : x < 4294967296) : gn x < 0 := by
  rw [gn_eq]
  unfold Int.bmod
  dsimp only
  split <;> omega
theorem judge_same {σ : gs_Mem} (h : Rel σ) {k : Nat} (hk : k < 6) {v : Int} (hv : gn v = v) (h0 : 0 ≤ v) (hs : σ 76 k = 0) (K : Int → Option Int) : ∀ m t, t ≤ nS (σ 71) → f_X6_judge_L36 σ v (58 + 2 * k) K m ((t : Nat) : Int) = f_X7_judge_L28 σ (k : Int) v K m ((t : Nat) : Int)
  | 0, _, _ => rfl
  | m + 1, t, ht => by
    have h8 := h.1.1.n8
    have hn := h.1.1.n0
    have hr := gn_rng v
    rw [hv] at hr
    obtain ⟨q1, q2, q3, q4, q5, q6⟩ := h.2.2.2.2 k hk
    rw [f_X6_judge_L36, f_X7_judge_L28]
    unfold f_X0_size
    rw [h.1.2.1.1, Option.bind_some, gs_chk_t (by decide) (by decide), hn, gnN (by omega), gnN (by omega)]
    by_cases c0 : (nS (σ 71) : Int) ≤ (t : Int)
    · rw [if_pos c0, if_pos c0]
    · have lt : t < nS (σ 71) := by omega
      rw [if_neg c0, if_neg c0, i_holds q2 q4, Option.bind_some, gn_iteP, gnN (by omega), gs_chk_t (by omega) (by omega), gs_chk_t (by omega) (by omega), t1, hs, gn_0, if_neg (show ¬ (0 : Int) = -1 by decide), hv, if_neg (show ¬ v < 0 by omega), gnS (x := σ 77 k - v) (by omega)]
      by_cases c1 : (t : Int) < σ 77 k - v
      · have e : gn (v + (t : Int)) = v + (t : Int) := gnS (by omega)
        obtain ⟨j, hj⟩ : ∃ j : Nat, v + (t : Int) = j := ⟨(v + (t : Int)).toNat, by omega⟩
        rw [e, if_pos (show 0 ≤ v + (t : Int) ∧ v + (t : Int) ≤ σ 77 k - 1 by omega), if_neg no10, if_pos c1, i_ch (h.1.2.pa h.1.1) h.1.1.rg lt, m_ch h.1.1 lt]
        unfold f_X3_get
        rw [i_holds q2 q4, Option.bind_some, gn_iteP, e, if_pos (show 0 ≤ v + (t : Int) ∧ v + (t : Int) ≤ σ 77 k - 1 by omega), if_neg no10, gs_chk_t (by omega) (by omega), Option.bind_some, Option.bind_some, gnS (x := 60 * (k : Int) + v + (t : Int)) (by omega), gs_chk_t (by omega) (by omega), hj, t1, show (60 * (k : Int) + v + (t : Int)).toNat = 60 * k + j by omega, ← q6 j (by omega), show 58 + 2 * k + 1 = 59 + 2 * k by omega, show ((t : Int) + 1) = ((t + 1 : Nat) : Int) from rfl, judge_same h hk hv h0 hs K m (t + 1) lt]
        rfl
      · rw [if_neg c1, if_neg (show ¬ (0 ≤ gn (v + (t : Int)) ∧ gn (v + (t : Int)) ≤ σ 77 k - 1) by
          intro z
          by_cases d : v + (t : Int) < 2147483648
          · rw [gnS (by omega)] at z; omega
          · have := gn_far (x := v + (t : Int)) (by omega) (by omega)
            omega), if_pos rfl]
