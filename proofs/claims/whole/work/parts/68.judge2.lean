theorem m_judge_ex {σ : gs_Mem} (h : Rel σ) {k : Nat} (hk : k < 6) {v : Int} (hv : gn v = v) (h0 : 0 ≤ v) (hs : σ 76 k = 0) : ∃ u, f_X7_judge_L28 σ (k : Int) v (fun w3 => f_X7_judge_J64 σ w3) gs_fuel 0 = some u := by
  have h8 := h.1.1.n8
  have hn := h.1.1.n0
  have hr := gn_rng v
  rw [hv] at hr
  obtain ⟨q1, q2, q3, q4, q5, q6⟩ := h.2.2.2.2 k hk
  refine loop0 (fun m t (_ : Unit) => f_X7_judge_L28 σ (k : Int) v (fun w3 => f_X7_judge_J64 σ w3) m (t : Int)) (fun _ _ => True) (fun q => ∃ u, q = some u) (nS (σ 71)) () (by omega) ?_ ?_ trivial
  · intro m t _ ht _
    rw [f_X7_judge_L28, gs_chk_t (by decide) (by decide), hn, gnN (by omega), gnN (by omega), if_neg (by omega), gnN (by omega), gs_chk_t (by omega) (by omega), gs_chk_t (by omega) (by omega), t1, hs, gn_0, if_neg (show ¬ (0 : Int) = -1 by decide), hv, if_neg (show ¬ v < 0 by omega), gnS (x := σ 77 k - v) (by omega)]
    by_cases c1 : (t : Int) < σ 77 k - v
    · rw [if_pos c1, gnS (x := 60 * (k : Int) + v + (t : Int)) (by omega), gs_chk_t (by omega) (by omega), m_ch h.1.1 ht, Option.bind_some]
      by_cases c2 : gn (gcmp (σ 78 (60 * (k : Int) + v + (t : Int)).toNat) (gn (Ch (σ 71) t))) = 0
      · rw [if_pos c2]; exact Or.inr ⟨(), rfl, trivial⟩
      · rw [if_neg c2]; exact Or.inl ⟨_, rfl⟩
    · rw [if_neg c1]; exact Or.inl ⟨_, rfl⟩
  · intro m _ _
    rw [f_X7_judge_L28, gs_chk_t (by decide) (by decide), hn, gnN (by omega), if_pos (Int.le_refl _)]
    exact ⟨_, rfl⟩
theorem l_judge {σ : gs_Mem} (h : Rel σ) {u v : Int} (hu : gn u = u) (hv : gn v = v) : Same (f_X6_judge u v σ) (f_X7_judge u v σ) := by
  have h8 := h.1.1.n8
  have hn := h.1.1.n0
  have hr := gn_rng v
  rw [hv] at hr
  unfold f_X6_judge f_X7_judge
  rw [i_isTape, Option.bind_some, gn_iteP, in_v hu (by decide) (by decide), Option.bind_some, gn_iteP, hu]
  by_cases c1 : 0 ≤ u ∧ u ≤ 5
  · obtain ⟨k, rfl, hk⟩ := nat_of (n := 6) (show 0 ≤ u ∧ u < ((6 : Nat) : Int) by omega)
    obtain ⟨q1, q2, q3, q4, q5, q6⟩ := h.2.2.2.2 k hk
    rw [if_pos c1, if_neg no10, if_neg no10, gs_chk_t (by omega) (by omega), gs_chk_t (by omega) (by omega), t1, i_isBlank q1 q3, Option.bind_some, gn_iteP, gnS (x := σ 76 k) (by omega)]
    unfold f_X3_sort
    rw [Option.bind_some, q1, gnS (x := σ 76 k) (by omega)]
    -- what both answer at once when nothing is held at the first place
    have early : (σ 76 k = -1 ∨ v < 0) → Same (f_X6_judge_J33 σ v (58 + 2 * k)) (f_X7_judge_L28 σ (k : Int) v (fun w3 => f_X7_judge_J64 σ w3) gs_fuel 0) := fun hc => by
      obtain ⟨F, hF⟩ : ∃ F, gs_fuel = F + 1 := ⟨gs_fuel - 1, by have := fuel_big; omega⟩
      unfold f_X6_judge_J33
      rw [hF, f_X6_judge_L36, f_X7_judge_L28]
      unfold f_X0_size f_X7_judge_J64
      rw [h.1.2.1.1, Option.bind_some, gs_chk_t (by decide) (by decide), hn, gnN (by omega), gn_0]
      by_cases c0 : (nS (σ 71) : Int) ≤ 0
      · rw [if_pos c0, if_pos c0]; exact ⟨_, rfl, rfl⟩
      · rw [if_neg c0, if_neg c0, i_holds q2 q4, Option.bind_some, gn_iteP, gnN (k := k) (by omega), gs_chk_t (by omega) (by omega), t1, gnS (x := σ 76 k) (by omega), Int.add_zero, hv]
        have hz : ¬ (0 ≤ v ∧ v ≤ σ 77 k - 1) := by
          rcases hc with e | e
          · have := q5 e; omega
          · omega
        rw [if_neg hz, if_pos rfl]
        by_cases c5 : σ 76 k = -1
        · rw [if_pos c5]; exact ⟨_, rfl, rfl⟩
        · rw [if_neg c5, if_pos (show v < 0 from hc.resolve_left c5)]; exact ⟨_, rfl, rfl⟩
    by_cases c2 : σ 76 k = -1
    · rw [if_pos c2, if_neg no10, if_pos (by omega)]
      exact early (Or.inl c2)
    · rw [if_neg c2, if_pos rfl]
      by_cases c3 : σ 76 k = 0
      · rw [if_pos c3, if_pos (by omega)]
        by_cases c4 : v < 0
        · exact early (Or.inr c4)
        · obtain ⟨a, e⟩ := m_judge_ex h hk hv (by omega) c3
          refine ⟨a, ?_, e⟩
          exact (judge_same h hk hv (by omega) c3 _ gs_fuel 0 (Nat.zero_le _)).trans e
      · rw [if_neg c3, if_neg (by omega)]
        exact ⟨_, rfl, rfl⟩
  · rw [if_neg c1, if_pos rfl, if_pos rfl]
    exact ⟨_, rfl, rfl⟩
