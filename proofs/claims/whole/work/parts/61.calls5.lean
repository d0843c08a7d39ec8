theorem m1 : gn (-1) = -1 := by decide +kernel
theorem l_see {σ : gs_Mem} (h : Rel σ) {u v : Int} (hu : gn u = u) (hv : gn v = v) : Agree (f_X6_see u v σ) (f_X7_see u v) := by
  have h8 := h.1.1.n8
  unfold f_X6_see
  rw [hu]
  by_cases c0 : u = -1
  · rw [if_pos c0]
    unfold f_X1_clear
    rw [Option.bind_some, gs_st_same]
    refine ⟨0, _, _, rfl, ?_, Rel_clear (j := 1) h (Or.inl rfl)⟩
    unfold f_X7_see
    rw [hu, if_pos c0, gs_chk_t (by decide) (by decide)]
  · rw [if_neg c0, i_has h.1.2.1.1 h8, Option.bind_some, gn_iteP, hu]
    by_cases c1 : 0 ≤ u ∧ u < (nS (σ 71) : Int)
    · rw [if_pos c1, if_neg no10, i_isChannel, Option.bind_some, gn_iteP, hv]
      by_cases c2 : 0 ≤ v ∧ v ≤ 19
      · rw [if_pos c2, if_neg no10]
        have b := h.2.1.1.1.1
        obtain ⟨a1, a2⟩ := i_append (v := u) (w := v) h.2.1.2.1.1 h.2.1.2.2.1 (by decide) b
        by_cases c3 : σ 71 1 = 5
        · rw [a1 c3, Option.bind_some]
          refine ⟨-4, σ, σ, rfl, ?_, h⟩
          unfold f_X7_see
          rw [hu, if_neg c0, m_isStation h.1.1, Option.bind_some, gn_iteP, hu, if_pos c1, if_neg no10, in_v hv (by decide) (by decide), Option.bind_some, gn_iteP, if_pos c2, if_neg no10, gs_chk_t (by decide) (by decide), gnS (by omega), if_pos c3]
        · obtain ⟨σ', e, q1, q2, q3, q4, q5⟩ := a2 (by omega)
          rw [e, Option.bind_some]
          have e71 : σ' 71 = σ 71 := q1 71 (by decide) (by decide) (by decide)
          refine ⟨σ 71 1 + 1, σ', _, rfl, ?_, Rel_app (j := 1) (b := 42) (v := u) (w := v) h (Or.inl ⟨rfl, rfl, by omega, c1, c2⟩) q1 (q2.trans h.2.1.2.2.1.symm) q3 q4 q5⟩
          have hW : WF (σ' 71) := by rw [e71]; exact h.1.1
          unfold f_X7_see
          obtain ⟨k, hk⟩ : ∃ k : Nat, σ 71 1 = (k : Int) := ⟨(σ 71 1).toNat, by omega⟩
          rw [hu, if_neg c0, m_isStation hW, Option.bind_some, gn_iteP, hu, e71, if_pos c1, if_neg no10, in_v hv (by decide) (by decide), Option.bind_some, gn_iteP, if_pos c2, if_neg no10, gs_chk_t (by decide) (by decide), gnS (by omega), if_neg c3, hk]
          simp (disch := omega) only [gnS, gs_chk_t, t42, t43]
          rw [gs_st_rw, gs_st_rw, gs_st_rw, rw_same, rw_rw, rw_same, rw_rw, e71]
          unfold rwP
          rw [hk]
          rfl
      · rw [if_neg c2, if_pos rfl]
        refine ⟨-2, σ, σ, rfl, ?_, h⟩
        unfold f_X7_see
        rw [hu, if_neg c0, m_isStation h.1.1, Option.bind_some, gn_iteP, hu, if_pos c1, if_neg no10, in_v hv (by decide) (by decide), Option.bind_some, gn_iteP, if_neg c2, if_pos rfl]
    · rw [if_neg c1, if_pos rfl]
      refine ⟨-1, σ, σ, rfl, ?_, h⟩
      unfold f_X7_see
      rw [hu, if_neg c0, m_isStation h.1.1, Option.bind_some, gn_iteP, hu, if_neg c1, if_pos rfl]
theorem l_book {σ : gs_Mem} (h : Rel σ) {u v : Int} (hu : gn u = u) (hv : gn v = v) : Agree (f_X6_book u v σ) (f_X7_book u v) := by
  have h8 := h.1.1.n8
  unfold f_X6_book
  rw [hu, hv]
  by_cases c0 : u = -1
  · rw [if_pos c0]
    unfold f_X1_clear
    rw [Option.bind_some, gs_st_same]
    refine ⟨0, _, _, rfl, ?_, Rel_clear (j := 3) h (Or.inr (Or.inr rfl))⟩
    unfold f_X7_book
    rw [hu, if_pos c0, gs_chk_t (by decide) (by decide)]
  · rw [if_neg c0, i_has h.1.2.1.1 h8, Option.bind_some, gn_iteP, hu]
    by_cases c1 : 0 ≤ u ∧ u < (nS (σ 71) : Int)
    · rw [if_pos c1, if_neg no10]
      have b := h.2.1.1.2.2.1
      obtain ⟨a1, a2⟩ := i_append (v := u) (w := v) h.2.1.2.1.2.2 h.2.1.2.2.2.2 (by decide) b
      have good : (-1 ≤ v ∧ v ≤ 19) → Agree (f_X6_book_J47 u v σ) (f_X7_book u v) := fun c2 => by
        unfold f_X6_book_J47
        by_cases c3 : σ 71 3 = 8
        · rw [a1 c3, Option.bind_some]
          refine ⟨-4, σ, σ, rfl, ?_, h⟩
          unfold f_X7_book
          rw [hu, if_neg c0, m_isStation h.1.1, Option.bind_some, gn_iteP, hu, if_pos c1, if_neg no10, in_v hv (by decide) (by decide), Option.bind_some, gn_iteP, if_pos c2, if_neg no10, gs_chk_t (by decide) (by decide), gnS (by omega), if_pos c3]
        · obtain ⟨σ', e, q1, q2, q3, q4, q5⟩ := a2 (by omega)
          rw [e, Option.bind_some]
          have e71 : σ' 71 = σ 71 := q1 71 (by decide) (by decide) (by decide)
          refine ⟨σ 71 3 + 1, σ', _, rfl, ?_, Rel_app (j := 3) (b := 68) (v := u) (w := v) h (Or.inr (Or.inr ⟨rfl, rfl, by omega, c1, c2⟩)) q1 (q2.trans h.2.1.2.2.2.2.symm) q3 q4 q5⟩
          have hW : WF (σ' 71) := by rw [e71]; exact h.1.1
          unfold f_X7_book
          obtain ⟨k, hk⟩ : ∃ k : Nat, σ 71 3 = (k : Int) := ⟨(σ 71 3).toNat, by omega⟩
          rw [hu, if_neg c0, m_isStation hW, Option.bind_some, gn_iteP, hu, e71, if_pos c1, if_neg no10, in_v hv (by decide) (by decide), Option.bind_some, gn_iteP, if_pos c2, if_neg no10, gs_chk_t (by decide) (by decide), gnS (by omega), if_neg c3, hk]
          simp (disch := omega) only [gnS, gs_chk_t, t68, t69]
          rw [gs_st_rw, gs_st_rw, gs_st_rw, rw_same, rw_rw, rw_same, rw_rw, e71]
          unfold rwP
          rw [hk]
          rfl
      by_cases c2 : v = -1
      · rw [if_pos c2]; exact good (by omega)
      · rw [if_neg c2, i_isChannel, Option.bind_some, gn_iteP, hv]
        by_cases c4 : 0 ≤ v ∧ v ≤ 19
        · rw [if_pos c4, if_neg no10]; exact good (by omega)
        · rw [if_neg c4, if_pos rfl]
          refine ⟨-2, σ, σ, rfl, ?_, h⟩
          unfold f_X7_book
          rw [hu, if_neg c0, m_isStation h.1.1, Option.bind_some, gn_iteP, hu, if_pos c1, if_neg no10, in_v hv (by decide) (by decide), Option.bind_some, gn_iteP, if_neg (show ¬ (-1 ≤ v ∧ v ≤ 19) by omega), if_pos rfl]
    · rw [if_neg c1, if_pos rfl]
      refine ⟨-1, σ, σ, rfl, ?_, h⟩
      unfold f_X7_book
      rw [hu, if_neg c0, m_isStation h.1.1, Option.bind_some, gn_iteP, hu, if_neg c1, if_pos rfl]
theorem m_planJ {σ : gs_Mem} (hW : WFr (σ 71)) (u v : Int) : f_X7_plan_J66 u v σ = if σ 71 2 = 8 then some (-4, σ) else some (σ 71 2 + 1, rw_ σ 71 (rwP (σ 71) 2 52 u v)) := by
  have b := hW.2.1.1
  unfold f_X7_plan_J66
  obtain ⟨k, hk⟩ : ∃ k : Nat, σ 71 2 = (k : Int) := ⟨(σ 71 2).toNat, by omega⟩
  rw [gs_chk_t (by decide) (by decide), gnS (by omega)]
  by_cases c3 : σ 71 2 = 8
  · rw [if_pos c3, if_pos c3]
  · rw [if_neg c3, if_neg c3, hk]
    simp (disch := omega) only [gnS, gs_chk_t, t52, t53]
    rw [gs_st_rw, gs_st_rw, gs_st_rw, rw_same, rw_rw, rw_same, rw_rw]
    unfold rwP
    rw [hk]
    rfl
theorem l_plan {σ : gs_Mem} (h : Rel σ) {u v : Int} (hu : gn u = u) (hv : gn v = v) : Agree (f_X6_plan u v σ) (f_X7_plan u v) := by
  have h8 := h.1.1.n8
  have b := h.2.1.1.2.1.1
  obtain ⟨a1, a2⟩ := i_append (v := u) (w := v) h.2.1.2.1.2.1 h.2.1.2.2.2.1 (by decide) b
  unfold f_X6_plan
  rw [hu]
  by_cases c0 : u = -1
  · rw [if_pos c0]
    unfold f_X1_clear
    rw [Option.bind_some, gs_st_same]
    refine ⟨0, _, _, rfl, ?_, Rel_clear (j := 2) h (Or.inr (Or.inl rfl))⟩
    unfold f_X7_plan
    rw [hu, if_pos c0, gs_chk_t (by decide) (by decide)]
  · rw [if_neg c0]
    by_cases c1 : 0 ≤ u ∧ u ≤ 3
    · rw [if_neg (by omega), if_pos c1.2]
      -- the append itself
      have good : ((u = 1 ∨ u = 3) → 0 ≤ v ∧ v < (nS (σ 71) : Int)) → (u = 2 → 0 ≤ v ∧ v ≤ 40) → ∃ (a : Int) (σ' σ'' : gs_Mem), f_X6_plan_J68 u v σ = some (a, σ') ∧ f_X7_plan_J66 u v σ' = some (a, σ'') ∧ Rel σ'' ∧ σ' 71 = σ 71 := fun d1 d2 => by
        unfold f_X6_plan_J68
        by_cases c3 : σ 71 2 = 8
        · rw [a1 c3, Option.bind_some]
          exact ⟨-4, σ, σ, rfl, by rw [m_planJ h.2.1.1, if_pos c3], h, rfl⟩
        · obtain ⟨σ', e, q1, q2, q3, q4, q5⟩ := a2 (by omega)
          rw [e, Option.bind_some]
          have e71 : σ' 71 = σ 71 := q1 71 (by decide) (by decide) (by decide)
          refine ⟨σ 71 2 + 1, σ', _, rfl, ?_, Rel_app (j := 2) (b := 52) (v := u) (w := v) h (Or.inr (Or.inl ⟨rfl, rfl, by omega, c1, d1, d2⟩)) q1 (q2.trans h.2.1.2.2.2.1.symm) q3 q4 q5, e71⟩
          rw [m_planJ (by rw [e71]; exact h.2.1.1), e71, if_neg c3]
      have mid : ((u = 1 ∨ u = 3) → 0 ≤ v ∧ v < (nS (σ 71) : Int)) → ∃ (a : Int) (σ' σ'' : gs_Mem), f_X6_plan_J53 u v σ = some (a, σ') ∧ f_X7_plan_J46 u v σ' = some (a, σ'') ∧ Rel σ'' ∧ σ' 71 = σ 71 := fun d1 => by
        unfold f_X6_plan_J53
        rw [hu]
        by_cases c2 : u = 2
        · rw [if_pos c2, i_isNear, Option.bind_some, gn_iteP, hv]
          by_cases c3 : 0 ≤ v ∧ v ≤ 40
          · rw [if_pos c3, if_neg no10]
            obtain ⟨a, σ', σ'', e1, e2, e3, e4⟩ := good d1 (fun _ => c3)
            refine ⟨a, σ', σ'', e1, ?_, e3, e4⟩
            unfold f_X7_plan_J46
            rw [hu, if_pos c2, in_v hv (by decide) (by decide), Option.bind_some, gn_iteP, if_pos c3, if_neg no10, e2]
          · rw [if_neg c3, if_pos rfl]
            refine ⟨-2, σ, σ, rfl, ?_, h, rfl⟩
            unfold f_X7_plan_J46
            rw [hu, if_pos c2, in_v hv (by decide) (by decide), Option.bind_some, gn_iteP, if_neg c3, if_pos rfl]
        · rw [if_neg c2]
          obtain ⟨a, σ', σ'', e1, e2, e3, e4⟩ := good d1 (fun z => absurd z c2)
          refine ⟨a, σ', σ'', e1, ?_, e3, e4⟩
          unfold f_X7_plan_J46
          rw [hu, if_neg c2, e2]
      have top : ∀ σ', f_X7_plan u v σ' = if u = 1 ∨ u = 3 then f_X7_plan_J36 u v σ' else f_X7_plan_J46 u v σ' := fun σ' => by
        unfold f_X7_plan
        rw [hu, if_neg c0, show f_X7_in u 0 3 σ' = some 1 by have := in_v hu (lo := 0) (hi := 3) (by decide) (by decide) σ'; rw [hu, if_pos c1] at this; exact this, Option.bind_some, gn_1, if_neg no10]
        by_cases e1 : u = 1
        · rw [if_pos e1, if_pos (Or.inl e1)]
        · rw [if_neg e1]
          by_cases e3 : u = 3
          · rw [if_pos e3, if_pos (Or.inr e3)]
          · rw [if_neg e3, if_neg (fun z => z.elim e1 e3)]
      by_cases cs : u = 1 ∨ u = 3
      · have eJ : (if u = 1 then f_X6_plan_J37 u v σ else if u = 3 then f_X6_plan_J37 u v σ else f_X6_plan_J53 u v σ) = f_X6_plan_J37 u v σ := by
          by_cases e1 : u = 1
          · rw [if_pos e1]
          · rw [if_neg e1, if_pos (cs.resolve_left e1)]
        rw [eJ]
        unfold f_X6_plan_J37
        rw [i_has h.1.2.1.1 h8, Option.bind_some, gn_iteP, hv]
        by_cases c2 : 0 ≤ v ∧ v < (nS (σ 71) : Int)
        · rw [if_pos c2, if_neg no10]
          obtain ⟨a, σ', σ'', e1, e2, e3, e4⟩ := mid (fun _ => c2)
          refine ⟨a, σ', σ'', e1, ?_, e3⟩
          rw [top, if_pos cs]
          unfold f_X7_plan_J36
          rw [m_isStation (by rw [e4]; exact h.1.1), Option.bind_some, gn_iteP, hv, e4, if_pos c2, if_neg no10, e2]
        · rw [if_neg c2, if_pos rfl]
          refine ⟨-1, σ, σ, rfl, ?_, h⟩
          rw [top, if_pos cs]
          unfold f_X7_plan_J36
          rw [m_isStation h.1.1, Option.bind_some, gn_iteP, hv, if_neg c2, if_pos rfl]
      · have eJ : (if u = 1 then f_X6_plan_J37 u v σ else if u = 3 then f_X6_plan_J37 u v σ else f_X6_plan_J53 u v σ) = f_X6_plan_J53 u v σ := by
          rw [if_neg (fun z => cs (Or.inl z)), if_neg (fun z => cs (Or.inr z))]
        rw [eJ]
        obtain ⟨a, σ', σ'', e1, e2, e3, -⟩ := mid (fun z => absurd z cs)
        refine ⟨a, σ', σ'', e1, ?_, e3⟩
        rw [top, if_neg cs, e2]
    · refine ⟨-1, σ, σ, ?_, ?_, h⟩
      · by_cases d : u < 0
        · rw [if_pos d]
        · rw [if_neg d, if_neg (by omega)]
      · unfold f_X7_plan
        rw [hu, if_neg c0, show f_X7_in u 0 3 σ = some 0 by have := in_v hu (lo := 0) (hi := 3) (by decide) (by decide) σ; rw [hu, if_neg c1] at this; exact this, Option.bind_some, gn_0, if_pos rfl]
