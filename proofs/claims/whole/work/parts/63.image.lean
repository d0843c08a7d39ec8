theorem i_copyPl {σ : gs_Mem} {r0 r1 : Nat} {p : Nat → Int} (hp : PlR σ r1 p) (h : WF p) (hd : r0 + 8 < r1 ∨ r1 + 8 < r0) : ∃ σ', f_X0_copyFrom r0 r1 σ = some (0, σ') ∧ PlR σ' r0 p ∧ Fr σ σ' r0 := by
  have h8 := h.n8
  obtain ⟨σ', e, q1, q2, q3, q4, q5, q6, q7⟩ := i_copyFrom (σ := σ) hd
  refine ⟨σ', e, ⟨⟨?_, fun s hs => ?_, fun t ht => ?_⟩, fun s hs => ?_, fun x y hx hy => ?_, fun x hx => ?_, ?_⟩, fun c hc => q1 c (by omega)⟩
  · rw [q4]; exact hp.1.1
  · have := q5 s (by omega)
    rw [this.1, this.2.1]; exact hp.1.2.1 s hs
  · rw [(q6 t ht).1, (q6 t ht).2]; exact hp.1.2.2 t ht
  · rw [(q5 s (by omega)).2.2.1]; exact hp.2.1 s hs
  · rw [q7 _ (by omega)]; exact hp.2.2.1 x y hx hy
  · rw [(q5 x (by omega)).2.2.2]; exact hp.2.2.2.1 x hx
  · rw [q3]; exact hp.2.2.2.2
theorem i_copyRw {σ : gs_Mem} {r0 r1 b : Nat} {cnt : Int} {p : Nat → Int} (hr : RwR σ r1 b cnt p) (hc : cnt ≤ 8) (hd : r0 + 2 < r1 ∨ r1 + 2 < r0) : ∃ σ', f_X1_copyFrom r0 r1 σ = some (0, σ') ∧ RwR σ' r0 b cnt p ∧ (∀ c, (c < r0 ∨ r0 + 2 < c) → σ' c = σ c) ∧ σ' r0 0 = σ r0 0 := by
  unfold f_X1_copyFrom
  rw [gs_chkc_t (by decide), gs_chkc_t (by decide)]
  refine ⟨_, rfl, ⟨?_, fun k hk => ⟨?_, ?_⟩⟩, fun c hc => ?_, ?_⟩
  · simp (disch := omega) only [gs_st_same, cp_far]; exact hr.1
  · simp (disch := omega) only [gs_st_far, cp_far, cp_in]; exact (hr.2 k hk).1
  · simp (disch := omega) only [gs_st_far, cp_far, cp_in]; exact (hr.2 k hk).2
  · funext j
    simp (disch := omega) only [gs_st_far, cp_far]
  · simp (disch := omega) only [gs_st_slot, cp_far]
theorem i_copySh {σ : gs_Mem} {r0 r1 : Nat} {p : Nat → Int} (hp : PlR σ (r1 + 1) p) (h : WF p) (hf : WFr p) (hr : Rws σ r1 p) (hd : r0 + 18 < r1 ∨ r1 + 18 < r0) : ∃ σ', f_X2_copyFrom r0 r1 σ = some (0, σ') ∧ PlR σ' (r0 + 1) p ∧ Rws σ' r0 p ∧ (∀ c, (c ≤ r0 ∨ r0 + 18 < c) → σ' c = σ c) ∧ σ' (r0 + 10) 0 = σ (r0 + 10) 0 ∧ σ' (r0 + 13) 0 = σ (r0 + 13) 0 ∧ σ' (r0 + 16) 0 = σ (r0 + 16) 0 := by
  have b1 := hf.1.1
  have b2 := hf.2.1.1
  have b3 := hf.2.2.1
  obtain ⟨σ1, e1, p1, f1⟩ := i_copyPl (r0 := r0 + 1) hp h (by omega)
  obtain ⟨σ2, e2, p2, f2, l2⟩ := i_copyRw (r0 := r0 + 10) (RwR_keep (σ' := σ1) hr.1 (fun c h1 h2 => f1 c (by omega))) (by omega) (by omega)
  obtain ⟨σ3, e3, p3, f3, l3⟩ := i_copyRw (σ := σ2) (r0 := r0 + 13) (r1 := r1 + 13) (RwR_keep hr.2.1 (fun c h1 h2 => (f2 c (by omega)).trans (f1 c (by omega)))) (by omega) (by omega)
  obtain ⟨σ4, e4, p4, f4, l4⟩ := i_copyRw (σ := σ3) (r0 := r0 + 16) (r1 := r1 + 16) (RwR_keep hr.2.2 (fun c h1 h2 => ((f3 c (by omega)).trans (f2 c (by omega))).trans (f1 c (by omega)))) (by omega) (by omega)
  refine ⟨σ4, ?_, ?_, ⟨?_, ?_, p4⟩, fun c hc => ?_, ?_, ?_, ?_⟩
  · unfold f_X2_copyFrom
    rw [e1, Option.bind_some, e2, Option.bind_some, e3, Option.bind_some, e4, Option.bind_some]
  · exact PlR_keep p1 (fun c h1 h2 => ((f4 c (by omega)).trans (f3 c (by omega))).trans (f2 c (by omega)))
  · exact RwR_keep p2 (fun c h1 h2 => (f4 c (by omega)).trans (f3 c (by omega)))
  · exact RwR_keep p3 (fun c h1 h2 => f4 c (by omega))
  · rw [f4 c (by omega), f3 c (by omega), f2 c (by omega), f1 c (by omega)]
  · rw [f4 _ (by omega), f3 _ (by omega), l2, f1 _ (by omega)]
  · rw [f4 _ (by omega), l3, f2 _ (by omega), f1 _ (by omega)]
  · rw [l4, f3 _ (by omega), f2 _ (by omega), f1 _ (by omega)]
theorem l_image {σ : gs_Mem} (h : Rel σ) : Agree (f_X6_image σ) f_X7_image := by
  obtain ⟨⟨hW, hP⟩, hB, hC, hD, hE⟩ := h
  obtain ⟨σ1, e, p1, r1, f1, -⟩ := i_copySh (r0 := 20) hP hW hB.1 hB.2.1 (by decide)
  have hn := hW.n0
  have s1 : ∀ c, c ≠ 0 → (c ≤ 20 ∨ 38 < c) → gs_st σ1 0 2 1 c = σ c := fun c h0 hc => by rw [gs_st_row _ _ _ _ h0, f1 c hc]
  have g1 : ∀ c, c ≠ 0 → c ≠ 70 → c ≠ 73 → (c ≤ 20 ∨ 38 < c) → gs_st (rw_ (gs_st σ1 0 2 1) 73 (cpR (σ 71) (σ 73))) 70 3 1 c = σ c := fun c h0 h70 h73 hc => by
    rw [gs_st_row _ _ _ _ h70, rw_ne _ _ _ h73, s1 c h0 hc]
  refine ⟨σ 71 0, gs_st σ1 0 2 1, gs_st (rw_ (gs_st σ1 0 2 1) 73 (cpR (σ 71) (σ 73))) 70 3 1, ?_, ?_, ?_⟩
  · unfold f_X6_image f_X0_size
    rw [e, Option.bind_some, Option.bind_some]
    have : gs_st σ1 0 2 1 21 9 = σ 71 0 := by
      rw [gs_st_far _ _ _ _ (by decide), p1.1.1, hn]
    rw [this]
  · unfold f_X7_image
    rw [m_copies (by decide), Option.bind_some, s1 71 (by decide) (by decide), s1 73 (by decide) (by decide), gs_chk_t (by decide) (by decide)]
    have : gs_st (rw_ (gs_st σ1 0 2 1) 73 (cpR (σ 71) (σ 73))) 70 3 1 71 0 = σ 71 0 := by rw [g1 71 (by decide) (by decide) (by decide) (by decide)]
    rw [this]
  · have e70 : ∀ j, j ≠ 3 → gs_st (rw_ (gs_st σ1 0 2 1) 73 (cpR (σ 71) (σ 73))) 70 3 1 70 j = σ 70 j := fun j hj => by
      rw [gs_st_slot _ _ _ _ hj, rw_ne _ _ _ (by decide), s1 70 (by decide) (by decide)]
    refine ⟨⟨?_, ?_⟩, ?_, Or.inr ⟨?_, ?_, ?_, ?_, ?_, ?_⟩, ?_, ?_⟩
    · rw [g1 71 (by decide) (by decide) (by decide) (by decide)]; exact hW
    · rw [g1 71 (by decide) (by decide) (by decide) (by decide)]
      exact PlR_keep hP (fun c h1 h2 => g1 c (by omega) (by omega) (by omega) (by omega))
    · exact RB_keep hB (fun c h1 h2 => g1 c (by omega) (by omega) (by omega) (by omega)) (g1 71 (by decide) (by decide) (by decide) (by decide))
    · rw [gs_st_far _ _ _ _ (by decide), rw_ne _ _ _ (by decide), gs_st_same]
    · rw [gs_st_same]
    · rw [gs_st_row _ _ _ _ (by decide), rw_same]; exact keepS_WF (cpR_keepS _ _) hW
    · rw [gs_st_row _ _ _ _ (by decide), rw_same]; exact cpR_WFr hB.1 _
    · rw [gs_st_row _ _ _ _ (show (73 : Nat) ≠ 70 by decide), rw_same]
      refine keepS_PlR (cpR_keepS _ _) hW (PlR_keep p1 (fun c h1 h2 => ?_))
      rw [gs_st_row _ _ _ _ (by omega), rw_ne _ _ _ (by omega), gs_st_row _ _ _ _ (by omega)]
    · rw [gs_st_row _ _ _ _ (show (73 : Nat) ≠ 70 by decide), rw_same]
      refine cpR_Rws (Rws_keep r1 (fun c h1 h2 => ?_)) hB.1 _
      rw [gs_st_row _ _ _ _ (by omega), rw_ne _ _ _ (by omega), gs_st_row _ _ _ _ (by omega)]
    · exact RD_keep hD (e70 5 (by decide)) (by rw [g1 51 (by decide) (by decide) (by decide) (by decide)]) (g1 52 (by decide) (by decide) (by decide) (by decide)) (g1 74 (by decide) (by decide) (by decide) (by decide))
    · exact RE_keep hE (fun c h1 h2 => g1 c (by omega) (by omega) (by omega) (by omega)) (g1 76 (by decide) (by decide) (by decide) (by decide)) (g1 77 (by decide) (by decide) (by decide) (by decide)) (g1 78 (by decide) (by decide) (by decide) (by decide))
theorem l_undo {σ : gs_Mem} (h : Rel σ) : Agree (f_X6_undo σ) f_X7_undo := by
  have h' := h
  obtain ⟨⟨hW, hP⟩, hB, hC, hD, hE⟩ := h
  unfold f_X6_undo
  rcases hC with ⟨c1, c2⟩ | ⟨c1, c2, hW3, hF3, hP3, hR3⟩
  · rw [c1, gn_0, if_pos rfl]
    refine ⟨-3, σ, σ, rfl, ?_, h'⟩
    unfold f_X7_undo
    rw [c2, gn_0, if_pos rfl]
  · rw [c1, gn_1, if_neg no10]
    obtain ⟨σ1, e, p1, r1, f1, l1, l2, l3⟩ := i_copySh (r0 := 1) hP3 hW3 hF3 hR3 (by decide)
    have e71 := f1 71 (by decide)
    have e73 := f1 73 (by decide)
    rw [e, Option.bind_some]
    have hn := hW3.n0
    have g1 : ∀ c, c ≠ 71 → (c ≤ 1 ∨ 19 < c) → rw_ σ1 71 (cpR (σ 73) (σ 71)) c = σ c := fun c h71 hc => by
      rw [rw_ne _ _ _ h71, f1 c (by omega)]
    refine ⟨σ 73 0, σ1, rw_ σ1 71 (cpR (σ 73) (σ 71)), ?_, ?_, ⟨?_, ?_⟩, ⟨?_, ?_, ?_, ?_, ?_⟩, ?_, ?_, ?_⟩
    · unfold f_X0_size
      have q : σ1 2 9 = σ 73 0 := p1.1.1.trans hn.symm
      rw [Option.bind_some]
      dsimp only
      rw [q]
    · unfold f_X7_undo
      rw [f1 70 (by decide), c2, gn_1, if_neg no10, m_copies (by decide), Option.bind_some, gs_chk_t (by decide) (by decide), e71, e73]
      dsimp only
      rw [rw_same, cpR_lt _ _ (by decide)]
    · rw [rw_same]; exact keepS_WF (cpR_keepS _ _) hW3
    · rw [rw_same]
      exact keepS_PlR (cpR_keepS _ _) hW3 (PlR_keep p1 (fun c h1 h2 => rw_ne _ _ _ (by omega)))
    · rw [rw_same]; exact cpR_WFr hF3 _
    · rw [rw_same]
      exact cpR_Rws (Rws_keep r1 (fun c h1 h2 => rw_ne _ _ _ (by omega))) hF3 _
    · rw [rw_ne _ _ _ (by decide)]; exact l1.trans hB.2.2.1
    · rw [rw_ne _ _ _ (by decide)]; exact l2.trans hB.2.2.2.1
    · rw [rw_ne _ _ _ (by decide)]; exact l3.trans hB.2.2.2.2
    · refine RC_keep h'.2.2.1 (by rw [g1 0 (by decide) (by decide)]) (by rw [g1 70 (by decide) (by decide)]) (g1 73 (by decide) (by decide)) (fun c h1 h2 => g1 c (by omega) (by omega))
    · exact RD_keep hD (by rw [g1 70 (by decide) (by decide)]) (by rw [g1 51 (by decide) (by decide)]) (g1 52 (by decide) (by decide)) (g1 74 (by decide) (by decide))
    · exact RE_keep hE (fun c h1 h2 => g1 c (by omega) (by omega)) (g1 76 (by decide) (by decide)) (g1 77 (by decide) (by decide)) (g1 78 (by decide) (by decide))
theorem m_rules {σ : gs_Mem} (h : WF (σ 71)) : f_X7_rules σ = some ((cN (fun k => decide (0 < σ 71 (36 + 2 * k))) 3 : Nat) : Int) := by
  refine loop0 (fun m k (v : Int) => f_X7_rules_L4 σ m v (k : Int)) (fun k v => v = ((cN (fun k => decide (0 < σ 71 (36 + 2 * k))) k : Nat) : Int)) (fun q => q = some ((cN (fun k => decide (0 < σ 71 (36 + 2 * k))) 3 : Nat) : Int)) 3 0 (by decide) ?_ ?_ rfl
  · intro m k v hk hv
    subst hv
    have hnr := h.near hk
    refine Or.inr ⟨_, ?_, rfl⟩
    rw [f_X7_rules_L4]
    unfold f_X7_rules_J29
    simp (disch := omega) only [gnS, gs_chk_t, t36]
    rw [if_neg (by omega), cN_s]
    by_cases c : σ 71 (36 + 2 * k) ≤ 0
    · rw [if_pos c, decide_eq_false (by omega)]; rfl
    · rw [if_neg c, decide_eq_true (by omega)]; rfl
  · intro m v hv
    rw [f_X7_rules_L4, if_pos (by decide +kernel), hv]
theorem i_rules {σ : gs_Mem} {r : Nat} {p : Nat → Int} (hp : PlR σ r p) (h : WF p) : f_X0_rulesInForce r σ = some ((cN (fun k => decide (0 < p (36 + 2 * k))) 3 : Nat) : Int) := by
  refine loop0 (fun m k (v : Int) => f_X0_rulesInForce_L4 σ r m v (k : Int)) (fun k v => v = ((cN (fun k => decide (0 < p (36 + 2 * k))) k : Nat) : Int)) (fun q => q = some ((cN (fun k => decide (0 < p (36 + 2 * k))) 3 : Nat) : Int)) 3 0 (by decide) ?_ ?_ rfl
  · intro m k v hk hv
    subst hv
    have hnr := h.near hk
    refine Or.inr ⟨_, ?_, rfl⟩
    rw [f_X0_rulesInForce_L4]
    unfold f_X0_rulesInForce_J24
    simp (disch := omega) only [gnS (x := (k : Int)), gs_chk_t, t1]
    rw [if_neg (by omega), (hp.1.2.2 k hk).1, gnS (by omega), cN_s]
    by_cases c : p (36 + 2 * k) ≤ 0
    · rw [if_pos c, decide_eq_false (by omega)]; rfl
    · rw [if_neg c, decide_eq_true (by omega)]; rfl
  · intro m v hv
    rw [f_X0_rulesInForce_L4, if_pos (by decide +kernel), hv]
theorem l_count {σ : gs_Mem} (h : Rel σ) (v : Int) : Same (f_X6_count v σ) (f_X7_count v σ) := by
  obtain ⟨⟨hW, hP⟩, hB, hC, hD, hE⟩ := h
  obtain ⟨L, hL, d1, d2, -⟩ := hD
  unfold f_X6_count f_X7_count f_X1_size f_X0_size f_X4_length
  rw [hP.1.1, i_rules hP hW, m_rules hW, hB.2.1.1.1, hB.2.1.2.1.1, hB.2.1.2.2.1, d1, d2, gs_chk_t (by decide) (by decide), gs_chk_t (by decide) (by decide), gs_chk_t (by decide) (by decide), gs_chk_t (by decide) (by decide), hW.n0]
  by_cases c0 : gn v = 0
  · rw [if_pos c0, if_pos c0]; exact ⟨_, rfl, rfl⟩
  rw [if_neg c0, if_neg c0]
  by_cases c1 : gn v = 1
  · rw [if_pos c1, if_pos c1]; exact ⟨_, rfl, rfl⟩
  rw [if_neg c1, if_neg c1]
  by_cases c2 : gn v = 2
  · rw [if_pos c2, if_pos c2]; exact ⟨_, rfl, rfl⟩
  rw [if_neg c2, if_neg c2]
  by_cases c3 : gn v = 3
  · rw [if_pos c3, if_pos c3]; exact ⟨_, rfl, rfl⟩
  rw [if_neg c3, if_neg c3]
  by_cases c4 : gn v = 4
  · rw [if_pos c4, if_pos c4]; exact ⟨_, rfl, rfl⟩
  rw [if_neg c4, if_neg c4]
  by_cases c5 : gn v = 5
  · rw [if_pos c5, if_pos c5]; exact ⟨_, rfl, rfl⟩
  rw [if_neg c5, if_neg c5]
  exact ⟨_, rfl, rfl⟩
