/-! ===== both sides hold the same ===== -/
def WFr (p : Nat → Int) : Prop :=
  ((0 ≤ p 1 ∧ p 1 ≤ 5) ∧ ∀ k : Nat, (k : Int) < p 1 → (0 ≤ p (42 + 2 * k) ∧ p (42 + 2 * k) < (nS p : Int)) ∧ (0 ≤ p (43 + 2 * k) ∧ p (43 + 2 * k) ≤ 19)) ∧
  ((0 ≤ p 2 ∧ p 2 ≤ 8) ∧ ∀ k : Nat, (k : Int) < p 2 → (0 ≤ p (52 + 2 * k) ∧ p (52 + 2 * k) ≤ 3) ∧ ((p (52 + 2 * k) = 1 ∨ p (52 + 2 * k) = 3) → 0 ≤ p (53 + 2 * k) ∧ p (53 + 2 * k) < (nS p : Int)) ∧ (p (52 + 2 * k) = 2 → 0 ≤ p (53 + 2 * k) ∧ p (53 + 2 * k) ≤ 40)) ∧
  ((0 ≤ p 3 ∧ p 3 ≤ 8) ∧ ∀ k : Nat, (k : Int) < p 3 → (0 ≤ p (68 + 2 * k) ∧ p (68 + 2 * k) < (nS p : Int)) ∧ (-1 ≤ p (69 + 2 * k) ∧ p (69 + 2 * k) ≤ 19))
def RwR (σ : gs_Mem) (r b : Nat) (cnt : Int) (p : Nat → Int) : Prop := σ r 3 = cnt ∧ ∀ k : Nat, (k : Int) < cnt → σ (r + 1) k = p (b + 2 * k) ∧ σ (r + 2) k = p (b + 1 + 2 * k)
def Rws (σ : gs_Mem) (u : Nat) (p : Nat → Int) : Prop := RwR σ (u + 10) 42 (p 1) p ∧ RwR σ (u + 13) 52 (p 2) p ∧ RwR σ (u + 16) 68 (p 3) p
def RA (σ : gs_Mem) : Prop := WF (σ 71) ∧ PlR σ 2 (σ 71)
def RB (σ : gs_Mem) : Prop := WFr (σ 71) ∧ Rws σ 1 (σ 71) ∧ σ 11 0 = 5 ∧ σ 14 0 = 8 ∧ σ 17 0 = 8
def RC (σ : gs_Mem) : Prop := (σ 0 2 = 0 ∧ σ 70 3 = 0) ∨ (σ 0 2 = 1 ∧ σ 70 3 = 1 ∧ WF (σ 73) ∧ WFr (σ 73) ∧ PlR σ 21 (σ 73) ∧ Rws σ 20 (σ 73))
def RD (σ : gs_Mem) : Prop := ∃ L : Nat, L ≤ 100 ∧ σ 70 5 = (L : Int) ∧ σ 51 1 = (L : Int) ∧ ∀ i, i < L → σ 52 i = σ 74 i ∧ 0 ≤ σ 74 i ∧ σ 74 i ≤ 127
def RE (σ : gs_Mem) : Prop := ∀ k, k < 6 → σ (58 + 2 * k) 1 = σ 76 k ∧ σ (58 + 2 * k) 2 = σ 77 k ∧ (-1 ≤ σ 76 k ∧ σ 76 k ≤ 4) ∧ (0 ≤ σ 77 k ∧ σ 77 k ≤ 60) ∧ (σ 76 k = -1 → σ 77 k = 0) ∧ ∀ i, i < 60 → σ (59 + 2 * k) i = σ 78 (60 * k + i)
def Rel (σ : gs_Mem) : Prop := RA σ ∧ RB σ ∧ RC σ ∧ RD σ ∧ RE σ
theorem RwR_keep {σ σ' : gs_Mem} {r b : Nat} {cnt : Int} {p : Nat → Int} (h : RwR σ r b cnt p) (e : ∀ c, r ≤ c → c ≤ r + 2 → σ' c = σ c) : RwR σ' r b cnt p := by
  unfold RwR
  rw [e r (by omega) (by omega), e (r + 1) (by omega) (by omega), e (r + 2) (by omega) (by omega)]
  exact h
theorem Rws_keep {σ σ' : gs_Mem} {u : Nat} {p : Nat → Int} (h : Rws σ u p) (e : ∀ c, u + 10 ≤ c → c ≤ u + 18 → σ' c = σ c) : Rws σ' u p :=
  ⟨RwR_keep h.1 (fun c h1 h2 => e c (by omega) (by omega)), RwR_keep h.2.1 (fun c h1 h2 => e c (by omega) (by omega)), RwR_keep h.2.2 (fun c h1 h2 => e c (by omega) (by omega))⟩
theorem RB_keep {σ σ' : gs_Mem} (h : RB σ) (e : ∀ c, 11 ≤ c → c ≤ 19 → σ' c = σ c) (e71 : σ' 71 = σ 71) : RB σ' := by
  unfold RB
  rw [e71, e 11 (by decide) (by decide), e 14 (by decide) (by decide), e 17 (by decide) (by decide)]
  exact ⟨h.1, Rws_keep h.2.1 (fun c h1 h2 => e c (by omega) (by omega)), h.2.2⟩
theorem RC_keep {σ σ' : gs_Mem} (h : RC σ) (e0 : σ' 0 2 = σ 0 2) (e70 : σ' 70 3 = σ 70 3) (e73 : σ' 73 = σ 73) (e : ∀ c, 21 ≤ c → c ≤ 38 → σ' c = σ c) : RC σ' := by
  unfold RC
  rw [e0, e70, e73]
  rcases h with h | ⟨h1, h2, h3, h4, h5, h6⟩
  · exact Or.inl h
  · exact Or.inr ⟨h1, h2, h3, h4, PlR_keep h5 (fun c q1 q2 => e c (by omega) (by omega)), Rws_keep h6 (fun c q1 q2 => e c (by omega) (by omega))⟩
theorem RD_keep {σ σ' : gs_Mem} (h : RD σ) (e1 : σ' 70 5 = σ 70 5) (e2 : σ' 51 1 = σ 51 1) (e3 : σ' 52 = σ 52) (e4 : σ' 74 = σ 74) : RD σ' := by
  unfold RD
  rw [e1, e2, e3, e4]
  exact h
theorem RE_keep {σ σ' : gs_Mem} (h : RE σ) (e : ∀ c, 58 ≤ c → c ≤ 69 → σ' c = σ c) (e76 : σ' 76 = σ 76) (e77 : σ' 77 = σ 77) (e78 : σ' 78 = σ 78) : RE σ' := by
  intro k hk
  rw [e76, e77, e78, e (58 + 2 * k) (by omega) (by omega), e (59 + 2 * k) (by omega) (by omega)]
  exact h k hk
/-- scratch cells do not matter -/
theorem Rel_scratch {σ σ' : gs_Mem} (h : Rel σ) (e : ∀ c, ¬ (39 ≤ c ∧ c ≤ 50) → c ≠ 72 → σ' c = σ c) : Rel σ' := by
  obtain ⟨hA, hB, hC, hD, hE⟩ := h
  refine ⟨?_, ?_, ?_, ?_, ?_⟩
  · unfold RA
    rw [e 71 (by decide) (by decide)]
    exact ⟨hA.1, PlR_keep hA.2 (fun c h1 h2 => e c (by omega) (by omega))⟩
  · exact RB_keep hB (fun c h1 h2 => e c (by omega) (by omega)) (e 71 (by decide) (by decide))
  · exact RC_keep hC (by rw [e 0 (by decide) (by decide)]) (by rw [e 70 (by decide) (by decide)]) (e 73 (by decide) (by decide)) (fun c h1 h2 => e c (by omega) (by omega))
  · exact RD_keep hD (by rw [e 70 (by decide) (by decide)]) (by rw [e 51 (by decide) (by decide)]) (e 52 (by decide) (by decide)) (e 74 (by decide) (by decide))
  · exact RE_keep hE (fun c h1 h2 => e c (by omega) (by omega)) (e 76 (by decide) (by decide)) (e 77 (by decide) (by decide)) (e 78 (by decide) (by decide))
/-- the rows' part of a row, kept -/
def rest (p q : Nat → Int) : Prop := ∀ i, (i = 1 ∨ i = 2 ∨ i = 3 ∨ 42 ≤ i) → q i = p i
theorem WFr_rest {p q : Nat → Int} (h : WFr p) (e : rest p q) (hn : nS p ≤ nS q) : WFr q := by
  unfold WFr
  rw [e 1 (by omega), e 2 (by omega), e 3 (by omega)]
  refine ⟨⟨h.1.1, fun k hk => ?_⟩, ⟨h.2.1.1, fun k hk => ?_⟩, ⟨h.2.2.1, fun k hk => ?_⟩⟩
  · rw [e _ (by omega), e _ (by omega)]
    have := h.1.2 k hk
    omega
  · rw [e _ (by omega), e _ (by omega)]
    have := h.2.1.2 k hk
    exact ⟨this.1, fun q => by have := this.2.1 q; omega, this.2.2⟩
  · rw [e _ (by omega), e _ (by omega)]
    have := h.2.2.2 k hk
    omega
theorem RwR_rest {σ : gs_Mem} {r b : Nat} {cnt : Int} {p q : Nat → Int} (h : RwR σ r b cnt p) (e : rest p q) (hb : 42 ≤ b) : RwR σ r b cnt q := by
  refine ⟨h.1, fun k hk => ?_⟩
  rw [e _ (by omega), e _ (by omega)]
  exact h.2 k hk
theorem Rws_rest {σ : gs_Mem} {u : Nat} {p q : Nat → Int} (h : Rws σ u p) (e : rest p q) : Rws σ u q := by
  unfold Rws
  rw [e 1 (by omega), e 2 (by omega), e 3 (by omega)]
  exact ⟨RwR_rest h.1 e (by decide), RwR_rest h.2.1 e (by decide), RwR_rest h.2.2 e (by decide)⟩
/-- the plane changed, the reference's row changed alike -/
theorem Rel_plane {σ σ' : gs_Mem} {q : Nat → Int} (h : Rel σ) (hF : Fr σ σ' 2) (hP : PlR σ' 2 q) (hW : WF q) (e : rest (σ 71) q) (hn : nS (σ 71) ≤ nS q) : Rel (rw_ σ' 71 q) := by
  obtain ⟨hA, hB, hC, hD, hE⟩ := h
  have k : ∀ c, (c < 2 ∨ 10 < c) → c ≠ 71 → rw_ σ' 71 q c = σ c := fun c hc h71 => by rw [rw_ne _ _ _ h71, hF c (by omega)]
  refine ⟨?_, ?_, ?_, ?_, ?_⟩
  · unfold RA
    rw [rw_same]
    exact ⟨hW, PlR_keep hP (fun c h1 h2 => rw_ne _ _ _ (by omega))⟩
  · unfold RB
    rw [rw_same, k 11 (by decide) (by decide), k 14 (by decide) (by decide), k 17 (by decide) (by decide)]
    exact ⟨WFr_rest hB.1 e hn, Rws_keep (Rws_rest hB.2.1 e) (fun c h1 h2 => k c (by omega) (by omega)), hB.2.2⟩
  · exact RC_keep hC (by rw [k 0 (by decide) (by decide)]) (by rw [k 70 (by decide) (by decide)]) (k 73 (by decide) (by decide)) (fun c h1 h2 => k c (by omega) (by omega))
  · exact RD_keep hD (by rw [k 70 (by decide) (by decide)]) (by rw [k 51 (by decide) (by decide)]) (k 52 (by decide) (by decide)) (k 74 (by decide) (by decide))
  · exact RE_keep hE (fun c h1 h2 => k c (by omega) (by omega)) (k 76 (by decide) (by decide)) (k 77 (by decide) (by decide)) (k 78 (by decide) (by decide))
theorem rest_refl (p : Nat → Int) : rest p p := fun _ _ => rfl
theorem rest_rs {p q : Nat → Int} (h : rest p q) {j : Nat} (x : Int) (hj : j = 0 ∨ (4 ≤ j ∧ j < 42)) : rest p (rs q j x) := fun i hi => by
  rw [rs_ne _ _ _ (by omega)]; exact h i hi
/-- answers, and what is held after them, agree -/
def Agree (f : Option (Int × gs_Mem)) (g : gs_Mem → Option (Int × gs_Mem)) : Prop := ∃ (a : Int) (σ' σ'' : gs_Mem), f = some (a, σ') ∧ g σ' = some (a, σ'') ∧ Rel σ''
theorem i_onPlane (v w : Int) (σ : gs_Mem) : f_X6_isOnPlane v w σ = some (if (0 ≤ gn v ∧ gn v ≤ 31) ∧ (0 ≤ gn w ∧ gn w ≤ 31) then 1 else 0) := by
  unfold f_X6_isOnPlane
  by_cases c1 : gn v < 0
  · rw [if_pos c1, if_neg (by omega)]
  · rw [if_neg c1]
    by_cases c2 : 32 ≤ gn v
    · rw [if_pos c2, if_neg (by omega)]
    · rw [if_neg c2]
      by_cases c3 : gn w < 0
      · rw [if_pos c3, if_neg (by omega)]
      · rw [if_neg c3]
        by_cases c4 : 32 ≤ gn w
        · rw [if_pos c4, if_neg (by omega)]
        · rw [if_neg c4, if_pos (by omega)]
theorem m_isPlace (v w : Int) (σ : gs_Mem) : f_X7_isPlace v w σ = some (if (0 ≤ gn v ∧ gn v ≤ 31) ∧ (0 ≤ gn w ∧ gn w ≤ 31) then 1 else 0) := by
  unfold f_X7_isPlace
  rw [in_gn v (by decide) (by decide), in_gn w (by decide) (by decide), Option.bind_some, Option.bind_some, gn_iteP, gn_iteP]
  by_cases c1 : 0 ≤ gn v ∧ gn v ≤ 31 <;> by_cases c2 : 0 ≤ gn w ∧ gn w ≤ 31 <;> simp [c1, c2]
theorem m_station {σ : gs_Mem} (h : WF (σ 71)) {v w : Int} (hv : 0 ≤ v ∧ v ≤ 31) (hw : 0 ≤ w ∧ w ≤ 31) : f_X7_station v w σ = some (stR (σ 71) v w, rw_ σ 71 (stQ (σ 71) v w)) := by
  have h8 := h.n8
  have hn := h.n0
  have hrng := stA_rng (σ 71) v w
  have hgr : -1 ≤ stA (σ 71) v w ∧ stA (σ 71) v w < 8 := by rcases hrng with e | ⟨s, hs, e, _⟩ <;> omega
  have hpl : f_X7_isPlace v w σ = some 1 := by
    rw [m_isPlace, gnS (x := v) (by omega), gnS (x := w) (by omega), if_pos ⟨hv, hw⟩]
  unfold f_X7_station
  rw [hpl, m_stationAt h hv hw, Option.bind_some, Option.bind_some, gn_1, if_neg (show ¬ (1 : Int) = 0 by decide), gnS (x := stA (σ 71) v w) (by omega)]
  unfold stR stQ
  by_cases c1 : stA (σ 71) v w < 0
  · rw [if_pos c1, if_pos c1, gs_chk_t (by decide) (by decide), hn, gnS (by omega)]
    by_cases c2 : nS (σ 71) = 8
    · rw [if_pos (by omega), if_pos c2, if_neg (fun e => e.2 c2), rw_self]
    · rw [if_neg (by omega), if_neg c2, if_pos ⟨c1, c2⟩]
      simp (disch := omega) only [gnS, gs_chk_t, t4, t5, t6, t7]
      refine congrArg some (Prod.ext rfl ?_)
      show gs_st (gs_st (gs_st (gs_st (gs_st σ 71 _ v) 71 _ w) 71 _ (-1)) 71 _ 0) 71 0 _ = _
      rw [gs_st_rw, gs_st_rw, gs_st_rw, gs_st_rw, gs_st_rw]
      simp only [rw_same, rw_rw]
      rfl
  · rw [if_neg c1, if_neg c1, if_neg (fun e => c1 e.1), rw_self]
theorem rest_stQ (p : Nat → Int) (h : WF p) (x y : Int) : rest p (stQ p x y) ∧ nS p ≤ nS (stQ p x y) := by
  have h8 := h.n8
  unfold stQ
  split
  · next c =>
    refine ⟨?_, by rw [stP_n]; omega⟩
    unfold stP
    exact rest_rs (rest_rs (rest_rs (rest_rs (rest_rs (rest_refl p) _ (by omega)) _ (by omega)) _ (by omega)) _ (by omega)) _ (by omega)
  · exact ⟨rest_refl p, Nat.le_refl _⟩
theorem l_station {σ : gs_Mem} (h : Rel σ) {v w : Int} (hv : gn v = v) (hw : gn w = w) : Agree (f_X6_station v w σ) (f_X7_station v w) := by
  by_cases c : (0 ≤ gn v ∧ gn v ≤ 31) ∧ (0 ≤ gn w ∧ gn w ≤ 31)
  · have cv : 0 ≤ v ∧ v ≤ 31 := by rw [← hv]; exact c.1
    have cw : 0 ≤ w ∧ w ≤ 31 := by rw [← hw]; exact c.2
    obtain ⟨σ', e, hP, hF⟩ := i_settle h.1.2 h.1.1 cv cw
    have e71 : σ' 71 = σ 71 := hF 71 (by decide)
    have q := rest_stQ (σ 71) h.1.1 v w
    refine ⟨_, σ', _, ?_, m_station (by rw [e71]; exact h.1.1) cv cw, ?_⟩
    · unfold f_X6_station
      rw [i_onPlane, Option.bind_some, if_pos c, gn_1, if_neg (show ¬ (1 : Int) = 0 by decide), e, Option.bind_some, e71]
    · rw [e71]
      exact Rel_plane h hF hP (stQ_WF h.1.1 cv cw) q.1 q.2
  · refine ⟨-2, σ, σ, ?_, ?_, h⟩
    · unfold f_X6_station
      rw [i_onPlane, Option.bind_some, if_neg c, gn_0, if_pos rfl]
    · unfold f_X7_station
      rw [m_isPlace, Option.bind_some, if_neg c, gn_0, if_pos rfl]
