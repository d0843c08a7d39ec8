theorem WFr_clear {p : Nat → Int} (h : WFr p) {j : Nat} (hj : j = 1 ∨ j = 2 ∨ j = 3) : WFr (rs p j 0) := by
  have hn : nS (rs p j 0) = nS p := geo_nS (keepS_geo (rs_keepS 0 hj))
  unfold WFr
  rw [hn]
  have hi : ∀ i, 42 ≤ i → rs p j 0 i = p i := fun i hi => rs_ne _ _ _ (by omega)
  have hc : ∀ t : Nat, (t = 1 ∨ t = 2 ∨ t = 3) → rs p j 0 t = p t ∨ rs p j 0 t = 0 := fun t ht => by
    by_cases e : t = j
    · rw [e]; exact Or.inr (rs_same _ _ _)
    · exact Or.inl (rs_ne _ _ _ e)
  have h1 := hc 1 (by omega)
  have h2 := hc 2 (by omega)
  have h3 := hc 3 (by omega)
  have b1 := h.1.1
  have b2 := h.2.1.1
  have b3 := h.2.2.1
  refine ⟨⟨by omega, fun k hk => ?_⟩, ⟨by omega, fun k hk => ?_⟩, ⟨by omega, fun k hk => ?_⟩⟩
  · rw [hi _ (by omega), hi _ (by omega)]; exact h.1.2 k (by omega)
  · rw [hi _ (by omega), hi _ (by omega)]; exact h.2.1.2 k (by omega)
  · rw [hi _ (by omega), hi _ (by omega)]; exact h.2.2.2 k (by omega)
theorem Rws_clear {σ : gs_Mem} {p : Nat → Int} (h : Rws σ 1 p) {j : Nat} (hj : j = 1 ∨ j = 2 ∨ j = 3) : Rws (gs_st σ (8 + 3 * j) 3 0) 1 (rs p j 0) := by
  have oth : ∀ (r b : Nat) (t : Nat), 42 ≤ b → (r ≠ 8 + 3 * j ∧ r + 1 ≠ 8 + 3 * j ∧ r + 2 ≠ 8 + 3 * j) → t ≠ j → RwR σ r b (p t) p → RwR (gs_st σ (8 + 3 * j) 3 0) r b (rs p j 0 t) (rs p j 0) := fun r b t hb hr ht q => by
    rw [rs_ne _ _ _ ht]
    refine RwR_oth (RwR_keep q (fun c h1 h2 => gs_st_row _ _ _ _ (by omega))) (fun k hk => ⟨rs_ne _ _ _ (by omega), rs_ne _ _ _ (by omega)⟩)
  have own : ∀ b, RwR (gs_st σ (8 + 3 * j) 3 0) (8 + 3 * j) b (rs p j 0 j) (rs p j 0) := fun b => by
    rw [rs_same]; exact RwR_clear
  rcases hj with e | e | e
  · subst e
    exact ⟨own 42, oth 14 52 2 (by decide) (by decide) (by decide) h.2.1, oth 17 68 3 (by decide) (by decide) (by decide) h.2.2⟩
  · subst e
    exact ⟨oth 11 42 1 (by decide) (by decide) (by decide) h.1, own 52, oth 17 68 3 (by decide) (by decide) (by decide) h.2.2⟩
  · subst e
    exact ⟨oth 11 42 1 (by decide) (by decide) (by decide) h.1, oth 14 52 2 (by decide) (by decide) (by decide) h.2.1, own 68⟩
theorem Rel_clear {σ : gs_Mem} (h : Rel σ) {j : Nat} (hj : j = 1 ∨ j = 2 ∨ j = 3) : Rel (gs_st (gs_st σ (8 + 3 * j) 3 0) 71 j 0) := by
  rw [gs_st_rw, gs_st_row _ _ _ _ (show (71 : Nat) ≠ 8 + 3 * j by omega)]
  refine Rel_rows h (fun c hc => gs_st_row _ _ _ _ (by omega)) (rs_keepS 0 hj) (WFr_clear h.2.1.1 hj) (Rws_clear h.2.1.2.1 hj) ?_
  rw [gs_st_slot _ _ _ _ (by decide), gs_st_slot _ _ _ _ (by decide), gs_st_slot _ _ _ _ (by decide)]
  exact h.2.1.2.2
theorem Rws_app {σ σ' : gs_Mem} {p : Nat → Int} (h : Rws σ 1 p) (hp : WFr p) {j b : Nat} (hj : (j = 1 ∧ b = 42 ∧ p j < 5) ∨ (j = 2 ∧ b = 52 ∧ p j < 8) ∨ (j = 3 ∧ b = 68 ∧ p j < 8)) {v w : Int}
    (e : ∀ a, a ≠ 8 + 3 * j → a ≠ 8 + 3 * j + 1 → a ≠ 8 + 3 * j + 2 → σ' a = σ a) (e3 : σ' (8 + 3 * j) 3 = p j + 1) (e1 : ∀ k, σ' (8 + 3 * j + 1) k = if k = (p j).toNat then v else σ (8 + 3 * j + 1) k) (e2 : ∀ k, σ' (8 + 3 * j + 2) k = if k = (p j).toNat then w else σ (8 + 3 * j + 2) k) : Rws σ' 1 (rwP p j b v w) := by
  have b1 := hp.1.1
  have b2 := hp.2.1.1
  have b3 := hp.2.2.1
  have oth : ∀ (r b' : Nat) (t : Nat), (∀ c, r ≤ c → c ≤ r + 2 → (c ≠ 8 + 3 * j ∧ c ≠ 8 + 3 * j + 1 ∧ c ≠ 8 + 3 * j + 2)) → (t ≠ j ∧ t < 42) → 42 ≤ b → (∀ k : Nat, (k : Int) < p t → b' + 2 * k ≠ b + 2 * (p j).toNat ∧ b' + 2 * k ≠ b + 1 + 2 * (p j).toNat ∧ b' + 1 + 2 * k ≠ b + 2 * (p j).toNat ∧ b' + 1 + 2 * k ≠ b + 1 + 2 * (p j).toNat ∧ j < b') → RwR σ r b' (p t) p → RwR σ' r b' (rwP p j b v w t) (rwP p j b v w) := fun r b' t hr ht hb hk q => by
    rw [rwP_ne p j b v w (by omega)]
    refine RwR_oth (RwR_keep q (fun c h1 h2 => e c (hr c h1 h2).1 (hr c h1 h2).2.1 (hr c h1 h2).2.2)) (fun k hk' => ?_)
    have := hk k hk'
    exact ⟨rwP_ne p j b v w (by omega), rwP_ne p j b v w (by omega)⟩
  rcases hj with ⟨rfl, rfl, hl⟩ | ⟨rfl, rfl, hl⟩ | ⟨rfl, rfl, hl⟩
  · exact ⟨RwR_app (by decide) h.1 b1.1 e3 e1 e2, oth 14 52 2 (fun c h1 h2 => by omega) (by decide) (by decide) (fun k hk => by omega) h.2.1, oth 17 68 3 (fun c h1 h2 => by omega) (by decide) (by decide) (fun k hk => by omega) h.2.2⟩
  · exact ⟨oth 11 42 1 (fun c h1 h2 => by omega) (by decide) (by decide) (fun k hk => by omega) h.1, RwR_app (by decide) h.2.1 b2.1 e3 e1 e2, oth 17 68 3 (fun c h1 h2 => by omega) (by decide) (by decide) (fun k hk => by omega) h.2.2⟩
  · exact ⟨oth 11 42 1 (fun c h1 h2 => by omega) (by decide) (by decide) (fun k hk => by omega) h.1, oth 14 52 2 (fun c h1 h2 => by omega) (by decide) (by decide) (fun k hk => by omega) h.2.1, RwR_app (by decide) h.2.2 b3.1 e3 e1 e2⟩
theorem WFr_app {p : Nat → Int} (hp : WFr p) {j b : Nat} {v w : Int}
    (hj : (j = 1 ∧ b = 42 ∧ p j < 5 ∧ (0 ≤ v ∧ v < (nS p : Int)) ∧ (0 ≤ w ∧ w ≤ 19)) ∨ (j = 2 ∧ b = 52 ∧ p j < 8 ∧ (0 ≤ v ∧ v ≤ 3) ∧ ((v = 1 ∨ v = 3) → 0 ≤ w ∧ w < (nS p : Int)) ∧ (v = 2 → 0 ≤ w ∧ w ≤ 40)) ∨ (j = 3 ∧ b = 68 ∧ p j < 8 ∧ (0 ≤ v ∧ v < (nS p : Int)) ∧ (-1 ≤ w ∧ w ≤ 19))) : WFr (rwP p j b v w) := by
  have b1 := hp.1.1
  have b2 := hp.2.1.1
  have b3 := hp.2.2.1
  have hj3 : j = 1 ∨ j = 2 ∨ j = 3 := by omega
  have hb : 42 ≤ b := by omega
  have hn : nS (rwP p j b v w) = nS p := geo_nS (keepS_geo (rwP_keepS v w hj3 hb))
  obtain ⟨n1, n2⟩ := rwP_new p j b v w (by omega)
  have nj := rwP_j p j b v w
  unfold WFr
  rw [hn]
  rcases hj with ⟨rfl, rfl, hl, hv, hw⟩ | ⟨rfl, rfl, hl, hv, hw, hz⟩ | ⟨rfl, rfl, hl, hv, hw⟩
  · rw [nj, rwP_ne p 1 42 v w (i := 2) (by omega), rwP_ne p 1 42 v w (i := 3) (by omega)]
    refine ⟨⟨by omega, fun k hk => ?_⟩, ⟨b2, fun k hk => ?_⟩, ⟨b3, fun k hk => ?_⟩⟩
    · by_cases e : k = (p 1).toNat
      · rw [e, n1, n2]; exact ⟨hv, hw⟩
      · rw [rwP_ne p 1 42 v w (by omega), rwP_ne p 1 42 v w (by omega)]; exact hp.1.2 k (by omega)
    · rw [rwP_ne p 1 42 v w (by omega), rwP_ne p 1 42 v w (by omega)]; exact hp.2.1.2 k (by omega)
    · rw [rwP_ne p 1 42 v w (by omega), rwP_ne p 1 42 v w (by omega)]; exact hp.2.2.2 k (by omega)
  · rw [nj, rwP_ne p 2 52 v w (i := 1) (by omega), rwP_ne p 2 52 v w (i := 3) (by omega)]
    refine ⟨⟨b1, fun k hk => ?_⟩, ⟨by omega, fun k hk => ?_⟩, ⟨b3, fun k hk => ?_⟩⟩
    · rw [rwP_ne p 2 52 v w (by omega), rwP_ne p 2 52 v w (by omega)]; exact hp.1.2 k (by omega)
    · by_cases e : k = (p 2).toNat
      · rw [e, n1, n2]; exact ⟨hv, hw, hz⟩
      · rw [rwP_ne p 2 52 v w (by omega), rwP_ne p 2 52 v w (by omega)]; exact hp.2.1.2 k (by omega)
    · rw [rwP_ne p 2 52 v w (by omega), rwP_ne p 2 52 v w (by omega)]; exact hp.2.2.2 k (by omega)
  · rw [nj, rwP_ne p 3 68 v w (i := 1) (by omega), rwP_ne p 3 68 v w (i := 2) (by omega)]
    refine ⟨⟨b1, fun k hk => ?_⟩, ⟨b2, fun k hk => ?_⟩, ⟨by omega, fun k hk => ?_⟩⟩
    · rw [rwP_ne p 3 68 v w (by omega), rwP_ne p 3 68 v w (by omega)]; exact hp.1.2 k (by omega)
    · rw [rwP_ne p 3 68 v w (by omega), rwP_ne p 3 68 v w (by omega)]; exact hp.2.1.2 k (by omega)
    · by_cases e : k = (p 3).toNat
      · rw [e, n1, n2]; exact ⟨hv, hw⟩
      · rw [rwP_ne p 3 68 v w (by omega), rwP_ne p 3 68 v w (by omega)]; exact hp.2.2.2 k (by omega)
/-- both append the same row -/
theorem Rel_app {σ σ' : gs_Mem} (h : Rel σ) {j b : Nat} {v w : Int}
    (hj : (j = 1 ∧ b = 42 ∧ σ 71 j < 5 ∧ (0 ≤ v ∧ v < (nS (σ 71) : Int)) ∧ (0 ≤ w ∧ w ≤ 19)) ∨ (j = 2 ∧ b = 52 ∧ σ 71 j < 8 ∧ (0 ≤ v ∧ v ≤ 3) ∧ ((v = 1 ∨ v = 3) → 0 ≤ w ∧ w < (nS (σ 71) : Int)) ∧ (v = 2 → 0 ≤ w ∧ w ≤ 40)) ∨ (j = 3 ∧ b = 68 ∧ σ 71 j < 8 ∧ (0 ≤ v ∧ v < (nS (σ 71) : Int)) ∧ (-1 ≤ w ∧ w ≤ 19)))
    (e : ∀ a, a ≠ 8 + 3 * j → a ≠ 8 + 3 * j + 1 → a ≠ 8 + 3 * j + 2 → σ' a = σ a) (e0 : σ' (8 + 3 * j) 0 = σ (8 + 3 * j) 0) (e3 : σ' (8 + 3 * j) 3 = σ 71 j + 1) (e1 : ∀ k, σ' (8 + 3 * j + 1) k = if k = (σ 71 j).toNat then v else σ (8 + 3 * j + 1) k) (e2 : ∀ k, σ' (8 + 3 * j + 2) k = if k = (σ 71 j).toNat then w else σ (8 + 3 * j + 2) k) : Rel (rw_ σ' 71 (rwP (σ 71) j b v w)) := by
  refine Rel_rows h (fun c hc => e c (by omega) (by omega) (by omega)) (rwP_keepS v w (by omega) (by omega)) (WFr_app h.2.1.1 hj) (Rws_app h.2.1.2.1 h.2.1.1 (by omega) e e3 e1 e2) ?_
  obtain ⟨l1, l2, l3⟩ := h.2.1.2.2
  rcases hj with ⟨rfl, _⟩ | ⟨rfl, _⟩ | ⟨rfl, _⟩
  · exact ⟨e0.trans l1, by rw [e 14 (by decide) (by decide) (by decide)]; exact l2, by rw [e 17 (by decide) (by decide) (by decide)]; exact l3⟩
  · exact ⟨by rw [e 11 (by decide) (by decide) (by decide)]; exact l1, e0.trans l2, by rw [e 17 (by decide) (by decide) (by decide)]; exact l3⟩
  · exact ⟨by rw [e 11 (by decide) (by decide) (by decide)]; exact l1, by rw [e 14 (by decide) (by decide) (by decide)]; exact l2, e0.trans l3⟩
