/-! ===== image, undo, count ===== -/
theorem cp_at (σ : gs_Mem) (r1 r2 n a j : Nat) : gs_cp σ r1 0 r2 0 n a j = if a = r2 ∧ j < n then σ r1 j else σ a j := by
  unfold gs_cp
  by_cases c : a = r2 ∧ j < n
  · rw [if_pos c, if_pos ⟨c.1, Nat.zero_le _, by omega⟩, Nat.zero_add, Nat.sub_zero]
  · rw [if_neg c, if_neg (fun e => c ⟨e.1, by omega⟩)]
theorem cp_row (σ : gs_Mem) (r1 r2 n : Nat) {a : Nat} (h : a ≠ r2) : gs_cp σ r1 0 r2 0 n a = σ a := funext fun j => by
  rw [cp_at, if_neg (fun e => h e.1)]
theorem cp_in (σ : gs_Mem) (r1 r2 n : Nat) {j : Nat} (h : j < n) : gs_cp σ r1 0 r2 0 n r2 j = σ r1 j := by
  rw [cp_at, if_pos ⟨rfl, h⟩]
theorem cp_far (σ : gs_Mem) (r1 r2 n : Nat) {a j : Nat} (h : a ≠ r2) : gs_cp σ r1 0 r2 0 n a j = σ a j := by
  rw [cp_at, if_neg (fun e => h e.1)]
/-- the reference's copy of a row -/
def cpR (p q : Nat → Int) : Nat → Int := fun i => if i < 84 then p i else q i
theorem cpR_lt (p q : Nat → Int) {i : Nat} (h : i < 84) : cpR p q i = p i := if_pos h
theorem m_copies {σ : gs_Mem} {a b : Nat} (hab : a ≠ b) : f_X7_copies a b σ = some (0, rw_ σ b (cpR (σ a) (σ b))) := by
  let Q : Nat → gs_Mem := fun k => rw_ σ b (fun i => if i < k then σ a i else σ b i)
  refine loop0 (fun m k (t : gs_Mem) => f_X7_copies_L2 a b m (k : Int) t) (fun k t => t = Q k) (fun q => q = some (0, rw_ σ b (cpR (σ a) (σ b)))) 84 σ (by decide) ?_ ?_ ?_
  · intro m k t hk ht
    subst ht
    refine Or.inr ⟨Q (k + 1), ?_, rfl⟩
    rw [f_X7_copies_L2, gnS (by omega), if_neg (by omega), gs_chk_t (by omega) (by omega), gs_chk_t (by omega) (by omega)]
    have : gs_st (Q k) b (k : Int).toNat (Q k a (k : Int).toNat) = Q (k + 1) := by
      rw [t1, gs_st_rw]
      show rw_ (rw_ σ b _) b (rs (rw_ σ b _ b) k (rw_ σ b _ a k)) = _
      rw [rw_rw, rw_same, rw_ne _ _ _ hab]
      refine congrArg (rw_ σ b) (funext fun i => ?_)
      rw [rs_at]
      by_cases e : i = k
      · rw [if_pos e, if_pos (by omega), e]
      · rw [if_neg e]
        by_cases l : i < k
        · rw [if_pos l, if_pos (by omega)]
        · rw [if_neg l, if_neg (by omega)]
    rw [this]
    rfl
  · intro m t ht
    subst ht
    rw [f_X7_copies_L2, if_pos (by decide +kernel)]
    rfl
  · show σ = rw_ σ b (fun i => if i < 0 then σ a i else σ b i)
    rw [show (fun i => if i < 0 then σ a i else σ b i) = σ b from funext fun i => if_neg (Nat.not_lt_zero i), rw_self]
theorem cpR_geo (p q : Nat → Int) : geo p (cpR p q) := ⟨cpR_lt _ _ (by decide), fun s hs => ⟨cpR_lt _ _ (by omega), cpR_lt _ _ (by omega)⟩, fun t ht => ⟨cpR_lt _ _ (by omega), cpR_lt _ _ (by omega)⟩⟩
theorem cpR_keepS (p q : Nat → Int) : keepS p (cpR p q) := fun i hi => cpR_lt _ _ (by omega)
theorem cpR_WFr {p : Nat → Int} (h : WFr p) (q : Nat → Int) : WFr (cpR p q) := by
  have b1 := h.1.1
  have b2 := h.2.1.1
  have b3 := h.2.2.1
  unfold WFr
  rw [geo_nS (cpR_geo p q), cpR_lt _ _ (show 1 < 84 by decide), cpR_lt _ _ (show 2 < 84 by decide), cpR_lt _ _ (show 3 < 84 by decide)]
  refine ⟨⟨b1, fun k hk => ?_⟩, ⟨b2, fun k hk => ?_⟩, ⟨b3, fun k hk => ?_⟩⟩
  · rw [cpR_lt _ _ (by omega), cpR_lt _ _ (by omega)]; exact h.1.2 k hk
  · rw [cpR_lt _ _ (by omega), cpR_lt _ _ (by omega)]; exact h.2.1.2 k hk
  · rw [cpR_lt _ _ (by omega), cpR_lt _ _ (by omega)]; exact h.2.2.2 k hk
theorem cpR_Rws {σ : gs_Mem} {u : Nat} {p : Nat → Int} (h : Rws σ u p) (hp : WFr p) (q : Nat → Int) : Rws σ u (cpR p q) := by
  have b1 := hp.1.1
  have b2 := hp.2.1.1
  have b3 := hp.2.2.1
  unfold Rws
  rw [cpR_lt _ _ (show 1 < 84 by decide), cpR_lt _ _ (show 2 < 84 by decide), cpR_lt _ _ (show 3 < 84 by decide)]
  exact ⟨RwR_oth h.1 (fun k hk => ⟨cpR_lt _ _ (by omega), cpR_lt _ _ (by omega)⟩), RwR_oth h.2.1 (fun k hk => ⟨cpR_lt _ _ (by omega), cpR_lt _ _ (by omega)⟩), RwR_oth h.2.2 (fun k hk => ⟨cpR_lt _ _ (by omega), cpR_lt _ _ (by omega)⟩)⟩
/-- a plane copied -/
theorem i_copyFrom {σ : gs_Mem} {r0 r1 : Nat} (hd : r0 + 8 < r1 ∨ r1 + 8 < r0) : ∃ σ', f_X0_copyFrom r0 r1 σ = some (0, σ') ∧ (∀ c, (c < r0 ∨ r0 + 7 < c) → σ' c = σ c) ∧ (∀ j, j ≠ 8 → j ≠ 9 → σ' r0 j = σ r0 j) ∧ σ' r0 8 = σ r1 8 ∧ σ' r0 9 = σ r1 9 ∧
    (∀ j, j < 8 → σ' (r0 + 1) j = σ (r1 + 1) j ∧ σ' (r0 + 2) j = σ (r1 + 2) j ∧ σ' (r0 + 3) j = σ (r1 + 3) j ∧ σ' (r0 + 7) j = σ (r1 + 7) j) ∧ (∀ j, j < 3 → σ' (r0 + 4) j = σ (r1 + 4) j ∧ σ' (r0 + 5) j = σ (r1 + 5) j) ∧ (∀ j, j < 64 → σ' (r0 + 6) j = σ (r1 + 6) j) := by
  unfold f_X0_copyFrom
  rw [gs_chkc_t (by decide), gs_chkc_t (by decide), gs_chkc_t (by decide), gs_chkc_t (by decide), gs_chkc_t (by decide), gs_chkc_t (by decide), gs_chkc_t (by decide)]
  refine ⟨_, rfl, fun c hc => ?_, fun j h1 h2 => ?_, ?_, ?_, fun j hj => ⟨?_, ?_, ?_, ?_⟩, fun j hj => ⟨?_, ?_⟩, fun j hj => ?_⟩
  · funext j
    simp (disch := omega) only [gs_st_far, cp_far]
  · simp (disch := omega) only [gs_st_slot, cp_far]
  all_goals simp (disch := omega) only [gs_st_far, gs_st_same, gs_st_slot, cp_far, cp_in]
