/-! ===== cliques and the bound ===== -/
theorem gs_st_same (σ : gs_Mem) (r k : Nat) (x : Int) : gs_st σ r k x r k = x := if_pos ⟨rfl, rfl⟩
theorem gs_st_row (σ : gs_Mem) (r k : Nat) (x : Int) {a : Nat} (h : a ≠ r) : gs_st σ r k x a = σ a := funext fun _ => if_neg (fun e => h e.1)
theorem gs_st_slot (σ : gs_Mem) (r k : Nat) (x : Int) {a j : Nat} (h : j ≠ k) : gs_st σ r k x a j = σ a j := if_neg (fun e => h e.2)
theorem gs_st_st (σ : gs_Mem) (r k : Nat) (x y : Int) : gs_st (gs_st σ r k x) r k y = gs_st σ r k y := by
  funext a j
  simp only [gs_st_at]
  by_cases c : a = r ∧ j = k
  · rw [if_pos c, if_pos c]
  · rw [if_neg c, if_neg c, if_neg c]
theorem gs_st_back (σ : gs_Mem) (r k : Nat) {x : Int} (h : σ r k = x) : gs_st σ r k x = σ := by
  funext a j
  rw [gs_st_at]
  by_cases c : a = r ∧ j = k
  · rw [if_pos c, c.1, c.2, h]
  · rw [if_neg c]
/-- no two stations of the mask that lie nearer than g -/
def clq (n : Nat) (A : Nat → Nat → Int) (g : Int) (m : Nat) : Bool := aN (fun a => aN (fun b => !(m.testBit a && m.testBit b && decide (A a b < g))) a) n
/-- the best mask of those below k: the first with the most bits -/
def cbN (n : Nat) (A : Nat → Nat → Int) (g : Int) : Nat → Nat
  | 0 => 0
  | k + 1 => if popc k ≤ popc (cbN n A g k) then cbN n A g k else if clq n A g k then k else cbN n A g k
theorem cbN_s (n : Nat) (A : Nat → Nat → Int) (g : Int) (k : Nat) : cbN n A g (k + 1) = if popc k ≤ popc (cbN n A g k) then cbN n A g k else if clq n A g k then k else cbN n A g k := rfl
theorem cbN_le (n : Nat) (A : Nat → Nat → Int) (g : Int) : ∀ k, cbN n A g k ≤ k
  | 0 => Nat.le_refl 0
  | k + 1 => by
    have := cbN_le n A g k
    rw [cbN_s]
    split
    · omega
    · split <;> omega
theorem popc_le (m : Nat) : popc m ≤ 32 := cntR_le _ _ _
def bdN (n : Nat) (A : Nat → Nat → Int) : Nat → Int
  | 0 => 0
  | k + 1 => if popc (cbN n A ((k + 1 : Nat) : Int) (2 ^ n)) = 0 then bdN n A k else if bdN n A k < ((popc (cbN n A ((k + 1 : Nat) : Int) (2 ^ n)) : Int) - 1) * ((k + 1 : Nat) : Int) + 1 then ((popc (cbN n A ((k + 1 : Nat) : Int) (2 ^ n)) : Int) - 1) * ((k + 1 : Nat) : Int) + 1 else bdN n A k
theorem bdN_s (n : Nat) (A : Nat → Nat → Int) (k : Nat) : bdN n A (k + 1) = if popc (cbN n A ((k + 1 : Nat) : Int) (2 ^ n)) = 0 then bdN n A k else if bdN n A k < ((popc (cbN n A ((k + 1 : Nat) : Int) (2 ^ n)) : Int) - 1) * ((k + 1 : Nat) : Int) + 1 then ((popc (cbN n A ((k + 1 : Nat) : Int) (2 ^ n)) : Int) - 1) * ((k + 1 : Nat) : Int) + 1 else bdN n A k := rfl
theorem bmul {x : Nat} (h : x ≤ 32) : ∀ k : Nat, k < 5 → -4 ≤ ((x : Int) - 1) * (k : Int) + 1 ∧ ((x : Int) - 1) * (k : Int) + 1 ≤ 125
  | 0, _ => by omega
  | 1, _ => by omega
  | 2, _ => by omega
  | 3, _ => by omega
  | 4, _ => by omega
  | _ + 5, h => by omega
theorem bdN_rng (n : Nat) (A : Nat → Nat → Int) : ∀ k, k < 5 → 0 ≤ bdN n A k ∧ bdN n A k ≤ 125
  | 0, _ => (by decide : (0 : Int) ≤ 0 ∧ (0 : Int) ≤ 125)
  | k + 1, hk => by
    have := bdN_rng n A k (by omega)
    have := bmul (popc_le (cbN n A ((k + 1 : Nat) : Int) (2 ^ n))) (k + 1) hk
    rw [bdN_s]
    split
    · omega
    · split <;> omega
theorem gshl_n {n : Nat} (h : n ≤ 8) : gshl 1 (n : Int) = ((2 ^ n : Nat) : Int) := gshl_one n (by omega)
theorem p8 {n : Nat} (h : n ≤ 8) : 2 ^ n ≤ 256 := Nat.pow_le_pow_right (by decide) h
section
variable {σ : gs_Mem}
theorem m_isClique (h : WF (σ 71)) {M : Nat} (hM : M < 256) {g : Int} (hg : 0 ≤ g ∧ g ≤ 5) : f_X7_isClique (M : Int) g σ = some (if clq (nS (σ 71)) (Ap (σ 71)) g M then 1 else 0) := by
  have h8 := h.n8
  have hn := h.n0
  let f : Nat → Nat → Bool := fun a b => !(M.testBit a && M.testBit b && decide (Ap (σ 71) a b < g))
  refine loop0 (fun m k (_ : Unit) => f_X7_isClique_L2 σ (M : Int) g m (k : Int)) (fun k _ => ∀ a, a < k → aN (f a) a = true) (fun q => q = some (if clq (nS (σ 71)) (Ap (σ 71)) g M then 1 else 0)) (nS (σ 71)) () (by omega) ?_ ?_ (fun t ht => absurd ht (Nat.not_lt_zero t))
  · intro m a _ ha hv
    rw [f_X7_isClique_L2]
    simp (disch := omega) only [gnS, gs_chk_t, hn]
    rw [if_neg (by omega)]
    refine loop0 (fun m k (_ : Unit) => f_X7_isClique_L15 σ (M : Int) g (a : Int) _ m (k : Int)) (fun k _ => ∀ b, b < k → f a b = true) (fun q => q = some (if clq (nS (σ 71)) (Ap (σ 71)) g M then 1 else 0) ∨ ∃ a', q = f_X7_isClique_L2 σ (M : Int) g m ((a + 1 : Nat) : Int) ∧ ∀ t, t < a + 1 → aN (f t) t = true) a () (by omega) ?_ ?_ (fun t ht => absurd ht (Nat.not_lt_zero t))
    · intro m' b _ hb hw
      have r2 := Ap_rng h a b
      rw [f_X7_isClique_L15]
      unfold f_X7_isClique_J53
      simp (disch := omega) only [gnS]
      rw [if_neg (by omega), gbit (by omega) (by omega), gbit (by omega) (by omega)]
      have key : f a b = true → ∀ t, t < b + 1 → f a t = true := fun e t ht => by
        by_cases q : t = b
        · rw [q]; exact e
        · exact hw t (by omega)
      cases e1 : M.testBit a with
      | false =>
        refine Or.inr ⟨(), rfl, key ?_⟩
        show (!(M.testBit a && M.testBit b && _)) = true
        rw [e1]; rfl
      | true =>
        rw [if_pos rfl, if_pos rfl]
        cases e2 : M.testBit b with
        | false =>
          refine Or.inr ⟨(), rfl, key ?_⟩
          show (!(M.testBit a && M.testBit b && _)) = true
          rw [e1, e2]; rfl
        | true =>
          rw [if_pos rfl, if_pos rfl, m_apartOf h ha (by omega) (by omega)]
          simp (disch := omega) only [gnS, Option.bind_some]
          by_cases c : g ≤ Ap (σ 71) a b
          · rw [if_pos c]
            refine Or.inr ⟨(), rfl, key ?_⟩
            show (!(M.testBit a && M.testBit b && decide (Ap (σ 71) a b < g))) = true
            rw [decide_eq_false (by omega : ¬ Ap (σ 71) a b < g), Bool.and_false]; rfl
          · rw [if_neg c]
            refine Or.inl (Or.inl ?_)
            have e : f a b = false := by
              show (!(M.testBit a && M.testBit b && decide (Ap (σ 71) a b < g))) = false
              rw [e1, e2, decide_eq_true (by omega : Ap (σ 71) a b < g)]; rfl
            have : clq (nS (σ 71)) (Ap (σ 71)) g M = false := aN_false ha (aN_false hb e)
            rw [this]; rfl
    · intro m' _ hw
      rw [f_X7_isClique_L15]
      simp (disch := omega) only [gnS]
      rw [if_pos (Int.le_refl _)]
      refine Or.inr ⟨(), rfl, fun t ht => ?_⟩
      by_cases q : t = a
      · rw [q]; exact aN_iff.mpr hw
      · exact hv t (by omega)
  · intro m _ hv
    rw [f_X7_isClique_L2]
    simp (disch := omega) only [gnS, gs_chk_t, hn]
    rw [if_pos (Int.le_refl _), show clq (nS (σ 71)) (Ap (σ 71)) g M = true from aN_iff.mpr hv]
    rfl
theorem m_cliqueBy (h : WF (σ 71)) {g : Int} (hg : 0 ≤ g ∧ g ≤ 5) : f_X7_cliqueBy g σ = some ((cbN (nS (σ 71)) (Ap (σ 71)) g (2 ^ nS (σ 71)) : Nat) : Int) := by
  have h8 := h.n8
  have hn := h.n0
  have hp := p8 h8
  have hpos : 0 < 2 ^ nS (σ 71) := Nat.pow_pos (by decide)
  refine loop_inv (fun m k (v : Int) => f_X7_cliqueBy_L4 σ g m v (k : Int)) (fun k v => v = ((cbN (nS (σ 71)) (Ap (σ 71)) g k : Nat) : Int)) (fun q => q = some ((cbN (nS (σ 71)) (Ap (σ 71)) g (2 ^ nS (σ 71)) : Nat) : Int)) (2 ^ nS (σ 71)) ?_ ?_ (2 ^ nS (σ 71) - 1) 1 0 gs_fuel (by omega) (by have := fuel_big; omega) rfl
  · intro m k v hk hv
    subst hv
    have q1 := cbN_le (nS (σ 71)) (Ap (σ 71)) g k
    have q2 := popc_le k
    have q3 := popc_le (cbN (nS (σ 71)) (Ap (σ 71)) g k)
    refine Or.inr ⟨_, ?_, rfl⟩
    rw [f_X7_cliqueBy_L4, bitCount_spec (by omega), bitCount_spec (by omega), m_isClique h (by omega) hg, hn, gshl_n h8]
    unfold f_X7_cliqueBy_J40 f_X7_cliqueBy_J41
    simp (disch := omega) only [gnS, gs_chk_t, Option.bind_some]
    rw [if_neg (by omega), cbN_s]
    by_cases c : popc k ≤ popc (cbN (nS (σ 71)) (Ap (σ 71)) g k)
    · rw [if_pos (by omega), if_pos c]; rfl
    · rw [if_neg (by omega), if_neg c]
      cases clq (nS (σ 71)) (Ap (σ 71)) g k <;> rfl
  · intro m v hv
    rw [f_X7_cliqueBy_L4, hn, gshl_n h8]
    simp (disch := omega) only [gnS, gs_chk_t]
    rw [if_pos (Int.le_refl _), hv]
theorem m_bound_s1 (h : WF (σ 71)) (m j : Nat) (hk : j < 4) (Y : Int) : f_X7_bound_L4 σ (m + 1) Y ((j + 1 : Nat) : Int) = f_X7_bound_J37 σ (f_X7_bound_L4 σ m) ((j + 1 : Nat) : Int) (if popc (cbN (nS (σ 71)) (Ap (σ 71)) ((j + 1 : Nat) : Int) (2 ^ nS (σ 71))) = 0 then Y else gmax Y ((((popc (cbN (nS (σ 71)) (Ap (σ 71)) ((j + 1 : Nat) : Int) (2 ^ nS (σ 71))) : Nat) : Int) - 1) * ((j + 1 : Nat) : Int) + 1)) := by
  have h8 := h.n8
  have hp := p8 h8
  have q1 := cbN_le (nS (σ 71)) (Ap (σ 71)) ((j + 1 : Nat) : Int) (2 ^ nS (σ 71))
  have q2 := popc_le (cbN (nS (σ 71)) (Ap (σ 71)) ((j + 1 : Nat) : Int) (2 ^ nS (σ 71)))
  rw [f_X7_bound_L4, m_cliqueBy h (by omega), Option.bind_some, bitCount_spec (by omega)]
  generalize popc (cbN (nS (σ 71)) (Ap (σ 71)) ((j + 1 : Nat) : Int) (2 ^ nS (σ 71))) = X at q2 ⊢
  simp only [Option.bind_some]
  rw [gnS (by omega), gnN (by omega), if_neg (by omega)]
  by_cases c : X = 0
  · rw [if_pos (by omega), if_pos c]
  · rw [if_neg (by omega), if_neg c]
theorem m_bound (h : WF (σ 71)) : f_X7_bound σ = some (bdN (nS (σ 71)) (Ap (σ 71)) 4) := by
  have h8 := h.n8
  have hp := p8 h8
  refine loop0 (fun m k (v : Int) => f_X7_bound_L4 σ m v ((k + 1 : Nat) : Int)) (fun k v => v = bdN (nS (σ 71)) (Ap (σ 71)) k) (fun q => q = some (bdN (nS (σ 71)) (Ap (σ 71)) 4)) 4 0 (by decide) ?_ ?_ rfl
  · intro m j v hk hv
    subst hv
    have q2 := popc_le (cbN (nS (σ 71)) (Ap (σ 71)) ((j + 1 : Nat) : Int) (2 ^ nS (σ 71)))
    have q3 := bmul q2 (j + 1) (by omega)
    have q4 := bdN_rng (nS (σ 71)) (Ap (σ 71)) j (by omega)
    refine Or.inr ⟨_, ?_, rfl⟩
    rw [m_bound_s1 h m j hk, bdN_s, gmaxE (by omega) (by omega)]
    unfold f_X7_bound_J37
    rw [show ((j + 1 : Nat) : Int) + 1 = ((j + 1 + 1 : Nat) : Int) from rfl]
  · intro m v hv
    rw [f_X7_bound_L4, if_pos (by decide +kernel), hv]
end
