/-! ===== the fixed ones, as a mask ===== -/
def fxm (f : Nat → Bool) : Nat → Nat
  | 0 => 0
  | k + 1 => fxm f k ||| (if f k then 2 ^ k else 0)
theorem fxm_s (f : Nat → Bool) (k : Nat) : fxm f (k + 1) = fxm f k ||| (if f k then 2 ^ k else 0) := rfl
theorem fxm_lt (f : Nat → Bool) : ∀ k, k ≤ 8 → fxm f k < 256
  | 0, _ => (by decide : 0 < 256)
  | k + 1, hk => by
    rw [fxm_s]
    refine Nat.or_lt_two_pow (n := 8) (fxm_lt f k (by omega)) ?_
    split
    · exact Nat.pow_lt_pow_right (by decide) (by omega)
    · decide
theorem fxm_bit (f : Nat → Bool) (j : Nat) : ∀ k, (fxm f k).testBit j = (decide (j < k) && f j)
  | 0 => by rw [show fxm f 0 = 0 from rfl, Nat.zero_testBit, decide_eq_false (Nat.not_lt_zero j)]; rfl
  | k + 1 => by
    rw [fxm_s, Nat.testBit_or, fxm_bit f j k]
    by_cases e : j = k
    · subst e
      rw [decide_eq_false (Nat.lt_irrefl j), decide_eq_true (Nat.lt_succ_self j)]
      cases c : f j with
      | true => rw [if_pos rfl, Nat.testBit_two_pow, decide_eq_true rfl]; rfl
      | false => rw [if_neg (by decide), Nat.zero_testBit]; rfl
    · have : ((if f k = true then 2 ^ k else 0).testBit j) = false := by
        split
        · rw [Nat.testBit_two_pow, decide_eq_false (fun q => e q.symm)]
        · exact Nat.zero_testBit j
      rw [this, Bool.or_false]
      by_cases l : j < k
      · rw [decide_eq_true l, decide_eq_true (by omega : j < k + 1)]
      · rw [decide_eq_false l, decide_eq_false (by omega : ¬ j < k + 1)]
theorem m_fixedSet {σ : gs_Mem} (h : WF (σ 71)) : f_X7_fixedSet σ = some ((fxm (Fx (σ 71)) (nS (σ 71)) : Nat) : Int) := by
  have h8 := h.n8
  have hn := h.n0
  refine loop0 (fun m k (v : Int) => f_X7_fixedSet_L4 σ m v (k : Int)) (fun k v => v = ((fxm (Fx (σ 71)) k : Nat) : Int)) (fun q => q = some ((fxm (Fx (σ 71)) (nS (σ 71)) : Nat) : Int)) (nS (σ 71)) 0 (by omega) ?_ ?_ rfl
  · intro m k v hk hv
    subst hv
    have r2 := fxm_lt (Fx (σ 71)) k (by omega)
    refine Or.inr ⟨_, ?_, rfl⟩
    rw [f_X7_fixedSet_L4, m_fixed h hk]
    unfold f_X7_fixedSet_J30
    simp (disch := omega) only [gnS, gs_chk_t, hn, Option.bind_some]
    rw [if_neg (by omega), fxm_s]
    cases c : Fx (σ 71) k with
    | true =>
      rw [if_pos rfl, if_pos rfl, if_neg no10, gshl_one k (by omega), gor_nat (by omega) (p31 (d := k) (by omega))]; rfl
    | false =>
      have e0 : gor ((fxm (Fx (σ 71)) k : Nat) : Int) 0 = ((fxm (Fx (σ 71)) k ||| 0 : Nat) : Int) := gor_nat (b := 0) (by omega) (by decide)
      show f_X7_fixedSet_L4 σ m (gor ((fxm (Fx (σ 71)) k : Nat) : Int) 0) ((k : Int) + 1) = f_X7_fixedSet_L4 σ m ((fxm (Fx (σ 71)) k ||| 0 : Nat) : Int) ((k + 1 : Nat) : Int)
      rw [e0]; rfl
  · intro m v hv
    rw [f_X7_fixedSet_L4]
    simp (disch := omega) only [gnS, gs_chk_t, hn]
    rw [if_pos (Int.le_refl _), hv]
theorem i_fixedBits {σ : gs_Mem} {r : Nat} {p : Nat → Int} (hp : PlR σ r p) (h : WF p) : σ r 8 = ((fxm (Fx p) (nS p) : Nat) : Int) := by
  obtain ⟨m, m1, m2, m3⟩ := hp.2.2.2.2
  rw [m1]
  refine congrArg (fun z : Nat => (z : Int)) (Nat.eq_of_testBit_eq fun i => ?_)
  rw [m3 i, fxm_bit]
  unfold Fx
  by_cases c : i < nS p
  · rw [decide_eq_true c]; rfl
  · rw [decide_eq_false c]; rfl
