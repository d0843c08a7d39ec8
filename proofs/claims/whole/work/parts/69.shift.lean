/-! ===== shift ===== -/
theorem i_holdsRun {σ : gs_Mem} {r : Nat} {z : Int} (e : σ r 2 = z) (hz : 0 ≤ z ∧ z ≤ 60) {v w : Int} (hv : gn v = v) (hw : gn w = w) : f_X3_holdsRun r v w σ = some (if 0 ≤ v ∧ 0 ≤ w ∧ w ≤ z - v then 1 else 0) := by
  have hr := gn_rng v
  rw [hv] at hr
  unfold f_X3_holdsRun
  rw [e, hv, hw]
  by_cases c1 : v < 0
  · rw [if_pos c1, if_neg (by omega)]
  · rw [if_neg c1]
    by_cases c2 : w < 0
    · rw [if_pos c2, if_neg (by omega)]
    · rw [if_neg c2, gnS (x := z - v) (by omega)]
      by_cases c3 : z - v < w
      · rw [if_pos c3, if_neg (by omega)]
      · rw [if_neg c3, if_pos (by omega)]
/-- a run of cell 78 copied within it, as the whole run was before -/
def mvR (p : Nat → Int) (a b n : Nat) : Nat → Int := fun i => if b ≤ i ∧ i < b + n then p (a + (i - b)) else p i
/-- the reference's loop, either way round -/
theorem m_shiftL {σ : gs_Mem} {k l i j n : Nat} (hk : k < 6) (hl : l < 6) (h1 : i + n ≤ 60) (h2 : j + n ≤ 60) : f_X7_shift_L135 (k : Int) (i : Int) (l : Int) (j : Int) (n : Int) gs_fuel 0 σ = some ((n : Int), rw_ σ 78 (mvR (σ 78) (60 * k + i) (60 * l + j) n)) := by
  by_cases d : j ≤ i
  · refine loop0 (fun m t (s : gs_Mem) => f_X7_shift_L135 (k : Int) (i : Int) (l : Int) (j : Int) (n : Int) m (t : Int) s) (fun t s => s = rw_ σ 78 (mvR (σ 78) (60 * k + i) (60 * l + j) t)) (fun q => q = some ((n : Int), rw_ σ 78 (mvR (σ 78) (60 * k + i) (60 * l + j) n))) n σ (by omega) ?_ ?_ ?_
    · intro m t s ht hs
      subst hs
      refine Or.inr ⟨rw_ σ 78 (mvR (σ 78) (60 * k + i) (60 * l + j) (t + 1)), ?_, rfl⟩
      rw [f_X7_shift_L135]
      unfold f_X7_shift_J160
      rw [gnN (by omega), gnN (by omega), if_neg (by omega), gnN (by omega), gnN (by omega), if_pos (by omega), gnS (x := 60 * (k : Int) + i + t) (by omega), gs_chk_t (by omega) (by omega), gnS (x := 60 * (l : Int) + j + t) (by omega), gs_chk_t (by omega) (by omega), show (60 * (k : Int) + i + t).toNat = 60 * k + i + t by omega, show (60 * (l : Int) + j + t).toNat = 60 * l + j + t by omega, gs_st_rw, rw_same, rw_rw]
      have : rs (mvR (σ 78) (60 * k + i) (60 * l + j) t) (60 * l + j + t) (mvR (σ 78) (60 * k + i) (60 * l + j) t (60 * k + i + t)) = mvR (σ 78) (60 * k + i) (60 * l + j) (t + 1) := by
        funext x
        rw [rs_at]
        unfold mvR
        by_cases e : x = 60 * l + j + t
        · rw [if_pos e, if_pos (show 60 * l + j ≤ x ∧ x < 60 * l + j + (t + 1) by omega)]
          by_cases kl : k = l
          · subst kl
            rw [if_neg (by omega), e]
            exact congrArg (σ 78) (by omega)
          · rw [if_neg (by omega), e]
            exact congrArg (σ 78) (by omega)
        · rw [if_neg e]
          by_cases c : 60 * l + j ≤ x ∧ x < 60 * l + j + t
          · rw [if_pos c, if_pos (by omega)]
          · rw [if_neg c, if_neg (by omega)]
      rw [this]; rfl
    · intro m s hs
      subst hs
      rw [f_X7_shift_L135, if_pos (Int.le_refl _)]
    · show σ = rw_ σ 78 (mvR (σ 78) (60 * k + i) (60 * l + j) 0)
      rw [show mvR (σ 78) (60 * k + i) (60 * l + j) 0 = σ 78 from funext fun x => if_neg (by omega), rw_self]
  · -- backwards: after t steps the last t are copied
    refine loop0 (fun m t (s : gs_Mem) => f_X7_shift_L135 (k : Int) (i : Int) (l : Int) (j : Int) (n : Int) m (t : Int) s) (fun t s => s = rw_ σ 78 (mvR (σ 78) (60 * k + i + (n - t)) (60 * l + j + (n - t)) t)) (fun q => q = some ((n : Int), rw_ σ 78 (mvR (σ 78) (60 * k + i) (60 * l + j) n))) n σ (by omega) ?_ ?_ ?_
    · intro m t s ht hs
      subst hs
      refine Or.inr ⟨rw_ σ 78 (mvR (σ 78) (60 * k + i + (n - (t + 1))) (60 * l + j + (n - (t + 1))) (t + 1)), ?_, rfl⟩
      rw [f_X7_shift_L135]
      unfold f_X7_shift_J160
      rw [gnN (by omega), gnN (by omega), if_neg (by omega), gnN (by omega), gnN (by omega), if_neg (by omega), gnS (x := 60 * (k : Int) + i + (n - 1 - t)) (by omega), gs_chk_t (by omega) (by omega), gnS (x := 60 * (l : Int) + j + (n - 1 - t)) (by omega), gs_chk_t (by omega) (by omega), show (60 * (k : Int) + i + (n - 1 - t)).toNat = 60 * k + i + (n - (t + 1)) by omega, show (60 * (l : Int) + j + (n - 1 - t)).toNat = 60 * l + j + (n - (t + 1)) by omega, gs_st_rw, rw_same, rw_rw]
      have : rs (mvR (σ 78) (60 * k + i + (n - t)) (60 * l + j + (n - t)) t) (60 * l + j + (n - (t + 1))) (mvR (σ 78) (60 * k + i + (n - t)) (60 * l + j + (n - t)) t (60 * k + i + (n - (t + 1)))) = mvR (σ 78) (60 * k + i + (n - (t + 1))) (60 * l + j + (n - (t + 1))) (t + 1) := by
        funext x
        rw [rs_at]
        unfold mvR
        by_cases e : x = 60 * l + j + (n - (t + 1))
        · rw [if_pos e, if_pos (show 60 * l + j + (n - (t + 1)) ≤ x ∧ x < 60 * l + j + (n - (t + 1)) + (t + 1) by omega)]
          rw [if_neg (by omega), e]
          exact congrArg (σ 78) (by omega)
        · rw [if_neg e]
          by_cases c : 60 * l + j + (n - t) ≤ x ∧ x < 60 * l + j + (n - t) + t
          · rw [if_pos c, if_pos (by omega)]
            exact congrArg (σ 78) (by omega)
          · rw [if_neg c, if_neg (by omega)]
      rw [this]; rfl
    · intro m s hs
      subst hs
      rw [f_X7_shift_L135, if_pos (Int.le_refl _), Nat.sub_self, Nat.add_zero, Nat.add_zero]
    · show σ = rw_ σ 78 (mvR (σ 78) (60 * k + i + (n - 0)) (60 * l + j + (n - 0)) 0)
      rw [show mvR (σ 78) (60 * k + i + (n - 0)) (60 * l + j + (n - 0)) 0 = σ 78 from funext fun x => if_neg (by omega), rw_self]
