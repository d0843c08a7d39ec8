theorem one_ite (b : Bool) : (if gn (if b then (1 : Int) else 0) = 0 then (0 : Int) else 1) = if b then 1 else 0 := by
  cases b <;> decide +kernel
theorem gn_ite1 (b : Bool) : gn (if b then (1 : Int) else 0) = if b then 1 else 0 := by
  cases b <;> decide +kernel
theorem gn_iteP (P : Prop) [Decidable P] : gn (if P then (1 : Int) else 0) = if P then 1 else 0 := by
  split <;> decide +kernel
theorem ite10 (P : Prop) [Decidable P] : ((if P then (1 : Int) else 0) = 0) ↔ ¬ P := by
  split
  · next h => exact ⟨fun e => absurd e (by decide), fun e => absurd h e⟩
  · next h => exact ⟨fun _ => h, fun _ => rfl⟩
theorem ite11 (P : Prop) [Decidable P] : ((if P then (1 : Int) else 0) = 1) ↔ P := by
  split
  · next h => exact ⟨fun _ => h, fun _ => rfl⟩
  · next h => exact ⟨fun e => absurd e (by decide), fun e => absurd e h⟩
theorem cN_s (f : Nat → Bool) (k : Nat) : cN f (k + 1) = cN f k + (if f k then 1 else 0) := rfl
theorem sN_s (f : Nat → Int) (k : Nat) : sN f (k + 1) = sN f k + f k := rfl
theorem clsum_s (n : Nat) (c : Nat → Int) (A : Nat → Nat → Int) (k : Nat) : clsum n c A (k + 1) = clsum n c A k + clo n c A k := rfl
section
variable {σ : gs_Mem}
theorem m_isClash (h : WF (σ 71)) {a b : Nat} (ha : a < nS (σ 71)) (hb : b < nS (σ 71)) : f_X7_isClash (a : Int) (b : Int) σ = some (if clash (Ch (σ 71)) (Ap (σ 71)) a b then 1 else 0) := by
  have h8 := h.n8
  have r1 := Ch_rng h a
  have r2 := Ch_rng h b
  have r3 := Ap_rng h a b
  unfold f_X7_isClash
  rw [m_ch h ha, m_ch h hb]
  simp only [Option.bind_some]
  rw [gnS (x := (a : Int)) (by omega), gnS (x := (b : Int)) (by omega), gnS (x := Ch (σ 71) a) (by omega), gnS (x := Ch (σ 71) b) (by omega)]
  by_cases e : a = b
  · subst e
    rw [if_pos rfl, if_neg]
    unfold clash
    rw [Ap_self]
    simp only [Bool.and_eq_true, decide_eq_true_eq]
    split <;> omega
  · rw [if_neg (by omega)]
    unfold clash
    by_cases c1 : Ch (σ 71) a < 0
    · rw [if_pos c1, if_neg]; simp only [Bool.and_eq_true, decide_eq_true_eq]; omega
    · rw [if_neg c1]
      by_cases c2 : Ch (σ 71) b < 0
      · rw [if_pos c2, if_neg]; simp only [Bool.and_eq_true, decide_eq_true_eq]; omega
      · rw [if_neg c2, m_apartOf h ha hb e]
        simp only [Option.bind_some]
        rw [gnS (x := Ap (σ 71) a b) (by omega), gabsE (by omega)]
        rw [gnS (x := if 0 ≤ Ch (σ 71) a - Ch (σ 71) b then _ else _) (by split <;> omega)]
        by_cases c3 : Ap (σ 71) a b ≤ (if 0 ≤ Ch (σ 71) a - Ch (σ 71) b then Ch (σ 71) a - Ch (σ 71) b else 0 - (Ch (σ 71) a - Ch (σ 71) b))
        · rw [if_pos c3, if_neg]; simp only [Bool.and_eq_true, decide_eq_true_eq]; omega
        · rw [if_neg c3, if_pos]; simp only [Bool.and_eq_true, decide_eq_true_eq]; omega
theorem m_clashesOf (h : WF (σ 71)) {s : Nat} (hs : s < nS (σ 71)) : f_X7_clashesOf (s : Int) σ = some ((clo (nS (σ 71)) (Ch (σ 71)) (Ap (σ 71)) s : Nat) : Int) := by
  have h8 := h.n8
  have hn := h.n0
  refine loop0 (fun m k (v : Int) => f_X7_clashesOf_L4 σ (s : Int) m v (k : Int)) (fun k v => v = ((cN (clash (Ch (σ 71)) (Ap (σ 71)) s) k : Nat) : Int)) (fun r => r = some ((clo (nS (σ 71)) (Ch (σ 71)) (Ap (σ 71)) s : Nat) : Int)) (nS (σ 71)) 0 (by omega) ?_ ?_ rfl
  · intro m k v hk hv
    subst hv
    refine Or.inr ⟨_, ?_, rfl⟩
    rw [f_X7_clashesOf_L4]
    unfold f_X7_clashesOf_J29
    rw [m_isClash h hs hk]
    simp (disch := omega) only [gnS, gs_chk_t, hn, Option.bind_some]
    rw [if_neg (by omega)]
    rw [cN_s]
    cases clash (Ch (σ 71)) (Ap (σ 71)) s k <;> rfl
  · intro m v hv
    rw [f_X7_clashesOf_L4]
    simp (disch := omega) only [gnS, gs_chk_t, hn]
    rw [if_pos (Int.le_refl _), hv]; rfl
theorem gdiv2 {x : Nat} (h : x < 2147483648) : gdiv (x : Int) 2 = ((x / 2 : Nat) : Int) := by
  unfold gdiv
  rw [oi_nat]
  show (nI x / nI 2).toInt = _
  rw [pk_div h (by decide) (by decide)]
  exact nI_toInt (Nat.lt_of_le_of_lt (Nat.div_le_self _ _) h)
theorem m_clashes (h : WF (σ 71)) : f_X7_clashes σ = some ((cls (nS (σ 71)) (Ch (σ 71)) (Ap (σ 71)) : Nat) : Int) := by
  have h8 := h.n8
  have hn := h.n0
  have hq : ∀ k, k ≤ nS (σ 71) → clsum (nS (σ 71)) (Ch (σ 71)) (Ap (σ 71)) k ≤ 64 := fun k hk => Nat.le_trans (clsum_le _ _ _ k) (by have := Nat.mul_le_mul (show k ≤ 8 by omega) h8; omega)
  unfold f_X7_clashes
  refine loop0 (fun m k (v : Int) => f_X7_clashes_L4 σ _ m v (k : Int)) (fun k v => v = ((clsum (nS (σ 71)) (Ch (σ 71)) (Ap (σ 71)) k : Nat) : Int)) (fun r => r = some ((cls (nS (σ 71)) (Ch (σ 71)) (Ap (σ 71)) : Nat) : Int)) (nS (σ 71)) 0 (by omega) ?_ ?_ rfl
  · intro m k v hk hv
    subst hv
    refine Or.inr ⟨_, ?_, rfl⟩
    rw [f_X7_clashes_L4, m_clashesOf h hk]
    simp (disch := omega) only [gnS, gs_chk_t, hn, Option.bind_some]
    rw [if_neg (by omega)]
    rw [clsum_s]
    rfl
  · intro m v hv
    have := hq _ (Nat.le_refl _)
    rw [f_X7_clashes_L4]
    simp (disch := omega) only [gnS, gs_chk_t, hn]
    rw [if_pos (Int.le_refl _), hv, gs_chk0_t (by decide), gdiv2 (by omega)]; rfl
theorem m_isAllowed (h : WF (σ 71)) {s : Nat} (hs : s < nS (σ 71)) {c : Int} (hc : 0 ≤ c ∧ c < 20) : f_X7_isAllowed (s : Int) c σ = some (if alw (nS (σ 71)) (Ch (σ 71)) (Ap (σ 71)) s c then 1 else 0) := by
  have h8 := h.n8
  have hn := h.n0
  let f : Nat → Bool := fun t => decide (Ch (σ 71) t < 0) || decide (Ap (σ 71) s t ≤ (if 0 ≤ Ch (σ 71) t - c then Ch (σ 71) t - c else 0 - (Ch (σ 71) t - c)))
  refine loop0 (fun m k (_ : Unit) => f_X7_isAllowed_L2 σ (s : Int) c m (k : Int)) (fun k _ => ∀ t, t < k → f t = true) (fun r => r = some (if alw (nS (σ 71)) (Ch (σ 71)) (Ap (σ 71)) s c then 1 else 0)) (nS (σ 71)) () (by omega) ?_ ?_ (fun t ht => absurd ht (Nat.not_lt_zero t))
  · intro m k _ hk hv
    have r1 := Ch_rng h k
    have r2 := Ap_rng h s k
    rw [f_X7_isAllowed_L2]
    unfold f_X7_isAllowed_J46
    rw [m_ch h hk]
    simp (disch := omega) only [gnS, gs_chk_t, hn, Option.bind_some]
    rw [if_neg (by omega)]
    by_cases c1 : (k : Int) = (s : Int)
    · rw [if_pos c1]
      refine Or.inr ⟨(), rfl, fun t ht => ?_⟩
      by_cases e : t = k
      · rw [e, show k = s by omega]
        show (_ || decide (Ap (σ 71) s s ≤ _)) = true
        rw [Ap_self, Bool.or_eq_true]
        refine Or.inr (decide_eq_true ?_)
        split <;> omega
      · exact hv t (by omega)
    · rw [if_neg c1]
      by_cases c2 : Ch (σ 71) k < 0
      · rw [if_pos c2]
        refine Or.inr ⟨(), rfl, fun t ht => ?_⟩
        by_cases e : t = k
        · rw [e]
          show (decide _ || _) = true
          rw [decide_eq_true c2]; rfl
        · exact hv t (by omega)
      · rw [if_neg c2, m_apartOf h hs hk (fun e => c1 (by omega))]
        simp only [Option.bind_some]
        rw [gnS (x := Ap (σ 71) s k) (by omega), gabsE (by omega)]
        rw [gnS (x := if 0 ≤ Ch (σ 71) k - c then _ else _) (by split <;> omega)]
        by_cases c3 : Ap (σ 71) s k ≤ (if 0 ≤ Ch (σ 71) k - c then Ch (σ 71) k - c else 0 - (Ch (σ 71) k - c))
        · rw [if_pos c3]
          refine Or.inr ⟨(), rfl, fun t ht => ?_⟩
          by_cases e : t = k
          · rw [e]
            show (_ || decide _) = true
            rw [decide_eq_true c3, Bool.or_true]
          · exact hv t (by omega)
        · rw [if_neg c3]
          refine Or.inl ?_
          have e : f k = false := by
            show (decide _ || decide _) = false
            rw [decide_eq_false c2, decide_eq_false c3]; rfl
          rw [show alw (nS (σ 71)) (Ch (σ 71)) (Ap (σ 71)) s c = false from aN_false hk e]
          rfl
  · intro m _ hv
    rw [f_X7_isAllowed_L2]
    simp (disch := omega) only [gnS, gs_chk_t, hn]
    rw [if_pos (Int.le_refl _), show alw (nS (σ 71)) (Ch (σ 71)) (Ap (σ 71)) s c = true from aN_iff.mpr hv]
    rfl
theorem m_allowed (h : WF (σ 71)) {s : Nat} (hs : s < nS (σ 71)) {w : Nat} (hw : w ≤ 20) : f_X7_allowed (s : Int) (w : Int) σ = some ((alC (nS (σ 71)) (Ch (σ 71)) (Ap (σ 71)) s w : Nat) : Int) := by
  have h8 := h.n8
  refine loop0 (fun m k (v : Int) => f_X7_allowed_L5 σ (s : Int) (w : Int) m v (k : Int)) (fun k v => v = ((alC (nS (σ 71)) (Ch (σ 71)) (Ap (σ 71)) s k : Nat) : Int)) (fun r => r = some ((alC (nS (σ 71)) (Ch (σ 71)) (Ap (σ 71)) s w : Nat) : Int)) w 0 (by omega) ?_ ?_ rfl
  · intro m k v hk hv
    subst hv
    refine Or.inr ⟨_, ?_, rfl⟩
    rw [f_X7_allowed_L5]
    unfold f_X7_allowed_J27
    rw [m_isAllowed h hs (by omega)]
    simp (disch := omega) only [gnS, Option.bind_some]
    rw [if_neg (by omega)]
    unfold alC
    rw [cN_s]
    cases alw (nS (σ 71)) (Ch (σ 71)) (Ap (σ 71)) s (k : Int) <;> rfl
  · intro m v hv
    rw [f_X7_allowed_L5]
    simp (disch := omega) only [gnS]
    rw [if_pos (Int.le_refl _), hv]
theorem m_leastAllowed (h : WF (σ 71)) {s : Nat} (hs : s < nS (σ 71)) : f_X7_leastAllowed (s : Int) σ = some (alF (nS (σ 71)) (Ch (σ 71)) (Ap (σ 71)) s) := by
  have h8 := h.n8
  let f : Nat → Bool := fun k => alw (nS (σ 71)) (Ch (σ 71)) (Ap (σ 71)) s (k : Int)
  refine loop0 (fun m k (_ : Unit) => f_X7_leastAllowed_L2 σ (s : Int) m (k : Int)) (fun k _ => ∀ t, t < k → f t = false) (fun r => r = some (alF (nS (σ 71)) (Ch (σ 71)) (Ap (σ 71)) s)) 20 () (by omega) ?_ ?_ (fun t ht => absurd ht (Nat.not_lt_zero t))
  · intro m k _ hk hv
    rw [f_X7_leastAllowed_L2, m_isAllowed h hs (by omega)]
    simp (disch := omega) only [gnS, Option.bind_some]
    rw [if_neg (by omega)]
    cases e : alw (nS (σ 71)) (Ch (σ 71)) (Ap (σ 71)) s (k : Int) with
    | true =>
      refine Or.inl ?_
      rw [if_neg (by decide)]
      have : fN f 20 = some k := fN_some ⟨hk, e, hv⟩
      unfold alF
      rw [this]; rfl
    | false =>
      refine Or.inr ⟨(), ?_, fun t ht => ?_⟩
      · rw [if_pos (by decide)]; rfl
      · by_cases q : t = k
        · rw [q]; exact e
        · exact hv t (by omega)
  · intro m _ hv
    rw [f_X7_leastAllowed_L2, if_pos (by decide +kernel)]
    have : fN f 20 = none := fN_none.mpr hv
    unfold alF
    rw [this]; rfl
theorem m_apartMany (h : WF (σ 71)) {s : Nat} (hs : s < nS (σ 71)) : f_X7_apartMany (s : Int) σ = some ((apM (nS (σ 71)) (Ap (σ 71)) s : Nat) : Int) := by
  have h8 := h.n8
  have hn := h.n0
  refine loop0 (fun m k (v : Int) => f_X7_apartMany_L4 σ (s : Int) m v (k : Int)) (fun k v => v = ((apM k (Ap (σ 71)) s : Nat) : Int)) (fun r => r = some ((apM (nS (σ 71)) (Ap (σ 71)) s : Nat) : Int)) (nS (σ 71)) 0 (by omega) ?_ ?_ rfl
  · intro m k v hk hv
    subst hv
    have r2 := Ap_rng h s k
    refine Or.inr ⟨_, ?_, rfl⟩
    rw [f_X7_apartMany_L4]
    unfold f_X7_apartMany_J33 f_X7_apartMany_J34
    simp (disch := omega) only [gnS, gs_chk_t, hn]
    rw [if_neg (by omega)]
    unfold apM
    rw [cN_s]
    by_cases c1 : (k : Int) = (s : Int)
    · have e : k = s := by omega
      rw [if_pos c1, e, Ap_self]; rfl
    · rw [if_neg c1, m_apartOf h hs hk (fun e => c1 (by omega))]
      simp (disch := omega) only [gnS, Option.bind_some]
      by_cases c2 : Ap (σ 71) s k ≤ 0
      · rw [if_pos c2, if_neg (by simp only [decide_eq_true_eq]; omega)]; rfl
      · rw [if_neg c2, if_pos (by simp only [decide_eq_true_eq]; omega)]; rfl
  · intro m v hv
    rw [f_X7_apartMany_L4]
    simp (disch := omega) only [gnS, gs_chk_t, hn]
    rw [if_pos (Int.le_refl _), hv]
end
