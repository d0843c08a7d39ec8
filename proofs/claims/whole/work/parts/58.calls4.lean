/-! ===== sorted, looked, count ===== -/
section
variable {σ : gs_Mem}
theorem m_sorted_in (h : WF (σ 71)) (v k : Int) (K : Int → Option Int) (a0 : Int) : (∃ a, f_X7_sorted_L19 σ v k K gs_fuel a0 0 = K a) ∨ (∃ s : Nat, f_X7_sorted_L19 σ v k K gs_fuel a0 0 = some (s : Int)) := by
  have h8 := h.n8
  have hn := h.n0
  refine loop0 (fun m t (a : Int) => f_X7_sorted_L19 σ v k K m a (t : Int)) (fun _ _ => True) (fun q => (∃ a, q = K a) ∨ (∃ s : Nat, q = some (s : Int))) (nS (σ 71)) a0 (by omega) ?_ ?_ trivial
  · intro m t a ht _
    rw [f_X7_sorted_L19, m_ch h ht]
    unfold f_X7_sorted_J51
    simp (disch := omega) only [gs_chk_t, hn, Option.bind_some, gnS (x := (nS (σ 71) : Int)), gnS (x := (t : Int))]
    rw [if_neg (by omega)]
    by_cases c1 : gn (Ch (σ 71) t) = gn k
    · rw [if_pos c1]
      by_cases c2 : gn a = gn v
      · rw [if_pos c2]; exact Or.inl (Or.inr ⟨t, rfl⟩)
      · rw [if_neg c2]; exact Or.inr ⟨_, rfl, trivial⟩
    · rw [if_neg c1]; exact Or.inr ⟨_, rfl, trivial⟩
  · intro m a _
    rw [f_X7_sorted_L19]
    simp (disch := omega) only [gs_chk_t, hn, gnS]
    rw [if_pos (Int.le_refl _)]
    exact Or.inl ⟨a, rfl⟩
theorem m_sorted_ex (h : WF (σ 71)) (v : Int) : ∃ u, f_X7_sorted_L10 σ v gs_fuel 0 0 = some u := by
  refine loop0 (fun m t (a : Int) => f_X7_sorted_L10 σ v m a (t : Int)) (fun _ _ => True) (fun q => ∃ u, q = some u) 20 0 (by decide) ?_ ?_ trivial
  · intro m t a ht _
    rw [f_X7_sorted_L10, gnS (by omega), if_neg (by omega)]
    rcases m_sorted_in h v (t : Int) (fun w2 => f_X7_sorted_L10 σ v m w2 ((t : Int) + 1)) a with ⟨b, e⟩ | ⟨s, e⟩
    · exact Or.inr ⟨b, e, trivial⟩
    · exact Or.inl ⟨_, e⟩
  · intro m a _
    rw [f_X7_sorted_L10, if_pos (by decide +kernel)]
    exact ⟨_, rfl⟩
theorem sort_in (h : WF (σ 71)) {r : Nat} (hp : PlA σ r (nS (σ 71)) (Ch (σ 71)) (Ap (σ 71))) (v k : Int) (K K' : Int → Option Int) (hK : ∀ a, K a = K' a) : ∀ m t a, t ≤ nS (σ 71) → f_X7_sorted_L19 σ v k K m a ((t : Nat) : Int) = f_X0_rankedAt_L13 σ r v k K' m a ((t : Nat) : Int)
  | 0, _, _, _ => rfl
  | m + 1, t, a, ht => by
    have h8 := h.n8
    have hn := h.n0
    rw [f_X7_sorted_L19, f_X0_rankedAt_L13, hp.1]
    simp (disch := omega) only [gs_chk_t, hn, gnS (x := (nS (σ 71) : Int)), gnS (x := (t : Int))]
    by_cases c0 : (nS (σ 71) : Int) ≤ (t : Int)
    · rw [if_pos c0, if_pos c0, hK]
    · have lt : t < nS (σ 71) := by omega
      rw [if_neg c0, if_neg c0, m_ch h lt, Option.bind_some]
      simp (disch := omega) only [gs_chk_t, t1]
      simp only [hp.2.1 t lt]
      unfold f_X7_sorted_J51 f_X0_rankedAt_J44
      have ih := fun b => sort_in h hp v k K K' hK m (t + 1) b lt
      rw [show ((t : Int) + 1) = ((t + 1 : Nat) : Int) from rfl, ih, ih]
theorem sort_out (h : WF (σ 71)) {r : Nat} (hp : PlA σ r (nS (σ 71)) (Ch (σ 71)) (Ap (σ 71))) (v : Int) : ∀ m (t : Nat) (a : Int), f_X7_sorted_L10 σ v m a (t : Int) = f_X0_rankedAt_L4 σ r v m a (t : Int)
  | 0, _, _ => rfl
  | m + 1, t, a => by
    rw [f_X7_sorted_L10, f_X0_rankedAt_L4]
    by_cases c : 20 ≤ gn (t : Int)
    · rw [if_pos c, if_pos c]
    · rw [if_neg c, if_neg c]
      exact sort_in h hp v (t : Int) _ _ (fun w => sort_out h hp v m (t + 1) w) gs_fuel 0 a (Nat.zero_le _)
theorem l_sorted (h : Rel σ) (v : Int) : Same (f_X6_sorted v σ) (f_X7_sorted v σ) := by
  unfold f_X6_sorted f_X7_sorted
  by_cases c : 0 ≤ gn v
  · rw [if_pos c, if_pos c]
    obtain ⟨u, e⟩ := m_sorted_ex h.1.1 v
    have q := sort_out h.1.1 (h.1.2.pa h.1.1) v gs_fuel 0 0
    refine ⟨u, ?_, e⟩
    unfold f_X0_rankedAt
    have q' : f_X0_rankedAt_L4 σ 2 v gs_fuel 0 0 = some u := q.symm.trans e
    rw [q', Option.bind_some]
  · rw [if_neg c, if_neg c]
    exact ⟨_, rfl, rfl⟩
theorem i_first {r b : Nat} {cnt : Int} {p : Nat → Int} (hr : RwR σ r b cnt p) (hc : 0 ≤ cnt ∧ cnt ≤ 8) {k : Nat} (hk : (k : Int) < cnt) : f_X1_first r (k : Int) σ = some (p (b + 2 * k)) ∧ f_X1_second r (k : Int) σ = some (p (b + 1 + 2 * k)) := by
  unfold f_X1_first f_X1_second
  rw [hr.1]
  simp (disch := omega) only [gnS, gs_chk_t, t1]
  rw [if_neg (by omega), if_neg (by omega), if_neg (by omega), if_neg (by omega), (hr.2 k hk).1, (hr.2 k hk).2]
  exact ⟨rfl, rfl⟩
/-- the first row whose station's channel is not the row's -/
def othF (p : Nat → Int) (b : Nat) (c : Nat → Int) (k : Nat) : Bool := !decide (c (p (b + 2 * k)).toNat = p (b + 1 + 2 * k))
def oth (p : Nat → Int) (b : Nat) (c : Nat → Int) (cnt : Int) : Int := foundOr (fN (othF p b c) cnt.toNat)
theorem i_oth {r u b n : Nat} {cnt : Int} {p c : Nat → Int} {A : Nat → Nat → Int} (hr : RwR σ u b cnt p) (hc : 0 ≤ cnt ∧ cnt ≤ 8) (hp : PlA σ r n c A) (hg : RgA n c A) (hb : ∀ k : Nat, (k : Int) < cnt → (0 ≤ p (b + 2 * k) ∧ p (b + 2 * k) < (n : Int)) ∧ (-1 ≤ p (b + 1 + 2 * k) ∧ p (b + 1 + 2 * k) ≤ 19)) : f_X6_firstOtherwise u r σ = some (oth p b c cnt) := by
  refine loop0 (fun m k (_ : Unit) => f_X6_firstOtherwise_L2 σ u r m (k : Int)) (fun k _ => ∀ t, t < k → othF p b c t = false) (fun q => q = some (oth p b c cnt)) cnt.toNat () (by omega) ?_ ?_ (fun t ht => absurd ht (Nat.not_lt_zero t))
  · intro m k _ hk hv
    have hk' : (k : Int) < cnt := by omega
    have q := hb k hk'
    obtain ⟨s, hs, hsn⟩ := nat_of q.1
    have q1 := hg.2.1 s
    have e := i_ch hp hg hsn
    rw [f_X6_firstOtherwise_L2]
    unfold f_X1_size
    rw [hr.1, Option.bind_some, gnS (by omega), gnS (by omega), if_neg (by omega), (i_first hr hc hk').1, Option.bind_some, hs, e, Option.bind_some, (i_first hr hc hk').2, Option.bind_some]
    rw [gnS (x := c s) (by omega), gnS (x := p (b + 1 + 2 * k)) (by omega)]
    have ef : othF p b c k = !decide (c s = p (b + 1 + 2 * k)) := by unfold othF; rw [hs]; rfl
    by_cases d : c s = p (b + 1 + 2 * k)
    · rw [if_pos d]
      refine Or.inr ⟨(), rfl, fun t ht => ?_⟩
      by_cases z : t = k
      · rw [z, ef, decide_eq_true d]; rfl
      · exact hv t (by omega)
    · rw [if_neg d]
      refine Or.inl ?_
      unfold oth
      rw [fN_some ⟨hk, by rw [ef, decide_eq_false d]; rfl, hv⟩]; rfl
  · intro m _ hv
    rw [f_X6_firstOtherwise_L2]
    unfold f_X1_size
    rw [hr.1, Option.bind_some, gnS (by omega), gnS (by omega), if_pos (by omega)]
    unfold oth
    rw [fN_none.mpr hv]; rfl
theorem t42 (k : Nat) : (42 + 2 * (k : Int)).toNat = 42 + 2 * k := by omega
theorem t43 (k : Nat) : (42 + 2 * (k : Int) + 1).toNat = 43 + 2 * k := by omega
theorem t52 (k : Nat) : (52 + 2 * (k : Int)).toNat = 52 + 2 * k := by omega
theorem t53 (k : Nat) : (52 + 2 * (k : Int) + 1).toNat = 53 + 2 * k := by omega
theorem t68 (k : Nat) : (68 + 2 * (k : Int)).toNat = 68 + 2 * k := by omega
theorem t69 (k : Nat) : (68 + 2 * (k : Int) + 1).toNat = 69 + 2 * k := by omega
theorem m_looked (h : WF (σ 71)) (hr : WFr (σ 71)) : f_X7_looked σ = some (oth (σ 71) 68 (Ch (σ 71)) (σ 71 3)) := by
  have h8 := h.n8
  have h3 := hr.2.2.1
  refine loop0 (fun m k (_ : Unit) => f_X7_looked_L2 σ m (k : Int)) (fun k _ => ∀ t, t < k → othF (σ 71) 68 (Ch (σ 71)) t = false) (fun q => q = some (oth (σ 71) 68 (Ch (σ 71)) (σ 71 3))) (σ 71 3).toNat () (by omega) ?_ ?_ (fun t ht => absurd ht (Nat.not_lt_zero t))
  · intro m k _ hk hv
    have hk' : (k : Int) < σ 71 3 := by omega
    have q := hr.2.2.2 k hk'
    obtain ⟨s, hs, hsn⟩ := nat_of q.1
    have q1 := Ch_rng h s
    rw [f_X7_looked_L2]
    simp (disch := omega) only [gnS (x := σ 71 3), gnS (x := (k : Int)), gnS (x := 68 + 2 * (k : Int)), gnS (x := 68 + 2 * (k : Int) + 1), gs_chk_t, t68, t69]
    rw [if_neg (by omega), hs, m_ch h hsn, Option.bind_some, gnS (x := Ch (σ 71) s) (by omega), gnS (x := σ 71 (69 + 2 * k)) (by omega)]
    have ef : othF (σ 71) 68 (Ch (σ 71)) k = !decide (Ch (σ 71) s = σ 71 (69 + 2 * k)) := by unfold othF; rw [hs]; rfl
    by_cases d : Ch (σ 71) s = σ 71 (69 + 2 * k)
    · rw [if_pos d]
      refine Or.inr ⟨(), rfl, fun t ht => ?_⟩
      by_cases z : t = k
      · rw [z, ef, decide_eq_true d]; rfl
      · exact hv t (by omega)
    · rw [if_neg d]
      refine Or.inl ?_
      unfold oth
      rw [fN_some ⟨hk, by rw [ef, decide_eq_false d]; rfl, hv⟩]; rfl
  · intro m _ hv
    rw [f_X7_looked_L2]
    simp (disch := omega) only [gnS, gs_chk_t]
    rw [if_pos (by omega)]
    unfold oth
    rw [fN_none.mpr hv]; rfl
theorem l_looked (h : Rel σ) : Same (f_X6_looked σ) (f_X7_looked σ) := by
  obtain ⟨hr, hw, -⟩ := h.2.1
  unfold f_X6_looked
  rw [i_oth hw.2.2 hr.2.2.1 (h.1.2.pa h.1.1) h.1.1.rg (fun k hk => by have := hr.2.2.2 k hk; exact this), Option.bind_some, m_looked h.1.1 hr]
  exact ⟨_, rfl, rfl⟩
theorem m_isSeen (h : WF (σ 71)) (hr : WFr (σ 71)) : f_X7_isSeen σ = some (if oth (σ 71) 42 (Ch (σ 71)) (σ 71 1) = -5 then 1 else 0) := by
  have h8 := h.n8
  have h3 := hr.1.1
  refine loop0 (fun m k (_ : Unit) => f_X7_isSeen_L2 σ m (k : Int)) (fun k _ => ∀ t, t < k → othF (σ 71) 42 (Ch (σ 71)) t = false) (fun q => q = some (if oth (σ 71) 42 (Ch (σ 71)) (σ 71 1) = -5 then 1 else 0)) (σ 71 1).toNat () (by omega) ?_ ?_ (fun t ht => absurd ht (Nat.not_lt_zero t))
  · intro m k _ hk hv
    have hk' : (k : Int) < σ 71 1 := by omega
    have q := hr.1.2 k hk'
    obtain ⟨s, hs, hsn⟩ := nat_of q.1
    have q1 := Ch_rng h s
    rw [f_X7_isSeen_L2]
    simp (disch := omega) only [gnS (x := σ 71 1), gnS (x := (k : Int)), gnS (x := 42 + 2 * (k : Int)), gnS (x := 42 + 2 * (k : Int) + 1), gs_chk_t, t42, t43]
    rw [if_neg (by omega), hs, m_ch h hsn, Option.bind_some, gnS (x := Ch (σ 71) s) (by omega), gnS (x := σ 71 (43 + 2 * k)) (by omega)]
    have ef : othF (σ 71) 42 (Ch (σ 71)) k = !decide (Ch (σ 71) s = σ 71 (43 + 2 * k)) := by unfold othF; rw [hs]; rfl
    by_cases d : Ch (σ 71) s = σ 71 (43 + 2 * k)
    · rw [if_pos d]
      refine Or.inr ⟨(), rfl, fun t ht => ?_⟩
      by_cases z : t = k
      · rw [z, ef, decide_eq_true d]; rfl
      · exact hv t (by omega)
    · rw [if_neg d]
      refine Or.inl ?_
      unfold oth
      rw [fN_some ⟨hk, by rw [ef, decide_eq_false d]; rfl, hv⟩, if_neg]
      show ¬ (k : Int) = -5
      omega
  · intro m _ hv
    rw [f_X7_isSeen_L2]
    simp (disch := omega) only [gnS, gs_chk_t]
    rw [if_pos (by omega)]
    unfold oth
    rw [fN_none.mpr hv]; rfl
end
