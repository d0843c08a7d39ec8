/-! ===== the planes' readers ===== -/
def PlA (σ : gs_Mem) (r n : Nat) (c : Nat → Int) (A : Nat → Nat → Int) : Prop := σ r 9 = (n : Int) ∧ (∀ s, s < n → σ (r + 3) s = c s) ∧ (∀ a b, a < n → b < n → σ (r + 6) (8 * a + b) = A a b)
def RgA (n : Nat) (c : Nat → Int) (A : Nat → Nat → Int) : Prop := n ≤ 8 ∧ (∀ s, -1 ≤ c s ∧ c s ≤ 19) ∧ (∀ a b, 0 ≤ A a b ∧ A a b ≤ 4) ∧ (∀ a, A a a = 0) ∧ (∀ a b, A a b = A b a)
theorem WF.rg {p : Nat → Int} (h : WF p) : RgA (nS p) (Ch p) (Ap p) := ⟨h.n8, Ch_rng h, Ap_rng h, Ap_self p, Ap_comm p⟩
def ab (x : Int) : Int := if 0 ≤ x then x else 0 - x
def bndN (c g : Nat) : Nat := if g = 0 then 0 else (2 ^ (2 * g - 1) - 1) * 2 ^ c / 2 ^ (g - 1)
theorem bnd1 : ∀ c : Nat, c < 20 → ∀ g : Nat, g < 5 → g ≠ 0 → gshr (gshl ((gshl 1 ((2 * (g : Int)) - 1)) - 1) (c : Int)) ((g : Int) - 1) = ((bndN c g : Nat) : Int) := by decide +kernel
theorem bnd2 : ∀ c : Nat, c < 20 → ∀ g : Nat, g < 5 → bndN c g < 8388608 ∧ ∀ k : Nat, k < 20 → (bndN c g).testBit k = decide (ab ((c : Int) - (k : Int)) < (g : Int)) := by decide +kernel
section
variable {σ : gs_Mem}
theorem band_spec {c g : Int} (hc : -1 ≤ c ∧ c ≤ 19) (hg : 0 ≤ g ∧ g ≤ 4) : ∃ B : Nat, f_X6_band c g σ = some (B : Int) ∧ B < 8388608 ∧ ∀ k : Nat, k < 20 → B.testBit k = (decide (0 ≤ c) && decide (ab (c - (k : Int)) < g)) := by
  unfold f_X6_band
  rw [gnS (x := c) (by omega), gnS (x := g) (by omega)]
  by_cases c1 : c < 0
  · rw [if_pos c1]
    refine ⟨0, rfl, by decide, fun k hk => ?_⟩
    rw [decide_eq_false (by omega : ¬ 0 ≤ c), Nat.zero_testBit]; rfl
  · rw [if_neg c1, decide_eq_true (by omega : 0 ≤ c)]
    by_cases c2 : 0 < g
    · rw [if_pos c2]
      obtain ⟨g', rfl⟩ : ∃ g' : Nat, g = g' := ⟨g.toNat, by omega⟩
      obtain ⟨c', rfl⟩ : ∃ c' : Nat, c = c' := ⟨c.toNat, by omega⟩
      obtain ⟨q1, q2⟩ := bnd2 c' (by omega) g' (by omega)
      refine ⟨bndN c' g', ?_, q1, fun k hk => ?_⟩
      · rw [bnd1 c' (by omega) g' (by omega) (by omega)]
      · rw [q2 k hk, Bool.true_and]
    · rw [if_neg c2]
      refine ⟨0, rfl, by decide, fun k hk => ?_⟩
      rw [Nat.zero_testBit, Bool.true_and, decide_eq_false]
      unfold ab
      split <;> omega
variable {r n : Nat} {c : Nat → Int} {A : Nat → Nat → Int}
theorem i_has (hz : σ r 9 = (n : Int)) (h8 : n ≤ 8) (v : Int) : f_X0_has r v σ = some (if 0 ≤ gn v ∧ gn v < (n : Int) then 1 else 0) := by
  unfold f_X0_has
  rw [hz, gnS (x := (n : Int)) (by omega)]
  by_cases c1 : gn v < 0
  · rw [if_pos c1, if_neg (by omega)]
  · rw [if_neg c1]
    by_cases c2 : (n : Int) ≤ gn v
    · rw [if_pos c2, if_neg (by omega)]
    · rw [if_neg c2, if_pos (by omega)]
theorem i_has_s (hz : σ r 9 = (n : Int)) (h8 : n ≤ 8) {s : Nat} (hs : s < n) : f_X0_has r (s : Int) σ = some 1 := by
  rw [i_has hz h8, gnS (by omega), if_pos (by omega)]
theorem i_ch (hp : PlA σ r n c A) (hg : RgA n c A) {s : Nat} (hs : s < n) : f_X0_channelOf r (s : Int) σ = some (c s) := by
  have h8 := hg.1
  unfold f_X0_channelOf
  rw [i_has_s hp.1 h8 hs]
  simp (disch := omega) only [Option.bind_some, gnS, gs_chk_t, t1]
  rw [if_neg (by decide), hp.2.1 s hs]
theorem i_between (hp : PlA σ r n c A) (hg : RgA n c A) {a b : Nat} (ha : a < n) (hb : b < n) : f_X0_between r (a : Int) (b : Int) σ = some (A a b) := by
  have h8 := hg.1
  unfold f_X0_between
  rw [hp.1]
  simp (disch := omega) only [gnS, gs_chk_t, t8]
  rw [if_neg (by omega), if_neg (by omega), if_neg (by omega), if_neg (by omega), hp.2.2 a b ha hb]
theorem full20 : ∀ k : Nat, k < 20 → Nat.testBit 1048575 k = true := by decide +kernel
theorem i_allowedFor (hp : PlA σ r n c A) (hg : RgA n c A) {s : Nat} (hs : s < n) : ∃ M : Nat, f_X0_allowedFor r (s : Int) σ = some (M : Int) ∧ M < 1048576 ∧ ∀ k : Nat, k < 20 → M.testBit k = alw n c A s (k : Int) := by
  have h8 := hg.1
  let f : Nat → Nat → Bool := fun k t => decide (c t < 0) || decide (A s t ≤ (if 0 ≤ c t - (k : Int) then c t - (k : Int) else 0 - (c t - (k : Int))))
  refine loop0 (fun m k (v : Int) => f_X0_allowedFor_L5 σ r (s : Int) m v (k : Int)) (fun j v => ∃ M : Nat, v = (M : Int) ∧ M < 1048576 ∧ ∀ k : Nat, k < 20 → M.testBit k = aN (f k) j) (fun q => ∃ M : Nat, q = some (M : Int) ∧ M < 1048576 ∧ ∀ k : Nat, k < 20 → M.testBit k = alw n c A s (k : Int)) n 1048575 (by omega) ?_ ?_ ⟨1048575, rfl, by decide, full20⟩
  · intro m j v hj ⟨M, hv, hM, hb⟩
    subst hv
    have q1 := hg.2.1 j
    have q2 := hg.2.2.1 s j
    obtain ⟨B, e, hB, hbB⟩ := band_spec (σ := σ) q1 q2
    refine Or.inr ⟨((andn M B : Nat) : Int), ?_, andn M B, rfl, Nat.lt_of_le_of_lt (andn_le M B) hM, fun k hk => ?_⟩
    · rw [f_X0_allowedFor_L5, i_between hp hg hs hj, hp.1]
      simp (disch := omega) only [gnS, gs_chk_t, t1, Option.bind_some]
      rw [if_neg (by omega), hp.2.1 j hj, e]
      simp only [Option.bind_some]
      rw [gandn_nat (by omega)]; rfl
    · rw [andn_bit (by omega), hb k hk, hbB k hk]
      show _ = (aN (f k) j && f k j)
      congr 1
      show _ = (decide (c j < 0) || decide (A s j ≤ ab (c j - (k : Int))))
      by_cases d1 : 0 ≤ c j <;> by_cases d2 : ab (c j - (k : Int)) < A s j
      · rw [decide_eq_true d1, decide_eq_true d2, decide_eq_false (by omega), decide_eq_false (by omega)]; rfl
      · rw [decide_eq_true d1, decide_eq_false d2, decide_eq_true (by omega : A s j ≤ _), Bool.or_true]; rfl
      · rw [decide_eq_false d1, decide_eq_true (by omega : c j < 0)]; rfl
      · rw [decide_eq_false d1, decide_eq_true (by omega : c j < 0)]; rfl
  · intro m v ⟨M, hv, hM, hb⟩
    subst hv
    refine ⟨M, ?_, hM, hb⟩
    rw [f_X0_allowedFor_L5, hp.1]
    simp (disch := omega) only [gnS]
    rw [if_pos (Int.le_refl _)]
theorem popc_alw {M : Nat} (hM : M < 1048576) {s : Nat} (hb : ∀ k : Nat, k < 20 → M.testBit k = alw n c A s (k : Int)) : popc M = alC n c A s 20 := by
  rw [popc_cN 20 (by decide) hM]
  exact cN_congr 20 hb
theorem leastOf_spec {M : Nat} (hM : M < 1048576) : f_X6_leastOf (M : Int) σ = some (foundOr (fN (fun k => M.testBit k) 20)) := by
  refine loop0 (fun m k (_ : Unit) => f_X6_leastOf_L2 σ (M : Int) m (k : Int)) (fun k _ => ∀ t, t < k → M.testBit t = false) (fun q => q = some (foundOr (fN (fun k => M.testBit k) 20))) 20 () (by omega) ?_ ?_ (fun t ht => absurd ht (Nat.not_lt_zero t))
  · intro m k _ hk hv
    rw [f_X6_leastOf_L2]
    simp (disch := omega) only [gnS]
    rw [if_neg (by omega), gbit (by omega) (by omega)]
    cases e : M.testBit k with
    | true =>
      refine Or.inl ?_
      rw [if_pos rfl, if_pos rfl, fN_some ⟨hk, e, hv⟩]; rfl
    | false =>
      refine Or.inr ⟨(), rfl, fun t ht => ?_⟩
      by_cases q : t = k
      · rw [q]; exact e
      · exact hv t (by omega)
  · intro m _ hv
    rw [f_X6_leastOf_L2, if_pos (by decide +kernel), fN_none.mpr hv]; rfl
theorem leastOf_alw {M : Nat} (hM : M < 1048576) {s : Nat} (hb : ∀ k : Nat, k < 20 → M.testBit k = alw n c A s (k : Int)) : f_X6_leastOf (M : Int) σ = some (alF n c A s) := by
  rw [leastOf_spec hM]
  unfold alF
  rw [fN_congr 20 hb]
theorem clash_ab (s t : Nat) : clash c A s t = (decide (0 ≤ c s) && decide (0 ≤ c t) && decide (ab (c s - c t) < A s t)) := rfl
theorem ab_comm (x y : Int) : ab (x - y) = ab (y - x) := by
  unfold ab
  split <;> split <;> omega
theorem i_clashesOf (hp : PlA σ r n c A) (hg : RgA n c A) {s : Nat} (hs : s < n) : f_X0_clashesOf r (s : Int) σ = some ((clo n c A s : Nat) : Int) := by
  have h8 := hg.1
  have q0 := hg.2.1 s
  unfold f_X0_clashesOf
  rw [i_ch hp hg hs]
  simp (disch := omega) only [gnS, Option.bind_some]
  by_cases c1 : c s = -1
  · rw [if_pos c1]
    have : clo n c A s = 0 := by
      have e : clo n c A s = cN (fun _ => false) n := cN_congr n (fun t _ => by rw [clash_ab, decide_eq_false (by omega : ¬ 0 ≤ c s)]; rfl)
      have z : ∀ k, cN (fun _ => false) k = 0 := fun k => by
        induction k with
        | zero => rfl
        | succ k ih => rw [cN_s, ih]; rfl
      rw [e, z]
    rw [this]; rfl
  · rw [if_neg c1]
    obtain ⟨d, hd⟩ : ∃ d : Nat, c s = d := ⟨(c s).toNat, by omega⟩
    rw [hd]
    refine loop0 (fun m k (v : Int) => f_X0_clashesOf_L18 σ r (s : Int) (d : Int) m v (k : Int)) (fun k v => v = ((cN (clash c A s) k : Nat) : Int)) (fun q => q = some ((clo n c A s : Nat) : Int)) n 0 (by omega) ?_ ?_ rfl
    · intro m j v hj hv
      subst hv
      have q1 := hg.2.1 j
      have q2 := hg.2.2.1 s j
      obtain ⟨B, e, hB, hbB⟩ := band_spec (σ := σ) q1 q2
      refine Or.inr ⟨_, ?_, rfl⟩
      rw [f_X0_clashesOf_L18, i_between hp hg hs hj, hp.1]
      simp (disch := omega) only [gnS, gs_chk_t, t1, Option.bind_some]
      rw [if_neg (by omega), hp.2.1 j hj, e]
      simp only [Option.bind_some]
      rw [gbit (by omega) (by omega), hbB d (by omega), cN_s, clash_ab, decide_eq_true (by omega : 0 ≤ c s), ab_comm (c s), hd, Bool.true_and]
      cases (decide (0 ≤ c j) && decide (ab (c j - (d : Int)) < A s j)) <;> rfl
    · intro m v hv
      rw [f_X0_clashesOf_L18, hp.1]
      simp (disch := omega) only [gnS]
      rw [if_pos (Int.le_refl _), hv]; rfl
theorem i_clashes (hp : PlA σ r n c A) (hg : RgA n c A) : f_X0_clashes r σ = some ((cls n c A : Nat) : Int) := by
  have h8 := hg.1
  have hq : ∀ k, k ≤ n → clsum n c A k ≤ 64 := fun k hk => Nat.le_trans (clsum_le _ _ _ k) (by have := Nat.mul_le_mul (show k ≤ 8 by omega) h8; omega)
  unfold f_X0_clashes
  refine loop0 (fun m k (v : Int) => f_X0_clashes_L4 σ r _ m v (k : Int)) (fun k v => v = ((clsum n c A k : Nat) : Int)) (fun q => q = some ((cls n c A : Nat) : Int)) n 0 (by omega) ?_ ?_ rfl
  · intro m k v hk hv
    subst hv
    refine Or.inr ⟨_, ?_, rfl⟩
    rw [f_X0_clashes_L4, i_clashesOf hp hg hk, hp.1]
    simp (disch := omega) only [gnS, Option.bind_some]
    rw [if_neg (by omega), clsum_s]
    rfl
  · intro m v hv
    have := hq _ (Nat.le_refl _)
    rw [f_X0_clashes_L4, hp.1]
    simp (disch := omega) only [gnS]
    rw [if_pos (Int.le_refl _), hv, gs_chk0_t (by decide), gdiv2 (by omega)]; rfl
end
