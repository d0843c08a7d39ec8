/-! ===== the widths' cliques ===== -/
theorem PlA_rows {σ σ' : gs_Mem} {r n : Nat} {c : Nat → Int} {A : Nat → Nat → Int} (hp : PlA σ r n c A) (h0 : σ' r = σ r) (h3 : σ' (r + 3) = σ (r + 3)) (h6 : σ' (r + 6) = σ (r + 6)) : PlA σ' r n c A := by
  unfold PlA
  rw [h0, h3, h6]
  exact hp
theorem i_size {σ : gs_Mem} {r n : Nat} {c : Nat → Int} {A : Nat → Nat → Int} (hp : PlA σ r n c A) : f_X0_size r σ = some (n : Int) := by
  unfold f_X0_size; rw [hp.1]
/-- the stations that lie at least g from s, and s: of the first k -/
def frN (A : Nat → Nat → Int) (g : Int) (s : Nat) : Nat → Nat
  | 0 => 2 ^ s
  | k + 1 => frN A g s k ||| (if A s k < g then 0 else 2 ^ k)
theorem frN_s (A : Nat → Nat → Int) (g : Int) (s k : Nat) : frN A g s (k + 1) = frN A g s k ||| (if A s k < g then 0 else 2 ^ k) := rfl
theorem frN_bit (A : Nat → Nat → Int) (g : Int) (s b : Nat) : ∀ k, (frN A g s k).testBit b = true ↔ (b = s ∨ (b < k ∧ g ≤ A s b))
  | 0 => by
    rw [show frN A g s 0 = 2 ^ s from rfl, Nat.testBit_two_pow, decide_eq_true_eq]
    omega
  | k + 1 => by
    rw [frN_s, Nat.testBit_or, Bool.or_eq_true, frN_bit A g s b k]
    have : ((if A s k < g then 0 else 2 ^ k).testBit b = true) ↔ (b = k ∧ g ≤ A s b) := by
      split
      · next h =>
        rw [Nat.zero_testBit]
        exact ⟨fun e => (by cases e), fun ⟨e, f⟩ => by rw [e] at f; omega⟩
      · next h =>
        rw [Nat.testBit_two_pow, decide_eq_true_eq]
        exact ⟨fun e => ⟨e.symm, by rw [← e]; omega⟩, fun e => e.1.symm⟩
    rw [this]
    constructor
    · rintro ((h | h) | h)
      · exact Or.inl h
      · exact Or.inr ⟨by omega, h.2⟩
      · exact Or.inr ⟨by omega, h.2⟩
    · rintro (h | h)
      · exact Or.inl (Or.inl h)
      · by_cases e : b = k
        · exact Or.inr ⟨e, h.2⟩
        · exact Or.inl (Or.inr ⟨by omega, h.2⟩)
theorem frN_lt (A : Nat → Nat → Int) (g : Int) (s : Nat) (hs : s < 8) : ∀ k, k ≤ 8 → frN A g s k < 256
  | 0, _ => Nat.lt_of_lt_of_le (Nat.pow_lt_pow_right (by decide) hs) (by decide : 2 ^ 8 ≤ 256)
  | k + 1, hk => by
    rw [frN_s]
    refine Nat.or_lt_two_pow (n := 8) (frN_lt A g s hs k (by omega)) ?_
    split
    · decide
    · exact Nat.pow_lt_pow_right (by decide) (by omega)
/-- the memory with the friends of the first j stations noted -/
def frW (A : Nat → Nat → Int) (g : Int) (n : Nat) (σ : gs_Mem) : Nat → gs_Mem
  | 0 => σ
  | j + 1 => gs_st (frW A g n σ j) 49 j (frN A g j n : Nat)
theorem frW_s (A : Nat → Nat → Int) (g : Int) (n : Nat) (σ : gs_Mem) (j : Nat) : frW A g n σ (j + 1) = gs_st (frW A g n σ j) 49 j (frN A g j n : Nat) := rfl
theorem frW_row (A : Nat → Nat → Int) (g : Int) (n : Nat) (σ : gs_Mem) {a : Nat} (h : a ≠ 49) : ∀ j, frW A g n σ j a = σ a
  | 0 => rfl
  | j + 1 => by rw [frW_s, gs_st_row _ _ _ _ h, frW_row A g n σ h j]
theorem frW_at (A : Nat → Nat → Int) (g : Int) (n : Nat) (σ : gs_Mem) {s : Nat} : ∀ j, s < j → frW A g n σ j 49 s = (frN A g s n : Nat)
  | 0, h => absurd h (Nat.not_lt_zero s)
  | j + 1, h => by
    rw [frW_s]
    by_cases e : s = j
    · rw [e, gs_st_same]
    · rw [gs_st_slot _ _ _ _ e, frW_at A g n σ j (by omega)]
theorem PlA_49 {σ : gs_Mem} {r n : Nat} {c : Nat → Int} {A : Nat → Nat → Int} (hr : r + 9 < 49) (hp : PlA σ r n c A) {σ' : gs_Mem} (h : ∀ a, a ≠ 49 → σ' a = σ a) : PlA σ' r n c A :=
  PlA_rows hp (h _ (by omega)) (h _ (by omega)) (h _ (by omega))
theorem popc_0 : popc 0 = 0 := by decide +kernel
theorem cbN_one (n : Nat) (A : Nat → Nat → Int) (g : Int) : cbN n A g 1 = 0 := by
  rw [cbN_s, show cbN n A g 0 = 0 from rfl, if_pos (Nat.le_refl _)]
theorem bdN_0 (A : Nat → Nat → Int) : ∀ k, bdN 0 A k = 0
  | 0 => rfl
  | k + 1 => by
    rw [bdN_s, show cbN 0 A ((k + 1 : Nat) : Int) (2 ^ 0) = cbN 0 A ((k + 1 : Nat) : Int) 1 from rfl, cbN_one, popc_0, if_pos rfl, bdN_0 A k]
section
variable {r n : Nat} {c : Nat → Int} {A : Nat → Nat → Int}
theorem i_befriend_in (hr : r + 9 < 49) (hg : RgA n c A) {g : Int} (hgg : 0 ≤ g ∧ g ≤ 5) {s : Nat} (hs : s < n) (K : gs_Mem → Option (Int × gs_Mem)) (σ : gs_Mem) (hp : PlA σ r n c A) : f_X5_befriend_L22 r g (s : Int) K gs_fuel 0 (gs_st σ 49 s ((2 ^ s : Nat) : Int)) = K (gs_st σ 49 s (frN A g s n : Nat)) := by
  have h8 := hg.1
  refine loop0 (fun m k (t : gs_Mem) => f_X5_befriend_L22 r g (s : Int) K m (k : Int) t) (fun k t => t = gs_st σ 49 s (frN A g s k : Nat)) (fun q => q = K (gs_st σ 49 s (frN A g s n : Nat))) n _ (by omega) ?_ ?_ rfl
  · intro m k t hk ht
    subst ht
    have hp' : PlA (gs_st σ 49 s (frN A g s k : Nat)) r n c A := PlA_49 hr hp (fun a ha => gs_st_row _ _ _ _ ha)
    have q1 := hg.2.2.1 s k
    have q2 := frN_lt A g s (by omega) k (by omega)
    refine Or.inr ⟨_, ?_, rfl⟩
    rw [f_X5_befriend_L22, i_size hp', i_between hp' hg hs hk]
    unfold f_X5_befriend_J57
    simp (disch := omega) only [gnS, gs_chk_t, t1, Option.bind_some, gs_st_same, gs_st_st]
    rw [if_neg (by omega), frN_s]
    by_cases d : A s k < g
    · rw [if_pos d, if_pos d, show (0 : Int) = ((0 : Nat) : Int) from rfl, gor_nat (by omega) (by decide)]; rfl
    · rw [if_neg d, if_neg d, gshl_one k (by omega), gor_nat (by omega) (p31 (d := k) (by omega))]; rfl
  · intro m t ht
    subst ht
    have hp' : PlA (gs_st σ 49 s (frN A g s n : Nat)) r n c A := PlA_49 hr hp (fun a ha => gs_st_row _ _ _ _ ha)
    rw [f_X5_befriend_L22, i_size hp', Option.bind_some, gnS (by omega), if_pos (Int.le_refl _)]
theorem i_befriend (hr : r + 9 < 49) (hg : RgA n c A) {g : Int} (hgg : 0 ≤ g ∧ g ≤ 5) (σ : gs_Mem) (hp : PlA σ r n c A) : f_X5_befriend r g σ = some (0, frW A g n σ n) := by
  have h8 := hg.1
  refine loop0 (fun m k (t : gs_Mem) => f_X5_befriend_L2 r g m (k : Int) t) (fun k t => t = frW A g n σ k) (fun q => q = some (0, frW A g n σ n)) n _ (by omega) ?_ ?_ rfl
  · intro m k t hk ht
    subst ht
    have hp' : PlA (frW A g n σ k) r n c A := PlA_49 hr hp (fun a ha => frW_row A g n σ ha k)
    refine Or.inr ⟨_, ?_, rfl⟩
    rw [f_X5_befriend_L2, i_size hp']
    simp (disch := omega) only [gnS, gs_chk_t, t1, Option.bind_some]
    rw [if_neg (by omega), gshl_one k (by omega), i_befriend_in hr hg hgg hk _ _ hp', frW_s]; rfl
  · intro m t ht
    subst ht
    have hp' : PlA (frW A g n σ n) r n c A := PlA_49 hr hp (fun a ha => frW_row A g n σ ha n)
    rw [f_X5_befriend_L2, i_size hp', Option.bind_some, gnS (by omega), if_pos (Int.le_refl _)]
theorem clq_iff (hg : RgA n c A) {g : Int} {M : Nat} (hM : M < 2 ^ n) : clq n A g M = true ↔ ∀ a, a < n → M.testBit a = true → andn M (frN A g a n) = 0 := by
  have hbig : M < 2147483648 := Nat.lt_of_lt_of_le hM (Nat.le_trans (p8 hg.1) (by decide))
  have hlt : ∀ b, M.testBit b = true → b < n := fun b hb => by
    apply Classical.byContradiction
    intro hn
    rw [Nat.testBit_lt_two_pow (Nat.lt_of_lt_of_le hM (Nat.pow_le_pow_right (by decide) (by omega)))] at hb
    cases hb
  have hz : ∀ a, (andn M (frN A g a n) = 0) ↔ ∀ b, M.testBit b = true → (b = a ∨ (b < n ∧ g ≤ A a b)) := fun a => by
    constructor
    · intro h b hb
      have e := andn_bit (b := frN A g a n) hbig b
      rw [h, Nat.zero_testBit, hb, Bool.true_and] at e
      refine (frN_bit A g a b n).mp ?_
      cases q : (frN A g a n).testBit b with
      | true => rfl
      | false => rw [q] at e; cases e
    · intro h
      apply Nat.eq_of_testBit_eq
      intro b
      rw [andn_bit hbig, Nat.zero_testBit]
      cases q : M.testBit b with
      | false => rfl
      | true => rw [(frN_bit A g a b n).mpr (h b q)]; rfl
  unfold clq
  rw [aN_iff]
  constructor
  · intro h a ha hb
    rw [hz]
    intro b hbb
    by_cases e : b = a
    · exact Or.inl e
    · refine Or.inr ⟨hlt b hbb, ?_⟩
      by_cases l : b < a
      · have q := aN_iff.mp (h a ha) b l
        rw [hb, hbb] at q
        have : ¬ A a b < g := fun e => by rw [decide_eq_true e] at q; cases q
        omega
      · have q := aN_iff.mp (h b (hlt b hbb)) a (by omega)
        rw [hb, hbb] at q
        have : ¬ A b a < g := fun e => by rw [decide_eq_true e] at q; cases q
        rw [hg.2.2.2.2 a b]; omega
  · intro h a ha
    rw [aN_iff]
    intro b hb
    cases q1 : M.testBit a with
    | false => rfl
    | true =>
      cases q2 : M.testBit b with
      | false => rfl
      | true =>
        rcases (hz a).mp (h a ha q1) b q2 with e | e
        · omega
        · rw [decide_eq_false (by omega)]; rfl
theorem i_areFriends (hg : RgA n c A) {g : Int} {M : Nat} (hM : M < 2 ^ n) {σ : gs_Mem} (hf : ∀ s, s < n → σ 49 s = (frN A g s n : Nat)) : f_X5_areFriends (M : Int) (n : Int) σ = some (if clq n A g M then 1 else 0) := by
  have h8 := hg.1
  have hp := p8 h8
  refine loop0 (fun m k (_ : Unit) => f_X5_areFriends_L2 σ (M : Int) (n : Int) m (k : Int)) (fun k _ => ∀ a, a < k → M.testBit a = true → andn M (frN A g a n) = 0) (fun q => q = some (if clq n A g M then 1 else 0)) n () (by omega) ?_ ?_ (fun t ht => absurd ht (Nat.not_lt_zero t))
  · intro m k _ hk hv
    rw [f_X5_areFriends_L2]
    unfold f_X5_areFriends_J31
    simp (disch := omega) only [gnS, gs_chk_t, t1]
    rw [if_neg (by omega), gbit (by omega) (by omega), hf k hk, gandn_nat (by omega)]
    cases e : M.testBit k with
    | false =>
      refine Or.inr ⟨(), rfl, fun a ha hb => ?_⟩
      by_cases q : a = k
      · rw [q, e] at hb; cases hb
      · exact hv a (by omega) hb
    | true =>
      rw [if_pos rfl, if_pos rfl]
      by_cases d : andn M (frN A g k n) = 0
      · rw [if_pos (by omega)]
        refine Or.inr ⟨(), rfl, fun a ha hb => ?_⟩
        by_cases q : a = k
        · rw [q]; exact d
        · exact hv a (by omega) hb
      · rw [if_neg (by omega)]
        refine Or.inl ?_
        rw [if_neg]
        exact fun h => d ((clq_iff hg hM).mp h k hk e)
  · intro m _ hv
    rw [f_X5_areFriends_L2]
    simp (disch := omega) only [gnS]
    rw [if_pos (Int.le_refl _), if_pos ((clq_iff hg hM).mpr hv)]
theorem i_largestClique (hr : r + 9 < 49) (hg : RgA n c A) {g : Int} (hgg : 0 ≤ g ∧ g ≤ 5) (σ : gs_Mem) (hp : PlA σ r n c A) : f_X5_largestClique r g σ = some (((cbN n A g (2 ^ n) : Nat) : Int), frW A g n σ n) := by
  have h8 := hg.1
  have hp8 := p8 h8
  have hpos : 0 < 2 ^ n := Nat.pow_pos (by decide)
  have hp' : PlA (frW A g n σ n) r n c A := PlA_49 hr hp (fun a ha => frW_row A g n σ ha n)
  have hf := fun s (hs : s < n) => frW_at A g n σ n hs
  unfold f_X5_largestClique
  rw [i_befriend hr hg hgg σ hp, Option.bind_some]
  show f_X5_largestClique_L14 r gs_fuel 0 0 1 (frW A g n σ n) = _
  generalize frW A g n σ n = τ at hp' hf
  refine loop_inv (fun m k (v : Int × Int) => f_X5_largestClique_L14 r m v.1 v.2 (k : Int) τ) (fun k v => v = (((cbN n A g k : Nat) : Int), ((popc (cbN n A g k) : Nat) : Int))) (fun q => q = some (((cbN n A g (2 ^ n) : Nat) : Int), τ)) (2 ^ n) ?_ ?_ (2 ^ n - 1) 1 (0, 0) gs_fuel (by omega) (by have := fuel_big; omega) (by rw [cbN_one, popc_0]; rfl)
  · intro m k v hk hv
    subst hv
    have q1 := cbN_le n A g k
    have q2 := popc_le k
    have q3 := popc_le (cbN n A g k)
    refine Or.inr ⟨_, ?_, rfl⟩
    dsimp only
    rw [f_X5_largestClique_L14, i_size hp', Option.bind_some, gshl_n h8, bitCount_spec (by omega), Option.bind_some, Option.bind_some, i_areFriends hg hk hf, Option.bind_some]
    unfold f_X5_largestClique_J59
    simp (disch := omega) only [gnS]
    rw [if_neg (by omega), cbN_s]
    by_cases d : popc k ≤ popc (cbN n A g k)
    · rw [if_pos (by omega), if_pos d]; rfl
    · rw [if_neg (by omega), if_neg d]
      cases clq n A g k <;> rfl
  · intro m v hv
    subst hv
    dsimp only
    rw [f_X5_largestClique_L14, i_size hp', Option.bind_some, gshl_n h8]
    simp (disch := omega) only [gnS]
    rw [if_pos (Int.le_refl _)]
theorem i_bound_s (hr : r + 9 < 49) (hg : RgA n c A) (τ : gs_Mem) (hp : PlA τ r n c A) (m j : Nat) (hj : j < 4) (Y : Int) : f_X5_bound_L13 r (m + 1) Y ((j + 1 : Nat) : Int) τ = f_X5_bound_L13 r m (gmax Y ((((popc (cbN n A ((j + 1 : Nat) : Int) (2 ^ n)) : Nat) : Int) - 1) * ((j + 1 : Nat) : Int) + 1)) ((j + 1 + 1 : Nat) : Int) (frW A ((j + 1 : Nat) : Int) n τ n) := by
  have h8 := hg.1
  have hp8 := p8 h8
  have q1 := cbN_le n A ((j + 1 : Nat) : Int) (2 ^ n)
  have e := i_largestClique hr hg (g := ((j + 1 : Nat) : Int)) (by omega) τ hp
  have b := bitCount_spec (v := cbN n A ((j + 1 : Nat) : Int) (2 ^ n)) (by omega) (frW A ((j + 1 : Nat) : Int) n τ n)
  generalize cbN n A ((j + 1 : Nat) : Int) (2 ^ n) = X at e b ⊢
  generalize frW A ((j + 1 : Nat) : Int) n τ n = τ' at e b ⊢
  rw [f_X5_bound_L13, gnS (by omega), if_neg (by omega), e, Option.bind_some]
  dsimp only
  rw [b, Option.bind_some, show ((j + 1 : Nat) : Int) + 1 = ((j + 1 + 1 : Nat) : Int) from rfl]
theorem i_bound_g {j : Nat} (hj : j < 4) : gmax (bdN n A j) ((((popc (cbN n A ((j + 1 : Nat) : Int) (2 ^ n)) : Nat) : Int) - 1) * ((j + 1 : Nat) : Int) + 1) = bdN n A (j + 1) := by
  have q2 := popc_le (cbN n A ((j + 1 : Nat) : Int) (2 ^ n))
  have q3 := bmul q2 (j + 1) (by omega)
  have q4 := bdN_rng n A j (by omega)
  rw [bdN_s]
  generalize popc (cbN n A ((j + 1 : Nat) : Int) (2 ^ n)) = X at q2 q3 ⊢
  generalize bdN n A j = Y at q4 ⊢
  rw [gmaxE (by omega) (by omega)]
  by_cases d : X = 0
  · rw [if_pos d, if_neg]
    subst d
    have : (((0 : Nat) : Int) - 1) * ((j + 1 : Nat) : Int) = - ((j + 1 : Nat) : Int) := by
      rw [show (((0 : Nat) : Int) - 1) = -1 from rfl, Int.neg_mul, Int.one_mul]
    rw [this]; omega
  · rw [if_neg d]
theorem i_bound (hr : r + 9 < 49) (hg : RgA n c A) (σ : gs_Mem) (hp : PlA σ r n c A) : ∃ σ', f_X5_bound r σ = some (bdN n A 4, σ') ∧ ∀ a, a ≠ 49 → σ' a = σ a := by
  have h8 := hg.1
  unfold f_X5_bound
  rw [i_size hp, Option.bind_some, gnS (by omega)]
  by_cases z : (n : Int) = 0
  · rw [if_pos z]
    have z' : n = 0 := by omega
    rw [z', bdN_0]
    exact ⟨σ, rfl, fun _ _ => rfl⟩
  · rw [if_neg z]
    refine loop0 (fun m k (v : Int × gs_Mem) => f_X5_bound_L13 r m v.1 ((k + 1 : Nat) : Int) v.2) (fun k v => v.1 = bdN n A k ∧ ∀ a, a ≠ 49 → v.2 a = σ a) (fun q => ∃ σ', q = some (bdN n A 4, σ') ∧ ∀ a, a ≠ 49 → σ' a = σ a) 4 (0, σ) (by decide) ?_ ?_ ⟨rfl, fun _ _ => rfl⟩
    · intro m j v hj ⟨hv, hw⟩
      have e1 := i_bound_s hr hg v.2 (PlA_49 hr hp hw) m j hj (bdN n A j)
      rw [i_bound_g hj] at e1
      have e2 : ∀ a, a ≠ 49 → frW A ((j + 1 : Nat) : Int) n v.2 n a = σ a := fun a ha => (frW_row A ((j + 1 : Nat) : Int) n v.2 ha n).trans (hw a ha)
      generalize frW A ((j + 1 : Nat) : Int) n v.2 n = τ at e1 e2
      rw [← hv] at e1
      generalize bdN n A (j + 1) = Y at e1 ⊢
      exact Or.inr ⟨(Y, τ), e1, rfl, e2⟩
    · intro m v ⟨hv, hw⟩
      refine ⟨v.2, ?_, hw⟩
      rw [f_X5_bound_L13, if_pos (by decide +kernel), hv]
end
