/-! ===== the gaps, measured anew ===== -/
theorem gs_st_far (σ : gs_Mem) (r k : Nat) (x : Int) {a j : Nat} (h : a ≠ r) : gs_st σ r k x a j = σ a j := if_neg (fun e => h e.1)
def PlG (σ : gs_Mem) (r : Nat) (p : Nat → Int) : Prop := σ r 9 = (nS p : Int) ∧ (∀ s, s < nS p → σ (r + 1) s = p (4 + 4 * s) ∧ σ (r + 2) s = p (5 + 4 * s)) ∧ (∀ q, q < 3 → σ (r + 4) q = p (36 + 2 * q) ∧ σ (r + 5) q = p (37 + 2 * q))
theorem PlG_rows {σ σ' : gs_Mem} {r : Nat} {p : Nat → Int} (h : PlG σ r p) (e : ∀ c, c ≠ r + 6 → c ≠ r + 7 → σ' c = σ c) : PlG σ' r p := by
  unfold PlG
  rw [e r (by omega) (by omega), e (r + 1) (by omega) (by omega), e (r + 2) (by omega) (by omega), e (r + 4) (by omega) (by omega), e (r + 5) (by omega) (by omega)]
  exact h
theorem i_gap {σ : gs_Mem} {r : Nat} {p : Nat → Int} (hG : PlG σ r p) (h : WF p) {a b : Nat} (ha : a < nS p) (hb : b < nS p) (hab : a ≠ b) : f_X0_gapByRules r (a : Int) (b : Int) σ = some (Ap p a b) := by
  have h8 := h.n8
  have hd := ds_rng h ha hb
  have hd1 := ds_pos h ha hb hab
  unfold f_X0_gapByRules gs_let
  simp (disch := omega) only [gnS, gs_chk_t, t1]
  rw [(hG.2.1 a ha).1, (hG.2.1 b hb).1, (hG.2.1 a ha).2, (hG.2.1 b hb).2]
  have e : Ap p a b = rlN p (ds p a b) 3 := if_pos ⟨ha, hb, hab⟩
  rw [e]
  show f_X0_gapByRules_L46 σ r (ds p a b) gs_fuel 0 0 = _
  generalize ds p a b = d at hd hd1
  refine loop0 (fun m k (v : Int) => f_X0_gapByRules_L46 σ r d m v (k : Int)) (fun k v => v = rlN p d k) (fun q => q = some (rlN p d 3)) 3 0 (by decide) ?_ ?_ rfl
  · intro m k v hk hv
    subst hv
    have hnr := h.near hk
    have hgp := h.gap hk
    have hsq := sq40 hnr
    have hr := rlN_rng h d k (by omega)
    refine Or.inr ⟨rlN p d (k + 1), ?_, rfl⟩
    rw [f_X0_gapByRules_L46]
    unfold f_X0_gapByRules_J93
    simp (disch := omega) only [gnS, gs_chk_t, t1]
    rw [if_neg (by omega), (hG.2.2 k hk).1, (hG.2.2 k hk).2]
    simp (disch := omega) only [gnS]
    by_cases c2 : p (36 + 2 * k) * p (36 + 2 * k) < d
    · rw [if_pos c2, show rlN p d (k + 1) = rlN p d k from if_pos (Or.inr c2)]; rfl
    · have c1 : ¬ p (36 + 2 * k) ≤ 0 := fun e => by
        have : p (36 + 2 * k) = 0 := by omega
        rw [this] at c2; omega
      rw [if_neg c2, show rlN p d (k + 1) = _ from if_neg (fun e => e.elim c1 c2)]
      by_cases c3 : p (37 + 2 * k) ≤ rlN p d k
      · rw [if_pos c3, if_neg (by omega)]; rfl
      · rw [if_neg c3, if_pos (by omega)]; rfl
  · intro m v hv
    rw [f_X0_gapByRules_L46, if_pos (by decide +kernel), hv]
def msG (σ : gs_Mem) (r : Nat) (p : Nat → Int) (x y : Nat) : Bool := decide (σ (r + 6) (8 * x + y) = Ap p x y)
def msF (σ : gs_Mem) (r : Nat) (p : Nat → Int) (k : Nat) : Bool := aN (fun x => aN (msG σ r p x) x) k
def msN (p : Nat → Int) (x : Nat) (t : Nat) : Bool := decide (0 < Ap p x t)
theorem gn_iteP' (b : Bool) : gn (if b then (0 : Int) else 1) = if b then 0 else 1 := by
  cases b <;> decide +kernel
theorem gor00 : gor 0 0 = 0 ∧ gor 0 1 = 1 ∧ gor 1 0 = 1 ∧ gor 1 1 = 1 := by decide +kernel
def msIn (σ : gs_Mem) (r : Nat) (p : Nat → Int) (a j : Nat) (v : Int × gs_Mem) : Prop :=
  (∀ c, c ≠ r + 6 → c ≠ r + 7 → v.2 c = σ c) ∧
  (∀ x y, x < 8 → y < 8 → v.2 (r + 6) (8 * x + y) = if (x < a ∧ y < a ∧ x ≠ y) ∨ (x = a ∧ y < j) ∨ (y = a ∧ x < j) then Ap p x y else σ (r + 6) (8 * x + y)) ∧
  v.2 (r + 7) a = (cN (msN p a) j : Nat) ∧
  (∀ x, x < a → v.2 (r + 7) x = ((cN (msN p x) a + (if x < j ∧ 0 < Ap p x a then 1 else 0) : Nat) : Int)) ∧
  v.1 = (if msF σ r p a && aN (msG σ r p a) j then 0 else 1)
theorem ms_write {τ : gs_Mem} {r a j : Nat} (u e : Int) (k21 : Int → Int → gs_Mem → Option (Int × gs_Mem)) (k128 : Int → gs_Mem → Option (Int × gs_Mem)) (ha : a < 8) (hj : j < a) (t0 v1 : Int) (hu : 0 ≤ u ∧ u ≤ 4) (he : e = if u ≤ 0 then 0 else 1) :
    f_X0_measure_J56 k21 k128 r (a : Int) (j : Int) u t0 v1 τ = k21 (gor v1 t0) ((j + 1 : Nat) : Int) (gs_st (gs_st (gs_st (gs_st τ (r + 6) (8 * a + j) u) (r + 6) (8 * j + a) u) (r + 7) a (τ (r + 7) a + e)) (r + 7) j (τ (r + 7) j + e)) := by
  unfold f_X0_measure_J56 f_X0_measure_J101 f_X0_measure_J120
  simp (disch := omega) only [gnS, gs_chk_t, t1, t8]
  have n1 : r + 7 ≠ r + 6 := by omega
  simp only [gs_st_far _ _ _ _ n1, gs_st_slot _ _ _ _ (show j ≠ a by omega)]
  by_cases c : u ≤ 0
  · rw [if_pos c, if_pos c, he, if_pos c]; rfl
  · rw [if_neg c, if_neg c, he, if_neg c]; rfl
theorem ms_in {σ : gs_Mem} {r : Nat} {p : Nat → Int} (hG : PlG σ r p) (hR : ∀ x y, x < 8 → y < 8 → 0 ≤ σ (r + 6) (8 * x + y) ∧ σ (r + 6) (8 * x + y) ≤ 4) (h : WF p) {a : Nat} (ha : a < nS p) (K : Int → gs_Mem → Option (Int × gs_Mem)) (v : Int × gs_Mem) (hv : msIn σ r p a 0 v) :
    ∃ w : Int × gs_Mem, f_X0_measure_L21 r (a : Int) K gs_fuel v.1 0 v.2 = K w.1 w.2 ∧ msIn σ r p a a w := by
  have h8 := h.n8
  refine loop0 (fun m k (v : Int × gs_Mem) => f_X0_measure_L21 r (a : Int) K m v.1 (k : Int) v.2) (msIn σ r p a) (fun q => ∃ w : Int × gs_Mem, q = K w.1 w.2 ∧ msIn σ r p a a w) a v (by omega) ?_ ?_ hv
  · rintro m j ⟨v1, τ⟩ hj ⟨i1, i2, i3, i4, i5⟩
    dsimp only at i1 i2 i3 i4 i5 ⊢
    have q := Ap_rng h a j
    have hG' : PlG τ r p := PlG_rows hG i1
    have eg := i_gap hG' h ha (show j < nS p by omega) (show a ≠ j by omega)
    have e6 : τ (r + 6) (8 * a + j) = σ (r + 6) (8 * a + j) := by
      rw [i2 a j (by omega) (by omega), if_neg (by omega)]
    have hcm := Ap_comm p a j
    refine Or.inr ⟨(gor v1 (if Ap p a j = σ (r + 6) (8 * a + j) then 0 else 1), gs_st (gs_st (gs_st (gs_st τ (r + 6) (8 * a + j) (Ap p a j)) (r + 6) (8 * j + a) (Ap p a j)) (r + 7) a (τ (r + 7) a + (if Ap p a j ≤ 0 then 0 else 1))) (r + 7) j (τ (r + 7) j + (if Ap p a j ≤ 0 then 0 else 1))), ?_, ?_⟩
    · rw [f_X0_measure_L21, eg, Option.bind_some]
      simp (disch := omega) only [gs_chk_t, t8, gnS]
      rw [if_neg (by omega), e6]
      have er := hR a j (by omega) (by omega)
      rw [gnS (by omega)]
      by_cases c : Ap p a j = σ (r + 6) (8 * a + j)
      · rw [if_pos c, if_pos c, ms_write (Ap p a j) _ _ _ (by omega) hj _ _ q rfl]
      · rw [if_neg c, if_neg c, ms_write (Ap p a j) _ _ _ (by omega) hj _ _ q rfl]
    · have n1 : r + 7 ≠ r + 6 := by omega
      have n2 : r + 6 ≠ r + 7 := by omega
      refine ⟨fun c h1 h2 => ?_, fun x y hx hy => ?_, ?_, fun x hx => ?_, ?_⟩
      · dsimp only
        rw [gs_st_row _ _ _ _ h2, gs_st_row _ _ _ _ h2, gs_st_row _ _ _ _ h1, gs_st_row _ _ _ _ h1, i1 c h1 h2]
      · dsimp only
        rw [gs_st_far _ _ _ _ n2, gs_st_far _ _ _ _ n2, gs_st_at, gs_st_at, i2 x y hx hy]
        by_cases c1 : x = j ∧ y = a
        · rw [if_pos ⟨rfl, by omega⟩, if_pos (by omega), c1.1, c1.2, hcm]
        · rw [if_neg (by omega)]
          by_cases c2 : x = a ∧ y = j
          · rw [if_pos ⟨rfl, by omega⟩, if_pos (by omega), c2.1, c2.2]
          · rw [if_neg (by omega)]
            by_cases c3 : (x < a ∧ y < a ∧ x ≠ y) ∨ (x = a ∧ y < j) ∨ (y = a ∧ x < j)
            · rw [if_pos c3, if_pos (by omega)]
            · rw [if_neg c3, if_neg (by omega)]
      · dsimp only
        rw [gs_st_slot _ _ _ _ (show a ≠ j by omega), gs_st_same, i3, cN_s]
        unfold msN
        by_cases c : Ap p a j ≤ 0
        · rw [if_pos c, decide_eq_false (by omega)]; rfl
        · rw [if_neg c, decide_eq_true (by omega)]; rfl
      · dsimp only
        by_cases c1 : x = j
        · subst c1
          rw [gs_st_same, i4 x hx, if_neg (by omega)]
          by_cases c : Ap p a x ≤ 0
          · rw [if_pos c, if_neg (by omega)]; omega
          · rw [if_neg c, if_pos (by omega)]; omega
        · rw [gs_st_slot _ _ _ _ c1, gs_st_slot _ _ _ _ (show x ≠ a by omega), gs_st_far _ _ _ _ n1, gs_st_far _ _ _ _ n1, i4 x hx]
          by_cases c2 : x < j ∧ 0 < Ap p x a
          · rw [if_pos c2, if_pos (by omega)]
          · rw [if_neg c2, if_neg (by omega)]
      · dsimp only
        rw [i5, show aN (msG σ r p a) (j + 1) = (aN (msG σ r p a) j && msG σ r p a j) from rfl]
        obtain ⟨g0, g1, g2, g3⟩ := gor00
        by_cases c : Ap p a j = σ (r + 6) (8 * a + j)
        · have : msG σ r p a j = true := decide_eq_true c.symm
          rw [if_pos c, this, Bool.and_true]
          split
          · exact g0
          · exact g2
        · have : msG σ r p a j = false := decide_eq_false (fun e => c e.symm)
          rw [if_neg c, this]
          cases msF σ r p a <;> cases aN (msG σ r p a) j <;> first | exact g1 | exact g3
  · rintro m ⟨v1, τ⟩ hv
    refine ⟨(v1, τ), ?_, hv⟩
    dsimp only
    rw [f_X0_measure_L21]
    simp (disch := omega) only [gnS]
    rw [if_pos (Int.le_refl _)]
/-- after the measuring -/
theorem i_measure {σ : gs_Mem} {r : Nat} {p : Nat → Int} (hG : PlG σ r p) (hR : ∀ x y, x < 8 → y < 8 → 0 ≤ σ (r + 6) (8 * x + y) ∧ σ (r + 6) (8 * x + y) ≤ 4) (h : WF p) :
    ∃ w : Int × gs_Mem, f_X0_measure r σ = some w ∧ (∀ c, c ≠ r + 6 → c ≠ r + 7 → w.2 c = σ c) ∧
      (∀ x y, x < 8 → y < 8 → w.2 (r + 6) (8 * x + y) = if x < nS p ∧ y < nS p ∧ x ≠ y then Ap p x y else σ (r + 6) (8 * x + y)) ∧
      (∀ x, x < nS p → w.2 (r + 7) x = (apM (nS p) (Ap p) x : Nat)) ∧
      w.1 = (if msF σ r p (nS p) then 0 else 1) := by
  have h8 := h.n8
  let P : Nat → Int × gs_Mem → Prop := fun a v => (∀ c, c ≠ r + 6 → c ≠ r + 7 → v.2 c = σ c) ∧
      (∀ x y, x < 8 → y < 8 → v.2 (r + 6) (8 * x + y) = if x < a ∧ y < a ∧ x ≠ y then Ap p x y else σ (r + 6) (8 * x + y)) ∧
      (∀ x, x < a → v.2 (r + 7) x = (cN (msN p x) a : Nat)) ∧
      v.1 = (if msF σ r p a then 0 else 1)
  refine loop0 (fun m k (v : Int × gs_Mem) => f_X0_measure_L4 r m v.1 (k : Int) v.2) P (fun q => ∃ w : Int × gs_Mem, q = some w ∧ P (nS p) w) (nS p) (0, σ) (by omega) ?_ ?_ ?_
  · rintro m a ⟨v1, τ⟩ ha ⟨i1, i2, i3, i4⟩
    dsimp only at i1 i2 i3 i4 ⊢
    have hG' : PlG τ r p := PlG_rows hG i1
    have hI : msIn σ r p a 0 (v1, gs_st τ (r + 7) a 0) := by
      refine ⟨fun c h1 h2 => ?_, fun x y hx hy => ?_, ?_, fun x hx => ?_, ?_⟩
      · dsimp only; rw [gs_st_row _ _ _ _ h2, i1 c h1 h2]
      · dsimp only
        rw [gs_st_far _ _ _ _ (by omega), i2 x y hx hy]
        by_cases c3 : x < a ∧ y < a ∧ x ≠ y
        · rw [if_pos c3, if_pos (by omega)]
        · rw [if_neg c3, if_neg (by omega)]
      · dsimp only; rw [gs_st_same]; rfl
      · dsimp only
        rw [gs_st_slot _ _ _ _ (by omega), i3 x hx, if_neg (by omega)]; rfl
      · dsimp only; rw [i4, show aN (msG σ r p a) 0 = true from rfl, Bool.and_true]
    obtain ⟨w, e, w1, w2, w3, w4, w5⟩ := ms_in hG hR h ha (fun w1 σ2 => f_X0_measure_L4 r m w1 ((a : Int) + 1) σ2) _ hI
    refine Or.inr ⟨w, ?_, w1, fun x y hx hy => ?_, fun x hx => ?_, ?_⟩
    · rw [f_X0_measure_L4, i1 r (by omega) (by omega), hG.1]
      simp (disch := omega) only [gnS, gs_chk_t, t1]
      rw [if_neg (by omega)]
      exact e
    · rw [w2 x y hx hy]
      by_cases c3 : x < a + 1 ∧ y < a + 1 ∧ x ≠ y
      · rw [if_pos c3, if_pos (by omega)]
      · rw [if_neg c3, if_neg (by omega)]
    · by_cases c : x = a
      · rw [c, w3, cN_s]
        have : msN p a a = false := decide_eq_false (by rw [Ap_self]; omega)
        rw [this]; rfl
      · rw [w4 x (by omega), cN_s]
        unfold msN
        by_cases d : 0 < Ap p x a
        · rw [if_pos ⟨by omega, d⟩, if_pos (decide_eq_true d)]
        · rw [if_neg (fun e => d e.2), if_neg (by rw [decide_eq_true_eq]; exact d)]
    · rw [w5]; rfl
  · rintro m ⟨v1, τ⟩ ⟨i1, i2, i3, i4⟩
    dsimp only at i1 i2 i3 i4 ⊢
    refine ⟨(v1, τ), ?_, i1, i2, i3, i4⟩
    rw [f_X0_measure_L4, i1 r (by omega) (by omega), hG.1]
    simp (disch := omega) only [gnS]
    rw [if_pos (Int.le_refl _), gs_chkz_t (by rw [i4]; split <;> omega)]
  · exact ⟨fun _ _ _ => rfl, fun x y _ _ => (if_neg (fun e => absurd e.1 (Nat.not_lt_zero x))).symm, fun x hx => absurd hx (Nat.not_lt_zero x), rfl⟩
