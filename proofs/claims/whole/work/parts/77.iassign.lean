/-! ===== the plane's assigning: the waiting, what is open ===== -/
theorem PlR_keep7 {σ σ' : gs_Mem} {r : Nat} {p : Nat → Int} (hp : PlR σ r p) (e : ∀ c, r ≤ c → c ≤ r + 7 → σ' c = σ c) : PlR σ' r p := by
  unfold PlR PlG
  rw [e r (by omega) (by omega), e (r + 1) (by omega) (by omega), e (r + 2) (by omega) (by omega), e (r + 3) (by omega) (by omega), e (r + 4) (by omega) (by omega), e (r + 5) (by omega) (by omega), e (r + 6) (by omega) (by omega), e (r + 7) (by omega) (by omega)]
  exact hp
/-- what a plane holds of rows that have the same channels -/
theorem PlR_chr {σ : gs_Mem} {r : Nat} {p q : Nat → Int} (hp : PlR σ r p) (h : WF p) (e : chr p q) (hc : Ch q = Ch p) : PlR σ r q := by
  have h8 := h.n8
  have g := chr_geo e
  obtain ⟨q1, q2, q3, q4, q5⟩ := hp
  unfold PlR PlG
  rw [geo_nS g, geo_Ap g h, chr_Fx e]
  refine ⟨⟨q1.1, fun t ht => ?_, fun q hq => ?_⟩, fun t ht => ?_, q3, q4, q5⟩
  · rw [(g.2.1 t (by omega)).1, (g.2.1 t (by omega)).2]; exact q1.2.1 t ht
  · rw [(g.2.2 q hq).1, (g.2.2 q hq).2]; exact q1.2.2 q hq
  · rw [q2 t ht, ← Ch_lt ht, ← hc, Ch_lt (by rw [geo_nS g]; exact ht)]
theorem rs_self (p : Nat → Int) (j : Nat) : rs p j (p j) = p := by
  funext i
  rw [rs_at]
  by_cases c : i = j
  · rw [if_pos c, c]
  · rw [if_neg c]
/-- a channel laid down -/
theorem PlR_ch {σ : gs_Mem} {r : Nat} {p : Nat → Int} (hp : PlR σ r p) (h : WF p) {s : Nat} (hs : s < nS p) (x : Int) : PlR (gs_st σ (r + 3) s x) r (rs p (6 + 4 * s) x) := by
  have e : rs p (6 + 4 * s) x = pcf p s x (p (7 + 4 * s)) := by
    unfold pcf
    rw [← rs_ne p (6 + 4 * s) x (show 7 + 4 * s ≠ 6 + 4 * s by omega), rs_self]
  rw [e]
  refine PlR_pcf hp h hs x _ (fun a h1 h2 h3 => gs_st_row _ _ _ _ (by omega)) (gs_st_far _ _ _ _ (by omega)) (fun t ht => ?_) (fun m hm h256 => ⟨m, ?_, h256, fun t => ?_⟩)
  · rw [gs_st_at]
    by_cases e : t = s
    · rw [if_pos ⟨rfl, e⟩, if_pos e]
    · rw [if_neg (fun z => e z.2), if_neg e]
  · rw [gs_st_far _ _ _ _ (by omega), hm]
  · obtain ⟨m', m1, m2, m3⟩ := hp.2.2.2.2
    have : m' = m := by omega
    subst this
    by_cases e : t = s
    · rw [if_pos e, m3, e, Fx_lt hs]
    · rw [if_neg e]
theorem i_clearL {σ : gs_Mem} {r : Nat} {p : Nat → Int} (hp : PlR σ r p) (h : WF p) (K : Int → gs_Mem → Option (Int × gs_Mem)) : ∃ (W : Nat) (σ' : gs_Mem), f_X0_tuneAll_L4 r K gs_fuel 0 0 σ = K (W : Int) σ' ∧ W < 256 ∧ (∀ s, W.testBit s = (decide (s < nS p) && !Fx p s)) ∧ PlR σ' r (clrR p (nS p)) ∧ Fr σ σ' r := by
  have h8 := h.n8
  refine loop0 (fun m k (a : Int × gs_Mem) => f_X0_tuneAll_L4 r K m a.1 (k : Int) a.2) (fun k a => ∃ W : Nat, a.1 = (W : Int) ∧ W < 256 ∧ (∀ s, W.testBit s = (decide (s < k) && !Fx p s)) ∧ PlR a.2 r (clrR p k) ∧ Fr σ a.2 r) (fun q => ∃ (W : Nat) (σ' : gs_Mem), q = K (W : Int) σ' ∧ W < 256 ∧ (∀ s, W.testBit s = (decide (s < nS p) && !Fx p s)) ∧ PlR σ' r (clrR p (nS p)) ∧ Fr σ σ' r) (nS p) (0, σ) (by omega) ?_ ?_ ⟨0, rfl, by decide, fun s => by rw [Nat.zero_testBit, decide_eq_false (Nat.not_lt_zero s)]; rfl, hp, Fr.refl _ _⟩
  · intro m k a hk ⟨W, e1, e2, e3, e4, e5⟩
    obtain ⟨v, τ⟩ := a
    have ev : v = (W : Int) := e1
    subst ev
    have e4 : PlR τ r _ := e4
    have e5 : Fr σ τ r := e5
    obtain ⟨i1, i2, -⟩ := clrR_ok h k (by omega)
    have hn : nS (clrR p k) = nS p := geo_nS (chr_geo i1)
    have hz : τ r 9 = (nS p : Int) := by rw [e4.1.1, hn]
    dsimp only
    have ef : f_X0_isFixed r (k : Int) τ = some (if Fx p k then 1 else 0) := by
      rw [i_fixed e4 i2 (by rw [hn]; exact hk), chr_Fx i1]
    rw [f_X0_tuneAll_L4, hz, ef, gnN (by omega), gnN (by omega), if_neg (by omega), Option.bind_some, gn_ite1]
    unfold f_X0_tuneAll_J33
    cases c : Fx p k with
    | true =>
      rw [if_neg (show ¬ (if true = true then (1 : Int) else 0) = 0 by decide)]
      refine Or.inr ⟨((W : Int), τ), rfl, W, rfl, e2, fun s => ?_, ?_, e5⟩
      · rw [e3 s]
        by_cases e : s = k
        · rw [e, c, decide_eq_false (Nat.lt_irrefl k)]; simp
        · by_cases l : s < k
          · rw [decide_eq_true l, decide_eq_true (by omega : s < k + 1)]
          · rw [decide_eq_false l, decide_eq_false (by omega : ¬ s < k + 1)]
      · rw [clrR_s, c, if_pos rfl]; exact e4
    | false =>
      rw [if_pos (show (if false = true then (1 : Int) else 0) = 0 from rfl), gs_chk_t (by omega) (by omega), gshl_one k (by omega), gor_nat (by omega) (p31 (d := k) (by omega))]
      refine Or.inr ⟨(((W ||| 2 ^ k : Nat) : Int), gs_st τ (r + 3) k (-1)), rfl, W ||| 2 ^ k, rfl, Nat.or_lt_two_pow (n := 8) e2 (Nat.pow_lt_pow_right (by decide) (by omega)), fun s => ?_, ?_, Fr.trans e5 (Fr.st τ r 3 k _ (by decide))⟩
      · rw [Nat.testBit_or, Nat.testBit_two_pow, e3 s]
        by_cases e : s = k
        · rw [e, c, decide_eq_false (Nat.lt_irrefl k), decide_eq_true (Nat.lt_succ_self k), decide_eq_true (rfl : k = k)]; rfl
        · rw [decide_eq_false (fun z : k = s => e z.symm), Bool.or_false]
          by_cases l : s < k
          · rw [decide_eq_true l, decide_eq_true (by omega : s < k + 1)]
          · rw [decide_eq_false l, decide_eq_false (by omega : ¬ s < k + 1)]
      · rw [clrR_s, c, if_neg (by decide)]
        exact PlR_ch e4 i2 (by rw [hn]; exact hk) (-1)
  · intro m a ⟨W, e1, e2, e3, e4, e5⟩
    obtain ⟨v, τ⟩ := a
    have ev : v = (W : Int) := e1
    subst ev
    have e4 : PlR τ r _ := e4
    have e5 : Fr σ τ r := e5
    obtain ⟨i1, -, -⟩ := clrR_ok h (nS p) (Nat.le_refl _)
    have hz : τ r 9 = (nS p : Int) := by rw [e4.1.1, geo_nS (chr_geo i1)]
    dsimp only
    rw [f_X0_tuneAll_L4, hz, gnN (by omega), if_pos (Int.le_refl _)]
    exact ⟨W, τ, rfl, e2, e3, e4, e5⟩
/-- what is open for a station: bits -/
def OpA (σ : gs_Mem) (r n : Nat) (c : Nat → Int) (A : Nat → Nat → Int) (w : Nat → Bool) : Prop := ∀ s, s < n → ∃ M : Nat, σ (r + 8) s = (M : Int) ∧ M < 1048576 ∧ (w s = true → ∀ k : Nat, k < 20 → M.testBit k = alw n c A s (k : Int))
theorem i_openL {σ : gs_Mem} {r : Nat} {p : Nat → Int} (hp : PlR σ r p) (h : WF p) (v : Int) (K : gs_Mem → Option (Int × gs_Mem)) : ∃ σ' : gs_Mem, f_X0_tuneAll_L41 r v K gs_fuel 0 σ = K σ' ∧ PlR σ' r p ∧ Fr σ σ' r ∧ OpA σ' r (nS p) (Ch p) (Ap p) (fun _ => true) := by
  have h8 := h.n8
  refine loop0 (fun m k (τ : gs_Mem) => f_X0_tuneAll_L41 r v K m (k : Int) τ) (fun k τ => PlR τ r p ∧ Fr σ τ r ∧ ∀ s, s < k → ∃ M : Nat, τ (r + 8) s = (M : Int) ∧ M < 1048576 ∧ ∀ k : Nat, k < 20 → M.testBit k = alw (nS p) (Ch p) (Ap p) s (k : Int)) (fun q => ∃ σ' : gs_Mem, q = K σ' ∧ PlR σ' r p ∧ Fr σ σ' r ∧ OpA σ' r (nS p) (Ch p) (Ap p) (fun _ => true)) (nS p) σ (by omega) ?_ ?_ ⟨hp, Fr.refl _ _, fun s hs => absurd hs (Nat.not_lt_zero s)⟩
  · intro m k τ hk ⟨e1, e2, e3⟩
    obtain ⟨M, m1, m2, m3⟩ := i_allowedFor (e1.pa h) h.rg hk
    refine Or.inr ⟨gs_st τ (r + 8) k (M : Int), ?_, PlR_keep7 e1 (fun c h1 h2 => gs_st_row _ _ _ _ (by omega)), Fr.trans e2 (Fr.st τ r 8 k _ (by decide)), fun s hs => ?_⟩
    · rw [f_X0_tuneAll_L41, e1.1.1, gnN (by omega), gnN (by omega), if_neg (by omega), m1, Option.bind_some, gs_chk_t (by omega) (by omega)]
      rfl
    · by_cases e : s = k
      · exact ⟨M, by rw [e, gs_st_same], m2, fun j hj => by rw [e]; exact m3 j hj⟩
      · rw [gs_st_slot _ _ _ _ e]
        exact e3 s (by omega)
  · intro m τ ⟨e1, e2, e3⟩
    refine ⟨τ, ?_, e1, e2, fun s hs => ?_⟩
    · rw [f_X0_tuneAll_L41, e1.1.1, gnN (by omega), if_pos (Int.le_refl _)]
    · obtain ⟨M, m1, m2, m3⟩ := e3 s hs
      exact ⟨M, m1, m2, fun _ => m3⟩
