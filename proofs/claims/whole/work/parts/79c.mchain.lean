/-! ===== the reference's chain ===== -/
section
variable {σ : gs_Mem}
/-- the inner round: whom station s brings in -/
theorem m_chainL77 (h : WF (σ 71)) {x own : Int} (hx : 0 ≤ x ∧ x ≤ 19) (ho : 0 ≤ own ∧ own ≤ 19) {s had : Nat} (hs : s < nS (σ 71)) (hh : had < 256) (hc : had.testBit s = true → Ch (σ 71) s = own ∨ Ch (σ 71) s = x) (K : Int → gs_Mem → Option (Int × gs_Mem)) {M : Nat} (hM : M < 256) : ∃ M' : Nat, f_X7_exchange_L77 x own (had : Int) (s : Int) K gs_fuel (M : Int) 0 σ = K (M' : Int) σ ∧ M' < 256 ∧ ∀ t, M'.testBit t = (M.testBit t || (decide (t < nS (σ 71)) && (had.testBit s && lnk (Ch (σ 71)) (Ap (σ 71)) (own + x) s t))) := by
  have h8 := h.n8
  have hn := h.n0
  refine loop0 (fun m k (a : Int) => f_X7_exchange_L77 x own (had : Int) (s : Int) K m a (k : Int) σ) (fun k a => ∃ M' : Nat, a = (M' : Int) ∧ M' < 256 ∧ ∀ t, M'.testBit t = (M.testBit t || (decide (t < k) && (had.testBit s && lnk (Ch (σ 71)) (Ap (σ 71)) (own + x) s t)))) (fun q => ∃ M' : Nat, q = K (M' : Int) σ ∧ M' < 256 ∧ ∀ t, M'.testBit t = (M.testBit t || (decide (t < nS (σ 71)) && (had.testBit s && lnk (Ch (σ 71)) (Ap (σ 71)) (own + x) s t)))) (nS (σ 71)) (M : Int) (by omega) ?_ ?_ ⟨M, rfl, hM, fun t => by rw [decide_eq_false (Nat.not_lt_zero t), Bool.false_and, Bool.or_false]⟩
  · intro m k a hk ⟨M', e1, e2, e3⟩
    subst e1
    have r1 := Ch_rng h k
    have r2 := Ch_rng h s
    have r3 := Ap_rng h s k
    have gor0 : gor (M' : Int) 0 = (M' : Int) := by
      have := gor_nat (a := M') (b := 0) (by omega) (by decide)
      rw [Nat.or_zero] at this
      exact this
    have no : (had.testBit s && lnk (Ch (σ 71)) (Ap (σ 71)) (own + x) s k) = false → (f_X7_exchange_L77 x own (had : Int) (s : Int) K m (gor (M' : Int) 0) ((k : Int) + 1) σ = f_X7_exchange_L77 x own (had : Int) (s : Int) K m (M' : Int) ((k + 1 : Nat) : Int) σ ∧ ∃ M'' : Nat, (M' : Int) = (M'' : Int) ∧ M'' < 256 ∧ ∀ t, M''.testBit t = (M.testBit t || (decide (t < k + 1) && (had.testBit s && lnk (Ch (σ 71)) (Ap (σ 71)) (own + x) s t)))) := fun z => by
      refine ⟨by rw [gor0]; rfl, M', rfl, e2, fun t => ?_⟩
      rw [e3 t]
      by_cases e : t = k
      · rw [e, z, Bool.and_false, Bool.and_false]
      · by_cases l : t < k
        · rw [decide_eq_true l, decide_eq_true (by omega : t < k + 1)]
        · rw [decide_eq_false l, decide_eq_false (by omega : ¬ t < k + 1)]
    have yes : (had.testBit s && lnk (Ch (σ 71)) (Ap (σ 71)) (own + x) s k) = true → (f_X7_exchange_L77 x own (had : Int) (s : Int) K m (gor (M' : Int) (gshl 1 (k : Int))) ((k : Int) + 1) σ = f_X7_exchange_L77 x own (had : Int) (s : Int) K m ((M' ||| 2 ^ k : Nat) : Int) ((k + 1 : Nat) : Int) σ ∧ ∃ M'' : Nat, ((M' ||| 2 ^ k : Nat) : Int) = (M'' : Int) ∧ M'' < 256 ∧ ∀ t, M''.testBit t = (M.testBit t || (decide (t < k + 1) && (had.testBit s && lnk (Ch (σ 71)) (Ap (σ 71)) (own + x) s t)))) := fun z => by
      refine ⟨by rw [gshl_one k (by omega), gor_nat (by omega) (p31 (d := k) (by omega))]; rfl, M' ||| 2 ^ k, rfl, Nat.or_lt_two_pow (n := 8) e2 (Nat.pow_lt_pow_right (by decide) (by omega)), fun t => ?_⟩
      rw [Nat.testBit_or, Nat.testBit_two_pow, e3 t]
      by_cases e : t = k
      · rw [e, z, decide_eq_true (rfl : k = k), decide_eq_true (Nat.lt_succ_self k), Bool.or_true]; simp
      · rw [decide_eq_false (fun z : k = t => e z.symm), Bool.or_false]
        by_cases l : t < k
        · rw [decide_eq_true l, decide_eq_true (by omega : t < k + 1)]
        · rw [decide_eq_false l, decide_eq_false (by omega : ¬ t < k + 1)]
    rw [f_X7_exchange_L77, gs_chk_t (by decide) (by decide), hn, gnN (by omega), gnN (by omega), if_neg (by omega), gbit (by omega) (by omega), gnN (k := s) (by omega)]
    unfold f_X7_exchange_J160 f_X7_exchange_J145 f_X7_exchange_J161 f_X7_exchange_J178
    rw [gn_0, gn_1, if_pos (show (0 : Int) = 0 from rfl), if_neg no10]
    cases c0 : had.testBit s with
    | false =>
      rw [if_neg (show ¬ (if false = true then (1 : Int) else 0) = 1 by decide)]
      rw [c0] at no
      obtain ⟨z1, z2⟩ := no rfl
      rw [c0] at e3
      exact Or.inr ⟨_, z1, z2⟩
    | true =>
      rw [c0] at no yes e3
      rw [if_pos (show (if true = true then (1 : Int) else 0) = 1 from rfl), m_ch h hk, m_ch h hs, Option.bind_some, Option.bind_some, Option.bind_some, Option.bind_some, gnS (x := Ch (σ 71) k) (by omega), gnS (x := own + x - Ch (σ 71) s) (by omega), gnS (x := own) (by omega), gnS (x := x) (by omega)]
      rw [Bool.true_and] at no yes
      by_cases c1 : (k : Int) = (s : Int)
      · rw [if_pos c1]
        obtain ⟨z1, z2⟩ := no (by
          unfold lnk
          rw [show k = s by omega, Ap_self, decide_eq_false (show ¬ (0 : Int) < 0 by decide), Bool.and_false])
        exact Or.inr ⟨_, z1, z2⟩
      · rw [if_neg c1]
        have hks : s ≠ k := fun e => c1 (by omega)
        by_cases c2 : Ch (σ 71) k = own + x - Ch (σ 71) s
        · rw [if_pos c2]
          rw [m_apartOf h hs hk hks, Option.bind_some, gnS (x := Ap (σ 71) s k) (by omega)]
          have pick : ∃ a' : Int, (if Ap (σ 71) s k ≤ 0 then f_X7_exchange_L77 x own (had : Int) (s : Int) K m (gor (M' : Int) 0) ((k : Int) + 1) σ else f_X7_exchange_L77 x own (had : Int) (s : Int) K m (gor (M' : Int) (gshl 1 (k : Int))) ((k : Int) + 1) σ) = f_X7_exchange_L77 x own (had : Int) (s : Int) K m a' ((k + 1 : Nat) : Int) σ ∧ ∃ M'' : Nat, a' = (M'' : Int) ∧ M'' < 256 ∧ ∀ t, M''.testBit t = (M.testBit t || (decide (t < k + 1) && (true && lnk (Ch (σ 71)) (Ap (σ 71)) (own + x) s t))) := by
            by_cases c4 : Ap (σ 71) s k ≤ 0
            · rw [if_pos c4]
              obtain ⟨z1, z2⟩ := no (by unfold lnk; rw [decide_eq_false (by omega : ¬ 0 < Ap (σ 71) s k), Bool.and_false])
              exact ⟨_, z1, z2⟩
            · rw [if_neg c4]
              obtain ⟨z1, z2⟩ := yes (by unfold lnk; rw [decide_eq_true (by omega : 0 < Ap (σ 71) s k), decide_eq_true c2]; rfl)
              exact ⟨_, z1, z2⟩
          by_cases c3 : Ch (σ 71) k = own
          · rw [if_pos c3]
            exact Or.inr pick
          · rw [if_neg c3, if_pos (by rcases hc c0 with q | q <;> omega)]
            exact Or.inr pick
        · rw [if_neg c2]
          obtain ⟨z1, z2⟩ := no (by unfold lnk; rw [decide_eq_false c2, Bool.false_and])
          exact Or.inr ⟨_, z1, z2⟩
  · intro m a ⟨M', e1, e2, e3⟩
    refine ⟨M', ?_, e2, e3⟩
    rw [f_X7_exchange_L77, gs_chk_t (by decide) (by decide), hn, gnN (by omega), if_pos (Int.le_refl _), e1]
theorem m_chainL63 (h : WF (σ 71)) {x own : Int} (hx : 0 ≤ x ∧ x ≤ 19) (ho : 0 ≤ own ∧ own ≤ 19) {had : Nat} (hM : ∀ s, had.testBit s = true → s < nS (σ 71)) (hc : ∀ s, had.testBit s = true → Ch (σ 71) s = own ∨ Ch (σ 71) s = x) (K : Int → gs_Mem → Option (Int × gs_Mem)) : ∃ M' : Nat, f_X7_exchange_L63 x own (had : Int) K gs_fuel (had : Int) 0 σ = K (M' : Int) σ ∧ Way (nS (σ 71)) (lnk (Ch (σ 71)) (Ap (σ 71)) (own + x)) had M' ∧ ∀ s t, s < nS (σ 71) → t < nS (σ 71) → had.testBit s = true → lnk (Ch (σ 71)) (Ap (σ 71)) (own + x) s t = true → M'.testBit t = true := by
  have h8 := h.n8
  have hn := h.n0
  refine loop0 (fun m k (a : Int) => f_X7_exchange_L63 x own (had : Int) K m a (k : Int) σ) (fun k a => ∃ M' : Nat, a = (M' : Int) ∧ Way (nS (σ 71)) (lnk (Ch (σ 71)) (Ap (σ 71)) (own + x)) had M' ∧ ∀ s t, s < k → t < nS (σ 71) → had.testBit s = true → lnk (Ch (σ 71)) (Ap (σ 71)) (own + x) s t = true → M'.testBit t = true) (fun q => ∃ M' : Nat, q = K (M' : Int) σ ∧ Way (nS (σ 71)) (lnk (Ch (σ 71)) (Ap (σ 71)) (own + x)) had M' ∧ ∀ s t, s < nS (σ 71) → t < nS (σ 71) → had.testBit s = true → lnk (Ch (σ 71)) (Ap (σ 71)) (own + x) s t = true → M'.testBit t = true) (nS (σ 71)) (had : Int) (by omega) ?_ ?_ ⟨had, rfl, Way.refl _ _ _, fun s t q => absurd q (Nat.not_lt_zero s)⟩
  · intro m k a hk ⟨M', e1, e2, e3⟩
    subst e1
    have hM' : ∀ s, M'.testBit s = true → s < nS (σ 71) := e2.2 (fun t => t < nS (σ 71)) (fun _ _ _ ht _ _ => ht) hM
    obtain ⟨M'', d1, d2, d3⟩ := m_chainL77 h hx ho hk (mask256 h8 hM) (hc k) (fun w4 σ9 => f_X7_exchange_L63 x own (had : Int) K m w4 ((k : Int) + 1) σ9) (mask256 h8 hM')
    rw [f_X7_exchange_L63, gs_chk_t (by decide) (by decide), hn, gnN (by omega), gnN (by omega), if_neg (by omega)]
    refine Or.inr ⟨(M'' : Int), d1, M'', rfl, Way.trans e2 ⟨fun s hs => ?_, fun P h1 h2 t ht => ?_⟩, fun s t h1 h2 h3 h4 => ?_⟩
    · rw [d3 s, hs, Bool.true_or]
    · rw [d3 t, Bool.or_eq_true] at ht
      rcases ht with ht | ht
      · exact h2 t ht
      · rw [Bool.and_eq_true, decide_eq_true_eq, Bool.and_eq_true] at ht
        exact h1 k t hk ht.1 (h2 k (e2.1 k ht.2.1)) ht.2.2
    · rw [d3 t, Bool.or_eq_true]
      by_cases e : s = k
      · refine Or.inr ?_
        rw [← e, decide_eq_true h2, h3, h4]; rfl
      · exact Or.inl (e3 s t (by omega) h2 h3 h4)
  · intro m a ⟨M', e1, e2, e3⟩
    refine ⟨M', ?_, e2, e3⟩
    rw [f_X7_exchange_L63, gs_chk_t (by decide) (by decide), hn, gnN (by omega), if_pos (Int.le_refl _), e1]
theorem m_chain (h : WF (σ 71)) {x : Int} (hx : 0 ≤ x ∧ x ≤ 19) {s0 : Nat} (h0 : s0 < nS (σ 71)) (ho : 0 ≤ Ch (σ 71) s0 ∧ Ch (σ 71) s0 ≤ 19) (K : Int → gs_Mem → Option (Int × gs_Mem)) : ∀ (d m M : Nat), Clo (nS (σ 71)) (lnk (Ch (σ 71)) (Ap (σ 71)) (Ch (σ 71) s0 + x)) s0 M → nS (σ 71) < cN (fun s => M.testBit s) (nS (σ 71)) + d → d < m →
    ∃ M' : Nat, f_X7_exchange_L51 x (Ch (σ 71) s0) K m (M : Int) 1 σ = K (M' : Int) σ ∧ Clo (nS (σ 71)) (lnk (Ch (σ 71)) (Ap (σ 71)) (Ch (σ 71) s0 + x)) s0 M' ∧ Clsd (nS (σ 71)) (lnk (Ch (σ 71)) (Ap (σ 71)) (Ch (σ 71) s0 + x)) M'
  | 0, m, M, hM, hd, hm => by
    have := cN_le (fun s => M.testBit s) (nS (σ 71))
    omega
  | d + 1, 0, M, hM, hd, hm => absurd hm (Nat.not_lt_zero _)
  | d + 1, m + 1, M, hM, hd, hm => by
    have h8 := h.n8
    have hc : ∀ s, M.testBit s = true → Ch (σ 71) s = Ch (σ 71) s0 ∨ Ch (σ 71) s = x := hM.2.2 (fun s => Ch (σ 71) s = Ch (σ 71) s0 ∨ Ch (σ 71) s = x) (Or.inl rfl) (fun s t _ _ hs hl => by
      unfold lnk at hl
      rw [Bool.and_eq_true, decide_eq_true_eq] at hl
      have := hl.1
      rcases hs with q | q <;> omega)
    obtain ⟨M', d1, d2, d3⟩ := m_chainL63 h hx ho hM.1 hc (fun w4 σ10 => if gn w4 = gn (M : Int) then f_X7_exchange_J205 (f_X7_exchange_L51 x (Ch (σ 71) s0) K m) K x (Ch (σ 71) s0) w4 0 σ10 else f_X7_exchange_J205 (f_X7_exchange_L51 x (Ch (σ 71) s0) K m) K x (Ch (σ 71) s0) w4 1 σ10)
    have hC' := Clo_way hM d2
    have l1 := mask256 h8 hM.1
    have l2 := mask256 h8 hC'.1
    rw [f_X7_exchange_L51, gn_1, if_neg no10, d1, gnN (by omega), gnN (by omega)]
    unfold f_X7_exchange_J205
    by_cases e : (M' : Int) = (M : Int)
    · rw [if_pos e]
      have e' : M' = M := by omega
      obtain ⟨m', rfl⟩ : ∃ m', m = m' + 1 := ⟨m - 1, by omega⟩
      rw [f_X7_exchange_L51, gn_0, if_pos rfl]
      refine ⟨M', rfl, hC', ?_⟩
      intro s t h1 h2 h3 h4
      rw [e'] at h3
      exact d3 s t h1 h2 h3 h4
    · rw [if_neg e]
      rcases Way_more d2 d3 with ⟨z1, z2⟩ | z
      · exact absurd (by rw [z2]) e
      · exact m_chain h hx h0 ho K d m M' hC' (by omega) (by omega)
end
