theorem cN_zero_iff {f : Nat → Bool} : ∀ {n}, cN f n = 0 → ∀ i, i < n → f i = false
  | 0, _, i, h => absurd h (Nat.not_lt_zero i)
  | n + 1, h, i, hi => by
    rw [cN_s] at h
    by_cases e : i = n
    · cases c : f i with
      | false => rfl
      | true => rw [← e, c] at h; simp at h
    · exact cN_zero_iff (f := f) (n := n) (by omega) i (by omega)
theorem or_bit {M s : Nat} : (fun t => (M ||| 2 ^ s).testBit t) = up (fun t => M.testBit t) s true := by
  funext t
  unfold up
  rw [Nat.testBit_or, Nat.testBit_two_pow]
  by_cases e : t = s
  · rw [if_pos e, decide_eq_true e.symm, Bool.or_true]
  · rw [if_neg e, decide_eq_false (fun q => e q.symm), Bool.or_false]
/-- the reference's second loop: d steps of the greedy one, when at most d wait -/
theorem m_greedy (K : Int → gs_Mem → Option (Int × gs_Mem)) {n : Nat} {A : Nat → Nat → Int} : ∀ (d m : Nat) (σ : gs_Mem) (M : Nat), WF (σ 71) → nS (σ 71) = n → Ap (σ 71) = A → M < 256 → (∀ s, M.testBit s = true → Fx (σ 71) s = false) → cN (wt (Ch (σ 71)) (fun s => M.testBit s)) n ≤ d → d < m →
    ∃ (M' : Nat) (q : Nat → Int), f_X7_assigned_L40 K m (M : Int) (nxI (nx n (Ch (σ 71)) A (wt (Ch (σ 71)) (fun s => M.testBit s)) n)) σ = K (M' : Int) (rw_ σ 71 q) ∧ M' < 256 ∧ chr (σ 71) q ∧ WF q ∧ (Ch q, fun s => M'.testBit s) = grd n A d (Ch (σ 71)) (fun s => M.testBit s)
  | d, 0, _, _, _, _, _, _, _, _, h => absurd h (Nat.not_lt_zero d)
  | d, m + 1, σ, M, hW, hn, hA, hM, hF, hd, hm => by
    have h8 := hW.n8
    rw [f_X7_assigned_L40]
    cases e : nx n (Ch (σ 71)) A (wt (Ch (σ 71)) (fun s => M.testBit s)) n with
    | none =>
      rw [show gn (nxI none) = -1 from m1, if_pos (by decide), grd_none e]
      exact ⟨M, σ 71, by rw [rw_self], hM, chr_refl _, hW, rfl⟩
    | some s =>
      obtain ⟨s1, s2⟩ := nx_some e
      have hpos : 0 < d := by
        apply Classical.byContradiction
        intro z
        have := cN_zero_iff (show cN (wt (Ch (σ 71)) (fun s => M.testBit s)) n = 0 by omega) s s1
        rw [s2] at this; cases this
      obtain ⟨d', rfl⟩ : ∃ d', d = d' + 1 := ⟨d - 1, by omega⟩
      have hs : s < nS (σ 71) := by omega
      have hf : Fx (σ 71) s = false := by
        cases c : Fx (σ 71) s with
        | false => rfl
        | true =>
          rw [Fx_lt hs, decide_eq_true_eq] at c
          have := hW.fc hs c
          unfold wt at s2
          rw [Ch_lt hs, decide_eq_false (by omega)] at s2
          cases s2
      have rng := alF_rng n (Ch (σ 71)) A s
      have el := m_leastAllowed hW hs
      rw [hn, hA] at el
      show ∃ (M' : Nat) (q : Nat → Int), (if gn (s : Int) < 0 then K (M : Int) σ else (f_X7_leastAllowed (s : Int) σ).bind fun u5 => if 0 ≤ gn u5 then (f_X7_has (s : Int) u5 σ).bind fun b6 => f_X7_assigned_J69 (f_X7_assigned_L40 K m) K (M : Int) b6.2 else f_X7_assigned_J69 (f_X7_assigned_L40 K m) K (gor (M : Int) (gshl 1 (s : Int))) σ) = K (M' : Int) (rw_ σ 71 q) ∧ _
      rw [gnN (by omega), if_neg (by omega), el, Option.bind_some, gnS (by omega), grd_step e]
      unfold f_X7_assigned_J69
      rcases rng with z | z
      · rw [z, if_neg (by decide), if_pos (by decide), gshl_one s (by omega), gor_nat (by omega) (p31 (by omega))]
        have hM' : (M ||| 2 ^ s) < 256 := Nat.or_lt_two_pow (n := 8) hM (Nat.pow_lt_pow_right (by decide) (by omega))
        have en := m_nextOne hW hM'
        rw [hn, hA] at en
        rw [en, Option.bind_some]
        have hw := wt_st (c := Ch (σ 71)) (st := fun s => M.testBit s) s1 s2
        have ih := m_greedy K d' m σ (M ||| 2 ^ s) hW hn hA hM' (fun t ht => by
          have : (fun t => (M ||| 2 ^ s).testBit t) t = true := ht
          rw [or_bit] at this
          unfold up at this
          by_cases q : t = s
          · rw [q]; exact hf
          · rw [if_neg q] at this; exact hF t this) (by rw [or_bit]; omega) (by omega)
        rw [← or_bit]
        exact ih
      · rw [if_pos z.1, if_neg (by omega), m_has (by omega), Option.bind_some]
        dsimp only
        rw [gs_st_rw]
        have hW' : WF (rs (σ 71) (6 + 4 * s) (alF n (Ch (σ 71)) A s)) := WF_rs hW hs (by omega) (fun q => by rw [hf] at q; cases q)
        have hc := chr_rs (σ 71) (show s < 8 by omega) (alF n (Ch (σ 71)) A s)
        have hn' : nS (rs (σ 71) (6 + 4 * s) (alF n (Ch (σ 71)) A s)) = n := (geo_nS (chr_geo hc)).trans hn
        have hA' : Ap (rs (σ 71) (6 + 4 * s) (alF n (Ch (σ 71)) A s)) = A := (chr_Ap hc hW).trans hA
        have hC' := Ch_rs hs (alF n (Ch (σ 71)) A s)
        have en := m_nextOne (σ := rw_ σ 71 (rs (σ 71) (6 + 4 * s) (alF n (Ch (σ 71)) A s))) (by rw [rw_same]; exact hW') hM
        rw [rw_same, hn', hA'] at en
        rw [en, Option.bind_some]
        have hw := wt_c (c := Ch (σ 71)) (st := fun s => M.testBit s) (x := alF n (Ch (σ 71)) A s) z.1 s1 s2
        have ih := m_greedy K (n := n) (A := A) d' m (rw_ σ 71 (rs (σ 71) (6 + 4 * s) (alF n (Ch (σ 71)) A s))) M (by rw [rw_same]; exact hW') (by rw [rw_same]; exact hn') (by rw [rw_same]; exact hA') hM (fun t ht => by rw [rw_same, chr_Fx hc]; exact hF t ht) (by rw [rw_same, hC']; omega) (by omega)
        rw [rw_same] at ih
        obtain ⟨M', q, i1, i2, i3, i4, i5⟩ := ih
        refine ⟨M', q, ?_, i2, chr_trans hc i3, i4, ?_⟩
        · rw [i1, rw_rw]
        · rw [i5, hC']
