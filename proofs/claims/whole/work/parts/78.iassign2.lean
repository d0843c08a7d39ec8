/-! ===== the plane's next one; giving a channel ===== -/
theorem alw_lt {n : Nat} {c : Nat → Int} {A : Nat → Nat → Int} (s : Nat) (k : Int) : alw n c A s k = aN (fun t => decide (c t < 0) || decide (A s t ≤ ab (c t - k))) n := rfl
theorem aN_up {f g : Nat → Bool} {b : Bool} {s : Nat} (hg : g s = true) (hf : f s = b) (e : ∀ t, t ≠ s → f t = g t) : ∀ n, s < n → aN f n = (aN g n && b)
  | 0, h => absurd h (Nat.not_lt_zero s)
  | n + 1, h => by
    show (aN f n && f n) = ((aN g n && g n) && b)
    by_cases q : s = n
    · subst q
      rw [aN_congr (f := f) (g := g) s (fun i hi => e i (by omega)), hg, hf, Bool.and_true]
    · rw [e n (fun z => q z.symm), aN_up hg hf e n (by omega)]
      cases aN g n <;> cases g n <;> cases b <;> rfl
theorem alw_up {n : Nat} {c : Nat → Int} {A : Nat → Nat → Int} {s : Nat} (hs : s < n) (hc : c s < 0) {x : Int} (hx : 0 ≤ x) (t : Nat) (k : Int) : alw n (up c s x) A t k = (alw n c A t k && !decide (ab (x - k) < A t s)) := by
  rw [alw_lt, alw_lt]
  refine aN_up (s := s) (by rw [decide_eq_true hc]; rfl) ?_ (fun u hu => ?_) n hs
  · unfold up
    rw [if_pos rfl, decide_eq_false (by omega : ¬ x < 0), Bool.false_or]
    by_cases z : ab (x - k) < A t s
    · rw [decide_eq_true z, decide_eq_false (by omega)]; rfl
    · rw [decide_eq_false z, decide_eq_true (by omega)]; rfl
  · unfold up
    rw [if_neg hu]
theorem i_tightest0 {σ : gs_Mem} {r : Nat} {p : Nat → Int} (hp : PlR σ r p) (h : WF p) {W : Nat} (hW : W < 256) {w : Nat → Bool} (hb : ∀ s, s < nS p → W.testBit s = w s) (hO : OpA σ r (nS p) (Ch p) (Ap p) w) : f_X0_tightest r (W : Int) σ = some (nxI (nx (nS p) (Ch p) (Ap p) w (nS p))) := by
  have h8 := h.n8
  refine loop0 (fun m k (a : Int × Int × Int) => f_X0_tightest_L10 σ r (W : Int) m a.1 a.2.1 a.2.2 (k : Int)) (fun k a => a.1 = nxI (nx (nS p) (Ch p) (Ap p) w k) ∧ ∀ b, nx (nS p) (Ch p) (Ap p) w k = some b → a.2.1 = (alC (nS p) (Ch p) (Ap p) b 20 : Nat) ∧ a.2.2 = (apM (nS p) (Ap p) b : Nat)) (fun q => q = some (nxI (nx (nS p) (Ch p) (Ap p) w (nS p)))) (nS p) (-1, 0, 0) (by omega) ?_ ?_ ⟨rfl, fun b hb => by cases hb⟩
  · intro m k a hk ⟨e1, e2⟩
    obtain ⟨v2, v3, v4⟩ := a
    dsimp only at e1 e2 ⊢
    refine Or.inr ?_
    have gk : ∀ {α : Type} (o : Option α), gs_chk (k : Int) 8 o = o := fun o => gs_chk_t (by omega) (by omega)
    rw [f_X0_tightest_L10]
    unfold f_X0_tightest_J69 f_X0_tightest_J84
    rw [hp.1.1, gnN (k := nS p) (by omega), gnN (k := k) (by omega), if_neg (by omega), gbit (by omega) (by omega), hb k hk]
    cases c : w k with
    | false =>
      rw [if_neg (show ¬ (if false = true then (1 : Int) else 0) = 1 by decide)]
      refine ⟨(v2, v3, v4), rfl, ?_, ?_⟩
      · rw [nx_s, c, if_neg (by decide)]; exact e1
      · rw [nx_s, c, if_neg (by decide)]; exact e2
    | true =>
      obtain ⟨M, m1, m2, m3⟩ := hO k hk
      have pc := popc_alw m2 (m3 c)
      have l1 := alC_le (nS p) (Ch p) (Ap p) k 20
      have l3 := apM_le (nS p) (Ap p) k
      have bb := bitCount_spec (v := M) (by omega) σ
      rw [pc] at bb
      rw [if_pos (show (if true = true then (1 : Int) else 0) = 1 from rfl), gk, t1, m1, bb, Option.bind_some, gk, gk, hp.2.2.2.1 k hk, gnN (k := alC (nS p) (Ch p) (Ap p) k 20) (by omega), gnN (k := apM (nS p) (Ap p) k) (by omega)]
      have new : nx (nS p) (Ch p) (Ap p) w (k + 1) = some k → ∃ a' : Int × Int × Int, f_X0_tightest_L10 σ r (W : Int) m (k : Int) (alC (nS p) (Ch p) (Ap p) k 20 : Nat) (apM (nS p) (Ap p) k : Nat) ((k : Int) + 1) = f_X0_tightest_L10 σ r (W : Int) m a'.1 a'.2.1 a'.2.2 ((k + 1 : Nat) : Int) ∧ a'.1 = nxI (nx (nS p) (Ch p) (Ap p) w (k + 1)) ∧ ∀ b, nx (nS p) (Ch p) (Ap p) w (k + 1) = some b → a'.2.1 = (alC (nS p) (Ch p) (Ap p) b 20 : Nat) ∧ a'.2.2 = (apM (nS p) (Ap p) b : Nat) := fun e => by
        refine ⟨((k : Int), ((alC (nS p) (Ch p) (Ap p) k 20 : Nat) : Int), ((apM (nS p) (Ap p) k : Nat) : Int)), rfl, ?_, fun b hb => ?_⟩
        · rw [e]; rfl
        · rw [e] at hb; cases hb; exact ⟨rfl, rfl⟩
      cases q : nx (nS p) (Ch p) (Ap p) w k with
      | none =>
        rw [q] at e1
        rw [e1, show gn (nxI none) = -1 from gnNone, if_pos (by decide)]
        refine new ?_
        rw [nx_s, c, if_pos rfl, q]
      | some b =>
        rw [q] at e1
        obtain ⟨d1, d2⟩ := e2 b q
        have hbk := (nx_some q).1
        have l2 := alC_le (nS p) (Ch p) (Ap p) b 20
        have l4 := apM_le (nS p) (Ap p) b
        have ev : v2 = (b : Int) := e1
        rw [ev, d1, d2, gnN (k := b) (by omega), if_neg (by omega), gnN (k := alC (nS p) (Ch p) (Ap p) b 20) (by omega), gnN (k := apM (nS p) (Ap p) b) (by omega)]
        have old : ahd (nS p) (Ch p) (Ap p) k b = false → ∃ a' : Int × Int × Int, f_X0_tightest_L10 σ r (W : Int) m (b : Int) (alC (nS p) (Ch p) (Ap p) b 20 : Nat) (apM (nS p) (Ap p) b : Nat) ((k : Int) + 1) = f_X0_tightest_L10 σ r (W : Int) m a'.1 a'.2.1 a'.2.2 ((k + 1 : Nat) : Int) ∧ a'.1 = nxI (nx (nS p) (Ch p) (Ap p) w (k + 1)) ∧ ∀ b, nx (nS p) (Ch p) (Ap p) w (k + 1) = some b → a'.2.1 = (alC (nS p) (Ch p) (Ap p) b 20 : Nat) ∧ a'.2.2 = (apM (nS p) (Ap p) b : Nat) := fun e => by
          have en : nx (nS p) (Ch p) (Ap p) w (k + 1) = some b := by
            rw [nx_s, c, if_pos rfl, q]
            dsimp only
            rw [e, if_neg (by decide)]
          refine ⟨((b : Int), ((alC (nS p) (Ch p) (Ap p) b 20 : Nat) : Int), ((apM (nS p) (Ap p) b : Nat) : Int)), rfl, ?_, fun b' hb => ?_⟩
          · rw [en]; rfl
          · rw [en] at hb; cases hb; exact ⟨rfl, rfl⟩
        have new' : ahd (nS p) (Ch p) (Ap p) k b = true → nx (nS p) (Ch p) (Ap p) w (k + 1) = some k := fun e => by
          rw [nx_s, c, if_pos rfl, q]
          dsimp only
          rw [e, if_pos rfl]
        have ea : ahd (nS p) (Ch p) (Ap p) k b = ((decide (alC (nS p) (Ch p) (Ap p) k 20 = alC (nS p) (Ch p) (Ap p) b 20) && decide (apM (nS p) (Ap p) b < apM (nS p) (Ap p) k)) || decide (alC (nS p) (Ch p) (Ap p) k 20 < alC (nS p) (Ch p) (Ap p) b 20)) := rfl
        by_cases c1 : alC (nS p) (Ch p) (Ap p) k 20 < alC (nS p) (Ch p) (Ap p) b 20
        · rw [if_pos (by omega)]
          exact new (new' (by rw [ea, decide_eq_true c1, Bool.or_true]))
        · rw [if_neg (by omega)]
          by_cases c2 : alC (nS p) (Ch p) (Ap p) k 20 = alC (nS p) (Ch p) (Ap p) b 20
          · rw [if_pos (by omega)]
            by_cases c3 : apM (nS p) (Ap p) b < apM (nS p) (Ap p) k
            · rw [if_neg (by omega)]
              exact new (new' (by rw [ea, decide_eq_true c2, decide_eq_true c3]; rfl))
            · rw [if_pos (by omega)]
              exact old (by rw [ea, decide_eq_false c1, decide_eq_false c3, Bool.and_false]; rfl)
          · rw [if_neg (by omega)]
            exact old (by rw [ea, decide_eq_false c1, decide_eq_false c2]; rfl)
  · intro m a ⟨e1, e2⟩
    obtain ⟨v2, v3, v4⟩ := a
    dsimp only at e1 ⊢
    rw [f_X0_tightest_L10, hp.1.1, gnN (by omega), if_pos (Int.le_refl _), e1]
theorem i_tune_on {σ : gs_Mem} {r : Nat} {p : Nat → Int} (hp : PlR σ r p) (h : WF p) {s : Nat} (hs : s < nS p) {x : Int} (hx : 0 ≤ x ∧ x ≤ 19) : f_X0_tune r (s : Int) x σ = some (0, gs_st σ (r + 3) s x) := by
  have h8 := h.n8
  have hA := hp.pa h
  obtain ⟨m, q1, q2, q3⟩ := hp.2.2.2.2
  unfold f_X0_tune f_X0_tune_J37
  rw [i_has_s hA.1 h8 hs, Option.bind_some, gn_1, if_neg no10, gnN (k := s) (by omega), gs_chk_t (by omega) (by omega), gnS (x := x) (by omega), if_neg (by omega), t1, gs_st_far _ _ _ _ (by omega), q1, gand_nat (by omega), Nat.and_self, gs_st_back _ _ _ (by rw [gs_st_far _ _ _ _ (by omega), q1])]
theorem i_give {σ : gs_Mem} {r : Nat} {p : Nat → Int} (hp : PlR σ r p) (h : WF p) {s : Nat} (hs : s < nS p) {x : Int} (hx : 0 ≤ x ∧ x ≤ 19) (hf : Fx p s = false) (hc : Ch p s < 0) {w : Nat → Bool} (hO : OpA σ r (nS p) (Ch p) (Ap p) w) : ∃ σ', f_X0_give r (s : Int) x σ = some (0, σ') ∧ PlR σ' r (rs p (6 + 4 * s) x) ∧ Fr σ σ' r ∧ OpA σ' r (nS p) (up (Ch p) s x) (Ap p) w := by
  have h8 := h.n8
  have hW : WF (rs p (6 + 4 * s) x) := WF_rs h hs (by omega) (fun q => by rw [hf] at q; cases q)
  have hcr := chr_rs p (show s < 8 by omega) x
  have hn := geo_nS (chr_geo hcr)
  have hAq := chr_Ap hcr h
  have hP := PlR_ch hp h hs x
  unfold f_X0_give
  rw [i_tune_on hp h hs hx, Option.bind_some]
  refine loop0 (fun m k (τ : gs_Mem) => f_X0_give_L8 r (s : Int) x m (k : Int) τ) (fun k τ => PlR τ r (rs p (6 + 4 * s) x) ∧ Fr σ τ r ∧ ∀ t, t < nS p → ∃ M : Nat, τ (r + 8) t = (M : Int) ∧ M < 1048576 ∧ (w t = true → ∀ j : Nat, j < 20 → M.testBit j = if t < k then alw (nS p) (up (Ch p) s x) (Ap p) t (j : Int) else alw (nS p) (Ch p) (Ap p) t (j : Int))) (fun q => ∃ σ', q = some (0, σ') ∧ PlR σ' r (rs p (6 + 4 * s) x) ∧ Fr σ σ' r ∧ OpA σ' r (nS p) (up (Ch p) s x) (Ap p) w) (nS p) (gs_st σ (r + 3) s x) (by omega) ?_ ?_ ⟨hP, Fr.st σ r 3 s x (by decide), fun t ht => ?_⟩
  · intro m k τ hk ⟨e1, e2, e3⟩
    have hA' := Ap_rng h s k
    obtain ⟨B, b1, b2, b3⟩ := band_spec (σ := τ) (c := x) (g := Ap p s k) (by omega) hA'
    obtain ⟨M, m1, m2, m3⟩ := e3 k hk
    refine Or.inr ⟨gs_st τ (r + 8) k ((andn M B : Nat) : Int), ?_, PlR_keep7 e1 (fun c h1 h2 => gs_st_row _ _ _ _ (by omega)), Fr.trans e2 (Fr.st τ r 8 k _ (by decide)), fun t ht => ?_⟩
    · have eb := i_between (e1.pa hW) hW.rg (a := s) (b := k) (by rw [hn]; exact hs) (by rw [hn]; exact hk)
      rw [hAq] at eb
      rw [f_X0_give_L8, e1.1.1, hn, gnN (by omega), gnN (by omega), if_neg (by omega), gs_chk_t (by omega) (by omega), eb, Option.bind_some, b1, Option.bind_some, gs_chk_t (by omega) (by omega), t1, m1, gandn_nat (by omega)]
      rfl
    · by_cases e : t = k
      · refine ⟨andn M B, by rw [e, gs_st_same], Nat.lt_of_le_of_lt (andn_le _ _) m2, fun hw j hj => ?_⟩
        rw [e, if_pos (Nat.lt_succ_self k), andn_bit (by omega), m3 (e ▸ hw) j hj, if_neg (Nat.lt_irrefl k), b3 j hj, alw_up hs hc hx.1, decide_eq_true (by omega : 0 ≤ x), Bool.true_and, Ap_comm p s k]
      · rw [gs_st_slot _ _ _ _ e]
        obtain ⟨M', d1, d2, d3⟩ := e3 t ht
        refine ⟨M', d1, d2, fun hw j hj => ?_⟩
        rw [d3 hw j hj]
        by_cases l : t < k
        · rw [if_pos l, if_pos (by omega)]
        · rw [if_neg l, if_neg (by omega)]
  · intro m τ ⟨e1, e2, e3⟩
    refine ⟨τ, ?_, e1, e2, fun t ht => ?_⟩
    · rw [f_X0_give_L8, e1.1.1, hn, gnN (by omega), if_pos (Int.le_refl _)]
    · obtain ⟨M, d1, d2, d3⟩ := e3 t ht
      exact ⟨M, d1, d2, fun hw j hj => by rw [d3 hw j hj, if_pos ht]⟩
  · obtain ⟨M, d1, d2, d3⟩ := hO t ht
    refine ⟨M, by rw [gs_st_far _ _ _ _ (by omega), d1], d2, fun hw j hj => ?_⟩
    rw [d3 hw j hj, if_neg (Nat.not_lt_zero t)]
