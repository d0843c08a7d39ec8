/-! ===== the clauses become stations, on both sides ===== -/
def adP (p : Nat → Int) (v : gs_V) : Nat → Int := if stR p v.1 v.2.1 < 0 then stQ p v.1 v.2.1 else pcf (stQ p v.1 v.2.1) (stR p v.1 v.2.1).toNat v.2.2.1 v.2.2.2
def adR (p : Nat → Int) (V : Nat → gs_V) : Nat → Nat → Int
  | 0 => p
  | k + 1 => adP (adR p V k) (V k)
def adC (p : Nat → Int) (V : Nat → gs_V) (k : Nat) : Bool := decide (0 ≤ stR (adR p V k) (V k).1 (V k).2.1)
theorem stR_rng (p : Nat → Int) (h : WF p) (x y : Int) : stR p x y = -3 ∨ stR p x y = -4 ∨ (stR p x y = (nS p : Int) ∧ nS (stQ p x y) = nS p + 1) := by
  unfold stR stQ
  by_cases c1 : stA p x y < 0
  · rw [if_pos c1]
    by_cases c2 : nS p = 8
    · rw [if_pos c2]; exact Or.inr (Or.inl rfl)
    · rw [if_neg c2, if_pos ⟨c1, c2⟩]; exact Or.inr (Or.inr ⟨rfl, stP_n _ _ _⟩)
  · rw [if_neg c1]; exact Or.inl rfl
theorem adP_ok {p : Nat → Int} (h : WF p) {v : gs_V} (hv : VOk v) : WF (adP p v) ∧ rest p (adP p v) ∧ nS p ≤ nS (adP p v) := by
  have h8 := h.n8
  have hq := stQ_WF h hv.1 hv.2.1
  have hr := rest_stQ p h v.1 v.2.1
  have h8q := hq.n8
  unfold adP
  by_cases c : stR p v.1 v.2.1 < 0
  · rw [if_pos c]; exact ⟨hq, hr.1, hr.2⟩
  · rw [if_neg c]
    rcases stR_rng p h v.1 v.2.1 with e | e | ⟨e1, e2⟩
    · omega
    · omega
    · rw [e1, show ((nS p : Nat) : Int).toNat = nS p from rfl]
      refine ⟨pcf_WF hq (by omega) hv.2.2.1 hv.2.2.2.1 hv.2.2.2.2, ?_, ?_⟩
      · intro i hi
        unfold pcf
        rw [rs_ne _ _ _ (by omega), rs_ne _ _ _ (by omega)]
        exact hr.1 i hi
      · rw [geo_nS (pcf_geo _ (by omega) _ _)]; exact hr.2
theorem adR_ok {p : Nat → Int} (h : WF p) {V : Nat → gs_V} {N : Nat} (hV : ∀ j, j < N → VOk (V j)) : ∀ k, k ≤ N → WF (adR p V k) ∧ rest p (adR p V k) ∧ nS p ≤ nS (adR p V k)
  | 0, _ => ⟨h, rest_refl p, Nat.le_refl _⟩
  | k + 1, hk => by
    obtain ⟨i1, i2, i3⟩ := adR_ok h hV k (by omega)
    obtain ⟨j1, j2, j3⟩ := adP_ok i1 (hV k (by omega))
    exact ⟨j1, fun i hi => (j2 i hi).trans (i2 i hi), Nat.le_trans i3 j3⟩
theorem m_add {σ : gs_Mem} (h : WF (σ 71)) {V : Nat → gs_V} {N : Nat} (hN : N ≤ 8) (hV : ∀ j, j < N → VOk (V j)) (hS : ∀ j, j < N → SayM σ j (V j)) : f_X7_read_L113 (N : Int) gs_fuel 0 0 σ = some (((cN (adC (σ 71) V) N : Nat) : Int), rw_ σ 71 (adR (σ 71) V N)) := by
  refine loop0 (fun m k (a : Int × gs_Mem) => f_X7_read_L113 (N : Int) m a.1 (k : Int) a.2) (fun k a => a = (((cN (adC (σ 71) V) k : Nat) : Int), rw_ σ 71 (adR (σ 71) V k))) (fun q => q = some (((cN (adC (σ 71) V) N : Nat) : Int), rw_ σ 71 (adR (σ 71) V N))) N (0, σ) (by omega) ?_ ?_ ?_
  · intro m k a hk ha
    subst ha
    obtain ⟨i1, -, -⟩ := adR_ok h hV k (by omega)
    have hv := hV k hk
    obtain ⟨s1, s2, s3, s4⟩ := hS k hk
    have h8 := i1.n8
    have st := m_station (σ := rw_ σ 71 (adR (σ 71) V k)) (by rw [rw_same]; exact i1) hv.1 hv.2.1
    rw [rw_same, rw_rw] at st
    refine Or.inr ⟨_, ?_, rfl⟩
    dsimp only
    rw [f_X7_read_L113, gnN (by omega), gnN (by omega), if_neg (by omega), gnS (x := 4 * (k : Int)) (by omega), gnS (x := 4 * (k : Int) + 1) (by omega), gs_chk_t (by omega) (by omega), gs_chk_t (by omega) (by omega), u0, u1, rw_ne _ _ _ (show (75 : Nat) ≠ 71 by decide), s1, s2, st, Option.bind_some]
    unfold f_X7_read_J194
    show (if gn (stR (adR (σ 71) V k) (V k).1 (V k).2.1) < 0 then _ else _) = _
    have er : adR (σ 71) V (k + 1) = adP (adR (σ 71) V k) (V k) := rfl
    have ec : adC (σ 71) V k = decide (0 ≤ stR (adR (σ 71) V k) (V k).1 (V k).2.1) := rfl
    rcases stR_rng _ i1 (V k).1 (V k).2.1 with e | e | ⟨e1, e2⟩
    · rw [cN_s, er, ec]
      unfold adP
      rw [e, if_pos (by decide +kernel), decide_eq_false (show ¬ (0 : Int) ≤ -3 by decide), if_neg (show ¬ false = true by decide), if_pos (show (-3 : Int) < 0 by decide)]
      rfl
    · rw [cN_s, er, ec]
      unfold adP
      rw [e, if_pos (by decide +kernel), decide_eq_false (show ¬ (0 : Int) ≤ -4 by decide), if_neg (show ¬ false = true by decide), if_pos (show (-4 : Int) < 0 by decide)]
      rfl
    · have hq := stQ_WF i1 hv.1 hv.2.1
      have h8q := hq.n8
      rw [cN_s, er, ec]
      unfold adP
      have nn : ¬ ((nS (adR (σ 71) V k) : Nat) : Int) < 0 := by omega
      rw [e1, gnN (by omega), if_neg nn, if_neg nn, decide_eq_true (show 0 ≤ ((nS (adR (σ 71) V k) : Nat) : Int) by omega), if_pos (show true = true from rfl), gnS (x := 4 * (k : Int) + 2) (by omega), gs_chk_t (by omega) (by omega), gnS (x := 4 * (k : Int) + 3) (by omega), gnS (x := 4 + 4 * ((nS (adR (σ 71) V k) : Nat) : Int) + 3) (by omega), u2, u3, t7]
      dsimp only
      rw [rw_ne _ _ _ (show (75 : Nat) ≠ 71 by decide), s3, m_has (by omega), Option.bind_some, gs_chk_t (by omega) (by omega), gs_chk_t (by omega) (by omega)]
      dsimp only
      rw [gs_st_row _ 71 _ _ (show (75 : Nat) ≠ 71 by decide), rw_ne _ _ _ (show (75 : Nat) ≠ 71 by decide), s4, gs_st_rw, gs_st_rw, rw_same, rw_rw, rw_same, rw_rw]
      rfl
  · intro m a ha
    subst ha
    dsimp only
    rw [f_X7_read_L113, gnN (by omega), if_pos (Int.le_refl _)]
  · show (0, σ) = (((0 : Nat) : Int), rw_ σ 71 (σ 71))
    rw [rw_self]; rfl
theorem i_say {b : gs_Mem} {N k : Nat} (h4 : b 51 4 = (N : Int)) (hN : N ≤ 8) (hk : k < N) {v : gs_V} (hs : Say b k v) (hv : VOk v) : f_X4_x (k : Int) b = some v.1 ∧ f_X4_y (k : Int) b = some v.2.1 ∧ f_X4_channelAt (k : Int) b = some v.2.2.1 ∧ f_X4_isFixedAt (k : Int) b = some v.2.2.2 := by
  obtain ⟨s1, s2, s3, s4⟩ := hs
  unfold f_X4_x f_X4_y f_X4_channelAt f_X4_isFixedAt
  rw [h4, gnN (k := N) (by omega), gnN (k := k) (by omega), if_neg (by omega), if_neg (by omega), if_neg (by omega), if_neg (by omega), if_neg (by omega), if_neg (by omega), if_neg (by omega), if_neg (by omega), gs_chk_t (by omega) (by omega), gs_chk_t (by omega) (by omega), gs_chk_t (by omega) (by omega), gs_chk_t (by omega) (by omega), t1, s1, s2, s3, s4]
  refine ⟨rfl, rfl, rfl, ?_⟩
  rcases hv.2.2.2.1 with e | e
  · rw [e, gn_0, if_pos rfl]
  · rw [e, gn_1, if_neg no10]
theorem i_add {σ : gs_Mem} {p : Nat → Int} (hp : PlR σ 2 p) (h : WF p) {V : Nat → gs_V} {N : Nat} (hN : N ≤ 8) (h4 : σ 51 4 = (N : Int)) (hV : ∀ j, j < N → VOk (V j)) (hS : ∀ j, j < N → Say σ j (V j)) : ∃ σ', f_X6_read_L28 gs_fuel 0 0 σ = some (((cN (adC p V) N : Nat) : Int), σ') ∧ PlR σ' 2 (adR p V N) ∧ Fr σ σ' 2 := by
  refine loop0 (fun m k (a : Int × gs_Mem) => f_X6_read_L28 m a.1 (k : Int) a.2) (fun k a => a.1 = ((cN (adC p V) k : Nat) : Int) ∧ PlR a.2 2 (adR p V k) ∧ Fr σ a.2 2) (fun q => ∃ σ', q = some (((cN (adC p V) N : Nat) : Int), σ') ∧ PlR σ' 2 (adR p V N) ∧ Fr σ σ' 2) N (0, σ) (by omega) ?_ ?_ ⟨rfl, hp, Fr.refl _ _⟩
  · intro m k a hk ⟨a1, a2, a3⟩
    obtain ⟨v0, τ⟩ := a
    have a1 : v0 = _ := a1
    have a2 : PlR τ 2 (adR p V k) := a2
    have a3 : Fr σ τ 2 := a3
    subst a1
    obtain ⟨i1, -, -⟩ := adR_ok h hV k (by omega)
    have hv := hV k hk
    have h8 := i1.n8
    have sayF : ∀ τ' : gs_Mem, Fr σ τ' 2 → τ' 51 4 = (N : Int) ∧ Say τ' k (V k) := fun τ' hF => by
      unfold Say
      rw [hF 51 (by decide), hF 53 (by decide), hF 54 (by decide), hF 55 (by decide), hF 56 (by decide)]
      exact ⟨h4, hS k hk⟩
    obtain ⟨q1, q2, -, -⟩ := i_say (sayF τ a3).1 hN hk (sayF τ a3).2 hv
    obtain ⟨τ1, b1, b2, b3⟩ := i_settle a2 i1 hv.1 hv.2.1
    refine Or.inr ?_
    dsimp only
    rw [f_X6_read_L28]
    unfold f_X4_clauses
    rw [(sayF τ a3).1, Option.bind_some, gnN (by omega), gnN (by omega), if_neg (by omega), q1, Option.bind_some, q2, Option.bind_some, b1, Option.bind_some]
    unfold f_X6_read_J115
    show ∃ a' : Int × gs_Mem, (if gn (stR (adR p V k) (V k).1 (V k).2.1) < 0 then _ else _) = _ ∧ _
    have er : adR p V (k + 1) = adP (adR p V k) (V k) := rfl
    have ec : adC p V k = decide (0 ≤ stR (adR p V k) (V k).1 (V k).2.1) := rfl
    have low : stR (adR p V k) (V k).1 (V k).2.1 < 0 → gn (stR (adR p V k) (V k).1 (V k).2.1) < 0 → PlR τ1 2 (adR p V (k + 1)) ∧ cN (adC p V) (k + 1) = cN (adC p V) k := fun e _ => by
      rw [er, cN_s, ec, decide_eq_false (by omega), if_neg (by decide)]
      unfold adP
      rw [if_pos e]
      exact ⟨b2, rfl⟩
    by_cases c : stR (adR p V k) (V k).1 (V k).2.1 < 0
    · have cg : gn (stR (adR p V k) (V k).1 (V k).2.1) < 0 := by
        rcases stR_rng _ i1 (V k).1 (V k).2.1 with e | e | ⟨e1, -⟩
        · rw [e]; decide +kernel
        · rw [e]; decide +kernel
        · omega
      obtain ⟨l1, l2⟩ := low c cg
      rw [if_pos cg]
      exact ⟨(((cN (adC p V) k : Nat) : Int), τ1), rfl, by rw [l2], l1, Fr.trans a3 b3⟩
    · rcases stR_rng _ i1 (V k).1 (V k).2.1 with e | e | ⟨e1, e2⟩
      · omega
      · omega
      · have hq := stQ_WF i1 hv.1 hv.2.1
        have h8q := hq.n8
        have hs : nS (adR p V k) < nS (stQ (adR p V k) (V k).1 (V k).2.1) := by omega
        obtain ⟨τ2, c1, c2, c3⟩ := i_tune b2 hq hs hv.2.2.1
        have hf7 := hq.f hs
        have hW2 : WF (pcf (stQ (adR p V k) (V k).1 (V k).2.1) (nS (adR p V k)) (V k).2.2.1 (if (V k).2.2.1 = -1 then 0 else stQ (adR p V k) (V k).1 (V k).2.1 (7 + 4 * nS (adR p V k)))) := by
          refine pcf_WF hq hs hv.2.2.1 ?_ (fun z => ?_)
          · split
            · exact Or.inl rfl
            · exact hf7
          · split at z
            · exact absurd z (by decide)
            · have := hv.2.2.1; omega
        have hn2 := geo_nS (pcf_geo (stQ (adR p V k) (V k).1 (V k).2.1) (show nS (adR p V k) < 8 by omega) (V k).2.2.1 (if (V k).2.2.1 = -1 then 0 else stQ (adR p V k) (V k).1 (V k).2.1 (7 + 4 * nS (adR p V k))))
        obtain ⟨τ3, d1, d2, d3⟩ := i_pin c2 hW2 (s := nS (adR p V k)) (by omega) (V k).2.2.2
        have hF2 : Fr σ τ2 2 := Fr.trans a3 (Fr.trans b3 c3)
        obtain ⟨-, -, q3, -⟩ := i_say (sayF τ1 (Fr.trans a3 b3)).1 hN hk (sayF τ1 (Fr.trans a3 b3)).2 hv
        obtain ⟨-, -, -, q4⟩ := i_say (sayF τ2 hF2).1 hN hk (sayF τ2 hF2).2 hv
        have fin : pcf (pcf (stQ (adR p V k) (V k).1 (V k).2.1) (nS (adR p V k)) (V k).2.2.1 (if (V k).2.2.1 = -1 then 0 else stQ (adR p V k) (V k).1 (V k).2.1 (7 + 4 * nS (adR p V k)))) (nS (adR p V k)) (pcf (stQ (adR p V k) (V k).1 (V k).2.1) (nS (adR p V k)) (V k).2.2.1 (if (V k).2.2.1 = -1 then 0 else stQ (adR p V k) (V k).1 (V k).2.1 (7 + 4 * nS (adR p V k))) (6 + 4 * nS (adR p V k))) (if gn (V k).2.2.2 = 0 ∨ pcf (stQ (adR p V k) (V k).1 (V k).2.1) (nS (adR p V k)) (V k).2.2.1 (if (V k).2.2.1 = -1 then 0 else stQ (adR p V k) (V k).1 (V k).2.1 (7 + 4 * nS (adR p V k))) (6 + 4 * nS (adR p V k)) = -1 then 0 else 1) = adR p V (k + 1) := by
          rw [er]
          unfold adP
          rw [if_neg c, e1, show ((nS (adR p V k) : Nat) : Int).toNat = nS (adR p V k) from rfl, pcf_c, if_pos rfl]
          have e4 : (if gn (V k).2.2.2 = 0 ∨ (V k).2.2.1 = -1 then (0 : Int) else 1) = (V k).2.2.2 := by
            rcases hv.2.2.2.1 with e | e
            · rw [e, if_pos (Or.inl gn_0)]
            · have := hv.2.2.2.2 e
              rw [e, if_neg (fun z => z.elim (by decide +kernel) (fun z => by omega))]
          rw [e4]
          funext i
          unfold pcf
          simp only [rs_at]
          by_cases z1 : i = 7 + 4 * nS (adR p V k)
          · rw [if_pos z1, if_pos z1]
          · rw [if_neg z1, if_neg z1, if_neg z1]
            by_cases z2 : i = 6 + 4 * nS (adR p V k)
            · rw [if_pos z2, if_pos z2]
            · rw [if_neg z2, if_neg z2]
        rw [fin] at d2
        rw [e1, gnN (by omega), if_neg (by omega)]
        dsimp only
        rw [q3, Option.bind_some, c1, Option.bind_some]
        dsimp only
        rw [q4, Option.bind_some, d1, Option.bind_some]
        dsimp only
        refine ⟨(((cN (adC p V) k : Nat) : Int) + 1, τ3), rfl, ?_, d2, Fr.trans hF2 d3⟩
        rw [cN_s, ec, decide_eq_true (by omega), if_pos rfl]; rfl
  · intro m a ⟨a1, a2, a3⟩
    obtain ⟨v0, τ⟩ := a
    have a1 : v0 = _ := a1
    have a3 : Fr σ τ 2 := a3
    refine ⟨τ, ?_, a2, a3⟩
    dsimp only
    rw [f_X6_read_L28]
    unfold f_X4_clauses
    rw [a3 51 (by decide), h4, Option.bind_some, gnN (by omega), if_pos (Int.le_refl _), a1]
/-- the texts emptied -/
theorem Rel_text {σ τ : gs_Mem} (h : Rel σ) (e : ∀ c, c ≠ 51 → c ≠ 53 → c ≠ 54 → c ≠ 55 → c ≠ 56 → c ≠ 70 → c ≠ 75 → τ c = σ c) (e3 : τ 70 3 = σ 70 3) (e5 : τ 70 5 = 0) (e1 : τ 51 1 = 0) : Rel τ := by
  obtain ⟨hA, hB, hC, hD, hE⟩ := h
  have k : ∀ c, (c < 51 ∨ 56 < c) → c ≠ 70 → c ≠ 75 → τ c = σ c := fun c h1 h2 h3 => e c (by omega) (by omega) (by omega) (by omega) (by omega) h2 h3
  refine ⟨?_, ?_, ?_, ⟨0, by decide, e5, e1, fun i hi => absurd hi (Nat.not_lt_zero i)⟩, ?_⟩
  · unfold RA
    rw [k 71 (by decide) (by decide) (by decide)]
    exact ⟨hA.1, PlR_keep hA.2 (fun c h1 h2 => k c (by omega) (by omega) (by omega))⟩
  · exact RB_keep hB (fun c h1 h2 => k c (by omega) (by omega) (by omega)) (k 71 (by decide) (by decide) (by decide))
  · exact RC_keep hC (by rw [k 0 (by decide) (by decide) (by decide)]) e3 (k 73 (by decide) (by decide) (by decide)) (fun c h1 h2 => k c (by omega) (by omega) (by omega))
  · exact RE_keep hE (fun c h1 h2 => k c (by omega) (by omega) (by omega)) (k 76 (by decide) (by decide) (by decide)) (k 77 (by decide) (by decide) (by decide)) (k 78 (by decide) (by decide) (by decide))
theorem l_read {σ : gs_Mem} (h : Rel σ) : Agree (f_X6_read σ) f_X7_read := by
  obtain ⟨L, hL, d1, d2, d3⟩ := h.2.2.2.1
  have hT : TxS (σ 74) L := ⟨hL, fun i hi => (d3 i hi).2⟩
  have hW := h.1.1
  have hP := h.1.2
  -- the plane's side, as far as the clauses
  have b0 : TxI (gs_st σ 51 4 0) (σ 74) L := ⟨by rw [gs_st_slot _ _ _ _ (by decide), d2], fun i hi => by rw [gs_st_row _ _ _ _ (show (52 : Nat) ≠ 51 by decide)]; exact (d3 i hi).1⟩
  have e0 : gs_st (gs_st (gs_st σ 51 2 0) 51 3 (-1)) 51 4 0 = S51 (gs_st σ 51 4 0) ((0 : Nat) : Int) (-1) := by
    rw [gs_st_rw, gs_st_rw, gs_st_rw, gs_st_rw, rw_same, rw_rw, rw_same, rw_rw]
    unfold S51
    rw [rw_same, rw_rw]
    refine congrArg (rw_ σ 51) (funext fun i => ?_)
    simp only [rs_at]
    by_cases c : i = 4
    · rw [if_pos c, if_neg (by omega), if_neg (by omega), if_pos c]
    · rw [if_neg c, if_neg c]
      rfl
  obtain ⟨m, hm⟩ : ∃ m, gs_fuel = m + 1 := ⟨gs_fuel - 1, by have := fuel_big; omega⟩
  have hm8 : 7 < m := by have := fuel_big; omega
  obtain ⟨b, p1, p2, p3⟩ := i_parse hT 7 m 0 0 (gs_st σ 51 4 0) (fun _ => (0, 0, 0, 0)) rfl hm8 (Nat.zero_le _) b0 (gs_st_same _ _ _ _) (fun j hj => absurd hj (Nat.not_lt_zero j))
  have hR := prS_ok (T := σ 74) (L := L) 8 0 0 (fun _ => (0, 0, 0, 0)) (Nat.zero_le _) (fun j hj => absurd hj (Nat.not_lt_zero j))
  have ip : f_X4_parse σ = some (flt (prS (σ 74) L 8 0 0 (fun _ => (0, 0, 0, 0))).1, b) := by
    unfold f_X4_parse
    rw [hm, f_X4_parse_L17, if_neg (by decide +kernel), if_pos (by decide +kernel), e0]
    exact p1
  have c2 : ∀ c, c ≠ 51 → c ≠ 53 → c ≠ 54 → c ≠ 55 → c ≠ 56 → gs_st b 51 1 0 c = σ c := fun c h1 h2 h3 h4 h5 => by
    rw [gs_st_row _ _ _ _ h1, p2 c h1 h2 h3 h4 h5, gs_st_row _ _ _ _ h1]
  have txm : ∀ τ : gs_Mem, τ 70 = σ 70 → τ 74 = σ 74 → TxM τ (σ 74) L := fun τ h1 h2 => by
    unfold TxM
    rw [h1, h2]
    exact ⟨d1, fun _ _ => rfl⟩
  have mp : ∀ τ : gs_Mem, τ 70 = σ 70 → τ 74 = σ 74 → ∃ b', f_X7_read τ = rdE (prS (σ 74) L 8 0 0 (fun _ => (0, 0, 0, 0))).1 (prS (σ 74) L 8 0 0 (fun _ => (0, 0, 0, 0))).2.1 b' ∧ (∀ c, c ≠ 70 → c ≠ 75 → b' c = τ c) ∧ (∀ j, j ≠ 5 → j ≠ 6 → b' 70 j = τ 70 j) ∧ b' 70 5 = 0 ∧ ((prS (σ 74) L 8 0 0 (fun _ => (0, 0, 0, 0))).1 = none → ∀ j, j < (prS (σ 74) L 8 0 0 (fun _ => (0, 0, 0, 0))).2.1 → SayM b' j ((prS (σ 74) L 8 0 0 (fun _ => (0, 0, 0, 0))).2.2 j)) := fun τ h1 h2 => m_parse hT 7 gs_fuel 0 0 τ (fun _ => (0, 0, 0, 0)) rfl (by have := fuel_big; omega) (Nat.zero_le _) (txm τ h1 h2) (fun j hj => absurd hj (Nat.not_lt_zero j))
  have p3' : (prS (σ 74) L 8 0 0 (fun _ => (0, 0, 0, 0))).1 = none → b 51 4 = ((prS (σ 74) L 8 0 0 (fun _ => (0, 0, 0, 0))).2.1 : Nat) ∧ ∀ j, j < (prS (σ 74) L 8 0 0 (fun _ => (0, 0, 0, 0))).2.1 → Say b j ((prS (σ 74) L 8 0 0 (fun _ => (0, 0, 0, 0))).2.2 j) := p3
  unfold f_X6_read
  rw [ip, Option.bind_some]
  unfold f_X4_clear
  rw [Option.bind_some]
  clear p1 p3 ip
  generalize prS (σ 74) L 8 0 0 (fun _ => (0, 0, 0, 0)) = R at p3' hR mp ⊢
  dsimp only
  have e1 : gs_st b 51 1 0 51 1 = 0 := gs_st_same _ _ _ _
  generalize hb2 : gs_st b 51 1 0 = b2 at c2 e1 ⊢
  cases hF : R.1 with
  | some F =>
    have hFL := hR.1 F hF
    show Agree (if gn (F : Int) < 0 then _ else some (-10 - (F : Int), b2)) _
    rw [gnN (by omega), if_neg (by omega)]
    obtain ⟨b', m1, m2, m3, m4, -⟩ := mp b2 (c2 70 (by decide) (by decide) (by decide) (by decide) (by decide)) (c2 74 (by decide) (by decide) (by decide) (by decide) (by decide))
    rw [hF] at m1
    refine ⟨-10 - (F : Int), b2, b', rfl, m1, Rel_text h (fun c h1 h2 h3 h4 h5 h6 h7 => by rw [m2 c h6 h7, c2 c h1 h2 h3 h4 h5]) ?_ m4 ?_⟩
    · rw [m3 3 (by decide) (by decide), c2 70 (by decide) (by decide) (by decide) (by decide) (by decide)]
    · rw [m2 51 (by decide) (by decide), e1]
  | none =>
    obtain ⟨hN, hV⟩ := hR.2 hF
    obtain ⟨q4, qS⟩ := p3' hF
    show Agree (if gn (-1) < 0 then f_X6_read_L28 gs_fuel 0 0 b2 else _) _
    rw [if_pos (show gn (-1) < 0 by decide +kernel)]
    have hP2 : PlR b2 2 (σ 71) := PlR_keep hP (fun c h1 h2 => c2 c (by omega) (by omega) (by omega) (by omega) (by omega))
    obtain ⟨σ2, a1, a2, a3⟩ := i_add hP2 hW (V := R.2.2) (N := R.2.1) (by omega) (by rw [← hb2, gs_st_slot _ _ _ _ (by decide)]; exact q4) hV (fun j hj => by
      have := qS j hj
      unfold Say at this ⊢
      rw [← hb2, gs_st_row _ _ _ _ (by decide), gs_st_row _ _ _ _ (by decide), gs_st_row _ _ _ _ (by decide), gs_st_row _ _ _ _ (by decide)]
      exact this)
    obtain ⟨b', m1, m2, m3, m4, m5⟩ := mp σ2 (by rw [a3 70 (by decide)]; exact c2 70 (by decide) (by decide) (by decide) (by decide) (by decide)) (by rw [a3 74 (by decide)]; exact c2 74 (by decide) (by decide) (by decide) (by decide) (by decide))
    have e71 : b' 71 = σ 71 := by rw [m2 71 (by decide) (by decide), a3 71 (by decide), c2 71 (by decide) (by decide) (by decide) (by decide) (by decide)]
    obtain ⟨w1, w2, w3⟩ := adR_ok hW hV R.2.1 (Nat.le_refl _)
    rw [hF] at m1
    have m1' : f_X7_read σ2 = f_X7_read_L113 (R.2.1 : Int) gs_fuel 0 0 b' := m1
    have ma := m_add (σ := b') (by rw [e71]; exact hW) (V := R.2.2) (N := R.2.1) (by omega) hV (m5 hF)
    rw [e71] at ma
    refine ⟨((cN (adC (σ 71) R.2.2) R.2.1 : Nat) : Int), σ2, rw_ b' 71 (adR (σ 71) R.2.2 R.2.1), a1, by rw [m1', ma], ?_⟩
    have e70 : b' 70 3 = σ 70 3 := by rw [m3 3 (by decide) (by decide), a3 70 (by decide), c2 70 (by decide) (by decide) (by decide) (by decide) (by decide)]
    have h0 : Rel (fun c => if 2 ≤ c ∧ c ≤ 10 then σ c else b' c) := by
      refine Rel_text h (fun c h1 h2 h3 h4 h5 h6 h7 => ?_) ?_ ?_ ?_
      · by_cases c0 : 2 ≤ c ∧ c ≤ 10
        · rw [if_pos c0]
        · rw [if_neg c0, m2 c h6 h7, a3 c (by omega), c2 c h1 h2 h3 h4 h5]
      · exact e70
      · exact m4
      · show b' 51 1 = 0
        rw [m2 51 (by decide) (by decide), a3 51 (by decide), e1]
    have k71 : (if 2 ≤ 71 ∧ 71 ≤ 10 then σ 71 else b' 71) = σ 71 := e71
    refine Rel_plane h0 (fun c hc => ?_) (PlR_keep a2 (fun c h1 h2 => m2 c (by omega) (by omega))) w1 ?_ ?_
    · show b' c = if 2 ≤ c ∧ c ≤ 10 then σ c else b' c
      rw [if_neg (by omega)]
    · rw [k71]; exact w2
    · rw [k71]; exact w3
