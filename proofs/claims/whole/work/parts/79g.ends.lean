/-! ===== ends: the plan goes on both sides ===== -/
theorem geo_symm {p q : Nat → Int} (g : geo p q) : geo q p := ⟨g.1.symm, fun s hs => ⟨(g.2.1 s hs).1.symm, (g.2.1 s hs).2.symm⟩, fun t ht => ⟨(g.2.2 t ht).1.symm, (g.2.2 t ht).2.symm⟩⟩
/-- rows that say the same of places, rules, channels, marks -/
def Eqv (t u : Nat → Int) : Prop := geo t u ∧ Ch u = Ch t ∧ Fx u = Fx t
theorem Eqv.refl (t : Nat → Int) : Eqv t t := ⟨geo_refl t, rfl, rfl⟩
theorem Eqv_asg {t u : Nat → Int} (h : Eqv t u) (ht : WF t) : asg u = asg t := asg_congr (geo_nS h.1) (geo_Ap h.1 ht) (clr_eq (fun s => by rw [h.2.2]) (fun s _ => by rw [h.2.1]))
theorem Eqv_chr {t u q r : Nat → Int} (h : Eqv t u) (h1 : chr t q) (h2 : chr u r) (hc : Ch r = Ch q) : Eqv q r :=
  ⟨geo_trans (geo_symm (chr_geo h1)) (geo_trans h.1 (chr_geo h2)), hc, by rw [chr_Fx h2, chr_Fx h1, h.2.2]⟩
theorem Eqv_pcf {t u : Nat → Int} (h : Eqv t u) (ht : WF t) (hu : WF u) {s : Nat} (hs : s < nS t) (c f : Int) : Eqv (pcf t s c f) (pcf u s c f) := by
  have h8 := ht.n8
  have hn := geo_nS h.1
  refine ⟨geo_trans (geo_symm (pcf_geo t (show s < 8 by omega) c f)) (geo_trans h.1 (pcf_geo u (show s < 8 by omega) c f)), ?_, ?_⟩
  · rw [pcf_Ch hu (by omega), pcf_Ch ht hs, h.2.1]
  · rw [pcf_Fx hu (by omega), pcf_Fx ht hs, h.2.2]
theorem Eqv_prl {t u : Nat → Int} (h : Eqv t u) (ht : WF t) (hu : WF u) {q : Nat} (hq : q < 3) (x : Int) : Eqv (prl t q x (t (37 + 2 * q))) (prl u q x (u (37 + 2 * q))) := by
  refine ⟨⟨?_, fun s hs => ?_, fun r hr => ?_⟩, ?_, ?_⟩
  · rw [prl_ne _ _ _ _ (by omega), prl_ne _ _ _ _ (by omega), h.1.1]
  · rw [prl_ne _ _ _ _ (by omega), prl_ne _ _ _ _ (by omega), prl_ne _ _ _ _ (by omega), prl_ne _ _ _ _ (by omega)]
    exact h.1.2.1 s hs
  · rw [prl_x, prl_x, prl_y, prl_y, (h.1.2.2 r hr).1, (h.1.2.2 r hr).2, (h.1.2.2 q hq).2]
    exact ⟨rfl, rfl⟩
  · rw [prl_Ch hu hq, prl_Ch ht hq, h.2.1]
  · rw [prl_Fx hu hq, prl_Fx ht hq, h.2.2]
/-- one row of the plan, on both sides -/
theorem plan_step {τ : gs_Mem} {t : Nat → Int} (hp : PlR τ 39 t) (h : WF t) {x y : Int} (hx : 0 ≤ x ∧ x ≤ 3) (hy : (x = 1 ∨ x = 3) → 0 ≤ y ∧ y < (nS t : Int)) (hy2 : x = 2 → 0 ≤ y ∧ y ≤ 40) :
    ∃ (τ' : gs_Mem) (t' : Nat → Int), f_X6_goAhead x y τ = some (0, τ') ∧ PlR τ' 39 t' ∧ WF t' ∧ nS t' = nS t ∧ Fr τ τ' 39 ∧ ∀ ρ : gs_Mem, WF (ρ 71) → Eqv t (ρ 71) → ∃ q, f_X7_planGoes x y ρ = some (0, rw_ ρ 71 q) ∧ WF q ∧ Eqv t' q ∧ rest (ρ 71) q := by
  have h8 := h.n8
  unfold f_X6_goAhead
  rw [gnS (x := x) (by omega)]
  by_cases c0 : x = 0
  · rw [if_pos c0]
    obtain ⟨τ', q, a1, a2, a3, a4, a5, a6⟩ := i_tuneAll hp h
    refine ⟨τ', q, by rw [a1, Option.bind_some], a2, a3, geo_nS (chr_geo a4), a6, fun ρ hW hE => ?_⟩
    obtain ⟨r, b1, b2, b3, b4⟩ := m_assigned hW
    refine ⟨r, ?_, b3, Eqv_chr hE a4 b2 ?_, chr_rest b2⟩
    · unfold f_X7_planGoes
      rw [gnS (x := x) (by omega), if_pos c0, b1, Option.bind_some]
    · rw [b4, a5]
      unfold asgC
      rw [Eqv_asg hE h]
  · rw [if_neg c0]
    by_cases c1 : x = 1
    · rw [if_pos c1]
      obtain ⟨s, rfl, hs⟩ := nat_of (hy (Or.inl c1))
      obtain ⟨τ', a1, a2, a3⟩ := i_tune hp h hs (v := -1) (by decide)
      rw [if_pos rfl] at a2
      refine ⟨τ', pcf t s (-1) 0, by rw [a1, Option.bind_some], a2, pcf_WF h hs (by decide) (Or.inl rfl) (fun q => absurd q (by decide)), geo_nS (pcf_geo _ (by omega) _ _), a3, fun ρ hW hE => ?_⟩
      have hn := geo_nS hE.1
      refine ⟨pcf (ρ 71) s (-1) 0, ?_, pcf_WF hW (by omega) (by decide) (Or.inl rfl) (fun q => absurd q (by decide)), Eqv_pcf hE h hW hs _ _, ?_⟩
      · unfold f_X7_planGoes
        rw [gnS (x := x) (by omega), if_neg c0, if_pos c1, m_has (by omega), Option.bind_some, gnS (x := 4 + 4 * (s : Int) + 3) (by omega), gs_chk_t (by omega) (by omega), t7]
        dsimp only
        rw [gs_st_rw, gs_st_rw, rw_same, rw_rw]
        rfl
      · unfold pcf
        exact rest_rs (rest_rs (rest_refl _) _ (by omega)) _ (by omega)
    · rw [if_neg c1]
      by_cases c2 : x = 2
      · rw [if_pos c2]
        obtain ⟨b, τ', a1, -, -, a4, a5⟩ := i_changeNear hp h (q := 0) (by decide) (hy2 c2)
        have a1' : f_X0_changeNear 39 0 y τ = some (b, τ') := a1
        refine ⟨τ', prl t 0 y (t (37 + 2 * 0)), by rw [a1', Option.bind_some], a4, prl_WF h (by decide) (hy2 c2) (h.gap (by decide)), prl_n _ _ _ _, a5, fun ρ hW hE => ?_⟩
        refine ⟨prl (ρ 71) 0 y (ρ 71 (37 + 2 * 0)), ?_, prl_WF hW (by decide) (hy2 c2) (hW.gap (by decide)), Eqv_prl hE h hW (by decide) y, ?_⟩
        · unfold f_X7_planGoes
          rw [gnS (x := x) (by omega), if_neg c0, if_neg c1, if_pos c2, gs_chk_t (by decide) (by decide), gs_st_rw, prl_self]
        · unfold prl
          exact rest_rs (rest_rs (rest_refl _) _ (by omega)) _ (by omega)
      · rw [if_neg c2]
        obtain ⟨s, rfl, hs⟩ := nat_of (hy (Or.inr (by omega)))
        obtain ⟨τ', a1, a2, a3⟩ := i_pin hp h hs 1
        have hc := h.c hs
        refine ⟨τ', _, by rw [a1, Option.bind_some], a2, ?_, geo_nS (pcf_geo _ (by omega) _ _), a3, fun ρ hW hE => ?_⟩
        · refine pcf_WF h hs hc ?_ (fun q => ?_)
          · split
            · exact Or.inl rfl
            · exact Or.inr rfl
          · split at q
            · exact absurd q (by decide)
            · next z =>
              have : ¬ t (6 + 4 * s) = -1 := fun e => z (Or.inr e)
              omega
        · have hn := geo_nS hE.1
          have ec : Ch (ρ 71) s = t (6 + 4 * s) := by rw [hE.2.1, Ch_lt hs]
          have ec' : ρ 71 (6 + 4 * s) = t (6 + 4 * s) := by rw [← ec, Ch_lt (by omega)]
          unfold f_X7_planGoes
          rw [gnS (x := x) (by omega), if_neg c0, if_neg c1, if_neg c2, m_ch hW (by omega), Option.bind_some, ec, gnS (x := t (6 + 4 * s)) (by omega), gn_1]
          by_cases z : t (6 + 4 * s) = -1
          · rw [if_pos (by omega), if_pos (Or.inr z)]
            refine ⟨ρ 71, by rw [rw_self], hW, ⟨geo_trans (geo_symm (pcf_geo t (show s < 8 by omega) _ _)) hE.1, ?_, ?_⟩, rest_refl _⟩
            · rw [pcf_Ch h hs, hE.2.1]
              funext u
              by_cases e : u = s
              · rw [if_pos e, e, Ch_lt hs]
              · rw [if_neg e]
            · rw [pcf_Fx h hs, hE.2.2]
              funext u
              by_cases e : u = s
              · rw [if_pos e, e, Fx_lt hs, decide_eq_false (show ¬ (0 : Int) = 1 by decide), decide_eq_false (fun q => by have := h.fc hs q; omega)]
              · rw [if_neg e]
          · rw [if_neg (by omega), if_neg (fun e => e.elim (by decide) z), gnS (x := 4 + 4 * (s : Int) + 3) (by omega), gs_chk_t (by omega) (by omega), t7, gs_st_rw]
            have e7 : rs (ρ 71) (7 + 4 * s) 1 = pcf (ρ 71) s (t (6 + 4 * s)) 1 := by
              unfold pcf
              rw [← ec', rs_self]
            rw [e7]
            refine ⟨_, rfl, pcf_WF hW (by omega) hc (Or.inr rfl) (fun _ => by omega), Eqv_pcf hE h hW hs _ _, ?_⟩
            unfold pcf
            exact rest_rs (rest_rs (rest_refl _) _ (by omega)) _ (by omega)
theorem ends_loop {σ : gs_Mem} {p : Nat → Int} (hr : WFr p) (hR : RwR σ 14 52 (p 2) p) (v1 v1' : Int) (K1 K2 : gs_Mem → Option (Int × gs_Mem)) : ∀ (d m k : Nat) (τ : gs_Mem) (t : Nat → Int), (k + d : Nat) = (p 2).toNat → d < m → PlR τ 39 t → WF t → nS t = nS p → Fr σ τ 39 →
    ∃ (τ' : gs_Mem) (t' : Nat → Int), f_X6_ends_L27 v1 K1 m (k : Int) τ = K1 τ' ∧ PlR τ' 39 t' ∧ WF t' ∧ Fr σ τ' 39 ∧ nS t' = nS p ∧ ∀ (m' : Nat) (ρ : gs_Mem), d < m' → WF (ρ 71) → Eqv t (ρ 71) → rest p (ρ 71) → ∃ q, f_X7_ends_L25 v1' K2 m' (k : Int) ρ = K2 (rw_ ρ 71 q) ∧ WF q ∧ Eqv t' q ∧ rest p q
  | d, 0, _, _, _, _, hm, _, _, _, _ => absurd hm (Nat.not_lt_zero d)
  | 0, m + 1, k, τ, t, hk, hm, hp, hW, hn, hF => by
    have b2 := hr.2.1.1
    have hRτ : RwR τ 14 52 (p 2) p := RwR_keep hR (fun c h1 h2 => hF c (by omega))
    refine ⟨τ, t, ?_, hp, hW, hF, hn, fun m' ρ hm' hWρ hE hrr => ?_⟩
    · rw [f_X6_ends_L27]
      unfold f_X1_size
      rw [hRτ.1, Option.bind_some, gnS (x := p 2) (by omega), gnN (by omega), if_pos (by omega)]
    · obtain ⟨m'', rfl⟩ : ∃ m'', m' = m'' + 1 := ⟨m' - 1, by omega⟩
      refine ⟨ρ 71, ?_, hWρ, hE, hrr⟩
      rw [f_X7_ends_L25, gs_chk_t (by decide) (by decide), hrr 2 (by omega), gnS (x := p 2) (by omega), gnN (by omega), if_pos (by omega), rw_self]
  | d + 1, m + 1, k, τ, t, hk, hm, hp, hW, hn, hF => by
    have b2 := hr.2.1.1
    have hRτ : RwR τ 14 52 (p 2) p := RwR_keep hR (fun c h1 h2 => hF c (by omega))
    have hk' : (k : Int) < p 2 := by omega
    have hrow := hr.2.1.2 k hk'
    obtain ⟨τ1, t1_, a1, a2, a3, a4, a5, a6⟩ := plan_step hp hW hrow.1 (by rw [hn]; exact hrow.2.1) hrow.2.2
    have ih := ends_loop hr hR v1 v1' K1 K2 d m (k + 1) τ1 t1_ (by omega) (by omega) a2 a3 (a4.trans hn) (Fr.trans hF a5)
    obtain ⟨τ', t', i1, i2, i3, i4, i5, i6⟩ := ih
    have e53 : 52 + 1 + 2 * k = 53 + 2 * k := by omega
    refine ⟨τ', t', ?_, i2, i3, i4, i5, fun m' ρ hm' hWρ hE hrr => ?_⟩
    · rw [f_X6_ends_L27]
      unfold f_X1_size
      rw [hRτ.1, Option.bind_some, gnS (x := p 2) (by omega), gnN (by omega), if_neg (by omega), (i_first hRτ (by omega) hk').1, Option.bind_some, (i_first hRτ (by omega) hk').2, Option.bind_some, e53, a1, Option.bind_some]
      exact i1
    · obtain ⟨m'', rfl⟩ : ∃ m'', m' = m'' + 1 := ⟨m' - 1, by omega⟩
      obtain ⟨q, c1, c2, c3, c4⟩ := a6 ρ hWρ hE
      have ht := i6 m'' (rw_ ρ 71 q) (by omega) (by rw [rw_same]; exact c2) (by rw [rw_same]; exact c3) (by
        rw [rw_same]
        intro i hi
        rw [c4 i hi, hrr i hi])
      obtain ⟨z, d1, d2, d3, d4⟩ := ht
      refine ⟨z, ?_, d2, d3, d4⟩
      rw [f_X7_ends_L25, gs_chk_t (by decide) (by decide), hrr 2 (by omega), gnS (x := p 2) (by omega), gnN (by omega), if_neg (by omega), gnS (x := 52 + 2 * (k : Int)) (by omega), gs_chk_t (by omega) (by omega), gnS (x := 52 + 2 * (k : Int) + 1) (by omega), gs_chk_t (by omega) (by omega), t52, t53, hrr _ (by omega), hrr _ (by omega), c1, Option.bind_some]
      dsimp only
      rw [rw_rw] at d1
      exact d1
theorem l_ends {σ : gs_Mem} (h : Rel σ) {v : Int} (hv : gn v = v) : Agree (f_X6_ends v σ) (f_X7_ends v) := by
  have hW := h.1.1
  have hP := h.1.2
  have h8 := hW.n8
  have b2 := h.2.1.1.2.1.1
  unfold f_X6_ends
  rw [hv]
  by_cases c2 : 0 ≤ v ∧ v ≤ 1
  · rw [if_neg (by omega), if_pos (by omega)]
    obtain ⟨σ1, a1, a2, a3⟩ := i_copyPl (r0 := 39) (r1 := 2) hP hW (by decide)
    have hR : RwR σ1 14 52 (σ 71 2) (σ 71) := RwR_keep h.2.1.2.1.2.1 (fun c h1 h2 => a3 c (by omega))
    obtain ⟨σ2, t, e1, e2, e3, e4, e5, e6⟩ := ends_loop h.2.1.1 hR v v (fun σ6 => if v = 0 then (f_X0_span 39 σ6).bind fun u8 => some (u8, σ6) else (f_X0_clashes 39 σ6).bind fun u7 => some (u7, σ6)) (fun σ4 => if v = 0 then (f_X7_span σ4).bind fun u7 => f_X7_ends_J84 u7 σ4 else (f_X7_clashes σ4).bind fun u5 => f_X7_ends_J84 u5 σ4) (σ 71 2).toNat gs_fuel 0 σ1 (σ 71) (Nat.zero_add _) (by have := fuel_big; omega) a2 hW rfl (Fr.refl _ _)
    have hF := Fr.trans a3 e4
    have e71 : σ2 71 = σ 71 := hF 71 (by decide)
    have m71 : rw_ σ2 72 (cpR (σ2 71) (σ2 72)) 71 = σ 71 := by rw [rw_ne _ _ _ (by decide), e71]
    obtain ⟨q, d1, d2, d3, d4⟩ := e6 gs_fuel (rw_ σ2 72 (cpR (σ2 71) (σ2 72))) (by have := fuel_big; omega) (by rw [m71]; exact hW) (by rw [m71]; exact Eqv.refl _) (by rw [m71]; exact rest_refl _)
    have hnq : nS q = nS t := geo_nS d3.1
    have hAq : Ap q = Ap t := geo_Ap d3.1 e3
    have hWq : WF (rw_ (rw_ σ2 72 (cpR (σ2 71) (σ2 72))) 71 q 71) := by rw [rw_same]; exact d2
    have bk := m_back (σ := σ2) (q := q) (fun i hi => by rw [d4 i (by omega), e71])
    have hR2 : Rel (rw_ σ2 72 (cpR (σ2 71) (σ2 72))) := Rel_scratch h (fun c h1 h2 => by rw [rw_ne _ _ _ h2]; exact hF c (by omega))
    have ref : f_X7_ends v σ2 = if v = 0 then some (spn (nS t) (Ch t), rw_ σ2 72 (cpR (σ2 71) (σ2 72))) else some (((cls (nS t) (Ch t) (Ap t) : Nat) : Int), rw_ σ2 72 (cpR (σ2 71) (σ2 72))) := by
      unfold f_X7_ends
      rw [in_v hv (by decide) (by decide), Option.bind_some, gn_iteP, if_pos c2, if_neg no10, m_copies (by decide), Option.bind_some, hv]
      dsimp only
      refine Eq.trans d1 ?_
      have ks := m_span hWq
      have kc := m_clashes hWq
      rw [rw_same, hnq, d3.2.1] at ks
      rw [rw_same, hnq, d3.2.1, hAq] at kc
      unfold f_X7_ends_J84
      rw [ks, kc, Option.bind_some, Option.bind_some, bk, Option.bind_some, Option.bind_some]
    rw [a1, Option.bind_some]
    dsimp only
    refine ⟨if v = 0 then spn (nS t) (Ch t) else ((cls (nS t) (Ch t) (Ap t) : Nat) : Int), σ2, rw_ σ2 72 (cpR (σ2 71) (σ2 72)), ?_, ?_, hR2⟩
    · refine Eq.trans e1 ?_
      rw [i_span (e2.pa e3) e3.rg, i_clashes (e2.pa e3) e3.rg, Option.bind_some, Option.bind_some]
      by_cases c : v = 0
      · rw [if_pos c, if_pos c]
      · rw [if_neg c, if_neg c]
    · rw [ref]
      by_cases c : v = 0
      · rw [if_pos c, if_pos c]
      · rw [if_neg c, if_neg c]
  · have bad : f_X7_ends v σ = some (-1, σ) := by
      unfold f_X7_ends
      rw [in_v hv (by decide) (by decide), Option.bind_some, gn_iteP, if_neg c2, if_pos rfl]
    by_cases c3 : v < 0
    · rw [if_pos c3]
      exact ⟨-1, σ, σ, rfl, bad, h⟩
    · rw [if_neg c3, if_neg (by omega)]
      exact ⟨-1, σ, σ, rfl, bad, h⟩
