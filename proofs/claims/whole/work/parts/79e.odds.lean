/-! ===== odds ===== -/
theorem grd_keep {n : Nat} {A : Nat → Nat → Int} {u : Nat} : ∀ (d : Nat) (c : Nat → Int) (st : Nat → Bool), 0 ≤ c u → (grd n A d c st).1 u = c u
  | 0, _, _, _ => rfl
  | d + 1, c, st, h => by
    cases e : nx n c A (wt c st) n with
    | none => rw [grd_none e]
    | some b =>
      obtain ⟨-, b2⟩ := nx_some e
      have hne : u ≠ b := fun q => by
        unfold wt at b2
        rw [← q, decide_eq_false (by omega)] at b2
        cases b2
      rw [grd_step e]
      by_cases z : alF n c A b < 0
      · rw [if_pos z]; exact grd_keep d c _ h
      · rw [if_neg z]
        have e2 : up c b (alF n c A b) u = c u := if_neg hne
        have := grd_keep (n := n) (A := A) (u := u) d (up c b (alF n c A b)) st (by rw [e2]; exact h)
        rw [this, e2]
theorem Fx_pos {p : Nat → Int} (h : WF p) {s : Nat} (hf : Fx p s = true) : s < nS p ∧ 0 ≤ Ch p s := by
  unfold Fx at hf
  rw [Bool.and_eq_true, decide_eq_true_eq, decide_eq_true_eq] at hf
  exact ⟨hf.1, by rw [Ch_lt hf.1]; exact h.fc hf.1 hf.2⟩
theorem asg_fix {p : Nat → Int} (h : WF p) {s : Nat} (hf : Fx p s = true) : asgC p s = Ch p s := by
  have e : clr p s = Ch p s := by unfold clr; rw [hf]; rfl
  unfold asgC asg
  rw [grd_keep _ _ _ (by rw [e]; exact (Fx_pos h hf).2), e]
theorem clr_eq {p q : Nat → Int} (hf : ∀ s, Fx q s = Fx p s) (hc : ∀ s, Fx p s = true → Ch q s = Ch p s) : clr q = clr p := by
  funext s
  unfold clr
  rw [hf s]
  cases c : Fx p s with
  | true => rw [if_pos rfl, if_pos rfl, hc s c]
  | false => rfl
theorem asgN_le {p : Nat → Int} (h : WF p) : asgN p ≤ 8 := Nat.le_trans (cN_le _ _) h.n8
/-- the reference lays its row back -/
theorem m_back {σ : gs_Mem} {q : Nat → Int} (h : ∀ i, 84 ≤ i → q i = σ 71 i) : f_X7_copies 72 71 (rw_ (rw_ σ 72 (cpR (σ 71) (σ 72))) 71 q) = some (0, rw_ σ 72 (cpR (σ 71) (σ 72))) := by
  rw [m_copies (by decide), rw_rw, rw_same, rw_ne _ _ _ (show (72 : Nat) ≠ 71 by decide), rw_same]
  refine congrArg some (Prod.ext rfl ?_)
  have : cpR (cpR (σ 71) (σ 72)) q = σ 71 := funext fun i => by
    unfold cpR
    by_cases c : i < 84
    · rw [if_pos c, if_pos c]
    · rw [if_neg c, h i (by omega)]
  rw [this]
  funext a
  unfold rw_
  dsimp only
  by_cases c : a = 71
  · rw [if_pos c, if_neg (by omega), c]
  · rw [if_neg c]
theorem chr_84 {p q : Nat → Int} (h : chr p q) : ∀ i, 84 ≤ i → q i = p i := fun i hi => h i (fun s hs => by omega)
theorem pcf_84 (p : Nat → Int) {s : Nat} (hs : s < 8) (c f : Int) : ∀ i, 84 ≤ i → pcf p s c f i = p i := fun i hi => by
  unfold pcf
  rw [rs_ne _ _ _ (by omega), rs_ne _ _ _ (by omega)]
/-- good: nobody is stuck, no clash -/
def odG (p : Nat → Int) (s : Nat) (k : Nat) : Bool := decide (asgN (pcf p s (k : Int) 1) = 0) && decide (cls (nS p) (asgC (pcf p s (k : Int) 1)) (Ap p) = 0)
theorem m_odds {σ : gs_Mem} (h : WF (σ 71)) {s : Nat} (hs : s < nS (σ 71)) (v2 : Int) (K : Int → gs_Mem → Option (Int × gs_Mem)) : f_X7_odds_L38 (s : Int) v2 K gs_fuel 0 0 (rw_ σ 72 (cpR (σ 71) (σ 72))) = K ((cN (odG (σ 71) s) 10 : Nat) : Int) (rw_ σ 72 (cpR (σ 71) (σ 72))) := by
  have h8 := h.n8
  have e71 : rw_ σ 72 (cpR (σ 71) (σ 72)) 71 = σ 71 := rw_ne _ _ _ (by decide)
  refine loop0 (fun m k (v : Int) => f_X7_odds_L38 (s : Int) v2 K m v (k : Int) (rw_ σ 72 (cpR (σ 71) (σ 72)))) (fun k v => v = ((cN (odG (σ 71) s) k : Nat) : Int)) (fun q => q = K ((cN (odG (σ 71) s) 10 : Nat) : Int) (rw_ σ 72 (cpR (σ 71) (σ 72)))) 10 0 (by decide) ?_ ?_ rfl
  · intro m k v hk hv
    subst hv
    refine Or.inr ⟨_, ?_, rfl⟩
    have hW : WF (pcf (σ 71) s (k : Int) 1) := pcf_WF h hs (by omega) (Or.inr rfl) (fun _ => by omega)
    have g := pcf_geo (σ 71) (show s < 8 by omega) (k : Int) 1
    obtain ⟨q, a1, a2, a3, a4⟩ := m_assigned (σ := rw_ (rw_ σ 72 (cpR (σ 71) (σ 72))) 71 (pcf (σ 71) s (k : Int) 1)) (by rw [rw_same]; exact hW)
    rw [rw_same] at a1 a2 a4
    rw [rw_rw] at a1
    have hn : nS q = nS (σ 71) := (geo_nS (chr_geo a2)).trans (geo_nS g)
    have hA : Ap q = Ap (σ 71) := (chr_Ap a2 hW).trans (geo_Ap g h)
    have hN := asgN_le hW
    have hK := cls_small (nS (σ 71)) (asgC (pcf (σ 71) s (k : Int) 1)) (Ap (σ 71)) h8
    have bk := m_back (σ := σ) (q := q) (fun i hi => by rw [chr_84 a2 i hi, pcf_84 _ (by omega) _ _ i hi])
    have kc := m_clashes (σ := rw_ (rw_ σ 72 (cpR (σ 71) (σ 72))) 71 q) (by rw [rw_same]; exact a3)
    rw [rw_same, hn, hA, a4] at kc
    rw [f_X7_odds_L38, gnN (by omega), if_neg (by omega), m_has (by omega), Option.bind_some]
    dsimp only
    rw [gnS (x := 4 + 4 * (s : Int) + 3) (by omega), gs_chk_t (by omega) (by omega), t7, gs_st_rw, gs_st_rw, rw_same, rw_rw, e71]
    show (f_X7_assigned (rw_ (rw_ σ 72 (cpR (σ 71) (σ 72))) 71 (pcf (σ 71) s (k : Int) 1))).bind _ = _
    rw [a1, Option.bind_some]
    dsimp only
    unfold f_X7_odds_J84 f_X7_odds_J85
    rw [kc, Option.bind_some, bk, Option.bind_some, Option.bind_some, gnN (k := asgN (pcf (σ 71) s (k : Int) 1)) (by omega), gnN (k := cls (nS (σ 71)) (asgC (pcf (σ 71) s (k : Int) 1)) (Ap (σ 71))) (by omega), cN_s]
    have eg : odG (σ 71) s k = (decide (asgN (pcf (σ 71) s (k : Int) 1) = 0) && decide (cls (nS (σ 71)) (asgC (pcf (σ 71) s (k : Int) 1)) (Ap (σ 71)) = 0)) := rfl
    by_cases c1 : asgN (pcf (σ 71) s (k : Int) 1) = 0
    · rw [if_pos (by omega)]
      by_cases c2 : cls (nS (σ 71)) (asgC (pcf (σ 71) s (k : Int) 1)) (Ap (σ 71)) = 0
      · rw [if_pos (by omega), eg, decide_eq_true c1, decide_eq_true c2]
        rfl
      · rw [if_neg (by omega), eg, decide_eq_true c1, decide_eq_false c2]
        show f_X7_odds_L38 (s : Int) v2 K m (((cN (odG (σ 71) s) k : Nat) : Int) + 0) ((k : Int) + 1) _ = f_X7_odds_L38 (s : Int) v2 K m ((cN (odG (σ 71) s) k + 0 : Nat) : Int) ((k + 1 : Nat) : Int) _
        rw [Int.add_zero, Nat.add_zero]; rfl
    · rw [if_neg (by omega), eg, decide_eq_false c1]
      show f_X7_odds_L38 (s : Int) v2 K m (((cN (odG (σ 71) s) k : Nat) : Int) + 0) ((k : Int) + 1) _ = f_X7_odds_L38 (s : Int) v2 K m ((cN (odG (σ 71) s) k + 0 : Nat) : Int) ((k + 1 : Nat) : Int) _
      rw [Int.add_zero, Nat.add_zero]; rfl
  · intro m v hv
    rw [f_X7_odds_L38, if_pos (by decide +kernel), hv]
/-- the plane on trial: as the row, where it counts -/
def Trl (p t : Nat → Int) (s : Nat) : Prop := WF t ∧ geo p t ∧ ∀ u, u ≠ s → Fx t u = Fx p u ∧ (Fx p u = true → Ch t u = Ch p u)
theorem i_odds {σ : gs_Mem} {p : Nat → Int} (hp : PlR σ 39 p) (h : WF p) {s : Nat} (hs : s < nS p) (v2 : Int) (K : Int → gs_Mem → Option (Int × gs_Mem)) : ∃ σ', f_X6_odds_L44 (s : Int) v2 K gs_fuel 0 0 σ = K ((cN (odG p s) 10 : Nat) : Int) σ' ∧ Fr σ σ' 39 := by
  have h8 := h.n8
  refine loop0 (fun m k (a : Int × gs_Mem) => f_X6_odds_L44 (s : Int) v2 K m a.1 (k : Int) a.2) (fun k a => a.1 = ((cN (odG p s) k : Nat) : Int) ∧ Fr σ a.2 39 ∧ ∃ t, PlR a.2 39 t ∧ Trl p t s) (fun q => ∃ σ', q = K ((cN (odG p s) 10 : Nat) : Int) σ' ∧ Fr σ σ' 39) 10 (0, σ) (by decide) ?_ ?_ ⟨rfl, Fr.refl _ _, p, hp, h, geo_refl p, fun u _ => ⟨rfl, fun _ => rfl⟩⟩
  · intro m k a hk ⟨e1, e2, t, e3, e4, e5, e6⟩
    obtain ⟨v, τ⟩ := a
    have e1 : v = _ := e1
    have e2 : Fr σ τ 39 := e2
    have e3 : PlR τ 39 t := e3
    subst e1
    have hn : nS t = nS p := geo_nS e5
    have hst : s < nS t := by omega
    have hB : WF (pcf p s (k : Int) 1) := pcf_WF h hs (by omega) (Or.inr rfl) (fun _ => by omega)
    obtain ⟨τ1, b1, b2, b3⟩ := i_tune e3 e4 hst (v := (k : Int)) (by omega)
    have ft := e4.f hst
    have hW1 : WF (pcf t s (k : Int) (if (k : Int) = -1 then 0 else t (7 + 4 * s))) := pcf_WF e4 hst (by omega) (by rw [if_neg (by omega)]; exact ft) (fun _ => by omega)
    have hn1 : nS (pcf t s (k : Int) (if (k : Int) = -1 then 0 else t (7 + 4 * s))) = nS t := geo_nS (pcf_geo _ (by omega) _ _)
    obtain ⟨τ2, c1, c2, c3⟩ := i_pin b2 hW1 (s := s) (by omega) 1
    rw [pcf_c, if_pos rfl, if_neg (show ¬ (gn 1 = 0 ∨ (k : Int) = -1) by rw [gn_1]; omega)] at c2
    have et : pcf (pcf t s (k : Int) (if (k : Int) = -1 then 0 else t (7 + 4 * s))) s (k : Int) 1 = pcf t s (k : Int) 1 := by
      funext i
      unfold pcf
      rw [rs_at, rs_at, rs_at, rs_at, rs_at, rs_at]
      by_cases q1 : i = 7 + 4 * s
      · rw [if_pos q1, if_pos q1]
      · rw [if_neg q1, if_neg q1, if_neg q1]
        by_cases q2 : i = 6 + 4 * s
        · rw [if_pos q2, if_pos q2]
        · rw [if_neg q2, if_neg q2]
    rw [et] at c2
    have hW2 : WF (pcf t s (k : Int) 1) := pcf_WF e4 hst (by omega) (Or.inr rfl) (fun _ => by omega)
    have g2 := pcf_geo t (show s < 8 by omega) (k : Int) 1
    have gp := pcf_geo p (show s < 8 by omega) (k : Int) 1
    have hclr : clr (pcf t s (k : Int) 1) = clr (pcf p s (k : Int) 1) := by
      refine clr_eq (fun u => ?_) (fun u hu => ?_)
      · rw [pcf_Fx e4 hst, pcf_Fx h hs]
        dsimp only
        by_cases q : u = s
        · rw [if_pos q, if_pos q]
        · rw [if_neg q, if_neg q, (e6 u q).1]
      · rw [pcf_Fx h hs] at hu
        dsimp only at hu
        rw [pcf_Ch e4 hst, pcf_Ch h hs]
        dsimp only
        by_cases q : u = s
        · rw [if_pos q, if_pos q]
        · rw [if_neg q] at hu
          rw [if_neg q, if_neg q, (e6 u q).2 hu]
    have hasg : asg (pcf t s (k : Int) 1) = asg (pcf p s (k : Int) 1) := asg_congr (by rw [geo_nS g2, geo_nS gp, hn]) (by rw [geo_Ap g2 e4, geo_Ap gp h, geo_Ap e5 h]) hclr
    obtain ⟨τ3, q, d1, d2, d3, d4, d5, d6⟩ := i_tuneAll c2 hW2
    have hnq : nS q = nS p := (geo_nS (chr_geo d4)).trans ((geo_nS g2).trans hn)
    have hAq : Ap q = Ap p := (chr_Ap d4 hW2).trans ((geo_Ap g2 e4).trans (geo_Ap e5 h))
    have eN : asgN (pcf t s (k : Int) 1) = asgN (pcf p s (k : Int) 1) := by
      unfold asgN; rw [hasg, geo_nS g2, geo_nS gp, hn]
    have eC : asgC (pcf t s (k : Int) 1) = asgC (pcf p s (k : Int) 1) := by unfold asgC; rw [hasg]
    have hN := asgN_le hB
    have hK := cls_small (nS p) (asgC (pcf p s (k : Int) 1)) (Ap p) h8
    have kc := i_clashes (d2.pa d3) d3.rg
    rw [hnq, hAq, d5, eC] at kc
    have hT : Trl p q s := by
      refine ⟨d3, geo_trans e5 (geo_trans g2 (chr_geo d4)), fun u hu => ⟨?_, fun hf => ?_⟩⟩
      · rw [chr_Fx d4, pcf_Fx e4 hst]
        show (if u = s then decide ((1 : Int) = 1) else Fx t u) = Fx p u
        rw [if_neg hu, (e6 u hu).1]
      · have hft : Fx (pcf t s (k : Int) 1) u = true := by
          rw [pcf_Fx e4 hst]
          show (if u = s then decide ((1 : Int) = 1) else Fx t u) = true
          rw [if_neg hu, (e6 u hu).1, hf]
        rw [d5, asg_fix hW2 hft, pcf_Ch e4 hst]
        show (if u = s then (k : Int) else Ch t u) = Ch p u
        rw [if_neg hu, (e6 u hu).2 hf]
    have hF : Fr σ τ3 39 := Fr.trans e2 (Fr.trans b3 (Fr.trans c3 d6))
    have eg : odG p s k = (decide (asgN (pcf p s (k : Int) 1) = 0) && decide (cls (nS p) (asgC (pcf p s (k : Int) 1)) (Ap p) = 0)) := rfl
    rw [f_X6_odds_L44, gnN (by omega), if_neg (by omega), b1, Option.bind_some]
    dsimp only
    rw [c1, Option.bind_some]
    dsimp only
    rw [d1, Option.bind_some]
    dsimp only
    rw [kc, Option.bind_some, eN, gnN (k := asgN (pcf p s (k : Int) 1)) (by omega), gnN (k := cls (nS p) (asgC (pcf p s (k : Int) 1)) (Ap p)) (by omega)]
    unfold f_X6_odds_J93
    by_cases z1 : asgN (pcf p s (k : Int) 1) = 0
    · rw [if_pos (by omega)]
      by_cases z2 : cls (nS p) (asgC (pcf p s (k : Int) 1)) (Ap p) = 0
      · rw [if_pos (by omega)]
        refine Or.inr ⟨(((cN (odG p s) k : Nat) : Int) + 1, τ3), rfl, ?_, hF, q, d2, hT⟩
        rw [cN_s, eg, decide_eq_true z1, decide_eq_true z2]
        rfl
      · rw [if_neg (by omega)]
        refine Or.inr ⟨(((cN (odG p s) k : Nat) : Int), τ3), rfl, ?_, hF, q, d2, hT⟩
        rw [cN_s, eg, decide_eq_true z1, decide_eq_false z2]
        rfl
    · rw [if_neg (by omega)]
      refine Or.inr ⟨(((cN (odG p s) k : Nat) : Int), τ3), rfl, ?_, hF, q, d2, hT⟩
      rw [cN_s, eg, decide_eq_false z1]
      rfl
  · intro m a ⟨e1, e2, _⟩
    obtain ⟨v, τ⟩ := a
    have e1 : v = _ := e1
    refine ⟨τ, ?_, e2⟩
    rw [e1]
    rw [f_X6_odds_L44, if_pos (by decide +kernel)]
theorem l_odds {σ : gs_Mem} (h : Rel σ) {u v : Int} (hu : gn u = u) (hv : gn v = v) : Agree (f_X6_odds u v σ) (f_X7_odds u v) := by
  have hW := h.1.1
  have hP := h.1.2
  have h8 := hW.n8
  unfold f_X6_odds
  rw [i_has hP.1.1 h8, Option.bind_some, hu, gn_iteP, i_isPart, Option.bind_some, gn_iteP, hv]
  by_cases c1 : 0 ≤ u ∧ u < (nS (σ 71) : Int)
  · obtain ⟨s, rfl, hs⟩ := nat_of c1
    rw [if_pos c1, if_neg no10]
    by_cases c2 : 0 ≤ v ∧ v ≤ 1
    · rw [if_pos c2, if_neg no10]
      obtain ⟨σ1, a1, a2, a3⟩ := i_copyPl (r0 := 39) (r1 := 2) hP hW (by decide)
      obtain ⟨σ2, b1, b2⟩ := i_odds a2 hW hs v (fun w3 σ8 => (f_X6_partOf w3 10 v σ8).bind fun u9 => some (u9, σ8))
      have hF := Fr.trans a3 b2
      have e71 : σ2 71 = σ 71 := hF 71 (by decide)
      have hc := cN_le (odG (σ 71) s) 10
      have ip : f_X6_partOf ((cN (odG (σ 71) s) 10 : Nat) : Int) 10 v σ2 = some (prt (cN (odG (σ 71) s) 10) 10 v) := i_partOf (by omega) (by decide) (by decide) v
      rw [a1, Option.bind_some]
      dsimp only
      rw [b1, ip, Option.bind_some]
      refine ⟨prt (cN (odG (σ 71) s) 10) 10 v, σ2, rw_ σ2 72 (cpR (σ2 71) (σ2 72)), rfl, ?_, ?_⟩
      · have mo := m_odds (σ := σ2) (by rw [e71]; exact hW) (by rw [e71]; exact hs) v (fun w3 σ8 => (f_X7_lowest w3 10 v σ8).bind fun u9 => some (u9, σ8))
        have ml : f_X7_lowest ((cN (odG (σ2 71) s) 10 : Nat) : Int) 10 v (rw_ σ2 72 (cpR (σ2 71) (σ2 72))) = some (prt (cN (odG (σ2 71) s) 10) 10 v) := m_lowest (by rw [e71]; omega) (by decide) (by decide) v
        unfold f_X7_odds
        rw [m_isStation (by rw [e71]; exact hW), Option.bind_some, hu, gn_iteP, e71, if_pos c1, if_neg no10, in_v hv (by decide) (by decide), Option.bind_some, gn_iteP, if_pos c2, if_neg no10, m_copies (by decide), Option.bind_some]
        dsimp only
        rw [mo, ml, Option.bind_some, e71]
      · exact Rel_scratch h (fun c h1 h2 => by rw [rw_ne _ _ _ h2]; exact hF c (by omega))
    · rw [if_neg c2, if_pos rfl]
      refine ⟨-9223372036854775808, σ, σ, rfl, ?_, h⟩
      unfold f_X7_odds
      rw [m_isStation hW, Option.bind_some, hu, gn_iteP, if_pos c1, if_neg no10, in_v hv (by decide) (by decide), Option.bind_some, gn_iteP, if_neg c2, if_pos rfl]
  · rw [if_neg c1, if_pos rfl]
    refine ⟨-9223372036854775808, σ, σ, rfl, ?_, h⟩
    unfold f_X7_odds
    rw [m_isStation hW, Option.bind_some, hu, gn_iteP, if_neg c1, if_pos rfl]
