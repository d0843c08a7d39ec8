/-! ===== fits ===== -/
theorem prl_self (p : Nat → Int) (q : Nat) (x : Int) : prl p q x (p (37 + 2 * q)) = rs p (36 + 2 * q) x := by
  unfold prl
  have e : rs p (36 + 2 * q) x (37 + 2 * q) = p (37 + 2 * q) := rs_ne _ _ _ (by omega)
  rw [← e, rs_self]
theorem oth_congr {p q : Nat → Int} {b : Nat} (c : Nat → Int) (cnt : Int) (e : ∀ i, b ≤ i → q i = p i) : oth q b c cnt = oth p b c cnt := by
  unfold oth
  rw [fN_congr cnt.toNat (fun i _ => ?_)]
  unfold othF
  rw [e _ (by omega), e _ (by omega)]
theorem oth_rng (p : Nat → Int) (b : Nat) (c : Nat → Int) (cnt : Int) (h : cnt ≤ 8) : -2147483648 ≤ oth p b c cnt ∧ oth p b c cnt < 2147483648 := by
  unfold oth
  cases d : fN (othF p b c) cnt.toNat with
  | none => exact (by decide : -2147483648 ≤ (-5 : Int) ∧ (-5 : Int) < 2147483648)
  | some j =>
    have := (fN_prop d).1
    show -2147483648 ≤ (j : Int) ∧ (j : Int) < 2147483648
    omega
/-- the row with another near -/
def pnr (p : Nat → Int) (q k : Nat) : Nat → Int := prl p q (k : Int) (p (37 + 2 * q))
/-- whether by near k + 1 all of the seen would be so -/
def ftG (p : Nat → Int) (q k : Nat) : Bool := decide (oth p 42 (asgC (pnr p q (k + 1))) (p 1) = -5)
theorem pnr_WF {p : Nat → Int} (h : WF p) {q : Nat} (hq : q < 3) {k : Nat} (hk : k ≤ 40) : WF (pnr p q k) := prl_WF h hq (by omega) (h.gap hq)
def ftL (o : Option Nat) (v : Int) : Int := match o with
  | none => v
  | some j => ((j + 1 : Nat) : Int)
theorem m_fits {σ : gs_Mem} (h : WF (σ 71)) (hr : WFr (σ 71)) {q : Nat} (hq : q < 3) (v2 : Int) (K : Int → Int → gs_Mem → Option (Int × gs_Mem)) : ∀ (N m : Nat) (v3 v4 : Int), N ≤ 40 → N < m → f_X7_fits_L45 (q : Int) v2 K m v3 v4 (N : Int) (rw_ σ 72 (cpR (σ 71) (σ 72))) = K (v3 + ((cN (ftG (σ 71) q) N : Nat) : Int)) (ftL (fN (ftG (σ 71) q) N) v4) (rw_ σ 72 (cpR (σ 71) (σ 72)))
  | N, 0, _, _, _, hm => absurd hm (Nat.not_lt_zero N)
  | 0, m + 1, v3, v4, _, _ => by
    rw [f_X7_fits_L45, if_pos (by decide +kernel)]
    show K v3 v4 _ = K (v3 + ((0 : Nat) : Int)) v4 _
    rw [show v3 + ((0 : Nat) : Int) = v3 by omega]
  | N + 1, m + 1, v3, v4, hN, hm => by
    have h8 := h.n8
    have e71 : rw_ σ 72 (cpR (σ 71) (σ 72)) 71 = σ 71 := rw_ne _ _ _ (by decide)
    have hW : WF (pnr (σ 71) q (N + 1)) := pnr_WF h hq hN
    obtain ⟨z, a1, a2, a3, a4⟩ := m_assigned (σ := rw_ (rw_ σ 72 (cpR (σ 71) (σ 72))) 71 (pnr (σ 71) q (N + 1))) (by rw [rw_same]; exact hW)
    rw [rw_same] at a1 a2 a4
    rw [rw_rw] at a1
    have hrest : rest (σ 71) (pnr (σ 71) q (N + 1)) := by
      unfold pnr prl
      exact rest_rs (rest_rs (rest_refl _) _ (by omega)) _ (by omega)
    have hz : rest (σ 71) z := fun i hi => (chr_rest a2 i hi).trans (hrest i hi)
    have hnz : nS (σ 71) ≤ nS z := by rw [geo_nS (chr_geo a2)]; unfold pnr; rw [prl_n]; exact Nat.le_refl _
    have bk := m_back (σ := σ) (q := z) (fun i hi => hz i (by omega))
    have sn := m_isSeen (σ := rw_ (rw_ σ 72 (cpR (σ 71) (σ 72))) 71 z) (by rw [rw_same]; exact a3) (by rw [rw_same]; exact WFr_rest hr hz hnz)
    rw [rw_same, a4, oth_congr _ _ (fun i hi => hz i (by omega)), hz 1 (by omega)] at sn
    rw [f_X7_fits_L45, gnN (by omega), if_neg (by omega), gnS (x := 36 + 2 * (q : Int)) (by omega), gs_chk_t (by omega) (by omega), t36, gs_st_rw, e71, ← prl_self]
    show (f_X7_assigned (rw_ (rw_ σ 72 (cpR (σ 71) (σ 72))) 71 (pnr (σ 71) q (N + 1)))).bind _ = _
    rw [a1, Option.bind_some]
    dsimp only
    unfold f_X7_fits_J84
    rw [sn, Option.bind_some, bk, Option.bind_some, Option.bind_some, gn_iteP]
    dsimp only
    have en : ((N + 1 : Nat) : Int) + -1 = (N : Int) := by omega
    rw [en]
    have eg : ftG (σ 71) q N = decide (oth (σ 71) 42 (asgC (pnr (σ 71) q (N + 1))) (σ 71 1) = -5) := rfl
    have ef : fN (ftG (σ 71) q) (N + 1) = (fN (ftG (σ 71) q) N).or (if ftG (σ 71) q N then some N else none) := rfl
    by_cases c : oth (σ 71) 42 (asgC (pnr (σ 71) q (N + 1))) (σ 71 1) = -5
    · rw [if_pos c, if_neg no10, m_fits h hr hq v2 K N m (v3 + 1) _ (by omega) (by omega), cN_s, ef, eg, decide_eq_true c, if_pos rfl, if_pos rfl]
      have e3 : v3 + 1 + ((cN (ftG (σ 71) q) N : Nat) : Int) = v3 + ((cN (ftG (σ 71) q) N + 1 : Nat) : Int) := by omega
      rw [e3]
      cases fN (ftG (σ 71) q) N with
      | none => rfl
      | some j => rfl
    · rw [if_neg c, if_pos rfl, m_fits h hr hq v2 K N m v3 _ (by omega) (by omega), cN_s, ef, eg, decide_eq_false c, if_neg (by decide), if_neg (by decide), Nat.add_zero]
      cases fN (ftG (σ 71) q) N with
      | none => rfl
      | some j => rfl
/-- the plane on trial: as the row, but for one near, and the channels of the unfixed -/
def Trf (p t : Nat → Int) (q : Nat) : Prop := WF t ∧ t 0 = p 0 ∧ (∀ s, s < 8 → t (4 + 4 * s) = p (4 + 4 * s) ∧ t (5 + 4 * s) = p (5 + 4 * s)) ∧ (∀ r, r < 3 → (r ≠ q → t (36 + 2 * r) = p (36 + 2 * r)) ∧ t (37 + 2 * r) = p (37 + 2 * r)) ∧ clr t = clr p
theorem i_fits {σ : gs_Mem} {p : Nat → Int} (hp : PlR σ 39 p) (h : WF p) (hr : WFr p) (hR : RwR σ 11 42 (p 1) p) {q : Nat} (hq : q < 3) (v2 : Int) (K : Int → Int → gs_Mem → Option (Int × gs_Mem)) : ∃ σ', f_X6_fits_L44 (q : Int) v2 K gs_fuel 0 (-5) 0 1 σ = K ((cN (ftG p q) 40 : Nat) : Int) (ftL (fN (ftG p q) 40) (-5)) σ' ∧ Fr σ σ' 39 := by
  have h8 := h.n8
  refine loop0 (fun m k (a : Int × Int × Int × gs_Mem) => f_X6_fits_L44 (q : Int) v2 K m a.1 a.2.1 a.2.2.1 ((k : Int) + 1) a.2.2.2) (fun k a => a.1 = ((cN (ftG p q) k : Nat) : Int) ∧ a.2.1 = ftL (fN (ftG p q) k) (-5) ∧ Fr σ a.2.2.2 39 ∧ ∃ t, PlR a.2.2.2 39 t ∧ Trf p t q ∧ (1 ≤ k → Ap t = Ap (pnr p q k) ∧ a.2.2.1 = if ftG p q (k - 1) then 1 else 0)) (fun z => ∃ σ', z = K ((cN (ftG p q) 40 : Nat) : Int) (ftL (fN (ftG p q) 40) (-5)) σ' ∧ Fr σ σ' 39) 40 (0, -5, 0, σ) (by decide) ?_ ?_ ⟨rfl, rfl, Fr.refl _ _, p, hp, ⟨h, rfl, fun _ _ => ⟨rfl, rfl⟩, fun _ _ => ⟨fun _ => rfl, rfl⟩, rfl⟩, fun z => absurd z (by omega)⟩
  · intro m k a hk ⟨e1, e2, e3, t, e4, ⟨t1', t2', t3', t4', t5'⟩, e6⟩
    obtain ⟨v3, v4, v5, τ⟩ := a
    have e1 : v3 = _ := e1
    have e2 : v4 = _ := e2
    have e3 : Fr σ τ 39 := e3
    have e4 : PlR τ 39 t := e4
    have e6 : 1 ≤ k → Ap t = Ap (pnr p q k) ∧ v5 = if ftG p q (k - 1) then 1 else 0 := e6
    subst e1
    subst e2
    refine Or.inr ?_
    have hnt : nS t = nS p := by unfold nS; rw [t2']
    have hW' : WF (pnr p q (k + 1)) := pnr_WF h hq (by omega)
    obtain ⟨b, τ1, a1, a2, a3, a4, a5⟩ := i_changeNear e4 t1' hq (x := ((k + 1 : Nat) : Int)) (by omega)
    have hWt : WF (prl t q ((k + 1 : Nat) : Int) (t (37 + 2 * q))) := prl_WF t1' hq (by omega) (t1'.gap hq)
    have hgeo : geo (pnr p q (k + 1)) (prl t q ((k + 1 : Nat) : Int) (t (37 + 2 * q))) := by
      unfold pnr
      refine ⟨?_, fun s hs => ?_, fun r hr => ?_⟩
      · rw [prl_ne _ _ _ _ (by omega), prl_ne _ _ _ _ (by omega), t2']
      · rw [prl_ne _ _ _ _ (by omega), prl_ne _ _ _ _ (by omega), prl_ne _ _ _ _ (by omega), prl_ne _ _ _ _ (by omega)]
        exact t3' s hs
      · rw [prl_x, prl_x, prl_y, prl_y]
        by_cases e : r = q
        · rw [if_pos e, if_pos e, if_pos e, if_pos e]
          exact ⟨rfl, (t4' q hq).2⟩
        · rw [if_neg e, if_neg e, if_neg e, if_neg e]
          exact ⟨(t4' r hr).1 e, (t4' r hr).2⟩
    have hA : Ap (prl t q ((k + 1 : Nat) : Int) (t (37 + 2 * q))) = Ap (pnr p q (k + 1)) := geo_Ap hgeo hW'
    have hclr : clr (prl t q ((k + 1 : Nat) : Int) (t (37 + 2 * q))) = clr p := by
      rw [← t5']
      exact clr_eq (fun s => by rw [prl_Fx t1' hq]) (fun s _ => by rw [prl_Ch t1' hq])
    have hclr' : ∀ j, clr (pnr p q j) = clr p := fun j => clr_eq (fun s => by unfold pnr; rw [prl_Fx h hq]) (fun s _ => by unfold pnr; rw [prl_Ch h hq])
    have hasg : asg (prl t q ((k + 1 : Nat) : Int) (t (37 + 2 * q))) = asg (pnr p q (k + 1)) := asg_congr (geo_nS hgeo) hA (hclr.trans (hclr' _).symm)
    have trf : ∀ z, chr (prl t q ((k + 1 : Nat) : Int) (t (37 + 2 * q))) z → WF z → clr z = clr p → Trf p z q := fun z hz hWz hcz => by
      refine ⟨hWz, ?_, fun s hs => ?_, fun r hr => ?_, hcz⟩
      · rw [hz 0 (fun s _ => by omega), prl_ne _ _ _ _ (by omega), t2']
      · rw [hz _ (fun s _ => by omega), hz _ (fun s _ => by omega), prl_ne _ _ _ _ (by omega), prl_ne _ _ _ _ (by omega)]
        exact t3' s hs
      · rw [hz _ (fun s _ => by omega), hz _ (fun s _ => by omega), prl_x, prl_y]
        by_cases e : r = q
        · rw [if_pos e, e]
          refine ⟨fun n => absurd rfl n, ?_⟩
          rw [if_pos rfl]
          exact (t4' q hq).2
        · rw [if_neg e, if_neg e]
          exact t4' r hr
    -- how a round ends, once it is known whether it is so
    have fin : ∀ (τ' : gs_Mem) (z : Nat → Int), Fr σ τ' 39 → PlR τ' 39 z → Trf p z q → Ap z = Ap (pnr p q (k + 1)) → ∃ a' : Int × Int × Int × gs_Mem, f_X6_fits_J104 (f_X6_fits_L44 (q : Int) v2 K m) K (q : Int) v2 ((cN (ftG p q) k : Nat) : Int) (ftL (fN (ftG p q) k) (-5)) (if ftG p q k then 1 else 0) ((k : Int) + 1) τ' = f_X6_fits_L44 (q : Int) v2 K m a'.1 a'.2.1 a'.2.2.1 (((k + 1 : Nat) : Int) + 1) a'.2.2.2 ∧ a'.1 = ((cN (ftG p q) (k + 1) : Nat) : Int) ∧ a'.2.1 = ftL (fN (ftG p q) (k + 1)) (-5) ∧ Fr σ a'.2.2.2 39 ∧ ∃ t, PlR a'.2.2.2 39 t ∧ Trf p t q ∧ (1 ≤ k + 1 → Ap t = Ap (pnr p q (k + 1)) ∧ a'.2.2.1 = if ftG p q (k + 1 - 1) then 1 else 0) := fun τ' z f1 f2 f3 f4 => by
      have ef : fN (ftG p q) (k + 1) = (fN (ftG p q) k).or (if ftG p q k then some k else none) := rfl
      unfold f_X6_fits_J104 f_X6_fits_J115 f_X6_fits_J134 f_X6_fits_J136
      rw [gn_ite1, cN_s, ef]
      cases c : ftG p q k with
      | false =>
        rw [if_pos (show (if false = true then (1 : Int) else 0) = 0 from rfl), if_pos (show (if false = true then (1 : Int) else 0) = 0 from rfl)]
        refine ⟨(((cN (ftG p q) k : Nat) : Int) + 0, ftL (fN (ftG p q) k) (-5), if false = true then 1 else 0, τ'), rfl, ?_, ?_, f1, z, f2, f3, fun _ => ⟨f4, ?_⟩⟩
        · rw [if_neg (by decide)]; rfl
        · rw [if_neg (by decide)]
          cases fN (ftG p q) k <;> rfl
        · show (if false = true then (1 : Int) else 0) = if ftG p q k = true then 1 else 0
          rw [c]
      | true =>
        rw [if_neg (show ¬ (if true = true then (1 : Int) else 0) = 0 by decide), if_neg (show ¬ (if true = true then (1 : Int) else 0) = 0 by decide)]
        cases d : fN (ftG p q) k with
        | none =>
          rw [if_pos (show gn (ftL none (-5)) = -5 by decide +kernel)]
          refine ⟨(((cN (ftG p q) k : Nat) : Int) + 1, (k : Int) + 1, if true = true then 1 else 0, τ'), rfl, ?_, ?_, f1, z, f2, f3, fun _ => ⟨f4, ?_⟩⟩
          · rw [if_pos rfl]; rfl
          · rfl
          · show (if true = true then (1 : Int) else 0) = if ftG p q k = true then 1 else 0
            rw [c]
        | some j =>
          have hj := (fN_prop d).1
          rw [if_neg (show ¬ gn (ftL (some j) (-5)) = -5 by
            show ¬ gn ((j + 1 : Nat) : Int) = -5
            rw [gnN (by omega)]; omega)]
          refine ⟨(((cN (ftG p q) k : Nat) : Int) + 1, ftL (some j) (-5), if true = true then 1 else 0, τ'), rfl, ?_, ?_, f1, z, f2, f3, fun _ => ⟨f4, ?_⟩⟩
          · rw [if_pos rfl]; rfl
          · rfl
          · show (if true = true then (1 : Int) else 0) = if ftG p q k = true then 1 else 0
            rw [c]
    -- assigned anew
    have anew : ∃ a' : Int × Int × Int × gs_Mem, f_X6_fits_J70 (f_X6_fits_L44 (q : Int) v2 K m) K (q : Int) v2 ((cN (ftG p q) k : Nat) : Int) (ftL (fN (ftG p q) k) (-5)) ((k : Int) + 1) τ1 = f_X6_fits_L44 (q : Int) v2 K m a'.1 a'.2.1 a'.2.2.1 (((k + 1 : Nat) : Int) + 1) a'.2.2.2 ∧ a'.1 = ((cN (ftG p q) (k + 1) : Nat) : Int) ∧ a'.2.1 = ftL (fN (ftG p q) (k + 1)) (-5) ∧ Fr σ a'.2.2.2 39 ∧ ∃ t, PlR a'.2.2.2 39 t ∧ Trf p t q ∧ (1 ≤ k + 1 → Ap t = Ap (pnr p q (k + 1)) ∧ a'.2.2.1 = if ftG p q (k + 1 - 1) then 1 else 0) := by
      obtain ⟨τ2, z, d1, d2, d3, d4, d5, d6⟩ := i_tuneAll a4 hWt
      have hF : Fr σ τ2 39 := Fr.trans e3 (Fr.trans a5 d6)
      have hRτ : RwR τ2 11 42 (p 1) p := RwR_keep hR (fun c h1 h2 => hF c (by omega))
      have hnz : nS z = nS p := (geo_nS (chr_geo d4)).trans ((prl_n _ _ _ _).trans hnt)
      have hcz : clr z = clr p := by
        rw [← hclr]
        refine clr_eq (fun s => by rw [chr_Fx d4]) (fun s hs => ?_)
        rw [d5, asg_fix hWt hs]
      have eC : asgC (prl t q ((k + 1 : Nat) : Int) (t (37 + 2 * q))) = asgC (pnr p q (k + 1)) := by unfold asgC; rw [hasg]
      have ot := i_oth (u := 11) (r := 39) (b := 42) hRτ (by have := hr.1.1; omega) (d2.pa d3) d3.rg (fun j hj => by
        have := hr.1.2 j hj
        rw [hnz, show 42 + 1 + 2 * j = 43 + 2 * j by omega]
        exact ⟨this.1, by omega⟩)
      rw [d5, eC] at ot
      have eg : ftG p q k = decide (oth p 42 (asgC (pnr p q (k + 1))) (p 1) = -5) := rfl
      have go := fin τ2 z hF d2 (trf z d4 d3 hcz) ((chr_Ap d4 hWt).trans hA)
      unfold f_X6_fits_J70
      rw [d1, Option.bind_some]
      dsimp only
      rw [ot, Option.bind_some]
      unfold f_X6_fits_J102
      by_cases c : oth p 42 (asgC (pnr p q (k + 1))) (p 1) = -5
      · rw [eg, decide_eq_true c, if_pos rfl] at go
        rw [if_pos (by rw [c]; decide +kernel)]
        exact go
      · rw [eg, decide_eq_false c, if_neg (by decide)] at go
        rw [if_neg (fun y => c (by rw [← gnS (oth_rng p 42 (asgC (pnr p q (k + 1))) (p 1) (by have := hr.1.1; omega))]; exact y))]
        exact go
    rw [f_X6_fits_L44]
    have ek : ((k : Int) + 1) = ((k + 1 : Nat) : Int) := rfl
    have hgk : gn ((k : Int) + 1) = (k : Int) + 1 := gnS (by omega)
    dsimp only
    rw [hgk, if_neg (by omega), show f_X0_changeNear 39 (q : Int) ((k : Int) + 1) τ = some (b, τ1) from a1, Option.bind_some]
    dsimp only
    by_cases c : gn b = 0
    · rw [if_pos c]
      have hb0 : b = 0 := by
        rcases a2 with z | z
        · exact z
        · rw [z, gn_1] at c; exact absurd c no10
      by_cases d : (k : Int) + 1 = 1
      · rw [if_pos d]; exact anew
      · rw [if_neg d]
        obtain ⟨g1, g2⟩ := e6 (by omega)
        have eA : Ap (pnr p q (k + 1)) = Ap (pnr p q k) := by rw [← hA, a3.mp hb0, g1]
        have eas : asg (pnr p q (k + 1)) = asg (pnr p q k) := asg_congr (by unfold pnr; rw [prl_n, prl_n]) eA ((hclr' _).trans (hclr' _).symm)
        have eG : ftG p q k = ftG p q (k - 1) := by
          unfold ftG
          rw [show k - 1 + 1 = k by omega]
          unfold asgC
          rw [eas]
        have g2' : v5 = _ := g2
        rw [g2', ← eG]
        exact fin τ1 _ (Fr.trans e3 a5) a4 (trf _ (chr_refl _) hWt hclr) hA
    · rw [if_neg c]; exact anew
  · intro m a ⟨e1, e2, e3, _⟩
    obtain ⟨v3, v4, v5, τ⟩ := a
    have e1 : v3 = _ := e1
    have e2 : v4 = _ := e2
    refine ⟨τ, ?_, e3⟩
    rw [e1, e2]
    rw [f_X6_fits_L44, if_pos (by decide +kernel)]
theorem l_fits {σ : gs_Mem} (h : Rel σ) {u v : Int} (hu : gn u = u) (hv : gn v = v) : Agree (f_X6_fits u v σ) (f_X7_fits u v) := by
  have hW := h.1.1
  have hP := h.1.2
  have h8 := hW.n8
  unfold f_X6_fits
  rw [i_isRule, Option.bind_some, gn_iteP, hu, hv]
  by_cases c1 : 0 ≤ u ∧ u ≤ 2
  · obtain ⟨q, rfl, hq⟩ : ∃ q : Nat, u = q ∧ q < 3 := ⟨u.toNat, by omega, by omega⟩
    rw [if_pos c1, if_neg no10]
    by_cases c2 : 0 ≤ v ∧ v ≤ 1
    · rw [if_neg (by omega), if_pos (by omega)]
      obtain ⟨σ1, a1, a2, a3⟩ := i_copyPl (r0 := 39) (r1 := 2) hP hW (by decide)
      have hR : RwR σ1 11 42 (σ 71 1) (σ 71) := RwR_keep h.2.1.2.1.1 (fun c h1 h2 => a3 c (by omega))
      obtain ⟨σ2, b1, b2⟩ := i_fits a2 hW h.2.1.1 hR hq v (fun w3 w4 σ6 => if v = 0 then some (w3, σ6) else some (w4, σ6))
      have hF := Fr.trans a3 b2
      have e71 : σ2 71 = σ 71 := hF 71 (by decide)
      have mo := m_fits (σ := σ2) (by rw [e71]; exact hW) (by rw [e71]; exact h.2.1.1) hq v (fun w3 w4 σ7 => if v = 0 then some (w3, σ7) else some (w4, σ7)) 40 gs_fuel 0 (-5) (by decide) (by have := fuel_big; omega)
      have ref : f_X7_fits (q : Int) v σ2 = if v = 0 then some (0 + ((cN (ftG (σ 71) q) 40 : Nat) : Int), rw_ σ2 72 (cpR (σ2 71) (σ2 72))) else some (ftL (fN (ftG (σ 71) q) 40) (-5), rw_ σ2 72 (cpR (σ2 71) (σ2 72))) := by
        unfold f_X7_fits
        rw [in_v hu (by decide) (by decide), Option.bind_some, gn_iteP, if_pos c1, if_neg no10, in_v hv (by decide) (by decide), Option.bind_some, gn_iteP, if_pos c2, if_neg no10, m_copies (by decide), Option.bind_some, hv]
        dsimp only
        refine Eq.trans mo ?_
        rw [e71]
      have hR2 : Rel (rw_ σ2 72 (cpR (σ2 71) (σ2 72))) := Rel_scratch h (fun c h1 h2 => by rw [rw_ne _ _ _ h2]; exact hF c (by omega))
      rw [a1, Option.bind_some]
      dsimp only
      rw [b1]
      by_cases c3 : v = 0
      · rw [if_pos c3]
        refine ⟨_, σ2, rw_ σ2 72 (cpR (σ2 71) (σ2 72)), rfl, ?_, hR2⟩
        rw [ref, if_pos c3, Int.zero_add]
      · rw [if_neg c3]
        refine ⟨_, σ2, rw_ σ2 72 (cpR (σ2 71) (σ2 72)), rfl, ?_, hR2⟩
        rw [ref, if_neg c3]
    · have bad : f_X7_fits (q : Int) v σ = some (-1, σ) := by
        unfold f_X7_fits
        rw [in_v hu (by decide) (by decide), Option.bind_some, gn_iteP, if_pos c1, if_neg no10, in_v hv (by decide) (by decide), Option.bind_some, gn_iteP, if_neg c2, if_pos rfl]
      by_cases c3 : v < 0
      · rw [if_pos c3]
        exact ⟨-1, σ, σ, rfl, bad, h⟩
      · rw [if_neg c3, if_neg (by omega)]
        exact ⟨-1, σ, σ, rfl, bad, h⟩
  · rw [if_neg c1, if_pos rfl]
    refine ⟨-1, σ, σ, rfl, ?_, h⟩
    unfold f_X7_fits
    rw [in_v hu (by decide) (by decide), Option.bind_some, gn_iteP, if_neg c1, if_pos rfl]
