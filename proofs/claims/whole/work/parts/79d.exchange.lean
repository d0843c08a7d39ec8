theorem cls_small (n : Nat) (c : Nat → Int) (A : Nat → Nat → Int) (h : n ≤ 8) : cls n c A < 2147483648 := by
  have h1 := clsum_le n c A n
  have h2 := Nat.mul_le_mul h h
  unfold cls
  omega
/-! ===== exchanging: channels laid down where a mask says so ===== -/
def chL (p : Nat → Int) (b : Nat → Bool) (g : Nat → Int) : Nat → Nat → Int
  | 0 => p
  | k + 1 => if b k then rs (chL p b g k) (6 + 4 * k) (g k) else chL p b g k
theorem chL_s (p : Nat → Int) (b : Nat → Bool) (g : Nat → Int) (k : Nat) : chL p b g (k + 1) = if b k then rs (chL p b g k) (6 + 4 * k) (g k) else chL p b g k := rfl
theorem chL_ok {p : Nat → Int} (h : WF p) {b : Nat → Bool} {g : Nat → Int} (hg : ∀ s, s < nS p → b s = true → 0 ≤ g s ∧ g s ≤ 19) : ∀ k, k ≤ nS p → chr p (chL p b g k) ∧ WF (chL p b g k) ∧ Ch (chL p b g k) = fun s => if s < k ∧ b s = true then g s else Ch p s
  | 0, _ => ⟨chr_refl p, h, funext fun s => (if_neg (fun e => absurd e.1 (Nat.not_lt_zero s))).symm⟩
  | k + 1, hk => by
    have h8 := h.n8
    obtain ⟨i1, i2, i3⟩ := chL_ok h hg k (by omega)
    rw [chL_s]
    cases c : b k with
    | false =>
      rw [if_neg (by decide)]
      refine ⟨i1, i2, ?_⟩
      rw [i3]
      funext s
      by_cases e : s = k
      · rw [e, if_neg (by omega), if_neg (by rw [c]; exact fun z => by cases z.2)]
      · by_cases d : s < k ∧ b s = true
        · rw [if_pos d, if_pos ⟨by omega, d.2⟩]
        · rw [if_neg d, if_neg (fun z => d ⟨by omega, z.2⟩)]
    | true =>
      rw [if_pos rfl]
      have hn : nS (chL p b g k) = nS p := geo_nS (chr_geo i1)
      have hgk := hg k (by omega) c
      refine ⟨chr_trans i1 (chr_rs _ (by omega) _), WF_rs i2 (by omega) (by omega) (fun _ => hgk.1), ?_⟩
      rw [Ch_rs (by omega), i3]
      funext s
      unfold up
      by_cases e : s = k
      · rw [if_pos e, if_pos ⟨by omega, e ▸ c⟩, e]
      · rw [if_neg e]
        show (if s < k ∧ b s = true then g s else Ch p s) = _
        by_cases d : s < k ∧ b s = true
        · rw [if_pos d, if_pos ⟨by omega, d.2⟩]
        · rw [if_neg d, if_neg (fun z => d ⟨by omega, z.2⟩)]
/-- the row in which a chain has the other one of the two -/
def swR (p : Nat → Int) (M : Nat) (both : Int) : Nat → Int := chL p (fun s => M.testBit s) (fun s => both - Ch p s) (nS p)
def swC (c : Nat → Int) (M : Nat) (both : Int) (s : Nat) : Int := if M.testBit s then both - c s else c s
theorem swR_ok {p : Nat → Int} (h : WF p) {M : Nat} (hM : ∀ s, M.testBit s = true → s < nS p) {both : Int} (hg : ∀ s, M.testBit s = true → 0 ≤ both - Ch p s ∧ both - Ch p s ≤ 19) : chr p (swR p M both) ∧ WF (swR p M both) ∧ Ch (swR p M both) = swC (Ch p) M both := by
  obtain ⟨i1, i2, i3⟩ := chL_ok h (b := fun s => M.testBit s) (g := fun s => both - Ch p s) (fun s _ q => hg s q) (nS p) (Nat.le_refl _)
  refine ⟨i1, i2, ?_⟩
  unfold swR
  rw [i3]
  funext s
  unfold swC
  cases c : M.testBit s with
  | true => rw [if_pos ⟨hM s c, rfl⟩, if_pos rfl]
  | false => rw [if_neg (fun z => by cases z.2), if_neg (by decide)]
theorem i_swap {σ : gs_Mem} {r : Nat} {p : Nat → Int} (hp : PlR σ r p) (h : WF p) {M : Nat} (hM : ∀ s, M.testBit s = true → s < nS p) {both : Int} (hg : ∀ s, M.testBit s = true → 0 ≤ both - Ch p s ∧ both - Ch p s ≤ 19) : ∃ σ', f_X0_swap r (M : Int) both σ = some (0, σ') ∧ PlR σ' r (swR p M both) ∧ Fr σ σ' r := by
  have h8 := h.n8
  have h256 := mask256 h8 hM
  refine loop0 (fun m k (τ : gs_Mem) => f_X0_swap_L2 r (M : Int) both m (k : Int) τ) (fun k τ => PlR τ r (chL p (fun s => M.testBit s) (fun s => both - Ch p s) k) ∧ Fr σ τ r) (fun q => ∃ σ', q = some (0, σ') ∧ PlR σ' r (swR p M both) ∧ Fr σ σ' r) (nS p) σ (by omega) ?_ ?_ ⟨hp, Fr.refl _ _⟩
  · intro m k τ hk ⟨e1, e2⟩
    obtain ⟨i1, i2, i3⟩ := chL_ok h (b := fun s => M.testBit s) (g := fun s => both - Ch p s) (fun s _ q => hg s q) k (by omega)
    have hn : nS (chL p (fun s => M.testBit s) (fun s => both - Ch p s) k) = nS p := geo_nS (chr_geo i1)
    rw [f_X0_swap_L2, e1.1.1, hn, gnN (by omega), gnN (by omega), if_neg (by omega), gbit (by omega) (by omega), chL_s]
    unfold f_X0_swap_J33
    cases c : M.testBit k with
    | false =>
      rw [if_neg (show ¬ (if false = true then (1 : Int) else 0) = 1 by decide)]
      refine Or.inr ⟨τ, rfl, ?_, e2⟩
      rw [if_neg (by decide)]
      exact e1
    | true =>
      have ec : τ (r + 3) k = Ch p k := by
        have cl := Ch_lt (p := chL p (fun s => M.testBit s) (fun s => both - Ch p s) k) (s := k) (by rw [hn]; exact hk)
        rw [e1.2.1 k (by rw [hn]; exact hk), ← cl, i3]
        exact if_neg (by omega)
      rw [if_pos (show (if true = true then (1 : Int) else 0) = 1 from rfl), gs_chk_t (by omega) (by omega), gs_chk_t (by omega) (by omega), t1, ec]
      refine Or.inr ⟨gs_st τ (r + 3) k (both - Ch p k), rfl, ?_, Fr.trans e2 (Fr.st τ r 3 k _ (by decide))⟩
      rw [if_pos rfl]
      exact PlR_ch e1 i2 (by rw [hn]; exact hk) _
  · intro m τ ⟨e1, e2⟩
    obtain ⟨i1, -, -⟩ := chL_ok h (b := fun s => M.testBit s) (g := fun s => both - Ch p s) (fun s _ q => hg s q) (nS p) (Nat.le_refl _)
    refine ⟨τ, ?_, e1, e2⟩
    rw [f_X0_swap_L2, e1.1.1, geo_nS (chr_geo i1), gnN (by omega), if_pos (Int.le_refl _)]
theorem m_turns {σ : gs_Mem} (h : WF (σ 71)) {M : Nat} (hM : ∀ s, M.testBit s = true → s < nS (σ 71)) {both : Int} (hg : ∀ s, M.testBit s = true → 0 ≤ both - Ch (σ 71) s ∧ both - Ch (σ 71) s ≤ 19) : f_X7_turns (M : Int) both σ = some (0, rw_ σ 71 (swR (σ 71) M both)) := by
  have h8 := h.n8
  have h256 := mask256 h8 hM
  refine loop0 (fun m k (τ : gs_Mem) => f_X7_turns_L2 (M : Int) both m (k : Int) τ) (fun k τ => τ = rw_ σ 71 (chL (σ 71) (fun s => M.testBit s) (fun s => both - Ch (σ 71) s) k)) (fun q => q = some (0, rw_ σ 71 (swR (σ 71) M both))) (nS (σ 71)) σ (by omega) ?_ ?_ (rw_self _ _).symm
  · intro m k τ hk hτ
    subst hτ
    obtain ⟨i1, i2, i3⟩ := chL_ok h (b := fun s => M.testBit s) (g := fun s => both - Ch (σ 71) s) (fun s _ q => hg s q) k (by omega)
    have hn : nS (chL (σ 71) (fun s => M.testBit s) (fun s => both - Ch (σ 71) s) k) = nS (σ 71) := geo_nS (chr_geo i1)
    have i2' : WF (rw_ σ 71 (chL (σ 71) (fun s => M.testBit s) (fun s => both - Ch (σ 71) s) k) 71) := by rw [rw_same]; exact i2
    refine Or.inr ⟨rw_ σ 71 (chL (σ 71) (fun s => M.testBit s) (fun s => both - Ch (σ 71) s) (k + 1)), ?_, rfl⟩
    rw [f_X7_turns_L2, gs_chk_t (by decide) (by decide), m_ch i2' (by rw [rw_same]; omega), rw_same, i2.n0, hn, gnN (by omega), gnN (by omega), if_neg (by omega), gbit (by omega) (by omega), Option.bind_some, m_has (by omega), Option.bind_some, chL_s]
    unfold f_X7_turns_J33
    cases c : M.testBit k with
    | false => rw [if_neg (show ¬ (if false = true then (1 : Int) else 0) = 1 by decide), if_neg (by decide)]; rfl
    | true =>
      have ec : Ch (chL (σ 71) (fun s => M.testBit s) (fun s => both - Ch (σ 71) s) k) k = Ch (σ 71) k := by
        rw [i3]
        exact if_neg (by omega)
      rw [if_pos (show (if true = true then (1 : Int) else 0) = 1 from rfl), if_pos rfl, ec]
      dsimp only
      rw [gs_st_rw, rw_same, rw_rw]; rfl
  · intro m τ hτ
    subst hτ
    obtain ⟨i1, i2, -⟩ := chL_ok h (b := fun s => M.testBit s) (g := fun s => both - Ch (σ 71) s) (fun s _ q => hg s q) (nS (σ 71)) (Nat.le_refl _)
    rw [f_X7_turns_L2, gs_chk_t (by decide) (by decide), rw_same, i2.n0, geo_nS (chr_geo i1), gnN (by omega), if_pos (Int.le_refl _)]
    rfl
/-- whether one of a mask is fixed -/
def anyF (M : Nat) (f : Nat → Bool) (n : Nat) : Bool := !aN (fun s => !(M.testBit s && f s)) n
theorem anyF_f {M : Nat} {f : Nat → Bool} {n : Nat} : anyF M f n = false ↔ ∀ s, s < n → M.testBit s = true → f s = false := by
  unfold anyF
  rw [Bool.not_eq_false', aN_iff]
  refine ⟨fun h s hs hm => ?_, fun h s hs => ?_⟩
  · have := h s hs
    rw [hm, Bool.true_and] at this
    simpa using this
  · cases c : M.testBit s with
    | false => rfl
    | true => rw [h s hs c]; rfl
theorem gand_fix {M F n : Nat} (h8 : n ≤ 8) (hM : ∀ s, M.testBit s = true → s < n) {f : Nat → Bool} (hF : ∀ s, F.testBit s = f s) : (gand (M : Int) (F : Int) = 0) ↔ anyF M f n = false := by
  have h256 := mask256 h8 hM
  rw [gand_nat (by omega), anyF_f]
  constructor
  · intro e s hs hm
    have e' : M &&& F = 0 := by omega
    have := congrArg (fun z => Nat.testBit z s) e'
    rw [Nat.testBit_and, hm, Bool.true_and, Nat.zero_testBit, hF] at this
    exact this
  · intro e
    have : M &&& F = 0 := Nat.eq_of_testBit_eq fun s => by
      rw [Nat.testBit_and, Nat.zero_testBit, hF]
      cases c : M.testBit s with
      | false => rfl
      | true => rw [e s (hM s c) c]; rfl
    rw [this]; rfl
theorem m_fixL213 {σ : gs_Mem} (h : WF (σ 71)) (v2 v3 : Int) {M : Nat} (hM : ∀ s, M.testBit s = true → s < nS (σ 71)) (K : gs_Mem → Option (Int × gs_Mem)) : f_X7_exchange_L213 v2 v3 (M : Int) K gs_fuel 0 σ = if anyF M (Fx (σ 71)) (nS (σ 71)) then some (-5, σ) else K σ := by
  have h8 := h.n8
  have hn := h.n0
  have h256 := mask256 h8 hM
  refine loop0 (fun m k (_ : Unit) => f_X7_exchange_L213 v2 v3 (M : Int) K m (k : Int) σ) (fun k _ => ∀ s, s < k → M.testBit s = true → Fx (σ 71) s = false) (fun q => q = if anyF M (Fx (σ 71)) (nS (σ 71)) then some (-5, σ) else K σ) (nS (σ 71)) () (by omega) ?_ ?_ (fun s hs => absurd hs (Nat.not_lt_zero s))
  · intro m k _ hk hv
    rw [f_X7_exchange_L213, gs_chk_t (by decide) (by decide), hn, gnN (by omega), gnN (by omega), if_neg (by omega), gbit (by omega) (by omega), m_fixed h hk, Option.bind_some, gn_ite1]
    unfold f_X7_exchange_J247
    cases c : M.testBit k with
    | false =>
      rw [if_neg (show ¬ (if false = true then (1 : Int) else 0) = 1 by decide)]
      refine Or.inr ⟨(), rfl, fun s hs hm => ?_⟩
      by_cases e : s = k
      · rw [e, c] at hm; cases hm
      · exact hv s (by omega) hm
    | true =>
      rw [if_pos (show (if true = true then (1 : Int) else 0) = 1 from rfl)]
      cases d : Fx (σ 71) k with
      | false =>
        rw [if_pos (show (if false = true then (1 : Int) else 0) = 0 from rfl)]
        refine Or.inr ⟨(), rfl, fun s hs hm => ?_⟩
        by_cases e : s = k
        · rw [e, d]
        · exact hv s (by omega) hm
      | true =>
        rw [if_neg (show ¬ (if true = true then (1 : Int) else 0) = 0 by decide)]
        refine Or.inl ?_
        cases z : anyF M (Fx (σ 71)) (nS (σ 71)) with
        | true => rw [if_pos rfl]
        | false => rw [anyF_f.mp z k hk c] at d; cases d
  · intro m _ hv
    rw [f_X7_exchange_L213, gs_chk_t (by decide) (by decide), hn, gnN (by omega), if_pos (Int.le_refl _), anyF_f.mpr hv, if_neg (by decide)]
theorem l_exchange {σ : gs_Mem} (h : Rel σ) {u v : Int} (hu : gn u = u) (hv : gn v = v) : Agree (f_X6_exchange u v σ) (f_X7_exchange u v) := by
  have hW := h.1.1
  have hP := h.1.2
  have h8 := hW.n8
  unfold f_X6_exchange
  rw [i_has hP.1.1 h8, Option.bind_some, hu, gn_iteP]
  by_cases c1 : 0 ≤ u ∧ u < (nS (σ 71) : Int)
  · obtain ⟨s, rfl, hs⟩ := nat_of c1
    have hc := Ch_rng hW s
    rw [if_pos c1, if_neg no10, i_isChannel, Option.bind_some, hv, gn_iteP]
    have head : ∀ τ : gs_Mem, τ 71 = σ 71 → f_X7_exchange (s : Int) v τ = if 0 ≤ v ∧ v ≤ 19 then (if Ch (σ 71) s < 0 then some (-3, τ) else if Ch (σ 71) s = v then some (-3, τ) else f_X7_exchange_L51 v (Ch (σ 71) s) (fun w4 σ11 => f_X7_exchange_L213 v (Ch (σ 71) s) w4 (fun σ13 => (f_X7_clashes σ13).bind fun u14 => (f_X7_turns w4 (Ch (σ 71) s + v) σ13).bind fun b15 => (f_X7_clashes b15.2).bind fun u16 => if (gn u16) ≤ (gn u14) then (f_J6_bitCount_0f7a4 w4 b15.2).bind fun u17 => some (u17, b15.2) else (f_X7_turns w4 (Ch (σ 71) s + v) b15.2).bind fun b18 => some ((-6), b18.2)) gs_fuel 0 σ11) gs_fuel ((2 ^ s : Nat) : Int) 1 τ) else some (-2, τ) := fun τ e71 => by
      have hWτ : WF (τ 71) := by rw [e71]; exact hW
      unfold f_X7_exchange
      rw [m_isStation hWτ, Option.bind_some, hu, gn_iteP, e71, if_pos c1, if_neg no10, in_v hv (by decide) (by decide), Option.bind_some, gn_iteP, m_ch hWτ (by rw [e71]; exact hs), Option.bind_some, e71, gnS (x := Ch (σ 71) s) (by omega), hv, gshl_one s (by omega)]
      by_cases z : 0 ≤ v ∧ v ≤ 19
      · rw [if_pos z, if_neg no10, if_pos z]
      · rw [if_neg z, if_pos rfl, if_neg z]
    by_cases c2 : 0 ≤ v ∧ v ≤ 19
    · rw [if_pos c2, if_neg no10, i_ch (hP.pa hW) hW.rg hs, Option.bind_some, Option.bind_some, gnS (x := Ch (σ 71) s) (by omega)]
      by_cases c3 : Ch (σ 71) s = -1
      · rw [if_pos c3]
        refine ⟨-3, σ, σ, rfl, ?_, h⟩
        rw [head σ rfl, if_pos c2, if_pos (by omega)]
      · rw [if_neg c3]
        by_cases c4 : Ch (σ 71) s = v
        · rw [if_pos c4]
          refine ⟨-3, σ, σ, rfl, ?_, h⟩
          rw [head σ rfl, if_pos c2, if_neg (by omega), if_pos c4]
        · rw [if_neg c4]
          have hb : 0 ≤ Ch (σ 71) s + v ∧ Ch (σ 71) s + v ≤ 38 := by omega
          obtain ⟨M, a1, a2, a3⟩ := i_chainOf (hP.pa hW) hW.rg hb hs
          have hMl := a2.1
          have h256 := mask256 h8 hMl
          have hmem : ∀ t, M.testBit t = true → Ch (σ 71) t = Ch (σ 71) s ∨ Ch (σ 71) t = v := a2.2.2 (fun t => Ch (σ 71) t = Ch (σ 71) s ∨ Ch (σ 71) t = v) (Or.inl rfl) (fun x t _ _ hx hl => by
            unfold lnk at hl
            rw [Bool.and_eq_true, decide_eq_true_eq] at hl
            have := hl.1
            rcases hx with q | q <;> omega)
          have hrg : ∀ t, M.testBit t = true → 0 ≤ (Ch (σ 71) s + v) - Ch (σ 71) t ∧ (Ch (σ 71) s + v) - Ch (σ 71) t ≤ 19 := fun t ht => by
            rcases hmem t ht with q | q <;> omega
          have chain : ∀ τ : gs_Mem, τ 71 = σ 71 → ∀ K, f_X7_exchange_L51 v (Ch (σ 71) s) K gs_fuel ((2 ^ s : Nat) : Int) 1 τ = K (M : Int) τ := fun τ e71 K => by
            have hWτ : WF (τ 71) := by rw [e71]; exact hW
            have st : Clo (nS (τ 71)) (lnk (Ch (τ 71)) (Ap (τ 71)) (Ch (τ 71) s + v)) s (2 ^ s) := by
              refine ⟨fun t ht => ?_, ?_, fun P h1 h2 t ht => ?_⟩
              · rw [Nat.testBit_two_pow, decide_eq_true_eq] at ht
                rw [e71]; omega
              · rw [Nat.testBit_two_pow]; exact decide_eq_true rfl
              · rw [Nat.testBit_two_pow, decide_eq_true_eq] at ht
                rw [← ht]; exact h1
            have := fuel_big
            obtain ⟨M', k1, k2, k3⟩ := m_chain hWτ c2 (s0 := s) (by rw [e71]; exact hs) (by rw [e71]; omega) K (nS (τ 71) + 1) gs_fuel (2 ^ s) st (by omega) (by rw [e71]; omega)
            rw [e71] at k1 k2 k3
            rw [k1, Clo_same k2 k3 a2 a3]
          have hsw := swR_ok hW hMl hrg
          have hsn : nS (swR (σ 71) M (Ch (σ 71) s + v)) = nS (σ 71) := geo_nS (chr_geo hsw.1)
          obtain ⟨F, f1, f2, f3⟩ := hP.2.2.2.2
          unfold f_X0_swapChain
          rw [i_ch (hP.pa hW) hW.rg hs, Option.bind_some, a1, Option.bind_some, f1]
          have gf := gand_fix h8 hMl (F := F) (f := Fx (σ 71)) f3
          cases af : anyF M (Fx (σ 71)) (nS (σ 71)) with
          | true =>
            rw [if_neg (fun z => by rw [gf.mp z] at af; cases af), Option.bind_some]
            refine ⟨-5, σ, σ, rfl, ?_, h⟩
            rw [head σ rfl, if_pos c2, if_neg (by omega), if_neg c4, chain σ rfl, m_fixL213 hW _ _ hMl, af, if_pos rfl]
          | false =>
            rw [if_pos (gf.mpr af)]
            obtain ⟨σ1, b1, b2, b3⟩ := i_swap hP hW hMl hrg
            have e71 : σ1 71 = σ 71 := b3 71 (by decide)
            have q1 := cls_small (nS (σ 71)) (Ch (σ 71)) (Ap (σ 71)) h8
            have q2 := cls_small (nS (σ 71)) (swC (Ch (σ 71)) M (Ch (σ 71) s + v)) (Ap (σ 71)) h8
            have k1 := i_clashes (b2.pa hsw.2.1) hsw.2.1.rg
            rw [hsn, hsw.2.2, chr_Ap hsw.1 hW] at k1
            rw [i_clashes (hP.pa hW) hW.rg, Option.bind_some, b1, Option.bind_some]
            dsimp only
            rw [k1, Option.bind_some, gnN (by omega), gnN (by omega)]
            have hMlσ1 : ∀ t, M.testBit t = true → t < nS (σ1 71) := by rw [e71]; exact hMl
            -- the reference from any memory that holds the row
            have ref : ∀ τ : gs_Mem, τ 71 = σ 71 → f_X7_exchange (s : Int) v τ = (if ((cls (nS (σ 71)) (swC (Ch (σ 71)) M (Ch (σ 71) s + v)) (Ap (σ 71)) : Nat) : Int) ≤ ((cls (nS (σ 71)) (Ch (σ 71)) (Ap (σ 71)) : Nat) : Int) then some (((popc M : Nat) : Int), rw_ τ 71 (swR (σ 71) M (Ch (σ 71) s + v))) else some (-6, rw_ τ 71 (swR (swR (σ 71) M (Ch (σ 71) s + v)) M (Ch (σ 71) s + v)))) := fun τ eτ => by
              have hWτ : WF (τ 71) := by rw [eτ]; exact hW
              have hW2 : WF (rw_ τ 71 (swR (σ 71) M (Ch (σ 71) s + v)) 71) := by rw [rw_same]; exact hsw.2.1
              have kk := m_clashes hW2
              rw [rw_same, hsn, hsw.2.2, chr_Ap hsw.1 hW] at kk
              rw [head τ eτ, if_pos c2, if_neg (by omega), if_neg c4, chain τ eτ, m_fixL213 hWτ _ _ (by rw [eτ]; exact hMl), eτ, af, if_neg (by decide), m_clashes hWτ, Option.bind_some, m_turns hWτ (by rw [eτ]; exact hMl) (by rw [eτ]; exact hrg), Option.bind_some, eτ]
              dsimp only
              rw [kk, Option.bind_some, gnN (by omega), gnN (by omega)]
              by_cases z : ((cls (nS (σ 71)) (swC (Ch (σ 71)) M (Ch (σ 71) s + v)) (Ap (σ 71)) : Nat) : Int) ≤ ((cls (nS (σ 71)) (Ch (σ 71)) (Ap (σ 71)) : Nat) : Int)
              · rw [if_pos z, if_pos z, bitCount_spec (by omega)]
                rfl
              · rw [if_neg z, if_neg z, m_turns hW2 (by rw [rw_same, hsn]; exact hMl) (fun t ht => ?_), Option.bind_some, rw_same, rw_rw]
                rw [rw_same, hsw.2.2]
                unfold swC
                rw [if_pos ht]
                rcases hmem t ht with q | q <;> omega
            by_cases z : ((cls (nS (σ 71)) (swC (Ch (σ 71)) M (Ch (σ 71) s + v)) (Ap (σ 71)) : Nat) : Int) ≤ ((cls (nS (σ 71)) (Ch (σ 71)) (Ap (σ 71)) : Nat) : Int)
            · rw [if_pos z, bitCount_spec (by omega)]
              refine ⟨((popc M : Nat) : Int), σ1, rw_ σ1 71 (swR (σ 71) M (Ch (σ 71) s + v)), rfl, ?_, ?_⟩
              · rw [ref σ1 e71, if_pos z]
              · exact Rel_plane h b3 b2 hsw.2.1 (chr_rest hsw.1) (Nat.le_of_eq hsn.symm)
            · rw [if_neg z]
              have hrg2 : ∀ t, M.testBit t = true → 0 ≤ (Ch (σ 71) s + v) - Ch (swR (σ 71) M (Ch (σ 71) s + v)) t ∧ (Ch (σ 71) s + v) - Ch (swR (σ 71) M (Ch (σ 71) s + v)) t ≤ 19 := fun t ht => by
                rw [hsw.2.2]
                unfold swC
                rw [if_pos ht]
                rcases hmem t ht with q | q <;> omega
              obtain ⟨σ2, d1, d2, d3⟩ := i_swap b2 hsw.2.1 (by rw [hsn]; exact hMl) hrg2
              have hsw2 := swR_ok hsw.2.1 (by rw [hsn]; exact hMl) hrg2
              have e71' : σ2 71 = σ 71 := (d3 71 (by decide)).trans e71
              rw [d1]
              refine ⟨-6, σ2, rw_ σ2 71 (swR (swR (σ 71) M (Ch (σ 71) s + v)) M (Ch (σ 71) s + v)), rfl, ?_, ?_⟩
              · rw [ref σ2 e71', if_neg z]
              · refine Rel_plane h (Fr.trans b3 d3) d2 hsw2.2.1 (chr_rest (chr_trans hsw.1 hsw2.1)) (Nat.le_of_eq ?_)
                rw [geo_nS (chr_geo hsw2.1), hsn]
    · rw [if_neg c2, if_pos rfl]
      refine ⟨-2, σ, σ, rfl, ?_, h⟩
      rw [head σ rfl, if_neg c2]
  · rw [if_neg c1, if_pos rfl]
    refine ⟨-1, σ, σ, rfl, ?_, h⟩
    unfold f_X7_exchange
    rw [m_isStation hW, Option.bind_some, hu, gn_iteP, if_neg c1, if_pos rfl]
