/-! ===== carrying a station, changing a rule ===== -/
/-- a row with a station's place changed -/
def pxy (p : Nat → Int) (s : Nat) (x y : Int) : Nat → Int := rs (rs p (4 + 4 * s) x) (5 + 4 * s) y
theorem pxy_at (p : Nat → Int) (s : Nat) (x y : Int) (i : Nat) : pxy p s x y i = if i = 5 + 4 * s then y else if i = 4 + 4 * s then x else p i := rfl
theorem pxy_ne (p : Nat → Int) (s : Nat) (x y : Int) {i : Nat} (h : i ≠ 4 + 4 * s ∧ i ≠ 5 + 4 * s) : pxy p s x y i = p i := by
  rw [pxy_at, if_neg h.2, if_neg h.1]
theorem pxy_n (p : Nat → Int) (s : Nat) (x y : Int) : nS (pxy p s x y) = nS p := by
  unfold nS; rw [pxy_ne p s x y (by omega)]
theorem pxy_x (p : Nat → Int) (s t : Nat) (x y : Int) : pxy p s x y (4 + 4 * t) = if t = s then x else p (4 + 4 * t) := by
  rw [pxy_at, if_neg (by omega)]
  by_cases e : t = s
  · rw [if_pos (by omega), if_pos e]
  · rw [if_neg (by omega), if_neg e]
theorem pxy_y (p : Nat → Int) (s t : Nat) (x y : Int) : pxy p s x y (5 + 4 * t) = if t = s then y else p (5 + 4 * t) := by
  rw [pxy_at]
  by_cases e : t = s
  · rw [if_pos (by omega), if_pos e]
  · rw [if_neg (by omega), if_neg e, if_neg (by omega)]
theorem pxy_WF {p : Nat → Int} (h : WF p) {s : Nat} (hs : s < nS p) {x y : Int} (hx : 0 ≤ x ∧ x ≤ 31) (hy : 0 ≤ y ∧ y ≤ 31) (hf : stA p x y < 0 ∨ stA p x y = (s : Int)) : WF (pxy p s x y) := by
  have h8 := h.n8
  have hne : ∀ t, t < nS p → t ≠ s → ¬ (p (4 + 4 * t) = x ∧ p (5 + 4 * t) = y) := fun t ht e q => by
    rcases hf with c | c
    · exact stA_neg c ht q
    · rcases stA_rng p x y with d | ⟨u, hu, d, d1, d2⟩
      · omega
      · have : u = s := by omega
        subst this
        exact h.dis ht hu e ⟨q.1.trans d1.symm, q.2.trans d2.symm⟩
  unfold WF
  rw [pxy_n, pxy_ne p s x y (by omega)]
  refine ⟨h.1, fun t ht => ?_, fun q hq => ?_, fun a b ha hb hab => ?_⟩
  · rw [pxy_x, pxy_y, pxy_ne p s x y (by omega), pxy_ne p s x y (by omega)]
    refine ⟨?_, ?_, h.c ht, h.f ht, h.fc ht⟩
    · split
      · exact hx
      · exact h.x ht
    · split
      · exact hy
      · exact h.y ht
  · rw [pxy_ne p s x y (by omega), pxy_ne p s x y (by omega)]
    exact ⟨h.near hq, h.gap hq⟩
  · rw [pxy_x, pxy_y, pxy_x, pxy_y]
    by_cases e1 : a = s
    · have e2 : b ≠ s := fun e => hab (e1.trans e.symm)
      rw [if_pos e1, if_pos e1, if_neg e2, if_neg e2]
      exact fun q => hne b hb e2 ⟨q.1.symm, q.2.symm⟩
    · rw [if_neg e1, if_neg e1]
      by_cases e2 : b = s
      · rw [if_pos e2, if_pos e2]; exact hne a ha e1
      · rw [if_neg e2, if_neg e2]; exact h.dis ha hb hab
theorem sqd_rng {x y : Int} (hx : 0 ≤ x ∧ x ≤ 31) (hy : 0 ≤ y ∧ y ≤ 31) : 0 ≤ (x - y) * (x - y) ∧ (x - y) * (x - y) ≤ 961 := sq31 (by omega)
theorem i_carry {σ : gs_Mem} {r : Nat} {p : Nat → Int} (hp : PlR σ r p) (h : WF p) {s : Nat} (hs : s < nS p) {x y : Int} (hx : 0 ≤ x ∧ x ≤ 31) (hy : 0 ≤ y ∧ y ≤ 31) (hf : stA p x y < 0 ∨ stA p x y = (s : Int)) :
    ∃ σ', f_X0_carry r (s : Int) x y σ = some ((x - p (4 + 4 * s)) * (x - p (4 + 4 * s)) + (y - p (5 + 4 * s)) * (y - p (5 + 4 * s)), σ') ∧ PlR σ' r (pxy p s x y) ∧ Fr σ σ' r := by
  have h8 := h.n8
  have hW := pxy_WF h hs hx hy hf
  have hA := hp.pa h
  unfold f_X0_carry
  rw [i_has_s hA.1 h8 hs, Option.bind_some]
  simp (disch := omega) only [gnS, gs_chk_t, t1]
  rw [if_neg (by decide), (hp.1.2.1 s hs).1, (hp.1.2.1 s hs).2]
  obtain ⟨T, hT⟩ : ∃ T : gs_Mem, T = gs_st (gs_st σ (r + 1) s x) (r + 2) s y := ⟨_, rfl⟩
  have hrow : ∀ c, c ≠ r + 1 → c ≠ r + 2 → T c = σ c := fun c h1 h2 => by rw [hT, gs_st_row _ _ _ _ h2, gs_st_row _ _ _ _ h1]
  have a1 : PlG T r (pxy p s x y) := by
    unfold PlG
    rw [pxy_n, hrow r (by omega) (by omega), hrow (r + 4) (by omega) (by omega), hrow (r + 5) (by omega) (by omega)]
    refine ⟨hp.1.1, fun t ht => ?_, fun q hq => ?_⟩
    · rw [pxy_x, pxy_y, hT, gs_st_far (a := r + 1) _ _ _ _ (by omega), gs_st_at, gs_st_at, gs_st_far (a := r + 2) _ _ _ _ (by omega)]
      by_cases e : t = s
      · rw [if_pos ⟨rfl, e⟩, if_pos e, if_pos ⟨rfl, e⟩, if_pos e]; exact ⟨rfl, rfl⟩
      · rw [if_neg (fun z => e z.2), if_neg e, if_neg (fun z => e z.2), if_neg e]
        exact hp.1.2.1 t ht
    · rw [pxy_ne p s x y (by omega), pxy_ne p s x y (by omega)]
      exact hp.1.2.2 q hq
  have a2 : ∀ t, t < nS (pxy p s x y) → T (r + 3) t = pxy p s x y (6 + 4 * t) := fun t ht => by
    rw [pxy_n] at ht
    rw [hrow (r + 3) (by omega) (by omega), pxy_ne p s x y (by omega)]
    exact hp.2.1 t ht
  have a3 : ∀ a b, a < 8 → b < 8 → (a = b → T (r + 6) (8 * a + b) = 0) ∧ 0 ≤ T (r + 6) (8 * a + b) ∧ T (r + 6) (8 * a + b) ≤ 4 := fun a b ha hb => by
    rw [hrow (r + 6) (by omega) (by omega)]
    exact (hp.2.2.1 a b ha hb).2
  have a4 : ∃ m : Nat, T r 8 = (m : Int) ∧ m < 256 ∧ ∀ t, m.testBit t = Fx (pxy p s x y) t := by
    obtain ⟨m, m1, m2, m3⟩ := hp.2.2.2.2
    refine ⟨m, by rw [hrow r (by omega) (by omega)]; exact m1, m2, fun t => ?_⟩
    rw [m3 t]
    unfold Fx
    rw [pxy_n, pxy_ne p s x y (by omega)]
  obtain ⟨w, e, w1, w2, -⟩ := i_remeasure hW a1 a2 a3 a4
  rw [← hT, e, Option.bind_some]
  exact ⟨w.2, rfl, w1, Fr.trans (fun c hc => hrow c (by omega) (by omega)) w2⟩
/-- a row with a rule changed -/
def prl (p : Nat → Int) (q : Nat) (nr gp : Int) : Nat → Int := rs (rs p (36 + 2 * q) nr) (37 + 2 * q) gp
theorem prl_at (p : Nat → Int) (q : Nat) (x y : Int) (i : Nat) : prl p q x y i = if i = 37 + 2 * q then y else if i = 36 + 2 * q then x else p i := rfl
theorem prl_ne (p : Nat → Int) (q : Nat) (x y : Int) {i : Nat} (h : i ≠ 36 + 2 * q ∧ i ≠ 37 + 2 * q) : prl p q x y i = p i := by
  rw [prl_at, if_neg h.2, if_neg h.1]
theorem prl_n (p : Nat → Int) (q : Nat) (x y : Int) : nS (prl p q x y) = nS p := by
  unfold nS; rw [prl_ne p q x y (by omega)]
theorem prl_x (p : Nat → Int) (q t : Nat) (x y : Int) : prl p q x y (36 + 2 * t) = if t = q then x else p (36 + 2 * t) := by
  rw [prl_at, if_neg (by omega)]
  by_cases e : t = q
  · rw [if_pos (by omega), if_pos e]
  · rw [if_neg (by omega), if_neg e]
theorem prl_y (p : Nat → Int) (q t : Nat) (x y : Int) : prl p q x y (37 + 2 * t) = if t = q then y else p (37 + 2 * t) := by
  rw [prl_at]
  by_cases e : t = q
  · rw [if_pos (by omega), if_pos e]
  · rw [if_neg (by omega), if_neg e, if_neg (by omega)]
theorem prl_WF {p : Nat → Int} (h : WF p) {q : Nat} (hq : q < 3) {x y : Int} (hx : 0 ≤ x ∧ x ≤ 40) (hy : 1 ≤ y ∧ y ≤ 4) : WF (prl p q x y) := by
  have h8 := h.n8
  unfold WF
  rw [prl_n, prl_ne p q x y (by omega)]
  refine ⟨h.1, fun t ht => ?_, fun u hu => ?_, fun a b ha hb hab => ?_⟩
  · rw [prl_ne p q x y (by omega), prl_ne p q x y (by omega), prl_ne p q x y (by omega), prl_ne p q x y (by omega)]
    exact ⟨h.x ht, h.y ht, h.c ht, h.f ht, h.fc ht⟩
  · rw [prl_x, prl_y]
    refine ⟨?_, ?_⟩
    · split
      · exact hx
      · exact h.near hu
    · split
      · exact hy
      · exact h.gap hu
  · rw [prl_ne p q x y (by omega), prl_ne p q x y (by omega), prl_ne p q x y (by omega), prl_ne p q x y (by omega)]
    exact h.dis ha hb hab
theorem prl_Ch {p : Nat → Int} (h : WF p) {q : Nat} (hq : q < 3) (x y : Int) : Ch (prl p q x y) = Ch p := by
  have h8 := h.n8
  funext t
  unfold Ch
  rw [prl_n]
  by_cases e : t < nS p
  · rw [if_pos e, if_pos e, prl_ne p q x y (by omega)]
  · rw [if_neg e, if_neg e]
theorem prl_Fx {p : Nat → Int} (h : WF p) {q : Nat} (hq : q < 3) (x y : Int) : Fx (prl p q x y) = Fx p := by
  have h8 := h.n8
  funext t
  unfold Fx
  rw [prl_n]
  by_cases e : t < nS p
  · rw [prl_ne p q x y (by omega)]
  · rw [decide_eq_false e]; rfl
/-- a plane whose rule q has been written, measured anew -/
theorem i_rule_re {σ : gs_Mem} {r : Nat} {p : Nat → Int} (hp : PlR σ r p) (h : WF p) {q : Nat} (hq : q < 3) {x y : Int} (hx : 0 ≤ x ∧ x ≤ 40) (hy : 1 ≤ y ∧ y ≤ 4) (T : gs_Mem)
    (hrow : ∀ c, c ≠ r + 4 → c ≠ r + 5 → T c = σ c) (h4 : ∀ t, t < 3 → T (r + 4) t = if t = q then x else σ (r + 4) t) (h5 : ∀ t, t < 3 → T (r + 5) t = if t = q then y else σ (r + 5) t) :
    ∃ w : Int × gs_Mem, f_X0_measure r T = some w ∧ PlR w.2 r (prl p q x y) ∧ Fr σ w.2 r ∧ w.1 = (if msF T r (prl p q x y) (nS p) then 0 else 1) := by
  have h8 := h.n8
  have hW := prl_WF h hq hx hy
  have a1 : PlG T r (prl p q x y) := by
    unfold PlG
    rw [prl_n, hrow r (by omega) (by omega), hrow (r + 1) (by omega) (by omega), hrow (r + 2) (by omega) (by omega)]
    refine ⟨hp.1.1, fun t ht => ?_, fun t ht => ?_⟩
    · rw [prl_ne p q x y (by omega), prl_ne p q x y (by omega)]
      exact hp.1.2.1 t ht
    · rw [prl_x, prl_y, h4 t ht, h5 t ht, (hp.1.2.2 t ht).1, (hp.1.2.2 t ht).2]
      exact ⟨rfl, rfl⟩
  have a2 : ∀ t, t < nS (prl p q x y) → T (r + 3) t = prl p q x y (6 + 4 * t) := fun t ht => by
    rw [prl_n] at ht
    rw [hrow (r + 3) (by omega) (by omega), prl_ne p q x y (by omega)]
    exact hp.2.1 t ht
  have a3 : ∀ a b, a < 8 → b < 8 → (a = b → T (r + 6) (8 * a + b) = 0) ∧ 0 ≤ T (r + 6) (8 * a + b) ∧ T (r + 6) (8 * a + b) ≤ 4 := fun a b ha hb => by
    rw [hrow (r + 6) (by omega) (by omega)]
    exact (hp.2.2.1 a b ha hb).2
  have a4 : ∃ m : Nat, T r 8 = (m : Int) ∧ m < 256 ∧ ∀ t, m.testBit t = Fx (prl p q x y) t := by
    obtain ⟨m, m1, m2, m3⟩ := hp.2.2.2.2
    refine ⟨m, by rw [hrow r (by omega) (by omega)]; exact m1, m2, fun t => ?_⟩
    rw [m3 t, prl_Fx h hq]
  obtain ⟨w, e, w1, w2, w3⟩ := i_remeasure hW a1 a2 a3 a4
  rw [prl_n] at w3
  exact ⟨w, e, w1, Fr.trans (fun c hc => hrow c (by omega) (by omega)) w2, w3⟩
theorem i_isRule (v : Int) (σ : gs_Mem) : f_X6_isRule v σ = some (if 0 ≤ gn v ∧ gn v ≤ 2 then 1 else 0) := by
  unfold f_X6_isRule
  by_cases c1 : gn v < 0
  · rw [if_pos c1, if_neg (by omega)]
  · rw [if_neg c1]
    by_cases c2 : 3 ≤ gn v
    · rw [if_pos c2, if_neg (by omega)]
    · rw [if_neg c2, if_pos (by omega)]
theorem i_isRule_s {q : Nat} (hq : q < 3) (σ : gs_Mem) : f_X6_isRule (q : Int) σ = some 1 := by
  rw [i_isRule, gnS (by omega), if_pos (by omega)]
theorem gn_1 : gn 1 = 1 := by decide +kernel
theorem i_change {σ : gs_Mem} {r : Nat} {p : Nat → Int} (hp : PlR σ r p) (h : WF p) {q : Nat} (hq : q < 3) {x y : Int} (hx : 0 ≤ x ∧ x ≤ 40) (hy : 1 ≤ y ∧ y ≤ 4) :
    ∃ σ', f_X0_change r (q : Int) x y σ = some (100 * p (36 + 2 * q) + p (37 + 2 * q), σ') ∧ PlR σ' r (prl p q x y) ∧ Fr σ σ' r := by
  unfold f_X0_change gs_let
  rw [i_isRule_s hq, Option.bind_some, gn_1, if_neg (show ¬ (1 : Int) = 0 by decide)]
  simp (disch := omega) only [gnS (x := (q : Int)), gs_chk_t, t1]
  obtain ⟨w, e, w1, w2, -⟩ := i_rule_re hp h hq hx hy (gs_st (gs_st σ (r + 4) q x) (r + 5) q y) (fun c h1 h2 => by rw [gs_st_row _ _ _ _ h2, gs_st_row _ _ _ _ h1])
    (fun t ht => by
      rw [gs_st_far (a := r + 4) _ _ _ _ (by omega), gs_st_at]
      by_cases e : t = q
      · rw [if_pos ⟨rfl, e⟩, if_pos e]
      · rw [if_neg (fun z => e z.2), if_neg e])
    (fun t ht => by
      rw [gs_st_at]
      by_cases e : t = q
      · rw [if_pos ⟨rfl, e⟩, if_pos e]
      · rw [if_neg (fun z => e z.2), if_neg e, gs_st_far (a := r + 5) _ _ _ _ (by omega)])
  rw [e, Option.bind_some, (hp.1.2.2 q hq).1, (hp.1.2.2 q hq).2]
  exact ⟨w.2, rfl, w1, w2⟩
/-- the near alone: and whether any gap is another now -/
theorem i_changeNear {σ : gs_Mem} {r : Nat} {p : Nat → Int} (hp : PlR σ r p) (h : WF p) {q : Nat} (hq : q < 3) {x : Int} (hx : 0 ≤ x ∧ x ≤ 40) :
    ∃ (b : Int) (σ' : gs_Mem), f_X0_changeNear r (q : Int) x σ = some (b, σ') ∧ (b = 0 ∨ b = 1) ∧ (b = 0 ↔ Ap (prl p q x (p (37 + 2 * q))) = Ap p) ∧ PlR σ' r (prl p q x (p (37 + 2 * q))) ∧ Fr σ σ' r := by
  have h8 := h.n8
  unfold f_X0_changeNear
  rw [i_isRule_s hq, Option.bind_some, gn_1, if_neg (show ¬ (1 : Int) = 0 by decide)]
  simp (disch := omega) only [gnS (x := (q : Int)), gs_chk_t, t1]
  obtain ⟨w, e, w1, w2, w3⟩ := i_rule_re hp h hq hx (h.gap hq) (gs_st σ (r + 4) q x) (fun c h1 h2 => by rw [gs_st_row _ _ _ _ h1])
    (fun t ht => by
      rw [gs_st_at]
      by_cases e : t = q
      · rw [if_pos ⟨rfl, e⟩, if_pos e]
      · rw [if_neg (fun z => e z.2), if_neg e])
    (fun t ht => by
      rw [gs_st_far (a := r + 5) _ _ _ _ (by omega)]
      by_cases e : t = q
      · rw [if_pos e, e, (hp.1.2.2 q hq).2]
      · rw [if_neg e])
  have key : msF (gs_st σ (r + 4) q x) r (prl p q x (p (37 + 2 * q))) (nS p) = true ↔ Ap (prl p q x (p (37 + 2 * q))) = Ap p := by
    unfold msF
    rw [aN_iff]
    have hold : ∀ a b, a < nS p → b < nS p → gs_st σ (r + 4) q x (r + 6) (8 * a + b) = Ap p a b := fun a b ha hb => by
      rw [gs_st_far (a := r + 6) _ _ _ _ (by omega)]
      exact (hp.2.2.1 a b (by omega) (by omega)).1 ha hb
    constructor
    · intro H
      have lt : ∀ a b, a < nS p → b < a → Ap (prl p q x (p (37 + 2 * q))) a b = Ap p a b := fun a b ha hb => by
        have := aN_iff.mp (H a ha) b hb
        unfold msG at this
        rw [decide_eq_true_eq, hold a b ha (by omega)] at this
        exact this.symm
      funext a b
      by_cases c : a < nS p ∧ b < nS p ∧ a ≠ b
      · by_cases d : b < a
        · exact lt a b c.1 d
        · rw [Ap_comm, Ap_comm p]
          exact lt b a c.2.1 (by omega)
      · unfold Ap
        rw [prl_n, if_neg c, if_neg c]
    · intro H a ha
      rw [aN_iff]
      intro b hb
      unfold msG
      rw [decide_eq_true_eq, hold a b ha (by omega), H]
  rw [e, Option.bind_some]
  refine ⟨w.1, w.2, ?_, ?_, ?_, w1, w2⟩
  · rw [w3, gn_iteP', gs_chkz_t (by split <;> omega), ← w3]
  · rw [w3]; split <;> omega
  · rw [← key, w3]
    cases msF (gs_st σ (r + 4) q x) r (prl p q x (p (37 + 2 * q))) (nS p) with
    | true => exact ⟨fun _ => rfl, fun _ => rfl⟩
    | false => exact ⟨fun e => absurd e (by decide), fun e => absurd e (by decide)⟩
