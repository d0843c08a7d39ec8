/-! ===== who stands at a place; setting, carrying, changing ===== -/
def stF (p : Nat → Int) (x y : Int) (s : Nat) : Bool := decide (p (4 + 4 * s) = x) && decide (p (5 + 4 * s) = y)
def stA (p : Nat → Int) (x y : Int) : Int := match fN (stF p x y) (nS p) with
  | none => -1
  | some j => (j : Int)
theorem stA_none {p : Nat → Int} {x y : Int} (h : ∀ i, i < nS p → stF p x y i = false) : stA p x y = -1 := by
  unfold stA; rw [fN_none.mpr h]
theorem stA_some {p : Nat → Int} {x y : Int} {k : Nat} (hk : k < nS p) (h1 : stF p x y k = true) (h2 : ∀ i, i < k → stF p x y i = false) : stA p x y = (k : Int) := by
  unfold stA; rw [fN_some ⟨hk, h1, h2⟩]
theorem stA_rng (p : Nat → Int) (x y : Int) : stA p x y = -1 ∨ ∃ s, s < nS p ∧ stA p x y = (s : Int) ∧ p (4 + 4 * s) = x ∧ p (5 + 4 * s) = y := by
  unfold stA
  cases c : fN (stF p x y) (nS p) with
  | none => exact Or.inl rfl
  | some j =>
    obtain ⟨a, b, _⟩ := fN_prop c
    unfold stF at b
    rw [Bool.and_eq_true, decide_eq_true_eq, decide_eq_true_eq] at b
    exact Or.inr ⟨j, a, rfl, b.1, b.2⟩
theorem stA_neg {p : Nat → Int} {x y : Int} (h : stA p x y < 0) {s : Nat} (hs : s < nS p) : ¬ (p (4 + 4 * s) = x ∧ p (5 + 4 * s) = y) := by
  unfold stA at h
  cases c : fN (stF p x y) (nS p) with
  | some j => rw [c] at h; exact absurd h (by show ¬ (j : Int) < 0; omega)
  | none =>
    have := fN_none.mp c s hs
    unfold stF at this
    intro ⟨e1, e2⟩
    rw [decide_eq_true e1, decide_eq_true e2] at this
    cases this
theorem m_stationAt {σ : gs_Mem} (h : WF (σ 71)) {x y : Int} (hx : 0 ≤ x ∧ x ≤ 31) (hy : 0 ≤ y ∧ y ≤ 31) : f_X7_stationAt x y σ = some (stA (σ 71) x y) := by
  have h8 := h.n8
  have hn := h.n0
  refine loop0 (fun m k (_ : Unit) => f_X7_stationAt_L2 σ x y m (k : Int)) (fun k _ => ∀ t, t < k → stF (σ 71) x y t = false) (fun q => q = some (stA (σ 71) x y)) (nS (σ 71)) () (by omega) ?_ ?_ (fun t ht => absurd ht (Nat.not_lt_zero t))
  · intro m k _ hk hv
    have rx := h.x hk
    have ry := h.y hk
    rw [f_X7_stationAt_L2, m_x (by omega), m_y (by omega)]
    unfold f_X7_stationAt_J32
    simp (disch := omega) only [gnS, gs_chk_t, hn, Option.bind_some]
    rw [if_neg (by omega)]
    have key : stF (σ 71) x y k = false → ∀ t, t < k + 1 → stF (σ 71) x y t = false := fun e t ht => by
      by_cases q : t = k
      · rw [q]; exact e
      · exact hv t (by omega)
    by_cases c1 : σ 71 (4 + 4 * k) = x
    · rw [if_pos c1]
      by_cases c2 : σ 71 (5 + 4 * k) = y
      · rw [if_pos c2]
        refine Or.inl ?_
        rw [stA_some hk (by unfold stF; rw [decide_eq_true c1, decide_eq_true c2]; rfl) hv]
      · rw [if_neg c2]
        exact Or.inr ⟨(), rfl, key (by unfold stF; rw [decide_eq_false c2, Bool.and_false])⟩
    · rw [if_neg c1]
      exact Or.inr ⟨(), rfl, key (by unfold stF; rw [decide_eq_false c1, Bool.false_and])⟩
  · intro m _ hv
    rw [f_X7_stationAt_L2]
    simp (disch := omega) only [gnS, gs_chk_t, hn]
    rw [if_pos (Int.le_refl _), stA_none hv]
theorem i_whoIsAt {σ : gs_Mem} {r : Nat} {p : Nat → Int} (hG : PlG σ r p) (h : WF p) {x y : Int} (hx : 0 ≤ x ∧ x ≤ 31) (hy : 0 ≤ y ∧ y ≤ 31) : f_X0_whoIsAt r x y σ = some (stA p x y) := by
  have h8 := h.n8
  refine loop0 (fun m k (_ : Unit) => f_X0_whoIsAt_L2 σ r x y m (k : Int)) (fun k _ => ∀ t, t < k → stF p x y t = false) (fun q => q = some (stA p x y)) (nS p) () (by omega) ?_ ?_ (fun t ht => absurd ht (Nat.not_lt_zero t))
  · intro m k _ hk hv
    have rx := h.x hk
    have ry := h.y hk
    rw [f_X0_whoIsAt_L2, hG.1]
    unfold f_X0_whoIsAt_J32
    simp (disch := omega) only [gnS (x := (nS p : Int)), gnS (x := (k : Int)), gs_chk_t, t1]
    rw [if_neg (by omega), (hG.2.1 k hk).1, (hG.2.1 k hk).2]
    simp (disch := omega) only [gnS]
    have key : stF p x y k = false → ∀ t, t < k + 1 → stF p x y t = false := fun e t ht => by
      by_cases q : t = k
      · rw [q]; exact e
      · exact hv t (by omega)
    by_cases c1 : p (4 + 4 * k) = x
    · rw [if_pos c1]
      by_cases c2 : p (5 + 4 * k) = y
      · rw [if_pos c2]
        refine Or.inl ?_
        rw [stA_some hk (by unfold stF; rw [decide_eq_true c1, decide_eq_true c2]; rfl) hv]
      · rw [if_neg c2]
        exact Or.inr ⟨(), rfl, key (by unfold stF; rw [decide_eq_false c2, Bool.and_false])⟩
    · rw [if_neg c1]
      exact Or.inr ⟨(), rfl, key (by unfold stF; rw [decide_eq_false c1, Bool.false_and])⟩
  · intro m _ hv
    rw [f_X0_whoIsAt_L2, hG.1]
    simp (disch := omega) only [gnS]
    rw [if_pos (Int.le_refl _), stA_none hv]
/-- measured: the plane holds what the row says -/
theorem i_remeasure {σ : gs_Mem} {r : Nat} {p : Nat → Int} (h : WF p) (hG : PlG σ r p) (hC : ∀ s, s < nS p → σ (r + 3) s = p (6 + 4 * s))
    (hR : ∀ x y, x < 8 → y < 8 → (x = y → σ (r + 6) (8 * x + y) = 0) ∧ 0 ≤ σ (r + 6) (8 * x + y) ∧ σ (r + 6) (8 * x + y) ≤ 4)
    (hM : ∃ m : Nat, σ r 8 = (m : Int) ∧ m < 256 ∧ ∀ s, m.testBit s = Fx p s) :
    ∃ w : Int × gs_Mem, f_X0_measure r σ = some w ∧ PlR w.2 r p ∧ Fr σ w.2 r ∧ w.1 = (if msF σ r p (nS p) then 0 else 1) := by
  obtain ⟨w, e, w1, w2, w3, w4⟩ := i_measure hG (fun x y hx hy => (hR x y hx hy).2) h
  refine ⟨w, e, ⟨PlG_rows hG w1, fun s hs => ?_, fun x y hx hy => ?_, w3, ?_⟩, fun c hc => w1 c (by omega) (by omega), w4⟩
  · rw [w1 (r + 3) (by omega) (by omega)]; exact hC s hs
  · have q := hR x y hx hy
    have qa := Ap_rng h x y
    rw [w2 x y hx hy]
    refine ⟨fun h1 h2 => ?_, fun h3 => ?_, ?_⟩
    · by_cases e : x = y
      · rw [if_neg (fun z => z.2.2 e), q.1 e, e, Ap_self]
      · rw [if_pos ⟨h1, h2, e⟩]
    · rw [if_neg (fun z => z.2.2 h3), q.1 h3]
    · split
      · exact qa
      · exact q.2
  · rw [w1 r (by omega) (by omega)]; exact hM
/-- a row with one station more -/
def stP (p : Nat → Int) (x y : Int) : Nat → Int := rs (rs (rs (rs (rs p (4 + 4 * nS p) x) (5 + 4 * nS p) y) (6 + 4 * nS p) (-1)) (7 + 4 * nS p) 0) 0 ((nS p : Int) + 1)
theorem stP_n (p : Nat → Int) (x y : Int) : nS (stP p x y) = nS p + 1 := by
  unfold nS stP
  rw [rs_same]
  unfold nS
  omega
theorem stP_old (p : Nat → Int) (x y : Int) {i : Nat} (h : i ≠ 0 ∧ (i < 4 + 4 * nS p ∨ 7 + 4 * nS p < i)) : stP p x y i = p i := by
  unfold stP
  rw [rs_ne _ _ _ h.1, rs_ne _ _ _ (by omega), rs_ne _ _ _ (by omega), rs_ne _ _ _ (by omega), rs_ne _ _ _ (by omega)]
theorem stP_new (p : Nat → Int) (x y : Int) : stP p x y (4 + 4 * nS p) = x ∧ stP p x y (5 + 4 * nS p) = y ∧ stP p x y (6 + 4 * nS p) = -1 ∧ stP p x y (7 + 4 * nS p) = 0 := by
  unfold stP
  refine ⟨?_, ?_, ?_, ?_⟩
  · rw [rs_ne _ _ _ (by omega), rs_ne _ _ _ (by omega), rs_ne _ _ _ (by omega), rs_ne _ _ _ (by omega), rs_same]
  · rw [rs_ne _ _ _ (by omega), rs_ne _ _ _ (by omega), rs_ne _ _ _ (by omega), rs_same]
  · rw [rs_ne _ _ _ (by omega), rs_ne _ _ _ (by omega), rs_same]
  · rw [rs_ne _ _ _ (by omega), rs_same]
theorem stP_WF {p : Nat → Int} (h : WF p) (h7 : nS p < 8) {x y : Int} (hx : 0 ≤ x ∧ x ≤ 31) (hy : 0 ≤ y ∧ y ≤ 31) (hf : stA p x y < 0) : WF (stP p x y) := by
  obtain ⟨n1, n2, n3, n4⟩ := stP_new p x y
  unfold WF
  rw [stP_n]
  refine ⟨?_, fun s hs => ?_, fun q hq => ?_, fun a b ha hb hab => ?_⟩
  · unfold stP
    rw [rs_same]; omega
  · by_cases e : s = nS p
    · rw [e, n1, n2, n3, n4]
      exact ⟨hx, hy, by decide, Or.inl rfl, fun e => absurd e (by decide)⟩
    · rw [stP_old p x y (by omega), stP_old p x y (by omega), stP_old p x y (by omega), stP_old p x y (by omega)]
      have l : s < nS p := by omega
      exact ⟨h.x l, h.y l, h.c l, h.f l, h.fc l⟩
  · rw [stP_old p x y (by omega), stP_old p x y (by omega)]
    exact ⟨h.near hq, h.gap hq⟩
  · have hne := fun (s : Nat) (hs : s < nS p) => stA_neg hf hs
    by_cases ea : a = nS p
    · have l : b < nS p := by omega
      rw [ea, n1, n2, stP_old p x y (by omega), stP_old p x y (by omega)]
      exact fun e => hne b l ⟨e.1.symm, e.2.symm⟩
    · have l : a < nS p := by omega
      rw [stP_old p x y (i := 4 + 4 * a) (by omega), stP_old p x y (i := 5 + 4 * a) (by omega)]
      by_cases eb : b = nS p
      · rw [eb, n1, n2]
        exact hne a l
      · rw [stP_old p x y (by omega), stP_old p x y (by omega)]
        exact h.dis l (by omega) hab
/-- the answer to a new station, and the row after it -/
def stR (p : Nat → Int) (x y : Int) : Int := if stA p x y < 0 then (if nS p = 8 then -4 else (nS p : Int)) else -3
def stQ (p : Nat → Int) (x y : Int) : Nat → Int := if stA p x y < 0 ∧ nS p ≠ 8 then stP p x y else p
theorem stQ_WF {p : Nat → Int} (h : WF p) {x y : Int} (hx : 0 ≤ x ∧ x ≤ 31) (hy : 0 ≤ y ∧ y ≤ 31) : WF (stQ p x y) := by
  have h8 := h.n8
  unfold stQ
  split
  · next c => exact stP_WF h (by omega) hx hy c.1
  · exact h
theorem i_settle {σ : gs_Mem} {r : Nat} {p : Nat → Int} (hp : PlR σ r p) (h : WF p) {x y : Int} (hx : 0 ≤ x ∧ x ≤ 31) (hy : 0 ≤ y ∧ y ≤ 31) :
    ∃ σ', f_X0_settle r x y σ = some (stR p x y, σ') ∧ PlR σ' r (stQ p x y) ∧ Fr σ σ' r := by
  have h8 := h.n8
  have hw := i_whoIsAt hp.1 h hx hy
  obtain ⟨m, m1, m2, m3⟩ := hp.2.2.2.2
  have hrng := stA_rng p x y
  have hgr : -1 ≤ stA p x y ∧ stA p x y < 8 := by rcases hrng with e | ⟨s, hs, e, _⟩ <;> omega
  have hgn : gn (stA p x y) = stA p x y := gnS (by omega)
  unfold f_X0_settle
  rw [hw, Option.bind_some, hgn, hp.1.1]
  unfold stR stQ
  by_cases c1 : stA p x y < 0
  · rw [if_pos c1, if_pos c1, gnS (by omega)]
    by_cases c2 : (nS p : Int) < 8
    · have l7 : nS p < 8 := by omega
      rw [if_pos c2, if_neg (by omega), if_pos (show stA p x y < 0 ∧ nS p ≠ 8 from ⟨c1, by omega⟩)]
      have hW := stP_WF h l7 hx hy c1
      simp (disch := omega) only [gs_chk_t, t1]
      have z1 : r ≠ r + 1 := by omega
      have z2 : r ≠ r + 2 := by omega
      have z3 : r ≠ r + 3 := by omega
      simp only [gs_st_slot _ _ _ _ (show (9 : Nat) ≠ 8 by decide), gs_st_far _ _ _ _ z1, gs_st_far _ _ _ _ z2, gs_st_far _ _ _ _ z3, m1, hp.1.1]
      rw [gshl_one (nS p) (by omega), gandn_nat (by omega)]
      obtain ⟨n1, n2, n3, n4⟩ := stP_new p x y
      obtain ⟨T, hT⟩ : ∃ T : gs_Mem, T = gs_st (gs_st (gs_st (gs_st (gs_st σ (r + 1) (nS p) x) (r + 2) (nS p) y) (r + 3) (nS p) (-1)) r 8 ((andn m (2 ^ nS p) : Nat) : Int)) r 9 ((nS p : Int) + 1) := ⟨_, rfl⟩
      have a1 : PlG T r (stP p x y) := by
        rw [hT]
        refine ⟨?_, fun s hs => ?_, fun q hq => ?_⟩
        · rw [gs_st_same, stP_n]; rfl
        · rw [stP_n] at hs
          rw [gs_st_far (a := r + 1) _ _ _ _ (by omega), gs_st_far (a := r + 1) _ _ _ _ (by omega), gs_st_far (a := r + 1) _ _ _ _ (by omega), gs_st_far (a := r + 1) _ _ _ _ (by omega), gs_st_far (a := r + 2) _ _ _ _ (by omega), gs_st_far (a := r + 2) _ _ _ _ (by omega), gs_st_far (a := r + 2) _ _ _ _ (by omega), gs_st_at, gs_st_at, gs_st_far (a := r + 2) _ _ _ _ (by omega)]
          by_cases e : s = nS p
          · rw [if_pos ⟨rfl, e⟩, if_pos ⟨rfl, e⟩, e, n1, n2]; exact ⟨rfl, rfl⟩
          · rw [if_neg (fun z => e z.2), if_neg (fun z => e z.2), stP_old p x y (by omega), stP_old p x y (by omega)]
            exact hp.1.2.1 s (by omega)
        · rw [gs_st_row _ _ _ _ (by omega), gs_st_row _ _ _ _ (by omega), gs_st_row _ _ _ _ (by omega), gs_st_row _ _ _ _ (by omega), gs_st_row _ _ _ _ (by omega), gs_st_row _ _ _ _ (by omega), gs_st_row _ _ _ _ (by omega), gs_st_row _ _ _ _ (by omega), gs_st_row _ _ _ _ (by omega), gs_st_row _ _ _ _ (by omega), stP_old p x y (by omega), stP_old p x y (by omega)]
          exact hp.1.2.2 q hq
      have a2 : ∀ s, s < nS (stP p x y) → T (r + 3) s = stP p x y (6 + 4 * s) := by
        rw [hT]
        intro s hs
        rw [stP_n] at hs
        rw [gs_st_far _ _ _ _ (by omega), gs_st_far _ _ _ _ (by omega), gs_st_at]
        by_cases e : s = nS p
        · rw [if_pos ⟨rfl, e⟩, e, n3]
        · rw [if_neg (fun z => e z.2), gs_st_far _ _ _ _ (by omega), gs_st_far _ _ _ _ (by omega), stP_old p x y (by omega)]
          exact hp.2.1 s (by omega)
      have a3 : ∀ a b, a < 8 → b < 8 → (a = b → T (r + 6) (8 * a + b) = 0) ∧ 0 ≤ T (r + 6) (8 * a + b) ∧ T (r + 6) (8 * a + b) ≤ 4 := by
        rw [hT]
        intro a b ha hb
        rw [gs_st_far _ _ _ _ (by omega), gs_st_far _ _ _ _ (by omega), gs_st_far _ _ _ _ (by omega), gs_st_far _ _ _ _ (by omega), gs_st_far _ _ _ _ (by omega)]
        exact (hp.2.2.1 a b ha hb).2
      have a4 : ∃ m : Nat, T r 8 = (m : Int) ∧ m < 256 ∧ ∀ s, m.testBit s = Fx (stP p x y) s := by
        rw [hT]
        refine ⟨andn m (2 ^ nS p), ?_, Nat.lt_of_le_of_lt (andn_le _ _) m2, fun s => ?_⟩
        · rw [gs_st_slot _ _ _ _ (by decide), gs_st_same]
        · rw [andn_bit (by omega), m3 s, Nat.testBit_two_pow]
          unfold Fx
          rw [stP_n]
          by_cases e : s = nS p
          · rw [decide_eq_true e.symm, e, n4]; simp
          · rw [decide_eq_false (p := nS p = s) (fun z => e z.symm)]
            by_cases l : s < nS p
            · rw [decide_eq_true l, decide_eq_true (by omega : s < nS p + 1), stP_old p x y (by omega)]; simp
            · rw [decide_eq_false l, decide_eq_false (by omega : ¬ s < nS p + 1)]; rfl
      obtain ⟨w, e, w1, w2, -⟩ := i_remeasure hW a1 a2 a3 a4
      rw [← hT, e, Option.bind_some]
      refine ⟨w.2, rfl, w1, (Fr.trans ?_ w2)⟩
      intro c hc
      rw [hT]
      rw [gs_st_row _ _ _ _ (by omega), gs_st_row _ _ _ _ (by omega), gs_st_row _ _ _ _ (by omega), gs_st_row _ _ _ _ (by omega), gs_st_row _ _ _ _ (by omega)]
    · rw [if_neg c2, if_pos (by omega), if_neg (by omega)]
      exact ⟨σ, rfl, hp, Fr.refl _ _⟩
  · rw [if_neg c1, if_neg c1, if_neg (fun e => c1 e.1)]
    exact ⟨σ, rfl, hp, Fr.refl _ _⟩
