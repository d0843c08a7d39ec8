/-! ===== the least width on the reference's side; told ===== -/
theorem clash_sym {n : Nat} {c : Nat → Int} {A : Nat → Nat → Int} (hg : RgA n c A) (s t : Nat) : clash c A s t = clash c A t s := by
  rw [clash_ab, clash_ab, ab_comm, hg.2.2.2.2 s t]
  cases decide (0 ≤ c s) <;> cases decide (0 ≤ c t) <;> rfl
theorem clsum_two {n : Nat} {c : Nat → Int} {A : Nat → Nat → Int} {s t : Nat} (hst : s < t) : ∀ k, t < k → clo n c A s + clo n c A t ≤ clsum n c A k
  | 0, h => absurd h (Nat.not_lt_zero t)
  | k + 1, h => by
    rw [clsum_s]
    by_cases e : t = k
    · have one : ∀ j, s < j → clo n c A s ≤ clsum n c A j := fun j => by
        induction j with
        | zero => intro q; exact absurd q (Nat.not_lt_zero s)
        | succ j ih =>
          intro q
          rw [clsum_s]
          by_cases z : s = j
          · rw [z]; omega
          · have := ih (by omega); omega
      have := one k (by omega)
      rw [e]; omega
    · have := clsum_two (n := n) (c := c) (A := A) hst k (by omega)
      omega
def NoC (n : Nat) (c : Nat → Int) (A : Nat → Nat → Int) : Prop := ∀ s t, s < n → t < n → 0 ≤ c s → 0 ≤ c t → A s t ≤ ab (c s - c t)
theorem cls_zero {n : Nat} {c : Nat → Int} {A : Nat → Nat → Int} (hg : RgA n c A) : cls n c A = 0 ↔ NoC n c A := by
  constructor
  · intro e s t hs ht h1 h2
    apply Classical.byContradiction
    intro q
    have k1 : clash c A s t = true := by
      rw [clash_ab, decide_eq_true h1, decide_eq_true h2, decide_eq_true (by omega : ab (c s - c t) < A s t)]; rfl
    have k2 : clash c A t s = true := by rw [← clash_sym hg s t]; exact k1
    have hne : s ≠ t := fun z => by
      rw [z, hg.2.2.2.1 t] at q
      exact q (by unfold ab; split <;> omega)
    have c1 : 1 ≤ clo n c A s := cN_pos ht k1
    have c2 : 1 ≤ clo n c A t := cN_pos hs k2
    have two : 2 ≤ clsum n c A n := by
      rcases Nat.lt_or_gt_of_ne hne with z | z
      · have := clsum_two (n := n) (c := c) (A := A) z n ht; omega
      · have := clsum_two (n := n) (c := c) (A := A) z n hs; omega
    unfold cls at e
    omega
  · intro h
    have z : ∀ s, s < n → clo n c A s = 0 := fun s hs => by
      have e : clo n c A s = cN (fun _ => false) n := cN_congr n (fun t ht => by
        rw [clash_ab]
        by_cases a : 0 ≤ c s
        · by_cases b : 0 ≤ c t
          · have := h s t hs ht a b
            rw [decide_eq_false (by omega : ¬ ab (c s - c t) < A s t), Bool.and_false]
          · rw [decide_eq_false b, Bool.and_false]; rfl
        · rw [decide_eq_false a]; rfl)
      have z0 : ∀ k, cN (fun _ => false) k = 0 := fun k => by
        induction k with
        | zero => rfl
        | succ k ih => rw [cN_s, ih]; rfl
      rw [e, z0]
    have zz : ∀ k, k ≤ n → clsum n c A k = 0 := fun k => by
      induction k with
      | zero => intro _; rfl
      | succ k ih => intro hk; rw [clsum_s, ih (by omega), z k (by omega)]
    unfold cls
    rw [zz n (Nat.le_refl n)]
theorem clr_rg {p : Nat → Int} (h : WF p) : RgA (nS p) (clr p) (Ap p) := by
  refine ⟨h.n8, fun s => ?_, Ap_rng h, Ap_self p, Ap_comm p⟩
  have := Ch_rng h s
  unfold clr
  split
  · exact this
  · decide
theorem clr_pos {p : Nat → Int} (h : WF p) (s : Nat) : 0 ≤ clr p s ↔ Fx p s = true := by
  unfold clr
  cases c : Fx p s with
  | true => rw [if_pos rfl]; exact ⟨fun _ => rfl, fun _ => (Fx_pos h c).2⟩
  | false => rw [if_neg (by decide)]; exact ⟨fun q => absurd q (by decide), fun q => by cases q⟩
theorem clr_fix {p : Nat → Int} {s : Nat} (hf : Fx p s = true) : clr p s = Ch p s := by
  unfold clr
  rw [hf]; rfl
theorem Col_iff {p : Nat → Int} (h : WF p) (w : Nat) : Col p w ↔ (∀ s, s < nS p → Fx p s = true → Ch p s < (w : Int)) ∧ NoC (nS p) (clr p) (Ap p) ∧ Ext (nS p) (clr p) (Ap p) w := by
  constructor
  · rintro ⟨f, h1, h2⟩
    have g : ∀ s, s < nS p → f s < w ∧ (Fx p s = true → (f s : Int) = Ch p s) := fun s hs => by
      have := h1 s hs rfl
      unfold lC at this
      rw [Bool.and_eq_true, decide_eq_true_eq] at this
      refine ⟨this.1, fun hf => ?_⟩
      have z := this.2
      rw [hf] at z
      simpa using z
    have gc : ∀ s, s < nS p → 0 ≤ clr p s → (f s : Int) = clr p s := fun s hs q => by
      have hf := (clr_pos h s).mp q
      rw [clr_fix hf]; exact (g s hs).2 hf
    refine ⟨fun s hs hf => ?_, fun s t hs ht a b => ?_, f, gc, fun s hs _ => (g s hs).1, fun s t hs ht _ => h2 s t hs ht rfl rfl⟩
    · have a := (g s hs).1
      have b := (g s hs).2 hf
      omega
    · rw [← gc s hs a, ← gc t ht b]; exact h2 s t hs ht rfl rfl
  · rintro ⟨h1, h2, f, e1, e2, e3⟩
    refine ⟨f, fun s hs _ => ?_, fun s t hs ht _ _ => ?_⟩
    · unfold lC
      cases c : Fx p s with
      | true =>
        have a := e1 s hs ((clr_pos h s).mpr c)
        rw [clr_fix c] at a
        have b := h1 s hs c
        rw [decide_eq_true (by omega : f s < w), decide_eq_true a]; rfl
      | false =>
        have a : clr p s < 0 := by
          apply Classical.byContradiction
          intro q
          have := (clr_pos h s).mp (by omega)
          rw [c] at this; cases this
        rw [decide_eq_true (e2 s hs a)]; rfl
    · by_cases a : clr p s < 0
      · exact e3 s t hs ht (Or.inl a)
      · by_cases b : clr p t < 0
        · exact e3 s t hs ht (Or.inr b)
        · rw [e1 s hs (by omega), e1 t ht (by omega)]
          exact h2 s t hs ht (by omega) (by omega)
/-! the bound is 1 at least -/
theorem popc_1 : popc 1 = 1 := by decide +kernel
theorem cbN_pos {n : Nat} {A : Nat → Nat → Int} {g : Int} : ∀ k, 1 ≤ popc (cbN n A g (k + 2))
  | 0 => by
    have c1 : clq n A g 1 = true := by
      unfold clq
      rw [aN_iff]
      intro a _
      rw [aN_iff]
      intro b hb
      have : Nat.testBit 1 a = false := by
        have : a ≠ 0 := by omega
        rw [show (1 : Nat) = 2 ^ 0 from rfl, Nat.testBit_two_pow]
        exact decide_eq_false (by omega)
      rw [this]; rfl
    rw [cbN_s, cbN_one, popc_0, popc_1, if_neg (by decide), c1, if_pos rfl, popc_1]
    exact Nat.le_refl 1
  | k + 1 => by
    have ih := cbN_pos (n := n) (A := A) (g := g) k
    rw [cbN_s]
    by_cases c : popc (k + 2) ≤ popc (cbN n A g (k + 2))
    · rw [if_pos c]; exact ih
    · rw [if_neg c]
      split
      · omega
      · exact ih
theorem bdN_mono (n : Nat) (A : Nat → Nat → Int) (k : Nat) : bdN n A k ≤ bdN n A (k + 1) := by
  rw [bdN_s]
  split
  · exact Int.le_refl _
  · split <;> omega
theorem bdN_pos {n : Nat} (hn : 0 < n) (A : Nat → Nat → Int) : 1 ≤ bdN n A 4 := by
  have e : 2 ≤ 2 ^ n := by
    have : 2 ^ 1 ≤ 2 ^ n := Nat.pow_le_pow_right (by decide) hn
    omega
  have c := cbN_pos (n := n) (A := A) (g := ((0 + 1 : Nat) : Int)) (2 ^ n - 2)
  rw [show 2 ^ n - 2 + 2 = 2 ^ n by omega] at c
  have one : 1 ≤ bdN n A 1 := by
    rw [bdN_s, if_neg (by omega)]
    have z : bdN n A 0 = 0 := rfl
    rw [z]
    generalize popc (cbN n A ((0 + 1 : Nat) : Int) (2 ^ n)) = y at c
    have e1 : ((y : Int) - 1) * ((0 + 1 : Nat) : Int) + 1 = (y : Int) := by
      rw [show ((0 + 1 : Nat) : Int) = 1 from rfl, Int.mul_one]; omega
    rw [e1]
    split <;> omega
  have m1 : bdN n A 1 ≤ bdN n A 2 := bdN_mono n A 1
  have m2 : bdN n A 2 ≤ bdN n A 3 := bdN_mono n A 2
  have m3 : bdN n A 3 ≤ bdN n A 4 := bdN_mono n A 3
  omega
/-! the reference -/
def frm (p : Nat → Int) (b : Int) : Nat → Int
  | 0 => b
  | k + 1 => if Fx p k then (if frm p b k < Ch p k + 1 then Ch p k + 1 else frm p b k) else frm p b k
theorem frm_s (p : Nat → Int) (b : Int) (k : Nat) : frm p b (k + 1) = if Fx p k then (if frm p b k < Ch p k + 1 then Ch p k + 1 else frm p b k) else frm p b k := rfl
theorem frm_rng {p : Nat → Int} (h : WF p) {b : Int} (hb : 1 ≤ b ∧ b ≤ 125) : ∀ k, b ≤ frm p b k ∧ frm p b k ≤ 125
  | 0 => ⟨Int.le_refl b, hb.2⟩
  | k + 1 => by
    have ih := frm_rng h hb k
    have := Ch_rng h k
    rw [frm_s]
    split
    · split <;> omega
    · exact ih
theorem frm_ge {p : Nat → Int} {b : Int} {s : Nat} (hf : Fx p s = true) : ∀ k, s < k → Ch p s + 1 ≤ frm p b k
  | 0, h => absurd h (Nat.not_lt_zero s)
  | k + 1, h => by
    rw [frm_s]
    by_cases e : s = k
    · rw [← e, hf, if_pos rfl]
      split <;> omega
    · have := frm_ge (b := b) hf k (by omega)
      split
      · split <;> omega
      · exact this
theorem frm_why {p : Nat → Int} {b : Int} : ∀ k, frm p b k = b ∨ ∃ s, s < k ∧ Fx p s = true ∧ frm p b k = Ch p s + 1
  | 0 => Or.inl rfl
  | k + 1 => by
    have ih := frm_why (p := p) (b := b) k
    rw [frm_s]
    have old : frm p b k = b ∨ ∃ s, s < k + 1 ∧ Fx p s = true ∧ frm p b k = Ch p s + 1 := by
      rcases ih with q | ⟨s, h1, h2, h3⟩
      · exact Or.inl q
      · exact Or.inr ⟨s, by omega, h2, h3⟩
    cases c : Fx p k with
    | true =>
      rw [if_pos rfl]
      by_cases d : frm p b k < Ch p k + 1
      · rw [if_pos d]; exact Or.inr ⟨k, by omega, c, rfl⟩
      · rw [if_neg d]; exact old
    | false => rw [if_neg (by decide)]; exact old
theorem m_leastL35 {σ : gs_Mem} (h : WF (σ 71)) {b : Int} (hb : 1 ≤ b ∧ b ≤ 125) (K : Int → gs_Mem → Option (Int × gs_Mem)) : f_X7_least_L35 K gs_fuel b 0 σ = K (frm (σ 71) b (nS (σ 71))) (rw_ σ 71 (clrR (σ 71) (nS (σ 71)))) := by
  have h8 := h.n8
  refine loop0 (fun m k (a : Int × gs_Mem) => f_X7_least_L35 K m a.1 (k : Int) a.2) (fun k a => a = (frm (σ 71) b k, rw_ σ 71 (clrR (σ 71) k))) (fun q => q = K (frm (σ 71) b (nS (σ 71))) (rw_ σ 71 (clrR (σ 71) (nS (σ 71))))) (nS (σ 71)) (b, σ) (by omega) ?_ ?_ ?_
  · intro m k a hk ha
    subst ha
    obtain ⟨i1, i2, i3⟩ := clrR_ok h k (by omega)
    have hn : nS (clrR (σ 71) k) = nS (σ 71) := geo_nS (chr_geo i1)
    have i2' : WF (rw_ σ 71 (clrR (σ 71) k) 71) := by rw [rw_same]; exact i2
    have fr := frm_rng h hb k
    have rc := Ch_rng h k
    have hch : Fx (σ 71) k = true → Ch (clrR (σ 71) k) k = Ch (σ 71) k := fun hf => by
      rw [i3]
      exact if_neg (by omega)
    refine Or.inr ⟨_, ?_, rfl⟩
    dsimp only
    rw [f_X7_least_L35, gs_chk_t (by decide) (by decide), m_fixed i2' (by rw [rw_same]; omega), m_ch i2' (by rw [rw_same]; omega), rw_same, i2.n0, hn, gnN (by omega), gnN (by omega), if_neg (by omega), Option.bind_some, gn_ite1, chr_Fx i1, m_has (by omega), Option.bind_some, Option.bind_some, clrR_s, frm_s]
    unfold f_X7_least_J74
    cases c : Fx (σ 71) k with
    | true =>
      rw [if_neg (show ¬ (if true = true then (1 : Int) else 0) = 0 by decide), if_pos rfl, if_pos rfl, hch c, gmaxE (by omega) (by omega)]
      rfl
    | false =>
      rw [if_pos (show (if false = true then (1 : Int) else 0) = 0 from rfl), if_neg (by decide), if_neg (by decide)]
      dsimp only
      rw [gs_st_rw, rw_same, rw_rw]; rfl
  · intro m a ha
    subst ha
    obtain ⟨i1, i2, -⟩ := clrR_ok h (nS (σ 71)) (Nat.le_refl _)
    dsimp only
    rw [f_X7_least_L35, gs_chk_t (by decide) (by decide), rw_same, i2.n0, geo_nS (chr_geo i1), gnN (by omega), if_pos (Int.le_refl _)]
  · show (b, σ) = (b, rw_ σ 71 (σ 71))
    rw [rw_self]
theorem m_least {σ : gs_Mem} (h : WF (σ 71)) (hn : 0 < nS (σ 71)) {b : Nat} (hb : 1 ≤ b ∧ b ≤ 125) (eb : bdN (nS (σ 71)) (Ap (σ 71)) 4 = (b : Int)) : ∃ v : Int, f_X7_least σ = some (v, rw_ σ 72 (cpR (σ 71) (σ 72))) ∧ Lst (σ 71) b v := by
  have h8 := h.n8
  have e71 : rw_ σ 72 (cpR (σ 71) (σ 72)) 71 = σ 71 := rw_ne _ _ _ (by decide)
  obtain ⟨i1, i2, -⟩ := clrR_ok h (nS (σ 71)) (Nat.le_refl _)
  have i3 := clrR_Ch h
  have hnc : nS (clrR (σ 71) (nS (σ 71))) = nS (σ 71) := geo_nS (chr_geo i1)
  have hAc := chr_Ap i1 h
  have hmm : (rw_ (rw_ σ 72 (cpR (σ 71) (σ 72))) 71 (clrR (σ 71) (nS (σ 71)))) 71 = clrR (σ 71) (nS (σ 71)) := rw_same _ _ _
  have bnd := m_bound (σ := rw_ σ 72 (cpR (σ 71) (σ 72))) (by rw [e71]; exact h)
  rw [e71, eb] at bnd
  have lp := m_leastL35 (σ := rw_ σ 72 (cpR (σ 71) (σ 72))) (by rw [e71]; exact h) (b := (b : Int)) (by omega) (fun w1 σ6 =>
      (f_X7_clashes σ6).bind fun u7 =>
      if (gn u7) ≤ 0 then
        f_X7_least_J92 w1 0 σ6
      else
        f_X7_least_J92 w1 1 σ6)
  rw [e71] at lp
  have kc := m_clashes (σ := rw_ (rw_ σ 72 (cpR (σ 71) (σ 72))) 71 (clrR (σ 71) (nS (σ 71)))) (by rw [hmm]; exact i2)
  rw [hmm, hnc, hAc, i3] at kc
  have hk := cls_small (nS (σ 71)) (clr (σ 71)) (Ap (σ 71)) h8
  have bk := m_back (σ := σ) (q := clrR (σ 71) (nS (σ 71))) (chr_84 i1)
  have fr := frm_rng h (b := (b : Int)) (by omega) (nS (σ 71))
  have cz := cls_zero (clr_rg h)
  have head : f_X7_least σ = if cls (nS (σ 71)) (clr (σ 71)) (Ap (σ 71)) = 0 then f_X7_least_J92 (frm (σ 71) (b : Int) (nS (σ 71))) 0 (rw_ (rw_ σ 72 (cpR (σ 71) (σ 72))) 71 (clrR (σ 71) (nS (σ 71)))) else f_X7_least_J92 (frm (σ 71) (b : Int) (nS (σ 71))) 1 (rw_ (rw_ σ 72 (cpR (σ 71) (σ 72))) 71 (clrR (σ 71) (nS (σ 71)))) := by
    unfold f_X7_least
    rw [gs_chk_t (by decide) (by decide), h.n0, gnN (by omega), if_neg (by omega), m_copies (by decide), Option.bind_some]
    dsimp only
    rw [bnd, Option.bind_some, gmaxE (by decide) (by omega)]
    have eg : (if (1 : Int) < (b : Int) then (b : Int) else 1) = (b : Int) := by split <;> omega
    rw [eg]
    refine Eq.trans lp ?_
    rw [kc, Option.bind_some, gnN (by omega)]
    by_cases c : cls (nS (σ 71)) (clr (σ 71)) (Ap (σ 71)) = 0
    · rw [if_pos (by omega), if_pos c]
    · rw [if_neg (by omega), if_neg c]
  have back : ∀ t0 v : Int, f_X7_least_J119 t0 v (rw_ (rw_ σ 72 (cpR (σ 71) (σ 72))) 71 (clrR (σ 71) (nS (σ 71)))) = some (if gn t0 = 0 ∧ gn v ≤ 12 then v else -5, rw_ σ 72 (cpR (σ 71) (σ 72))) := fun t0 v => by
    unfold f_X7_least_J119 f_X7_least_J140
    rw [bk, Option.bind_some]
    by_cases c1 : gn t0 = 0
    · rw [if_pos c1]
      by_cases c2 : gn v ≤ 12
      · rw [if_pos c2, if_pos ⟨c1, c2⟩]
      · rw [if_neg c2, if_neg (fun e => c2 e.2)]
    · rw [if_neg c1, if_neg (fun e => c1 e.1)]
  rw [head]
  unfold f_X7_least_J92
  by_cases c : cls (nS (σ 71)) (clr (σ 71)) (Ap (σ 71)) = 0
  · rw [if_pos c]
    have hno := cz.mp c
    have key : ∀ (d m w : Nat), 13 - w ≤ d → d < m → frm (σ 71) (b : Int) (nS (σ 71)) ≤ (w : Int) → w ≤ 126 → (∀ u, b ≤ u → u < w → ¬ Col (σ 71) u) → ∃ v : Int, f_X7_least_L95 0 (fun w3 σ9 => f_X7_least_J119 0 w3 σ9) m (w : Int) (rw_ (rw_ σ 72 (cpR (σ 71) (σ 72))) 71 (clrR (σ 71) (nS (σ 71)))) = some (v, rw_ σ 72 (cpR (σ 71) (σ 72))) ∧ Lst (σ 71) b v := by
      intro d
      induction d with
      | zero =>
        intro m w hd hm hf hw hN
        obtain ⟨m', rfl⟩ : ∃ m', m = m' + 1 := ⟨m - 1, by omega⟩
        refine ⟨-5, ?_, Or.inl ⟨rfl, fun u h1 h2 => hN u h1 (by omega)⟩⟩
        rw [f_X7_least_L95, gn_0, if_pos rfl, gnN (k := w) (by omega), if_pos (by omega), back, gnN (k := w) (by omega), if_neg (by omega)]
      | succ d ih =>
        intro m w hd hm hf hw hN
        obtain ⟨m', rfl⟩ : ∃ m', m = m' + 1 := ⟨m - 1, by omega⟩
        rw [f_X7_least_L95, gn_0, if_pos rfl, gnN (k := w) (by omega)]
        by_cases z : 12 < (w : Int)
        · rw [if_pos z, back, gnN (k := w) (by omega), if_neg (by omega)]
          exact ⟨-5, rfl, Or.inl ⟨rfl, fun u h1 h2 => hN u h1 (by omega)⟩⟩
        · rw [if_neg z]
          have ci := Col_iff h w
          have fixed : ∀ s, s < nS (σ 71) → Fx (σ 71) s = true → Ch (σ 71) s < (w : Int) := fun s hs hfx => by
            have := frm_ge (b := (b : Int)) hfx (nS (σ 71)) hs
            omega
          have cle := cN_le (fun s => decide (clr (σ 71) s < 0)) (nS (σ 71))
          obtain ⟨x, x1, x2⟩ := m_can (w := w) (by omega) 12 (rw_ (rw_ σ 72 (cpR (σ 71) (σ 72))) 71 (clrR (σ 71) (nS (σ 71)))) (by rw [hmm]; exact i2) (by rw [hmm, hnc, i3]; omega)
          rw [hmm, hnc, hAc, i3] at x2
          rw [x1, Option.bind_some]
          rcases x2 with ⟨rfl, y⟩ | ⟨rfl, y⟩
          · rw [if_neg (by rw [gn_1]; decide), back, gnN (k := w) (by omega), if_pos ⟨gn_0, by omega⟩]
            exact ⟨(w : Int), rfl, Or.inr ⟨w, rfl, by omega, by omega, ci.mpr ⟨fixed, hno, y⟩, hN⟩⟩
          · rw [if_pos gn_0]
            exact ih m' (w + 1) (by omega) (by omega) (by omega) (by omega) (fun u h1 h2 => by
              by_cases q : u = w
              · rw [q]; exact fun e => y (ci.mp e).2.2
              · exact hN u h1 (by omega))
    obtain ⟨f, ef⟩ : ∃ f : Nat, frm (σ 71) (b : Int) (nS (σ 71)) = (f : Int) := ⟨(frm (σ 71) (b : Int) (nS (σ 71))).toNat, by omega⟩
    rw [ef]
    refine key 13 gs_fuel f (by omega) (by have := fuel_big; omega) (by omega) (by omega) (fun u h1 h2 e => ?_)
    have ci := ((Col_iff h u).mp e).1
    rcases frm_why (p := σ 71) (b := (b : Int)) (nS (σ 71)) with q | ⟨s, q1, q2, q3⟩
    · omega
    · have := ci s q1 q2
      omega
  · rw [if_neg c]
    obtain ⟨m, hm'⟩ : ∃ m, gs_fuel = m + 1 := ⟨gs_fuel - 1, by have := fuel_big; omega⟩
    rw [hm', f_X7_least_L95, gn_1, if_neg no10, back, gn_1, if_neg (fun e => no10 e.1)]
    exact ⟨-5, rfl, Or.inl ⟨rfl, fun w _ _ e => c (cz.mpr ((Col_iff h w).mp e).2.1)⟩⟩
