/-! ===== the reference's assigning ===== -/
def nxI (o : Option Nat) : Int := match o with
  | none => -1
  | some j => (j : Int)
theorem alC_le (n : Nat) (c : Nat → Int) (A : Nat → Nat → Int) (s w : Nat) : alC n c A s w ≤ w := cN_le _ w
theorem apM_le (n : Nat) (A : Nat → Nat → Int) (s : Nat) : apM n A s ≤ n := cN_le _ n
theorem m_isAhead {σ : gs_Mem} (h : WF (σ 71)) {a b : Nat} (ha : a < nS (σ 71)) (hb : b < nS (σ 71)) : f_X7_isAhead (a : Int) (b : Int) σ = some (if ahd (nS (σ 71)) (Ch (σ 71)) (Ap (σ 71)) a b then 1 else 0) := by
  have h8 := h.n8
  have e1 : f_X7_allowed (a : Int) 20 σ = _ := m_allowed h ha (w := 20) (by decide)
  have e2 : f_X7_allowed (b : Int) 20 σ = _ := m_allowed h hb (w := 20) (by decide)
  have l1 := alC_le (nS (σ 71)) (Ch (σ 71)) (Ap (σ 71)) a 20
  have l2 := alC_le (nS (σ 71)) (Ch (σ 71)) (Ap (σ 71)) b 20
  have l3 := apM_le (nS (σ 71)) (Ap (σ 71)) a
  have l4 := apM_le (nS (σ 71)) (Ap (σ 71)) b
  unfold f_X7_isAhead ahd
  rw [e1, e2, m_apartMany h ha, m_apartMany h hb, Option.bind_some, Option.bind_some, Option.bind_some, Option.bind_some]
  generalize alC (nS (σ 71)) (Ch (σ 71)) (Ap (σ 71)) a 20 = x1 at l1 ⊢
  generalize alC (nS (σ 71)) (Ch (σ 71)) (Ap (σ 71)) b 20 = x2 at l2 ⊢
  generalize apM (nS (σ 71)) (Ap (σ 71)) a = y1 at l3 ⊢
  generalize apM (nS (σ 71)) (Ap (σ 71)) b = y2 at l4 ⊢
  rw [gnN (by omega), gnN (by omega), gnN (by omega), gnN (by omega)]
  by_cases c1 : x1 = x2
  · rw [if_pos (by omega), decide_eq_true c1, decide_eq_false (show ¬ x1 < x2 by omega)]
    by_cases c2 : y1 ≤ y2
    · rw [if_pos (by omega), decide_eq_false (show ¬ y2 < y1 by omega)]; rfl
    · rw [if_neg (by omega), decide_eq_true (show y2 < y1 by omega)]; rfl
  · rw [if_neg (by omega), decide_eq_false c1]
    by_cases c2 : x2 ≤ x1
    · rw [if_pos (by omega), decide_eq_false (show ¬ x1 < x2 by omega)]; rfl
    · rw [if_neg (by omega), decide_eq_true (show x1 < x2 by omega)]; rfl
theorem m_nextOne {σ : gs_Mem} (h : WF (σ 71)) {M : Nat} (hM : M < 256) : f_X7_nextOne (M : Int) σ = some (nxI (nx (nS (σ 71)) (Ch (σ 71)) (Ap (σ 71)) (wt (Ch (σ 71)) (fun s => M.testBit s)) (nS (σ 71)))) := by
  have h8 := h.n8
  have hn := h.n0
  refine loop0 (fun m k (v : Int) => f_X7_nextOne_L4 σ (M : Int) m v (k : Int)) (fun k v => v = nxI (nx (nS (σ 71)) (Ch (σ 71)) (Ap (σ 71)) (wt (Ch (σ 71)) (fun s => M.testBit s)) k)) (fun q => q = some (nxI (nx (nS (σ 71)) (Ch (σ 71)) (Ap (σ 71)) (wt (Ch (σ 71)) (fun s => M.testBit s)) (nS (σ 71))))) (nS (σ 71)) (-1) (by omega) ?_ ?_ rfl
  · intro m k v hk hv
    have r1 := Ch_rng h k
    refine Or.inr ⟨nxI (nx (nS (σ 71)) (Ch (σ 71)) (Ap (σ 71)) (wt (Ch (σ 71)) (fun s => M.testBit s)) (k + 1)), ?_, rfl⟩
    rw [f_X7_nextOne_L4, m_ch h hk, Option.bind_some]
    unfold f_X7_nextOne_J43 f_X7_nextOne_J45
    rw [gs_chk_t (by decide) (by decide), hn, gnN (by omega), gnN (by omega), if_neg (by omega), gnS (x := Ch (σ 71) k) (by omega), gbit (by omega) (by omega), nx_s]
    have ew : wt (Ch (σ 71)) (fun s => M.testBit s) k = (decide (Ch (σ 71) k < 0) && !M.testBit k) := rfl
    rw [ew]
    by_cases c1 : 0 ≤ Ch (σ 71) k
    · rw [if_pos c1, decide_eq_false (by omega), Bool.false_and, if_neg (by decide), hv]; rfl
    · rw [if_neg c1, decide_eq_true (by omega), Bool.true_and]
      cases c2 : M.testBit k with
      | true => rw [if_pos rfl, if_neg no10, Bool.not_true, if_neg (by decide), hv]; rfl
      | false =>
        rw [if_pos (show (if false = true then (1 : Int) else 0) = 0 from rfl), Bool.not_false, if_pos (show true = true from rfl)]
        cases q : nx (nS (σ 71)) (Ch (σ 71)) (Ap (σ 71)) (wt (Ch (σ 71)) (fun s => M.testBit s)) k with
        | none =>
          rw [q] at hv
          rw [hv, show gn (nxI none) = -1 from m1, if_pos (by decide)]; rfl
        | some b =>
          rw [q] at hv
          have hb := nx_some q
          have eb : v = (b : Int) := hv
          rw [eb, gnN (by omega), if_neg (by omega), m_isAhead h hk (by omega), Option.bind_some, gn_ite1]
          dsimp only
          cases ahd (nS (σ 71)) (Ch (σ 71)) (Ap (σ 71)) k b with
          | true => rw [if_neg (show ¬ (if true = true then (1 : Int) else 0) = 0 by decide), if_pos (show true = true from rfl)]; rfl
          | false => rw [if_pos (show (if false = true then (1 : Int) else 0) = 0 from rfl), if_neg (show ¬ false = true by decide)]; rfl
  · intro m v hv
    rw [f_X7_nextOne_L4, gs_chk_t (by decide) (by decide), hn, gnN (by omega), if_pos (Int.le_refl _), hv]
