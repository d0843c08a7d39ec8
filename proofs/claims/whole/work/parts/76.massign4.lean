theorem gnNone : gn (nxI none) = -1 := m1
/-! ===== the reference's assigning, altogether ===== -/
def asg (p : Nat → Int) : (Nat → Int) × (Nat → Bool) := grd (nS p) (Ap p) 8 (clr p) (fun _ => false)
def asgC (p : Nat → Int) : Nat → Int := (asg p).1
def asgN (p : Nat → Int) : Nat := cN (asg p).2 (nS p)
/-- those for whom nothing is left are stations -/
theorem grd_lt {n : Nat} {A : Nat → Nat → Int} : ∀ (d : Nat) (c : Nat → Int) (st : Nat → Bool), (∀ s, st s = true → s < n) → ∀ s, (grd n A d c st).2 s = true → s < n
  | 0, _, _, h, s, hs => h s hs
  | d + 1, c, st, h, s, hs => by
    cases e : nx n c A (wt c st) n with
    | none => rw [grd_none e] at hs; exact h s hs
    | some b =>
      have hb := (nx_some e).1
      rw [grd_step e] at hs
      by_cases z : alF n c A b < 0
      · rw [if_pos z] at hs
        refine grd_lt d c (up st b true) (fun t ht => ?_) s hs
        unfold up at ht
        by_cases q : t = b
        · omega
        · rw [if_neg q] at ht; exact h t ht
      · rw [if_neg z] at hs
        exact grd_lt d _ st h s hs
theorem wt_no (c : Nat → Int) : wt c (fun s => Nat.testBit 0 s) = wt c (fun _ => false) := by
  funext s
  unfold wt
  dsimp only
  rw [Nat.zero_testBit]
theorem popc_mask {M : Nat} (hM : M < 256) {n : Nat} (h8 : n ≤ 8) (h : ∀ s, M.testBit s = true → s < n) : popc M = cN (fun s => M.testBit s) n := by
  have e : ∀ d, n + d ≤ 8 → cN (fun s => M.testBit s) (n + d) = cN (fun s => M.testBit s) n := fun d => by
    induction d with
    | zero => intro _; rfl
    | succ d ih =>
      intro hd
      rw [show n + (d + 1) = (n + d) + 1 from rfl, cN_s, ih (by omega)]
      cases q : M.testBit (n + d) with
      | false => simp
      | true => have := h _ q; omega
  rw [popc_cN 8 (by decide) hM, ← e (8 - n) (by omega), show n + (8 - n) = 8 by omega]
theorem m_assigned {σ : gs_Mem} (h : WF (σ 71)) : ∃ q, f_X7_assigned σ = some (((asgN (σ 71) : Nat) : Int), rw_ σ 71 q) ∧ chr (σ 71) q ∧ WF q ∧ Ch q = asgC (σ 71) := by
  have h8 := h.n8
  obtain ⟨i1, i2, -⟩ := clrR_ok h (nS (σ 71)) (Nat.le_refl _)
  have i3 := clrR_Ch h
  have hn : nS (clrR (σ 71) (nS (σ 71))) = nS (σ 71) := geo_nS (chr_geo i1)
  have hA := chr_Ap i1 h
  have hle := cN_le (wt (Ch (clrR (σ 71) (nS (σ 71)))) (fun s => Nat.testBit 0 s)) (nS (σ 71))
  have key := m_greedy (fun w1 σ8 => (f_J6_bitCount_0f7a4 w1 σ8).bind fun u9 => some (u9, σ8)) (n := nS (σ 71)) (A := Ap (σ 71)) 8 gs_fuel (rw_ σ 71 (clrR (σ 71) (nS (σ 71)))) 0 (by rw [rw_same]; exact i2) (by rw [rw_same]; exact hn) (by rw [rw_same]; exact hA) (by decide) (fun s hs => by rw [Nat.zero_testBit] at hs; cases hs) (by rw [rw_same]; omega) (by have := fuel_big; omega)
  obtain ⟨M, q, k1, k2, k3, k4, k5⟩ := key
  rw [rw_same] at k3 k5
  rw [i3, show (fun s => Nat.testBit 0 s) = fun _ => false from funext fun s => Nat.zero_testBit s] at k5
  have k5' : (Ch q, fun s => M.testBit s) = asg (σ 71) := k5
  refine ⟨q, ?_, chr_trans i1 k3, k4, ?_⟩
  · unfold f_X7_assigned
    rw [m_clearL h]
    have en := m_nextOne (σ := rw_ σ 71 (clrR (σ 71) (nS (σ 71)))) (by rw [rw_same]; exact i2) (M := 0) (by decide)
    rw [rw_same, hn, hA] at en
    have en' : f_X7_nextOne 0 (rw_ σ 71 (clrR (σ 71) (nS (σ 71)))) = _ := en
    rw [en', Option.bind_some]
    rw [rw_same] at k1
    refine Eq.trans k1 ?_
    rw [bitCount_spec (by omega), Option.bind_some, rw_rw]
    refine congrArg some (Prod.ext ?_ rfl)
    show ((popc M : Nat) : Int) = _
    rw [popc_mask k2 h8 (fun s hs => ?_)]
    · unfold asgN
      rw [← k5']
    · refine grd_lt (A := Ap (σ 71)) 8 (clr (σ 71)) (fun _ => false) (fun s hs => by cases hs) s ?_
      show (asg (σ 71)).2 s = true
      rw [← k5']; exact hs
  · unfold asgC
    rw [← k5']
/-- the assigning reads the places, the rules, and the channels of the fixed -/
theorem asg_congr {p q : Nat → Int} (hn : nS q = nS p) (hA : Ap q = Ap p) (hc : clr q = clr p) : asg q = asg p := by
  unfold asg
  rw [hn, hA, hc]
