/-! ===== the reference's readers ===== -/
theorem in_int {v lo hi : Int} (hv : -9223372036854775808 ≤ v ∧ v < 9223372036854775808) (hl : -9223372036854775808 ≤ lo ∧ lo < 9223372036854775808) (hh : -9223372036854775808 ≤ hi ∧ hi < 9223372036854775808) (σ : gs_Mem) : f_X7_in v lo hi σ = some (if lo ≤ v ∧ v ≤ hi then 1 else 0) := by
  have e1 : gm v = v := gm_id hv.1 hv.2
  have e2 : gm lo = lo := gm_id hl.1 hl.2
  have e3 : gm hi = hi := gm_id hh.1 hh.2
  have g1 : gn 1 = 1 := by decide +kernel
  have g2 : gn (-1) = -1 := by decide +kernel
  unfold f_X7_in gcmp
  rw [e1, e2, e3]
  by_cases a1 : lo < v
  · rw [if_pos a1, g1, if_neg (by decide)]
    by_cases a2 : hi < v
    · rw [if_pos a2, g1, if_pos (by decide), if_neg (by omega)]
    · rw [if_neg a2]
      by_cases a3 : v = hi
      · rw [if_pos a3, gn_0, if_neg (by decide), if_pos (by omega)]
      · rw [if_neg a3, g2, if_neg (by decide), if_pos (by omega)]
  · rw [if_neg a1]
    by_cases a4 : v = lo
    · rw [if_pos a4, gn_0, if_neg (by decide)]
      by_cases a2 : hi < v
      · rw [if_pos a2, g1, if_pos (by decide), if_neg (by omega)]
      · rw [if_neg a2]
        by_cases a3 : v = hi
        · rw [if_pos a3, gn_0, if_neg (by decide), if_pos (by omega)]
        · rw [if_neg a3, g2, if_neg (by decide), if_pos (by omega)]
    · rw [if_neg a4, g2, if_pos (by decide), if_neg (by omega)]
/-- the same, of ints -/
theorem in_gn (v : Int) {lo hi : Int} (hl : -9223372036854775808 ≤ lo ∧ lo < 9223372036854775808) (hh : -9223372036854775808 ≤ hi ∧ hi < 9223372036854775808) (σ : gs_Mem) : f_X7_in (gn v) lo hi σ = some (if lo ≤ gn v ∧ gn v ≤ hi then 1 else 0) :=
  in_int (by have := gn_rng v; omega) hl hh σ
section
variable {σ : gs_Mem}
theorem m_isStation (h : WF (σ 71)) (v : Int) : f_X7_isStation v σ = some (if 0 ≤ gn v ∧ gn v < (nS (σ 71) : Int) then 1 else 0) := by
  have hn := h.n0
  have h8 := h.n8
  unfold f_X7_isStation
  rw [gs_chk_t (by decide) (by decide), hn, gnS (x := (nS (σ 71) : Int) - 1) (by omega), in_gn v (by decide) (by omega)]
  by_cases c : 0 ≤ gn v ∧ gn v < (nS (σ 71) : Int)
  · rw [if_pos c, if_pos (by omega)]
    rfl
  · rw [if_neg c, if_neg (by omega)]
    rfl
theorem m_x {s : Nat} (hs : s < 8) : f_X7_x (s : Int) σ = some (σ 71 (4 + 4 * s)) := by
  unfold f_X7_x
  simp (disch := omega) only [gnS, gs_chk_t, t4]
theorem m_y {s : Nat} (hs : s < 8) : f_X7_y (s : Int) σ = some (σ 71 (5 + 4 * s)) := by
  unfold f_X7_y
  simp (disch := omega) only [gnS, gs_chk_t, t5]
theorem m_ch8 {s : Nat} (hs : s < 8) : f_X7_channelOf (s : Int) σ = some (σ 71 (6 + 4 * s)) := by
  unfold f_X7_channelOf
  simp (disch := omega) only [gnS, gs_chk_t, t6]
theorem m_ch (h : WF (σ 71)) {s : Nat} (hs : s < nS (σ 71)) : f_X7_channelOf (s : Int) σ = some (Ch (σ 71) s) := by
  have h8 := h.n8
  rw [m_ch8 (by omega), Ch_lt hs]
theorem m_fixed (h : WF (σ 71)) {s : Nat} (hs : s < nS (σ 71)) : f_X7_isFixed (s : Int) σ = some (if Fx (σ 71) s then 1 else 0) := by
  have h8 := h.n8
  have hf := h.f hs
  unfold f_X7_isFixed Fx
  simp (disch := omega) only [gnS, gs_chk_t, t7]
  rcases hf with e | e
  · rw [e]; simp
  · rw [e]; simp [hs]
theorem m_has {s : Nat} (hs : s < 8) (v : Int) : f_X7_has (s : Int) v σ = some (0, gs_st σ 71 (6 + 4 * s) v) := by
  unfold f_X7_has
  simp (disch := omega) only [gnS, gs_chk_t, t6]
theorem m_square (v : Int) : f_X7_square v σ = some (v * v) := rfl
theorem m_apartOf (h : WF (σ 71)) {a b : Nat} (ha : a < nS (σ 71)) (hb : b < nS (σ 71)) (hab : a ≠ b) : f_X7_apartOf (a : Int) (b : Int) σ = some (Ap (σ 71) a b) := by
  have h8 := h.n8
  have hd := ds_rng h ha hb
  unfold f_X7_apartOf Ap
  rw [m_x (by omega), m_x (by omega), m_y (by omega), m_y (by omega), if_pos ⟨ha, hb, hab⟩]
  simp only [Option.bind_some, m_square]
  show f_X7_apartOf_L36 σ (ds (σ 71) a b) gs_fuel 0 0 = _
  generalize ds (σ 71) a b = d at hd
  refine loop0 (fun m k (v : Int) => f_X7_apartOf_L36 σ d m v (k : Int)) (fun k v => v = rlN (σ 71) d k) (fun r => r = some (rlN (σ 71) d 3)) 3 0 (by decide) ?_ ?_ rfl
  · intro m k v hk hv
    subst hv
    have hnr := h.near hk
    have hgp := h.gap hk
    have hsq := sq40 hnr
    have hr := rlN_rng h d k (by omega)
    refine Or.inr ⟨_, ?_, rfl⟩
    show f_X7_apartOf_L36 σ d (m + 1) (rlN (σ 71) d k) (k : Int) = f_X7_apartOf_L36 σ d m (rlN (σ 71) d (k + 1)) ((k + 1 : Nat) : Int)
    rw [f_X7_apartOf_L36]
    unfold f_X7_apartOf_J92 f_X7_apartOf_J94
    simp (disch := omega) only [gnS, gs_chk_t, t36, t37, gmaxE]
    rw [if_neg (by omega)]
    by_cases c1 : σ 71 (36 + 2 * k) ≤ 0
    · rw [if_pos c1, show rlN (σ 71) d (k + 1) = rlN (σ 71) d k from if_pos (Or.inl c1)]; rfl
    · rw [if_neg c1]
      by_cases c2 : σ 71 (36 + 2 * k) * σ 71 (36 + 2 * k) < d
      · rw [if_pos c2, show rlN (σ 71) d (k + 1) = rlN (σ 71) d k from if_pos (Or.inr c2)]; rfl
      · rw [if_neg c2, show rlN (σ 71) d (k + 1) = _ from if_neg (fun e => e.elim c1 c2)]; rfl
  · intro m v hv
    show f_X7_apartOf_L36 σ d (m + 1) v ((3 : Nat) : Int) = _
    rw [f_X7_apartOf_L36, if_pos (by decide +kernel), hv]
end
