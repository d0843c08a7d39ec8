/-! ===== the first memory: both sides hold the same ===== -/
theorem s0_71 : s0 71 = (rup (rup (rup zr 37 1) 39 1) 41 1) := rfl
theorem s0_n : nS (s0 71) = 0 := rfl
theorem s0_i (i : Nat) : s0 71 i = if i = 37 ∨ i = 39 ∨ i = 41 then 1 else 0 := by
  rw [s0_71]
  unfold rup zr
  by_cases a : i = 41
  · simp [a]
  · by_cases b : i = 39
    · simp [b]
    · by_cases c : i = 37
      · simp [c]
      · simp [a, b, c]
theorem s0_WF : WF (s0 71) := by
  refine ⟨by rw [s0_i]; decide, fun s hs => absurd hs (by rw [s0_n]; exact Nat.not_lt_zero s), fun r hr => ?_, fun a b ha _ _ => absurd ha (by rw [s0_n]; exact Nat.not_lt_zero a)⟩
  rw [s0_i, s0_i]
  rw [if_neg (by omega), if_pos (by omega)]
  decide
theorem s0_WFr : WFr (s0 71) := by
  have e : ∀ i, i < 37 → s0 71 i = 0 := fun i hi => by rw [s0_i, if_neg (by omega)]
  unfold WFr
  rw [e 1 (by decide), e 2 (by decide), e 3 (by decide)]
  exact ⟨⟨by decide, fun k hk => absurd hk (by omega)⟩, ⟨by decide, fun k hk => absurd hk (by omega)⟩, ⟨by decide, fun k hk => absurd hk (by omega)⟩⟩
theorem s0_Fx (s : Nat) : Fx (s0 71) s = false := by
  unfold Fx
  rw [s0_n, decide_eq_false (Nat.not_lt_zero s)]; rfl
theorem s0_PlR : PlR s0 2 (s0 71) := by
  refine ⟨⟨rfl, fun s hs => absurd hs (by rw [s0_n]; exact Nat.not_lt_zero s), fun q hq => ?_⟩, fun s hs => absurd hs (by rw [s0_n]; exact Nat.not_lt_zero s), fun x y hx hy => ⟨fun h => absurd h (by rw [s0_n]; exact Nat.not_lt_zero x), fun _ => rfl, Int.le_refl 0, (by decide : (0 : Int) ≤ 4)⟩, fun x hx => absurd hx (by rw [s0_n]; exact Nat.not_lt_zero x), 0, rfl, by decide, fun s => by rw [s0_Fx, Nat.zero_testBit]⟩
  rw [s0_i, s0_i, if_neg (by omega), if_pos (by omega)]
  have : q = 0 ∨ q = 1 ∨ q = 2 := by omega
  rcases this with rfl | rfl | rfl
  · exact ⟨rfl, rfl⟩
  · exact ⟨rfl, rfl⟩
  · exact ⟨rfl, rfl⟩
theorem s0_Rel : Rel s0 := by
  have e : ∀ i, i < 37 → s0 71 i = 0 := fun i hi => by rw [s0_i, if_neg (by omega)]
  have g5 : s0 11 0 = gmin 5 8 := rfl
  have g8 : s0 14 0 = gmin 8 8 := rfl
  have g9 : s0 17 0 = gmin 8 8 := rfl
  refine ⟨⟨s0_WF, s0_PlR⟩, ⟨s0_WFr, ?_, by rw [g5, gminE (by decide) (by decide)]; rfl, by rw [g8, gminE (by decide) (by decide)]; rfl, by rw [g9, gminE (by decide) (by decide)]; rfl⟩, Or.inl ⟨rfl, rfl⟩, ⟨0, by decide, rfl, rfl, fun i hi => absurd hi (Nat.not_lt_zero i)⟩, fun k hk => ?_⟩
  · unfold Rws
    rw [e 1 (by decide), e 2 (by decide), e 3 (by decide)]
    exact ⟨⟨rfl, fun k hk => absurd hk (by omega)⟩, ⟨rfl, fun k hk => absurd hk (by omega)⟩, ⟨rfl, fun k hk => absurd hk (by omega)⟩⟩
  · have : k = 0 ∨ k = 1 ∨ k = 2 ∨ k = 3 ∨ k = 4 ∨ k = 5 := by omega
    rcases this with rfl | rfl | rfl | rfl | rfl | rfl
    · exact ⟨rfl, rfl, ⟨Int.le_refl (-1), (by decide : (-1 : Int) ≤ 4)⟩, ⟨Int.le_refl 0, (by decide : (0 : Int) ≤ 60)⟩, fun _ => rfl, fun i _ => rfl⟩
    · exact ⟨rfl, rfl, ⟨Int.le_refl (-1), (by decide : (-1 : Int) ≤ 4)⟩, ⟨Int.le_refl 0, (by decide : (0 : Int) ≤ 60)⟩, fun _ => rfl, fun i _ => rfl⟩
    · exact ⟨rfl, rfl, ⟨Int.le_refl (-1), (by decide : (-1 : Int) ≤ 4)⟩, ⟨Int.le_refl 0, (by decide : (0 : Int) ≤ 60)⟩, fun _ => rfl, fun i _ => rfl⟩
    · exact ⟨rfl, rfl, ⟨Int.le_refl (-1), (by decide : (-1 : Int) ≤ 4)⟩, ⟨Int.le_refl 0, (by decide : (0 : Int) ≤ 60)⟩, fun _ => rfl, fun i _ => rfl⟩
    · exact ⟨rfl, rfl, ⟨Int.le_refl (-1), (by decide : (-1 : Int) ≤ 4)⟩, ⟨Int.le_refl 0, (by decide : (0 : Int) ≤ 60)⟩, fun _ => rfl, fun i _ => rfl⟩
    · exact ⟨rfl, rfl, ⟨Int.le_refl (-1), (by decide : (-1 : Int) ≤ 4)⟩, ⟨Int.le_refl 0, (by decide : (0 : Int) ≤ 60)⟩, fun _ => rfl, fun i _ => rfl⟩
