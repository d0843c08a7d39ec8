/-! ===== the whole text, on both sides ===== -/
section
variable {σ : gs_Mem} {T : Nat → Int} {L : Nat}
/-- only the four slots of clause n in the reference's row of clauses -/
def Wm (σ b : gs_Mem) (n : Nat) : Prop := (∀ c, c ≠ 75 → b c = σ c) ∧ ∀ j, (j < 4 * n ∨ 4 * n + 3 < j) → b 75 j = σ 75 j
theorem Wm.refl (σ : gs_Mem) (n : Nat) : Wm σ σ n := ⟨fun _ _ => rfl, fun _ _ => rfl⟩
theorem Wm.st {σ b : gs_Mem} {n : Nat} (h : Wm σ b n) {k : Nat} (hk : 4 * n ≤ k ∧ k ≤ 4 * n + 3) (x : Int) : Wm σ (gs_st b 75 k x) n :=
  ⟨fun c hc => by rw [gs_st_row _ _ _ _ hc]; exact h.1 c hc, fun j hj => by rw [gs_st_slot _ _ _ _ (by omega)]; exact h.2 j hj⟩
def SayM (b : gs_Mem) (n : Nat) (v : gs_V) : Prop := b 75 (4 * n) = v.1 ∧ b 75 (4 * n + 1) = v.2.1 ∧ b 75 (4 * n + 2) = v.2.2.1 ∧ b 75 (4 * n + 3) = v.2.2.2
theorem u0 (n : Nat) : (4 * (n : Int)).toNat = 4 * n := by omega
theorem u1 (n : Nat) : (4 * (n : Int) + 1).toNat = 4 * n + 1 := by omega
theorem u2 (n : Nat) : (4 * (n : Int) + 2).toNat = 4 * n + 2 := by omega
theorem u3 (n : Nat) : (4 * (n : Int) + 3).toNat = 4 * n + 3 := by omega
theorem m_clause (h : TxM σ T L) (hT : TxS T L) {P n : Nat} (hP : P ≤ L) (hn : n < 8) : ∃ b, f_X7_isClause (n : Int) (gs_st σ 70 6 (P : Int)) = some (if (clS T L P).1 then 1 else 0, gs_st b 70 6 ((clS T L P).2.2 : Nat)) ∧ Wm σ b n ∧ ((clS T L P).1 = true → SayM b n (clS T L P).2.1) := by
  have hL := hT.1
  have a1 := nmS_le (T := T) (hi := 31) hP
  have e0 : f_X7_isNumber (4 * (n : Int)) 31 (gs_st σ 70 6 (P : Int)) = _ := m_number h hT (by omega) (at_ := 4 * n) (by omega) (hi := 31) (by decide)
  unfold f_X7_isClause
  rw [e0, Option.bind_some, gn_ite1]
  dsimp only
  by_cases c1 : (nmS T L 31 P).1 = true
  · have h1 := TxM_75 h (4 * n) (nmS T L 31 P).2.1
    rw [if_pos c1, if_neg no10, if_pos c1, gs_st_same, m_byteAt (TxM_6 h1 _) hT (by omega), Option.bind_some]
    have r1 := byt_rng hT (nmS T L 31 P).2.2
    rw [gnS (x := byt T L (nmS T L 31 P).2.2) (by omega)]
    by_cases c2 : byt T L (nmS T L 31 P).2.2 = 44
    · have b0 : (nmS T L 31 P).2.2 + 1 ≤ L := byt_lt (by rw [c2]; decide)
      have b1 := nmS_le (T := T) (hi := 31) b0
      have e1 : f_X7_isNumber (4 * (n : Int) + 1) 31 (gs_st (gs_st σ 75 (4 * n) (nmS T L 31 P).2.1) 70 6 (((nmS T L 31 P).2.2 : Nat) + 1 : Int)) = _ := m_number h1 hT (P := (nmS T L 31 P).2.2 + 1) (by omega) (at_ := 4 * n + 1) (by omega) (hi := 31) (by decide)
      rw [if_pos c2, gs_st_st, e1, Option.bind_some, gn_ite1]
      dsimp only
      by_cases c3 : (nmS T L 31 ((nmS T L 31 P).2.2 + 1)).1 = true
      · have h2 := TxM_75 h1 (4 * n + 1) (nmS T L 31 ((nmS T L 31 P).2.2 + 1)).2.1
        have h3 := TxM_75 (TxM_75 h2 (4 * n + 2) (-1)) (4 * n + 3) 0
        have w3 := ((((Wm.refl σ n).st (k := 4 * n) (by omega) (nmS T L 31 P).2.1).st (k := 4 * n + 1) (by omega) (nmS T L 31 ((nmS T L 31 P).2.2 + 1)).2.1).st (k := 4 * n + 2) (by omega) (-1)).st (k := 4 * n + 3) (by omega) 0
        rw [if_pos c3, if_neg no10, if_pos c3, gnS (x := 4 * (n : Int) + 2) (by omega), gnS (x := 4 * (n : Int) + 3) (by omega), gs_chk_t (by omega) (by omega), gs_chk_t (by omega) (by omega), u2, u3, st_7570, st_7570, gs_st_same, m_byteAt (TxM_6 h3 _) hT (by omega), Option.bind_some]
        have r2 := byt_rng hT (nmS T L 31 ((nmS T L 31 P).2.2 + 1)).2.2
        rw [gnS (x := byt T L (nmS T L 31 ((nmS T L 31 P).2.2 + 1)).2.2) (by omega)]
        by_cases c4 : byt T L (nmS T L 31 ((nmS T L 31 P).2.2 + 1)).2.2 = 61
        · have d0 : (nmS T L 31 ((nmS T L 31 P).2.2 + 1)).2.2 + 1 ≤ L := byt_lt (by rw [c4]; decide)
          have d1 := nmS_le (T := T) (hi := 19) d0
          have e2 : f_X7_isNumber (4 * (n : Int) + 2) 19 (gs_st (gs_st (gs_st (gs_st (gs_st σ 75 (4 * n) (nmS T L 31 P).2.1) 75 (4 * n + 1) (nmS T L 31 ((nmS T L 31 P).2.2 + 1)).2.1) 75 (4 * n + 2) (-1)) 75 (4 * n + 3) 0) 70 6 (((nmS T L 31 ((nmS T L 31 P).2.2 + 1)).2.2 : Nat) + 1 : Int)) = _ := m_number h3 hT (P := (nmS T L 31 ((nmS T L 31 P).2.2 + 1)).2.2 + 1) (by omega) (at_ := 4 * n + 2) (by omega) (hi := 19) (by decide)
          rw [if_pos c4, gs_st_st, e2, Option.bind_some, gn_ite1]
          dsimp only
          by_cases c5 : (nmS T L 19 ((nmS T L 31 ((nmS T L 31 P).2.2 + 1)).2.2 + 1)).1 = true
          · have h5 := TxM_75 h3 (4 * n + 2) (nmS T L 19 ((nmS T L 31 ((nmS T L 31 P).2.2 + 1)).2.2 + 1)).2.1
            have w5 := w3.st (k := 4 * n + 2) (by omega) (nmS T L 19 ((nmS T L 31 ((nmS T L 31 P).2.2 + 1)).2.2 + 1)).2.1
            have r3 := byt_rng hT (nmS T L 19 ((nmS T L 31 ((nmS T L 31 P).2.2 + 1)).2.2 + 1)).2.2
            rw [if_pos c5, if_neg no10, if_pos c5, gs_st_same, m_byteAt (TxM_6 h5 _) hT (by omega), Option.bind_some, gnS (x := byt T L (nmS T L 19 ((nmS T L 31 ((nmS T L 31 P).2.2 + 1)).2.2 + 1)).2.2) (by omega)]
            by_cases c6 : byt T L (nmS T L 19 ((nmS T L 31 ((nmS T L 31 P).2.2 + 1)).2.2 + 1)).2.2 = 33
            · rw [if_pos c6, gs_chk_t (by omega) (by omega), gs_st_st, st_7570]
              have ec : clS T L P = (true, (((nmS T L 31 P).2.1, (nmS T L 31 ((nmS T L 31 P).2.2 + 1)).2.1, (nmS T L 19 ((nmS T L 31 ((nmS T L 31 P).2.2 + 1)).2.2 + 1)).2.1, 1), (nmS T L 19 ((nmS T L 31 ((nmS T L 31 P).2.2 + 1)).2.2 + 1)).2.2 + 1)) := by
                unfold clS
                rw [if_pos c1, if_pos c2, if_pos c3, if_pos c4, if_pos c5, if_pos c6]
              rw [ec]
              refine ⟨_, rfl, w5.st (k := 4 * n + 3) (by omega) 1, fun _ => ?_⟩
              unfold SayM
              simp [gs_st_at]
            · rw [if_neg c6]
              have ec : clS T L P = (true, (((nmS T L 31 P).2.1, (nmS T L 31 ((nmS T L 31 P).2.2 + 1)).2.1, (nmS T L 19 ((nmS T L 31 ((nmS T L 31 P).2.2 + 1)).2.2 + 1)).2.1, 0), (nmS T L 19 ((nmS T L 31 ((nmS T L 31 P).2.2 + 1)).2.2 + 1)).2.2)) := by
                unfold clS
                rw [if_pos c1, if_pos c2, if_pos c3, if_pos c4, if_pos c5, if_neg c6]
              rw [ec]
              refine ⟨_, rfl, w5, fun _ => ?_⟩
              unfold SayM
              simp [gs_st_at]
          · rw [if_neg c5, if_pos rfl, if_neg c5]
            have ec : clS T L P = (false, ((0, 0, 0, 0), (nmS T L 19 ((nmS T L 31 ((nmS T L 31 P).2.2 + 1)).2.2 + 1)).2.2)) := by
              unfold clS
              rw [if_pos c1, if_pos c2, if_pos c3, if_pos c4, if_neg c5]
            rw [ec]
            exact ⟨_, rfl, w3, fun q => by cases q⟩
        · rw [if_neg c4]
          have ec : clS T L P = (true, (((nmS T L 31 P).2.1, (nmS T L 31 ((nmS T L 31 P).2.2 + 1)).2.1, -1, 0), (nmS T L 31 ((nmS T L 31 P).2.2 + 1)).2.2)) := by
            unfold clS
            rw [if_pos c1, if_pos c2, if_pos c3, if_neg c4]
          rw [ec]
          refine ⟨_, rfl, w3, fun _ => ?_⟩
          unfold SayM
          simp [gs_st_at]
      · rw [if_neg c3, if_pos rfl, if_neg c3]
        have ec : clS T L P = (false, ((0, 0, 0, 0), (nmS T L 31 ((nmS T L 31 P).2.2 + 1)).2.2)) := by
          unfold clS
          rw [if_pos c1, if_pos c2, if_neg c3]
        rw [ec]
        exact ⟨_, rfl, (Wm.refl σ n).st (k := 4 * n) (by omega) _, fun q => by cases q⟩
    · rw [if_neg c2]
      have ec : clS T L P = (false, ((0, 0, 0, 0), (nmS T L 31 P).2.2)) := by
        unfold clS
        rw [if_pos c1, if_neg c2]
      rw [ec]
      exact ⟨_, rfl, (Wm.refl σ n).st (k := 4 * n) (by omega) _, fun q => by cases q⟩
  · rw [if_neg c1, if_pos rfl, if_neg c1]
    have ec : clS T L P = (false, ((0, 0, 0, 0), (nmS T L 31 P).2.2)) := by
      unfold clS
      rw [if_neg c1]
    rw [ec]
    exact ⟨_, rfl, Wm.refl σ n, fun q => by cases q⟩
/-- the clauses from place P on, when n are read and d more may come: the fault, or how many and what they say -/
def prS (T : Nat → Int) (L : Nat) : Nat → Nat → Nat → (Nat → gs_V) → Option Nat × (Nat × (Nat → gs_V))
  | 0, n, P, V => (some P, (n, V))
  | d + 1, n, P, V => if (clS T L P).1 then (if (clS T L P).2.2 < L then (if d = 0 then (some (clS T L P).2.2, (n, V)) else if byt T L (clS T L P).2.2 = 59 then prS T L d (n + 1) ((clS T L P).2.2 + 1) (up V n (clS T L P).2.1) else (some (clS T L P).2.2, (n, V))) else (none, (n + 1, up V n (clS T L P).2.1))) else (some (clS T L P).2.2, (n, V))
end
