/-! ===== one clause, on both sides ===== -/
/-- only slot k of the four rows that hold clauses -/
def Wr (σ b : gs_Mem) (k : Nat) : Prop := (∀ c, c ≠ 53 → c ≠ 54 → c ≠ 55 → c ≠ 56 → b c = σ c) ∧ ∀ j, j ≠ k → ∀ c, b c j = σ c j
theorem Wr.refl (σ : gs_Mem) (k : Nat) : Wr σ σ k := ⟨fun _ _ _ _ _ => rfl, fun _ _ _ => rfl⟩
theorem Wr.st {σ b : gs_Mem} {k : Nat} (h : Wr σ b k) {r : Nat} (hr : r = 53 ∨ r = 54 ∨ r = 55 ∨ r = 56) (x : Int) : Wr σ (gs_st b r k x) k :=
  ⟨fun c h1 h2 h3 h4 => by rw [gs_st_row _ _ _ _ (by omega)]; exact h.1 c h1 h2 h3 h4, fun j hj c => by rw [gs_st_slot _ _ _ _ hj]; exact h.2 j hj c⟩
def Say (b : gs_Mem) (k : Nat) (v : gs_V) : Prop := b 53 k = v.1 ∧ b 54 k = v.2.1 ∧ b 55 k = v.2.2.1 ∧ b 56 k = v.2.2.2
section
variable {σ : gs_Mem} {T : Nat → Int} {L : Nat}
theorem i_clause (h : TxI σ T L) (hT : TxS T L) {P k : Nat} (hP : P ≤ L) (hk : k < 8) : ∃ b, f_X4_readClause (k : Int) (S51 σ (P : Int) (-1)) = some (0, S51 b ((clS T L P).2.2 : Nat) (if (clS T L P).1 then -1 else ((clS T L P).2.2 : Nat))) ∧ Wr σ b k ∧ ((clS T L P).1 = true → Say b k (clS T L P).2.1) := by
  have hL := hT.1
  have a1 := nmS_le (T := T) (hi := 31) hP
  have a2 := nmS_rng (T := T) (L := L) (P := P) (hi := 31) (by decide)
  have gm : gn (-1) = -1 := by decide +kernel
  unfold f_X4_readClause
  rw [i_number h hT (by omega) (by decide), Option.bind_some, gnN (k := k) (by omega), gs_chk_t (by omega) (by omega), t1]
  dsimp only
  rw [S51_o _ _ _ (by decide)]
  have h1 := TxI_st h (r := 53) (by decide) (by decide) k (nmS T L 31 P).2.1
  by_cases c1 : (nmS T L 31 P).1 = true
  · rw [if_pos c1, i_expect h1 hT (by omega) (by decide), Option.bind_some]
    dsimp only
    by_cases c2 : byt T L (nmS T L 31 P).2.2 = 44
    · have b0 : (nmS T L 31 P).2.2 + 1 ≤ L := byt_lt (by rw [c2]; decide)
      have b1 := nmS_le (T := T) (hi := 31) b0
      have b2 := nmS_rng (T := T) (L := L) (P := (nmS T L 31 P).2.2 + 1) (hi := 31) (by decide)
      rw [if_pos c2, i_number h1 hT (by omega) (by decide), Option.bind_some]
      dsimp only
      rw [S51_o _ _ _ (by decide), S51_o _ _ _ (by decide), S51_o _ _ _ (by decide), S51_3, gs_chk_t (by omega) (by omega), gs_chk_t (by omega) (by omega), gs_chk_t (by omega) (by omega)]
      have h4 := TxI_st (TxI_st (TxI_st h1 (r := 54) (by decide) (by decide) k (nmS T L 31 ((nmS T L 31 P).2.2 + 1)).2.1) (r := 55) (by decide) (by decide) k (-1)) (r := 56) (by decide) (by decide) k 0
      have w4 := (((((Wr.refl σ k).st (Or.inl rfl) (nmS T L 31 P).2.1).st (Or.inr (Or.inl rfl)) (nmS T L 31 ((nmS T L 31 P).2.2 + 1)).2.1).st (Or.inr (Or.inr (Or.inl rfl))) (-1)).st (Or.inr (Or.inr (Or.inr rfl))) 0)
      by_cases c3 : (nmS T L 31 ((nmS T L 31 P).2.2 + 1)).1 = true
      · rw [if_pos c3, gm, if_neg (by decide), i_isNext h4 hT (by omega) _ (by decide), Option.bind_some, gn_iteP]
        by_cases c4 : byt T L (nmS T L 31 ((nmS T L 31 P).2.2 + 1)).2.2 = 61
        · have d0 : (nmS T L 31 ((nmS T L 31 P).2.2 + 1)).2.2 + 1 ≤ L := byt_lt (by rw [c4]; decide)
          have d1 := nmS_le (T := T) (hi := 19) d0
          rw [if_pos c4, if_neg no10, i_expect h4 hT (by omega) (by decide), Option.bind_some, if_pos c4]
          dsimp only
          rw [i_number h4 hT (by omega) (by decide), Option.bind_some, gs_chk_t (by omega) (by omega)]
          dsimp only
          rw [S51_o _ _ _ (by decide), S51_3]
          have h5 := TxI_st h4 (r := 55) (by decide) (by decide) k (nmS T L 19 ((nmS T L 31 ((nmS T L 31 P).2.2 + 1)).2.2 + 1)).2.1
          have w5 := w4.st (Or.inr (Or.inr (Or.inl rfl))) (nmS T L 19 ((nmS T L 31 ((nmS T L 31 P).2.2 + 1)).2.2 + 1)).2.1
          by_cases c5 : (nmS T L 19 ((nmS T L 31 ((nmS T L 31 P).2.2 + 1)).2.2 + 1)).1 = true
          · rw [if_pos c5, gm, if_neg (by decide), i_isNext h5 hT (by omega) _ (by decide), Option.bind_some, gn_iteP]
            by_cases c6 : byt T L (nmS T L 19 ((nmS T L 31 ((nmS T L 31 P).2.2 + 1)).2.2 + 1)).2.2 = 33
            · rw [if_pos c6, if_neg no10, i_expect h5 hT (by omega) (by decide), Option.bind_some, if_pos c6, gs_chk_t (by omega) (by omega)]
              dsimp only
              rw [S51_o _ _ _ (by decide)]
              have ec : clS T L P = (true, (((nmS T L 31 P).2.1, (nmS T L 31 ((nmS T L 31 P).2.2 + 1)).2.1, (nmS T L 19 ((nmS T L 31 ((nmS T L 31 P).2.2 + 1)).2.2 + 1)).2.1, 1), (nmS T L 19 ((nmS T L 31 ((nmS T L 31 P).2.2 + 1)).2.2 + 1)).2.2 + 1)) := by
                unfold clS
                rw [if_pos c1, if_pos c2, if_pos c3, if_pos c4, if_pos c5, if_pos c6]
              rw [ec]
              refine ⟨_, rfl, w5.st (Or.inr (Or.inr (Or.inr rfl))) 1, fun _ => ?_⟩
              unfold Say
              simp [gs_st_at]
            · rw [if_neg c6, if_pos rfl]
              have ec : clS T L P = (true, (((nmS T L 31 P).2.1, (nmS T L 31 ((nmS T L 31 P).2.2 + 1)).2.1, (nmS T L 19 ((nmS T L 31 ((nmS T L 31 P).2.2 + 1)).2.2 + 1)).2.1, 0), (nmS T L 19 ((nmS T L 31 ((nmS T L 31 P).2.2 + 1)).2.2 + 1)).2.2)) := by
                unfold clS
                rw [if_pos c1, if_pos c2, if_pos c3, if_pos c4, if_pos c5, if_neg c6]
              rw [ec]
              refine ⟨_, rfl, w5, fun _ => ?_⟩
              unfold Say
              simp [gs_st_at]
          · rw [if_neg c5, gnN (by omega), if_pos (by omega)]
            have ec : clS T L P = (false, ((0, 0, 0, 0), (nmS T L 19 ((nmS T L 31 ((nmS T L 31 P).2.2 + 1)).2.2 + 1)).2.2)) := by
              unfold clS
              rw [if_pos c1, if_pos c2, if_pos c3, if_pos c4, if_neg c5]
            rw [ec]
            exact ⟨_, rfl, w5, fun q => by cases q⟩
        · rw [if_neg c4, if_pos rfl]
          have ec : clS T L P = (true, (((nmS T L 31 P).2.1, (nmS T L 31 ((nmS T L 31 P).2.2 + 1)).2.1, -1, 0), (nmS T L 31 ((nmS T L 31 P).2.2 + 1)).2.2)) := by
            unfold clS
            rw [if_pos c1, if_pos c2, if_pos c3, if_neg c4]
          rw [ec]
          refine ⟨_, rfl, w4, fun _ => ?_⟩
          unfold Say
          simp [gs_st_at]
      · rw [if_neg c3, gnN (by omega), if_pos (by omega)]
        have ec : clS T L P = (false, ((0, 0, 0, 0), (nmS T L 31 ((nmS T L 31 P).2.2 + 1)).2.2)) := by
          unfold clS
          rw [if_pos c1, if_pos c2, if_neg c3]
        rw [ec]
        exact ⟨_, rfl, w4, fun q => by cases q⟩
    · rw [if_neg c2, i_number_f (by omega), Option.bind_some]
      dsimp only
      rw [S51_o _ _ _ (by decide), S51_o _ _ _ (by decide), S51_o _ _ _ (by decide), S51_3, gs_chk_t (by omega) (by omega), gs_chk_t (by omega) (by omega), gs_chk_t (by omega) (by omega), gnN (by omega), if_pos (by omega)]
      have ec : clS T L P = (false, ((0, 0, 0, 0), (nmS T L 31 P).2.2)) := by
        unfold clS
        rw [if_pos c1, if_neg c2]
      rw [ec]
      exact ⟨_, rfl, (((((Wr.refl σ k).st (Or.inl rfl) _).st (Or.inr (Or.inl rfl)) _).st (Or.inr (Or.inr (Or.inl rfl))) _).st (Or.inr (Or.inr (Or.inr rfl))) _), fun q => by cases q⟩
  · rw [if_neg c1, i_expect_f (by omega), Option.bind_some]
    dsimp only
    rw [i_number_f (by omega), Option.bind_some]
    dsimp only
    rw [S51_o _ _ _ (by decide), S51_o _ _ _ (by decide), S51_o _ _ _ (by decide), S51_3, gs_chk_t (by omega) (by omega), gs_chk_t (by omega) (by omega), gs_chk_t (by omega) (by omega), gnN (by omega), if_pos (by omega)]
    have ec : clS T L P = (false, ((0, 0, 0, 0), (nmS T L 31 P).2.2)) := by
      unfold clS
      rw [if_neg c1]
    rw [ec]
    exact ⟨_, rfl, (((((Wr.refl σ k).st (Or.inl rfl) _).st (Or.inr (Or.inl rfl)) _).st (Or.inr (Or.inr (Or.inl rfl))) _).st (Or.inr (Or.inr (Or.inr rfl))) _), fun q => by cases q⟩
/-- behind a fault a clause reads nothing -/
theorem i_clause_f {P : Int} {F k : Nat} (hF : F ≤ 200) (hk : k < 8) : ∃ b, f_X4_readClause (k : Int) (S51 σ P (F : Int)) = some (0, S51 b P (F : Int)) ∧ Wr σ b k := by
  unfold f_X4_readClause
  rw [i_number_f hF, Option.bind_some, gnN (k := k) (by omega), gs_chk_t (by omega) (by omega), t1]
  dsimp only
  rw [S51_o _ _ _ (by decide), i_expect_f hF, Option.bind_some]
  dsimp only
  rw [i_number_f hF, Option.bind_some]
  dsimp only
  rw [S51_o _ _ _ (by decide), S51_o _ _ _ (by decide), S51_o _ _ _ (by decide), S51_3, gs_chk_t (by omega) (by omega), gs_chk_t (by omega) (by omega), gs_chk_t (by omega) (by omega), gnN (k := F) (by omega), if_pos (by omega)]
  exact ⟨_, rfl, (((((Wr.refl σ k).st (Or.inl rfl) _).st (Or.inr (Or.inl rfl)) _).st (Or.inr (Or.inr (Or.inl rfl))) _).st (Or.inr (Or.inr (Or.inr rfl))) _)⟩
/-! the reference -/
def TxM (σ : gs_Mem) (T : Nat → Int) (L : Nat) : Prop := σ 70 5 = (L : Int) ∧ ∀ i, i < L → σ 74 i = T i
theorem TxM_6 (h : TxM σ T L) (x : Int) : TxM (gs_st σ 70 6 x) T L := by
  unfold TxM
  rw [gs_st_slot _ _ _ _ (by decide), gs_st_row _ _ _ _ (show (74 : Nat) ≠ 70 by decide)]
  exact h
theorem TxM_75 (h : TxM σ T L) (k : Nat) (x : Int) : TxM (gs_st σ 75 k x) T L := by
  unfold TxM
  rw [gs_st_row _ _ _ _ (show (70 : Nat) ≠ 75 by decide), gs_st_row _ _ _ _ (show (74 : Nat) ≠ 75 by decide)]
  exact h
theorem st_7570 (σ : gs_Mem) (P x : Int) (k : Nat) : gs_st (gs_st σ 70 6 P) 75 k x = gs_st (gs_st σ 75 k x) 70 6 P := by
  funext a i
  simp only [gs_st_at]
  by_cases c : a = 75
  · by_cases d : i = k
    · rw [if_pos ⟨c, d⟩, if_neg (by omega), if_pos ⟨c, d⟩]
    · rw [if_neg (fun e => d e.2), if_neg (by omega), if_neg (by omega), if_neg (fun e => d e.2)]
  · have z : ¬ (a = 75 ∧ i = k) := fun e => c e.1
    rw [if_neg z, if_neg z]
theorem m_byteAt (h : TxM σ T L) (hT : TxS T L) {P : Nat} (hP : P ≤ 200) : f_X7_byteAt (P : Int) σ = some (byt T L P) := by
  have hL := hT.1
  unfold f_X7_byteAt byt
  rw [h.1, gnN (by omega), gnN (by omega)]
  by_cases c : P < L
  · rw [if_neg (by omega), gs_chk_t (by omega) (by omega), t1, h.2 P c, if_pos c]
  · rw [if_pos (by omega), if_neg c]
theorem in_s {v : Int} (hv : -1 ≤ v ∧ v ≤ 127) (lo hi : Int) (hl : 0 ≤ lo ∧ lo ≤ 127) (hh : 0 ≤ hi ∧ hi ≤ 127) (τ : gs_Mem) : f_X7_in (gn v) lo hi τ = some (if lo ≤ v ∧ v ≤ hi then 1 else 0) := in_v (gnS (by omega)) (by omega) (by omega) τ
theorem m_number (h : TxM σ T L) (hT : TxS T L) {P : Nat} (hP : P ≤ 199) {at_ : Nat} (ha : at_ < 32) {hi : Int} (hh : 0 ≤ hi ∧ hi ≤ 99) : f_X7_isNumber (at_ : Int) hi (gs_st σ 70 6 (P : Int)) = some (if (nmS T L hi P).1 then 1 else 0, gs_st (if (nmS T L hi P).1 then gs_st σ 75 at_ (nmS T L hi P).2.1 else σ) 70 6 ((nmS T L hi P).2.2 : Nat)) := by
  have r1 := byt_rng hT P
  have r2 := byt_rng hT (P + 1)
  have h1 := TxM_6 h (P : Int)
  have h2 := TxM_6 h ((P : Int) + 1)
  have e2 : f_X7_byteAt ((P : Int) + 1) (gs_st σ 70 6 ((P : Int) + 1)) = some (byt T L (P + 1)) := m_byteAt h2 hT (P := P + 1) (by omega)
  unfold f_X7_isNumber
  rw [gs_st_same, m_byteAt h1 hT (by omega), Option.bind_some, in_s r1 48 57 (by decide) (by decide), Option.bind_some, gn_iteP, gs_st_st, gs_st_same, e2, Option.bind_some, in_s r2 48 57 (by decide) (by decide), Option.bind_some, gn_iteP, gs_st_st]
  unfold f_X7_isNumber_J97
  rw [gnN (by omega), gs_chk_t (by omega) (by omega), gs_chk_t (by omega) (by omega), t1, st_7570, st_7570]
  have d1 : dg T L P = if 48 ≤ byt T L P ∧ byt T L P ≤ 57 then byt T L P - 48 else -1 := rfl
  have d2 : dg T L (P + 1) = if 48 ≤ byt T L (P + 1) ∧ byt T L (P + 1) ≤ 57 then byt T L (P + 1) - 48 else -1 := rfl
  unfold nmS
  by_cases c1 : 48 ≤ byt T L P ∧ byt T L P ≤ 57
  · rw [if_pos c1] at d1
    rw [if_pos c1, if_neg no10, if_neg (show ¬ dg T L P < 0 by omega)]
    by_cases c2 : 48 ≤ byt T L (P + 1) ∧ byt T L (P + 1) ≤ 57
    · rw [if_pos c2] at d2
      rw [if_pos c2, if_neg no10, if_neg (show ¬ dg T L (P + 1) < 0 by omega), gnS (x := 10 * (byt T L P - 48) + byt T L (P + 1) - 48) (by omega), gnS (x := hi) (by omega)]
      by_cases c3 : dg T L P * 10 + dg T L (P + 1) ≤ hi
      · rw [if_pos (by omega), if_pos c3]
        have ev : 10 * (byt T L P - 48) + byt T L (P + 1) - 48 = dg T L P * 10 + dg T L (P + 1) := by omega
        rw [ev, show ((P : Int) + 1 + 1) = ((P + 2 : Nat) : Int) by omega]; rfl
      · rw [if_neg (by omega), if_neg c3]; rfl
    · rw [if_neg c2] at d2
      rw [if_neg c2, if_pos rfl, if_pos (show dg T L (P + 1) < 0 by omega), d1]; rfl
  · rw [if_neg c1] at d1
    rw [if_neg c1, if_pos rfl, if_pos (show dg T L P < 0 by omega)]; rfl
end
