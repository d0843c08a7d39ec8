/-! ===== the text's clauses, as such ===== -/
def byt (T : Nat → Int) (L P : Nat) : Int := if P < L then T P else -1
def dg (T : Nat → Int) (L P : Nat) : Int := if 48 ≤ byt T L P ∧ byt T L P ≤ 57 then byt T L P - 48 else -1
def nmS (T : Nat → Int) (L : Nat) (hi : Int) (P : Nat) : Bool × (Int × Nat) :=
  if dg T L P < 0 then (false, (0, P)) else if dg T L (P + 1) < 0 then (true, (dg T L P, P + 1)) else if dg T L P * 10 + dg T L (P + 1) ≤ hi then (true, (dg T L P * 10 + dg T L (P + 1), P + 2)) else (false, (0, P + 1))
abbrev gs_V : Type := Int × Int × Int × Int
def clS (T : Nat → Int) (L P : Nat) : Bool × (gs_V × Nat) :=
  if (nmS T L 31 P).1 then
    if byt T L (nmS T L 31 P).2.2 = 44 then
      if (nmS T L 31 ((nmS T L 31 P).2.2 + 1)).1 then
        if byt T L (nmS T L 31 ((nmS T L 31 P).2.2 + 1)).2.2 = 61 then
          if (nmS T L 19 ((nmS T L 31 ((nmS T L 31 P).2.2 + 1)).2.2 + 1)).1 then
            if byt T L (nmS T L 19 ((nmS T L 31 ((nmS T L 31 P).2.2 + 1)).2.2 + 1)).2.2 = 33 then (true, (((nmS T L 31 P).2.1, (nmS T L 31 ((nmS T L 31 P).2.2 + 1)).2.1, (nmS T L 19 ((nmS T L 31 ((nmS T L 31 P).2.2 + 1)).2.2 + 1)).2.1, 1), (nmS T L 19 ((nmS T L 31 ((nmS T L 31 P).2.2 + 1)).2.2 + 1)).2.2 + 1))
            else (true, (((nmS T L 31 P).2.1, (nmS T L 31 ((nmS T L 31 P).2.2 + 1)).2.1, (nmS T L 19 ((nmS T L 31 ((nmS T L 31 P).2.2 + 1)).2.2 + 1)).2.1, 0), (nmS T L 19 ((nmS T L 31 ((nmS T L 31 P).2.2 + 1)).2.2 + 1)).2.2))
          else (false, ((0, 0, 0, 0), (nmS T L 19 ((nmS T L 31 ((nmS T L 31 P).2.2 + 1)).2.2 + 1)).2.2))
        else (true, (((nmS T L 31 P).2.1, (nmS T L 31 ((nmS T L 31 P).2.2 + 1)).2.1, -1, 0), (nmS T L 31 ((nmS T L 31 P).2.2 + 1)).2.2))
      else (false, ((0, 0, 0, 0), (nmS T L 31 ((nmS T L 31 P).2.2 + 1)).2.2))
    else (false, ((0, 0, 0, 0), (nmS T L 31 P).2.2))
  else (false, ((0, 0, 0, 0), (nmS T L 31 P).2.2))
/-- a text: bytes -/
def TxS (T : Nat → Int) (L : Nat) : Prop := L ≤ 100 ∧ ∀ i, i < L → 0 ≤ T i ∧ T i ≤ 127
theorem byt_rng {T : Nat → Int} {L : Nat} (h : TxS T L) (P : Nat) : -1 ≤ byt T L P ∧ byt T L P ≤ 127 := by
  unfold byt
  split
  · next c => have := h.2 P c; omega
  · decide
theorem byt_lt {T : Nat → Int} {L P : Nat} (h : 0 ≤ byt T L P) : P < L := by
  unfold byt at h
  split at h
  · assumption
  · exact absurd h (by decide)
theorem dg_rng (T : Nat → Int) (L P : Nat) : -1 ≤ dg T L P ∧ dg T L P ≤ 9 := by
  unfold dg
  split <;> omega
theorem dg_lt {T : Nat → Int} {L P : Nat} (h : ¬ dg T L P < 0) : P < L := by
  unfold dg at h
  split at h
  · exact byt_lt (T := T) (by omega)
  · exact absurd h (by decide)
theorem nmS_le {T : Nat → Int} {L P : Nat} {hi : Int} (hP : P ≤ L) : (nmS T L hi P).2.2 ≤ L := by
  unfold nmS
  split
  · exact hP
  · next c =>
    have := dg_lt c
    split
    · show P + 1 ≤ L; omega
    · next d =>
      have := dg_lt d
      split
      · show P + 2 ≤ L; omega
      · show P + 1 ≤ L; omega
theorem nmS_rng {T : Nat → Int} {L P : Nat} {hi : Int} (h9 : 9 ≤ hi) : 0 ≤ (nmS T L hi P).2.1 ∧ (nmS T L hi P).2.1 ≤ hi := by
  have r1 := dg_rng T L P
  have r2 := dg_rng T L (P + 1)
  unfold nmS
  split
  · exact ⟨by show (0 : Int) ≤ 0; omega, by show (0 : Int) ≤ hi; omega⟩
  · split
    · exact ⟨by show 0 ≤ dg T L P; omega, by show dg T L P ≤ hi; omega⟩
    · split
      · next c => exact ⟨by show 0 ≤ dg T L P * 10 + dg T L (P + 1); omega, c⟩
      · exact ⟨by show (0 : Int) ≤ 0; omega, by show (0 : Int) ≤ hi; omega⟩
/-- what a clause says is as told -/
def VOk (v : gs_V) : Prop := (0 ≤ v.1 ∧ v.1 ≤ 31) ∧ (0 ≤ v.2.1 ∧ v.2.1 ≤ 31) ∧ (-1 ≤ v.2.2.1 ∧ v.2.2.1 ≤ 19) ∧ (v.2.2.2 = 0 ∨ v.2.2.2 = 1) ∧ (v.2.2.2 = 1 → 0 ≤ v.2.2.1)
theorem clS_ok {T : Nat → Int} {L P : Nat} (hP : P ≤ L) : (clS T L P).2.2 ≤ L ∧ ((clS T L P).1 = true → VOk (clS T L P).2.1) := by
  have a1 := nmS_le (T := T) (hi := 31) hP
  have a2 := nmS_rng (T := T) (L := L) (P := P) (hi := 31) (by decide)
  unfold clS
  generalize nmS T L 31 P = n1 at a1 a2 ⊢
  split
  · split
    · next c =>
      have b0 : n1.2.2 + 1 ≤ L := byt_lt (by rw [c]; decide)
      have b1 := nmS_le (T := T) (hi := 31) b0
      have b2 := nmS_rng (T := T) (L := L) (P := n1.2.2 + 1) (hi := 31) (by decide)
      generalize nmS T L 31 (n1.2.2 + 1) = n2 at b1 b2 ⊢
      split
      · split
        · next d =>
          have c0 : n2.2.2 + 1 ≤ L := byt_lt (by rw [d]; decide)
          have c1 := nmS_le (T := T) (hi := 19) c0
          have c2 := nmS_rng (T := T) (L := L) (P := n2.2.2 + 1) (hi := 19) (by decide)
          generalize nmS T L 19 (n2.2.2 + 1) = n3 at c1 c2 ⊢
          split
          · split
            · next e =>
              have d0 : n3.2.2 + 1 ≤ L := byt_lt (by rw [e]; decide)
              exact ⟨d0, fun _ => ⟨a2, b2, ⟨by show -1 ≤ n3.2.1; omega, c2.2⟩, Or.inr rfl, fun _ => c2.1⟩⟩
            · exact ⟨c1, fun _ => ⟨a2, b2, ⟨by show -1 ≤ n3.2.1; omega, c2.2⟩, Or.inl rfl, fun _ => c2.1⟩⟩
          · exact ⟨c1, fun q => by cases q⟩
        · exact ⟨b1, fun _ => ⟨a2, b2, (by decide : -1 ≤ (-1 : Int) ∧ (-1 : Int) ≤ 19), Or.inl rfl, fun q => absurd (show (0 : Int) = 1 from q) (by decide)⟩⟩
      · exact ⟨b1, fun q => by cases q⟩
    · exact ⟨a1, fun q => by cases q⟩
  · exact ⟨a1, fun q => by cases q⟩
/-! the plane's reader of a text -/
def S51 (σ : gs_Mem) (P F : Int) : gs_Mem := rw_ σ 51 (rs (rs (σ 51) 2 P) 3 F)
theorem S51_row (σ : gs_Mem) (P F : Int) {a : Nat} (h : a ≠ 51) : S51 σ P F a = σ a := rw_ne _ _ _ h
theorem S51_1 (σ : gs_Mem) (P F : Int) : S51 σ P F 51 1 = σ 51 1 := by
  unfold S51
  rw [rw_same, rs_ne _ _ _ (by decide), rs_ne _ _ _ (by decide)]
theorem S51_2 (σ : gs_Mem) (P F : Int) : S51 σ P F 51 2 = P := by
  unfold S51
  rw [rw_same, rs_ne _ _ _ (by decide), rs_same]
theorem S51_3 (σ : gs_Mem) (P F : Int) : S51 σ P F 51 3 = F := by
  unfold S51
  rw [rw_same, rs_same]
theorem S51_4 (σ : gs_Mem) (P F : Int) : S51 σ P F 51 4 = σ 51 4 := by
  unfold S51
  rw [rw_same, rs_ne _ _ _ (by decide), rs_ne _ _ _ (by decide)]
theorem S51_p (σ : gs_Mem) (P F P' : Int) : gs_st (S51 σ P F) 51 2 P' = S51 σ P' F := by
  rw [gs_st_rw]
  unfold S51
  rw [rw_same, rw_rw]
  refine congrArg (rw_ σ 51) (funext fun i => ?_)
  simp only [rs_at]
  by_cases c : i = 2
  · rw [if_pos c, if_neg (by omega), if_pos c]
  · rw [if_neg c, if_neg c, if_neg c]
theorem S51_f (σ : gs_Mem) (P F F' : Int) : gs_st (S51 σ P F) 51 3 F' = S51 σ P F' := by
  rw [gs_st_rw]
  unfold S51
  rw [rw_same, rw_rw]
  refine congrArg (rw_ σ 51) (funext fun i => ?_)
  simp only [rs_at]
  by_cases c : i = 3
  · rw [if_pos c, if_pos c]
  · rw [if_neg c, if_neg c, if_neg c]
theorem S51_o (σ : gs_Mem) (P F : Int) {r : Nat} (hr : r ≠ 51) (k : Nat) (x : Int) : gs_st (S51 σ P F) r k x = S51 (gs_st σ r k x) P F := by
  unfold S51
  rw [gs_st_row _ _ _ _ (Ne.symm hr)]
  funext a i
  rw [gs_st_at]
  unfold rw_
  by_cases c : a = 51
  · rw [if_pos c, if_pos c, if_neg (fun e => hr (e.1.symm.trans c))]
  · rw [if_neg c, if_neg c, gs_st_at]
/-- the text as the plane's side holds it -/
def TxI (σ : gs_Mem) (T : Nat → Int) (L : Nat) : Prop := σ 51 1 = (L : Int) ∧ ∀ i, i < L → σ 52 i = T i
theorem TxI_st {σ : gs_Mem} {T : Nat → Int} {L : Nat} (h : TxI σ T L) {r : Nat} (h1 : r ≠ 51) (h2 : r ≠ 52) (k : Nat) (x : Int) : TxI (gs_st σ r k x) T L := by
  unfold TxI
  rw [gs_st_row _ _ _ _ (Ne.symm h1), gs_st_row _ _ _ _ (Ne.symm h2)]
  exact h
section
variable {σ : gs_Mem} {T : Nat → Int} {L : Nat}
theorem i_digit (h : TxI σ T L) (hT : TxS T L) {P : Nat} (hP : P ≤ 200) (F : Int) : f_X4_digit (S51 σ (P : Int) F) = some (dg T L P) := by
  have hL := hT.1
  have hb := byt_rng hT P
  unfold f_X4_digit dg
  rw [S51_1, S51_2, S51_row _ _ _ (show (52 : Nat) ≠ 51 by decide), h.1, gnN (by omega), gnN (by omega)]
  by_cases c : P < L
  · have eb : byt T L P = T P := if_pos c
    rw [eb] at hb ⊢
    rw [if_neg (by omega), gs_chk_t (by omega) (by omega), gs_chk_t (by omega) (by omega), gs_chk_t (by omega) (by omega), t1, h.2 P c, gnS (x := T P) (by omega)]
    by_cases d : T P < 48
    · rw [if_pos d, if_neg (by omega)]
    · rw [if_neg d]
      by_cases e : T P ≤ 57
      · rw [if_pos e, if_pos (by omega)]
      · rw [if_neg e, if_neg (by omega)]
  · have eb : byt T L P = -1 := if_neg c
    rw [if_pos (by omega), eb, if_neg (by decide)]
theorem i_isNext (h : TxI σ T L) (hT : TxS T L) {P : Nat} (hP : P ≤ 200) (F : Int) {c : Int} (hc : 0 ≤ c ∧ c ≤ 127) : f_X4_isNext c (S51 σ (P : Int) F) = some (if byt T L P = c then 1 else 0) := by
  have hL := hT.1
  have hb := byt_rng hT P
  unfold f_X4_isNext
  rw [S51_1, S51_2, S51_row _ _ _ (show (52 : Nat) ≠ 51 by decide), h.1, gnN (by omega), gnN (by omega)]
  by_cases d : P < L
  · have eb : byt T L P = T P := if_pos d
    rw [eb] at hb ⊢
    rw [if_neg (by omega), gs_chk_t (by omega) (by omega), t1, h.2 P d, gnS (x := T P) (by omega), gnS (x := c) (by omega)]
    by_cases e : T P = c
    · rw [if_pos e, if_pos e]
    · rw [if_neg e, if_neg e]
  · have eb : byt T L P = -1 := if_neg d
    rw [if_pos (by omega), eb, if_neg (by omega)]
theorem i_expect (h : TxI σ T L) (hT : TxS T L) {P : Nat} (hP : P ≤ 200) {c : Int} (hc : 0 ≤ c ∧ c ≤ 127) : f_X4_expect c (S51 σ (P : Int) (-1)) = some (0, if byt T L P = c then S51 σ ((P + 1 : Nat) : Int) (-1) else S51 σ (P : Int) (P : Int)) := by
  unfold f_X4_expect
  rw [i_isNext h hT hP _ hc, Option.bind_some, S51_3, S51_2, if_pos (by decide +kernel), gn_iteP]
  by_cases e : byt T L P = c
  · rw [if_pos e, if_neg no10, if_pos e, S51_p]; rfl
  · rw [if_neg e, if_pos rfl, if_neg e, S51_f]
theorem i_expect_f {P : Int} {F : Nat} (hF : F ≤ 200) (c : Int) : f_X4_expect c (S51 σ P (F : Int)) = some (0, S51 σ P (F : Int)) := by
  unfold f_X4_expect
  rw [S51_3, gnN (by omega), if_neg (by omega)]
theorem i_number (h : TxI σ T L) (hT : TxS T L) {P : Nat} (hP : P ≤ 199) {hi : Int} (hh : 0 ≤ hi ∧ hi ≤ 99) : f_X4_readNumber hi (S51 σ (P : Int) (-1)) = some ((nmS T L hi P).2.1, S51 σ ((nmS T L hi P).2.2 : Nat) (if (nmS T L hi P).1 then -1 else ((nmS T L hi P).2.2 : Nat))) := by
  have r1 := dg_rng T L P
  have r2 := dg_rng T L (P + 1)
  have e2 : f_X4_digit (S51 σ ((P : Int) + 1) (-1)) = some (dg T L (P + 1)) := i_digit h hT (P := P + 1) (by omega) (-1)
  unfold f_X4_readNumber nmS
  rw [i_digit h hT (by omega), Option.bind_some, S51_3, S51_2, S51_p, S51_2, S51_p, S51_f, S51_f, e2, Option.bind_some, if_pos (by decide +kernel), gnS (x := dg T L P) (by omega), gnS (x := dg T L (P + 1)) (by omega), gnS (x := dg T L P * 10 + dg T L (P + 1)) (by omega), gnS (x := hi) (by omega)]
  by_cases c1 : dg T L P < 0
  · rw [if_neg (by omega), if_pos c1]; rfl
  · rw [if_pos (by omega), if_neg c1]
    by_cases c2 : dg T L (P + 1) < 0
    · rw [if_neg (by omega), if_pos c2]; rfl
    · rw [if_pos (by omega), if_neg c2]
      by_cases c3 : dg T L P * 10 + dg T L (P + 1) ≤ hi
      · rw [if_pos c3, if_pos c3]
        show some (_, S51 σ ((P : Int) + 1 + 1) (-1)) = some (_, S51 σ ((P + 2 : Nat) : Int) (-1))
        rw [show ((P : Int) + 1 + 1) = ((P + 2 : Nat) : Int) by omega]
      · rw [if_neg c3, if_neg c3]; rfl
theorem i_number_f {P : Int} {F : Nat} (hF : F ≤ 200) (hi : Int) : f_X4_readNumber hi (S51 σ P (F : Int)) = some (0, S51 σ P (F : Int)) := by
  unfold f_X4_readNumber
  rw [S51_3, gnN (by omega), if_neg (by omega)]
end
