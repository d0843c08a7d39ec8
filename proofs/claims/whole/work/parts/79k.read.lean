/-! ===== reading, altogether ===== -/
def flt (o : Option Nat) : Int := match o with
  | none => -1
  | some F => (F : Int)
theorem prS_s (T : Nat → Int) (L d n P : Nat) (V : Nat → gs_V) : prS T L (d + 1) n P V = if (clS T L P).1 then (if (clS T L P).2.2 < L then (if d = 0 then (some (clS T L P).2.2, (n, V)) else if byt T L (clS T L P).2.2 = 59 then prS T L d (n + 1) ((clS T L P).2.2 + 1) (up V n (clS T L P).2.1) else (some (clS T L P).2.2, (n, V))) else (none, (n + 1, up V n (clS T L P).2.1))) else (some (clS T L P).2.2, (n, V)) := rfl
theorem prS_ok {T : Nat → Int} {L : Nat} : ∀ (d n P : Nat) (V : Nat → gs_V), P ≤ L → (∀ j, j < n → VOk (V j)) → (∀ F, (prS T L d n P V).1 = some F → F ≤ L) ∧ ((prS T L d n P V).1 = none → (prS T L d n P V).2.1 ≤ n + d ∧ ∀ j, j < (prS T L d n P V).2.1 → VOk ((prS T L d n P V).2.2 j))
  | 0, n, P, V, hP, _ => ⟨fun F h => by cases h; exact hP, fun h => by cases h⟩
  | d + 1, n, P, V, hP, hV => by
    have c := clS_ok (T := T) hP
    rw [prS_s]
    have hV' : (clS T L P).1 = true → ∀ j, j < n + 1 → VOk (up V n (clS T L P).2.1 j) := fun ok j hj => by
      unfold up
      by_cases e : j = n
      · rw [if_pos e]; exact c.2 ok
      · rw [if_neg e]; exact hV j (by omega)
    by_cases c1 : (clS T L P).1 = true
    · rw [if_pos c1]
      by_cases c2 : (clS T L P).2.2 < L
      · rw [if_pos c2]
        by_cases c3 : d = 0
        · rw [if_pos c3]
          exact ⟨fun F h => by cases h; exact c.1, fun h => by cases h⟩
        · rw [if_neg c3]
          by_cases c4 : byt T L (clS T L P).2.2 = 59
          · rw [if_pos c4]
            have ih := prS_ok (T := T) (L := L) d (n + 1) ((clS T L P).2.2 + 1) (up V n (clS T L P).2.1) (by omega) (hV' c1)
            exact ⟨ih.1, fun h => ⟨by have := (ih.2 h).1; omega, (ih.2 h).2⟩⟩
          · rw [if_neg c4]
            exact ⟨fun F h => by cases h; exact c.1, fun h => by cases h⟩
      · rw [if_neg c2]
        exact ⟨fun F h => (by cases h), fun _ => ⟨by show n + 1 ≤ n + (d + 1); omega, hV' c1⟩⟩
    · rw [if_neg c1]
      exact ⟨fun F h => by cases h; exact c.1, fun h => by cases h⟩
theorem S51_4st (σ : gs_Mem) (P F x : Int) : gs_st (S51 σ P F) 51 4 x = S51 (gs_st σ 51 4 x) P F := by
  rw [gs_st_rw, gs_st_rw]
  unfold S51
  rw [rw_same, rw_rw, rw_same, rw_rw]
  refine congrArg (rw_ σ 51) (funext fun i => ?_)
  simp only [rs_at]
  by_cases c : i = 4
  · rw [if_pos c, if_neg (by omega), if_neg (by omega), if_pos c]
  · rw [if_neg c, if_neg c]
theorem J33_e {k17 : Int → gs_Mem → Option (Int × gs_Mem)} {k45 k79 : gs_Mem → Option (Int × gs_Mem)} {n : Int} {σ b1 : gs_Mem} {P F : Int} (e1 : f_X4_readClause n σ = some (0, S51 b1 P F)) : f_X4_parse_J33 k17 k45 k79 n σ = if gn F < 0 then (if gn P < gn (b1 51 1) then k17 (n + 1) (S51 (gs_st b1 51 4 (b1 51 4 + 1)) P F) else some (-1, S51 (gs_st b1 51 4 (b1 51 4 + 1)) P F)) else k45 (S51 b1 P F) := by
  have e4 : gs_st b1 51 4 (b1 51 4 + 1) 51 1 = b1 51 1 := gs_st_slot _ _ _ _ (by decide)
  unfold f_X4_parse_J33
  rw [e1, Option.bind_some]
  simp only [S51_3, S51_4, S51_4st, S51_2, S51_1, e4]
section
variable {T : Nat → Int} {L : Nat}
theorem TxI_wr {σ b : gs_Mem} {k : Nat} (h : TxI σ T L) (w : Wr σ b k) : TxI b T L := by
  unfold TxI
  rw [w.1 51 (by decide) (by decide) (by decide) (by decide), w.1 52 (by decide) (by decide) (by decide) (by decide)]
  exact h
theorem i_parse (hT : TxS T L) : ∀ (d m n P : Nat) (b : gs_Mem) (V : Nat → gs_V), n + (d + 1) = 8 → d < m → P ≤ L → TxI b T L → b 51 4 = (n : Int) → (∀ j, j < n → Say b j (V j)) →
    ∃ b', f_X4_parse_J33 (f_X4_parse_L17 (fun σ3 => some ((σ3 51 3), σ3)) (fun σ4 => some ((σ4 51 2), σ4)) m) (fun σ3 => some ((σ3 51 3), σ3)) (fun σ4 => some ((σ4 51 2), σ4)) (n : Int) (S51 b (P : Int) (-1)) = some (flt (prS T L (d + 1) n P V).1, b') ∧ (∀ c, c ≠ 51 → c ≠ 53 → c ≠ 54 → c ≠ 55 → c ≠ 56 → b' c = b c) ∧ ((prS T L (d + 1) n P V).1 = none → b' 51 4 = ((prS T L (d + 1) n P V).2.1 : Nat) ∧ ∀ j, j < (prS T L (d + 1) n P V).2.1 → Say b' j ((prS T L (d + 1) n P V).2.2 j)) := by
  intro d
  induction d with
  | zero =>
    intro m n P b V hn hm hP hb h4 hV
    have hL := hT.1
    obtain ⟨b1, e1, e2, e3⟩ := i_clause hb hT hP (k := n) (by omega)
    have cl := clS_ok (T := T) hP
    rw [J33_e e1, prS_s, e2.1 51 (by decide) (by decide) (by decide) (by decide), h4, hb.1]
    have e51 : gs_st b1 51 4 ((n : Int) + 1) 51 1 = (L : Int) := by
      rw [gs_st_slot _ _ _ _ (by decide), e2.1 51 (by decide) (by decide) (by decide) (by decide)]; exact hb.1
    have fr : ∀ P' F' : Int, ∀ c, c ≠ 51 → c ≠ 53 → c ≠ 54 → c ≠ 55 → c ≠ 56 → S51 (gs_st b1 51 4 ((n : Int) + 1)) P' F' c = b c := fun P' F' c h1 h2 h3 h4 h5 => by
      rw [S51_row _ _ _ h1, gs_st_row _ _ _ _ h1, e2.1 c h2 h3 h4 h5]
    by_cases c1 : (clS T L P).1 = true
    · rw [if_pos c1, if_pos (show gn (-1) < 0 by decide +kernel), gnN (by omega), gnN (by omega), if_pos c1]
      by_cases c2 : (clS T L P).2.2 < L
      · rw [if_pos (by omega), if_pos c2, if_pos rfl]
        refine ⟨_, ?_, fr ((clS T L P).2.2 : Nat) (-1), fun h => by cases h⟩
        cases m with
        | zero => exact absurd hm (by omega)
        | succ m =>
          rw [f_X4_parse_L17, gnS (x := (n : Int) + 1) (by omega), if_pos (by omega)]
          dsimp only
          rw [S51_2]
          rfl
      · rw [if_neg (by omega), if_neg c2]
        refine ⟨_, rfl, fr ((clS T L P).2.2 : Nat) (-1), fun _ => ⟨?_, fun j hj => ?_⟩⟩
        · rw [S51_4, gs_st_same]; rfl
        · have hj : j < n + 1 := hj
          unfold Say
          rw [S51_row _ _ _ (by decide), S51_row _ _ _ (by decide), S51_row _ _ _ (by decide), S51_row _ _ _ (by decide), gs_st_row _ _ _ _ (by decide), gs_st_row _ _ _ _ (by decide), gs_st_row _ _ _ _ (by decide), gs_st_row _ _ _ _ (by decide)]
          show Say b1 j (up V n (clS T L P).2.1 j)
          unfold up
          by_cases e : j = n
          · rw [if_pos e, e]; exact e3 c1
          · rw [if_neg e]
            have := hV j (by omega)
            unfold Say at this ⊢
            rw [e2.2 j e, e2.2 j e, e2.2 j e, e2.2 j e]; exact this
    · rw [if_neg c1, gnN (k := (clS T L P).2.2) (by omega), if_neg (by omega), if_neg c1]
      refine ⟨S51 b1 ((clS T L P).2.2 : Nat) ((clS T L P).2.2 : Nat), ?_, fun c h1 h2 h3 h4 h5 => by rw [S51_row _ _ _ h1, e2.1 c h2 h3 h4 h5], fun h => by cases h⟩
      rw [S51_3]; rfl
  | succ d ih =>
    intro m n P b V hn hm hP hb h4 hV
    have hL := hT.1
    obtain ⟨b1, e1, e2, e3⟩ := i_clause hb hT hP (k := n) (by omega)
    have cl := clS_ok (T := T) hP
    have hb1 := TxI_wr hb e2
    rw [J33_e e1, prS_s, e2.1 51 (by decide) (by decide) (by decide) (by decide), h4, hb.1]
    have e51 : gs_st b1 51 4 ((n : Int) + 1) 51 1 = (L : Int) := by
      rw [gs_st_slot _ _ _ _ (by decide), e2.1 51 (by decide) (by decide) (by decide) (by decide)]; exact hb.1
    have hb2 : TxI (gs_st b1 51 4 ((n : Int) + 1)) T L := ⟨e51, fun i hi => by rw [gs_st_row _ _ _ _ (show (52 : Nat) ≠ 51 by decide)]; exact hb1.2 i hi⟩
    have fr0 : ∀ c, c ≠ 51 → c ≠ 53 → c ≠ 54 → c ≠ 55 → c ≠ 56 → gs_st b1 51 4 ((n : Int) + 1) c = b c := fun c h1 h2 h3 h4 h5 => by
      rw [gs_st_row _ _ _ _ h1, e2.1 c h2 h3 h4 h5]
    have fr : ∀ P' F' : Int, ∀ c, c ≠ 51 → c ≠ 53 → c ≠ 54 → c ≠ 55 → c ≠ 56 → S51 (gs_st b1 51 4 ((n : Int) + 1)) P' F' c = b c := fun P' F' c h1 h2 h3 h4 h5 => by
      rw [S51_row _ _ _ h1]; exact fr0 c h1 h2 h3 h4 h5
    have say : (clS T L P).1 = true → ∀ j, j < n + 1 → Say (gs_st b1 51 4 ((n : Int) + 1)) j (up V n (clS T L P).2.1 j) := fun ok j hj => by
      unfold Say
      rw [gs_st_row _ _ _ _ (by decide), gs_st_row _ _ _ _ (by decide), gs_st_row _ _ _ _ (by decide), gs_st_row _ _ _ _ (by decide)]
      show Say b1 j (up V n (clS T L P).2.1 j)
      unfold up
      by_cases e : j = n
      · rw [if_pos e, e]; exact e3 ok
      · rw [if_neg e]
        have := hV j (by omega)
        unfold Say at this ⊢
        rw [e2.2 j e, e2.2 j e, e2.2 j e, e2.2 j e]; exact this
    by_cases c1 : (clS T L P).1 = true
    · rw [if_pos c1, if_pos (show gn (-1) < 0 by decide +kernel), gnN (by omega), gnN (by omega), if_pos c1]
      by_cases c2 : (clS T L P).2.2 < L
      · rw [if_pos (by omega), if_pos c2, if_neg (by omega)]
        obtain ⟨m', rfl⟩ : ∃ m', m = m' + 1 := ⟨m - 1, by omega⟩
        rw [f_X4_parse_L17, gnS (x := (n : Int) + 1) (by omega), if_neg (by omega), if_neg (by omega), i_expect hb2 hT (by omega) (by decide), Option.bind_some]
        dsimp only
        by_cases c3 : byt T L (clS T L P).2.2 = 59
        · rw [if_pos c3, if_pos c3]
          obtain ⟨b', f1, f2, f3⟩ := ih m' (n + 1) ((clS T L P).2.2 + 1) (gs_st b1 51 4 ((n : Int) + 1)) (up V n (clS T L P).2.1) (by omega) (by omega) (by omega) hb2 (gs_st_same _ _ _ _) (say c1)
          exact ⟨b', f1, fun c h1 h2 h3 h4 h5 => by rw [f2 c h1 h2 h3 h4 h5]; exact fr0 c h1 h2 h3 h4 h5, f3⟩
        · rw [if_neg c3, if_neg c3]
          obtain ⟨b3, g1, g2⟩ := i_clause_f (σ := gs_st b1 51 4 ((n : Int) + 1)) (P := ((clS T L P).2.2 : Nat)) (F := (clS T L P).2.2) (k := n + 1) (by omega) (by omega)
          have g1' : f_X4_readClause ((n : Int) + 1) (S51 (gs_st b1 51 4 ((n : Int) + 1)) ((clS T L P).2.2 : Nat) ((clS T L P).2.2 : Nat)) = _ := g1
          rw [J33_e g1', gnN (by omega), if_neg (by omega), S51_3]
          exact ⟨_, rfl, fun c h1 h2 h3 h4 h5 => by rw [S51_row _ _ _ h1, g2.1 c h2 h3 h4 h5]; exact fr0 c h1 h2 h3 h4 h5, fun h => by cases h⟩
      · rw [if_neg (by omega), if_neg c2]
        refine ⟨_, rfl, fr ((clS T L P).2.2 : Nat) (-1), fun _ => ⟨?_, fun j hj => ?_⟩⟩
        · rw [S51_4, gs_st_same]; rfl
        · have := say c1 j hj
          unfold Say at this ⊢
          rw [S51_row _ _ _ (by decide), S51_row _ _ _ (by decide), S51_row _ _ _ (by decide), S51_row _ _ _ (by decide)]
          exact this
    · rw [if_neg c1, gnN (k := (clS T L P).2.2) (by omega), if_neg (by omega), if_neg c1]
      refine ⟨S51 b1 ((clS T L P).2.2 : Nat) ((clS T L P).2.2 : Nat), ?_, fun c h1 h2 h3 h4 h5 => by rw [S51_row _ _ _ h1, e2.1 c h2 h3 h4 h5], fun h => by cases h⟩
      rw [S51_3]; rfl
theorem TxM_wm {σ b : gs_Mem} {k : Nat} (h : TxM σ T L) (w : Wm σ b k) : TxM b T L := by
  unfold TxM
  rw [w.1 70 (by decide), w.1 74 (by decide)]
  exact h
/-- how the reference's reading goes on, once it has stopped -/
def rdE (o : Option Nat) (N : Nat) (b : gs_Mem) : Option (Int × gs_Mem) := match o with
  | some F => some (-10 - (F : Int), b)
  | none => f_X7_read_L113 (N : Int) gs_fuel 0 0 b
theorem m_end {σ : gs_Mem} (h : TxM σ T L) (hL : L ≤ 100) {P : Nat} (hP : P ≤ 200) (N : Nat) : f_X7_read_J70 (N : Int) 1 (gs_st σ 70 6 (P : Int)) = rdE (if P = L then none else some P) N (gs_st (gs_st σ 70 6 (P : Int)) 70 5 0) := by
  unfold f_X7_read_J70 f_X7_read_J89 f_X7_read_J90
  rw [gn_1, gn_0, if_neg no10, gs_st_same, gs_st_slot _ _ _ _ (show (5 : Nat) ≠ 6 by decide), h.1, gnN (by omega), gnN (by omega), if_neg no10, if_pos (show (0 : Int) = 0 from rfl)]
  by_cases c : P = L
  · rw [if_pos (by omega), if_pos c]; rfl
  · rw [if_neg (by omega), if_neg c, gs_st_slot _ _ _ _ (show (6 : Nat) ≠ 5 by decide), gs_st_same]; rfl
theorem m_bad (σ : gs_Mem) (P v : Int) : f_X7_read_J70 v 0 (gs_st σ 70 6 P) = some (-10 - P, gs_st (gs_st σ 70 6 P) 70 5 0) := by
  unfold f_X7_read_J70 f_X7_read_J89 f_X7_read_J90
  rw [gn_0, if_pos rfl, if_pos rfl, gs_st_slot _ _ _ _ (show (6 : Nat) ≠ 5 by decide), gs_st_same]
theorem m_parse (hT : TxS T L) : ∀ (d m n P : Nat) (b : gs_Mem) (V : Nat → gs_V), n + (d + 1) = 8 → d < m → P ≤ L → TxM b T L → (∀ j, j < n → SayM b j (V j)) →
    ∃ b', f_X7_read_L9 (fun w1 w2 σ3 => f_X7_read_J70 w1 w2 σ3) (fun w1 w2 σ6 => f_X7_read_J70 w1 w2 σ6) m (n : Int) 1 (gs_st b 70 6 (P : Int)) = rdE (prS T L (d + 1) n P V).1 (prS T L (d + 1) n P V).2.1 b' ∧ (∀ c, c ≠ 70 → c ≠ 75 → b' c = b c) ∧ (∀ j, j ≠ 5 → j ≠ 6 → b' 70 j = b 70 j) ∧ b' 70 5 = 0 ∧ ((prS T L (d + 1) n P V).1 = none → ∀ j, j < (prS T L (d + 1) n P V).2.1 → SayM b' j ((prS T L (d + 1) n P V).2.2 j)) := by
  intro d
  induction d with
  | zero =>
    intro m n P b V hn hm hP hb hV
    have hL := hT.1
    obtain ⟨m', rfl⟩ : ∃ m', m = m' + 1 := ⟨m - 1, by omega⟩
    obtain ⟨b1, e1, e2, e3⟩ := m_clause hb hT hP (n := n) (by omega)
    have cl := clS_ok (T := T) hP
    have hb1 := TxM_wm hb e2
    rw [f_X7_read_L9, gn_1, if_neg no10, e1, Option.bind_some, gn_ite1, prS_s]
    dsimp only
    have fr : ∀ P' : Int, (∀ c, c ≠ 70 → c ≠ 75 → gs_st (gs_st b1 70 6 P') 70 5 0 c = b c) ∧ (∀ j, j ≠ 5 → j ≠ 6 → gs_st (gs_st b1 70 6 P') 70 5 0 70 j = b 70 j) ∧ gs_st (gs_st b1 70 6 P') 70 5 0 70 5 = 0 := fun P' => ⟨fun c h1 h2 => by rw [gs_st_row _ _ _ _ h1, gs_st_row _ _ _ _ h1, e2.1 c h2], fun j h1 h2 => by rw [gs_st_slot _ _ _ _ h1, gs_st_slot _ _ _ _ h2, e2.1 70 (by decide)], gs_st_same _ _ _ _⟩
    have say : (clS T L P).1 = true → ∀ P' : Int, ∀ j, j < n + 1 → SayM (gs_st (gs_st b1 70 6 P') 70 5 0) j (up V n (clS T L P).2.1 j) := fun ok P' j hj => by
      unfold SayM
      rw [gs_st_row _ _ _ _ (show (75 : Nat) ≠ 70 by decide), gs_st_row _ _ _ _ (show (75 : Nat) ≠ 70 by decide)]
      show SayM b1 j (up V n (clS T L P).2.1 j)
      unfold up
      by_cases e : j = n
      · rw [if_pos e, e]; exact e3 ok
      · rw [if_neg e]
        have := hV j (by omega)
        unfold SayM at this ⊢
        rw [e2.2 _ (by omega), e2.2 _ (by omega), e2.2 _ (by omega), e2.2 _ (by omega)]; exact this
    unfold f_X7_read_J29
    by_cases c1 : (clS T L P).1 = true
    · rw [if_pos c1, if_neg no10, if_pos c1, gn_1, if_neg no10, gnS (x := (n : Int) + 1) (by omega), if_pos (by omega)]
      have me := m_end hb1 hL (P := (clS T L P).2.2) (by omega) (n + 1)
      by_cases c2 : (clS T L P).2.2 < L
      · rw [if_neg (by omega)] at me
        rw [if_pos c2, if_pos rfl]
        exact ⟨_, me, (fr _).1, (fr _).2.1, (fr _).2.2, fun h => by cases h⟩
      · rw [if_pos (by omega)] at me
        rw [if_neg c2]
        exact ⟨_, me, (fr _).1, (fr _).2.1, (fr _).2.2, fun _ => say c1 _⟩
    · rw [if_neg c1, if_pos rfl, if_neg c1, gn_0, if_pos rfl]
      exact ⟨_, m_bad b1 ((clS T L P).2.2 : Nat) _, (fr _).1, (fr _).2.1, (fr _).2.2, fun h => by cases h⟩
  | succ d ih =>
    intro m n P b V hn hm hP hb hV
    have hL := hT.1
    obtain ⟨m', rfl⟩ : ∃ m', m = m' + 1 := ⟨m - 1, by omega⟩
    obtain ⟨b1, e1, e2, e3⟩ := m_clause hb hT hP (n := n) (by omega)
    have cl := clS_ok (T := T) hP
    have hb1 := TxM_wm hb e2
    rw [f_X7_read_L9, gn_1, if_neg no10, e1, Option.bind_some, gn_ite1, prS_s]
    dsimp only
    have fr : ∀ P' : Int, (∀ c, c ≠ 70 → c ≠ 75 → gs_st (gs_st b1 70 6 P') 70 5 0 c = b c) ∧ (∀ j, j ≠ 5 → j ≠ 6 → gs_st (gs_st b1 70 6 P') 70 5 0 70 j = b 70 j) ∧ gs_st (gs_st b1 70 6 P') 70 5 0 70 5 = 0 := fun P' => ⟨fun c h1 h2 => by rw [gs_st_row _ _ _ _ h1, gs_st_row _ _ _ _ h1, e2.1 c h2], fun j h1 h2 => by rw [gs_st_slot _ _ _ _ h1, gs_st_slot _ _ _ _ h2, e2.1 70 (by decide)], gs_st_same _ _ _ _⟩
    have say0 : (clS T L P).1 = true → ∀ j, j < n + 1 → SayM b1 j (up V n (clS T L P).2.1 j) := fun ok j hj => by
      unfold up
      by_cases e : j = n
      · rw [if_pos e, e]; exact e3 ok
      · rw [if_neg e]
        have := hV j (by omega)
        unfold SayM at this ⊢
        rw [e2.2 _ (by omega), e2.2 _ (by omega), e2.2 _ (by omega), e2.2 _ (by omega)]; exact this
    have say : (clS T L P).1 = true → ∀ P' : Int, ∀ j, j < n + 1 → SayM (gs_st (gs_st b1 70 6 P') 70 5 0) j (up V n (clS T L P).2.1 j) := fun ok P' j hj => by
      unfold SayM
      rw [gs_st_row _ _ _ _ (show (75 : Nat) ≠ 70 by decide), gs_st_row _ _ _ _ (show (75 : Nat) ≠ 70 by decide)]
      exact say0 ok j hj
    unfold f_X7_read_J29
    by_cases c1 : (clS T L P).1 = true
    · rw [if_pos c1, if_neg no10, if_pos c1, gn_1, if_neg no10, gnS (x := (n : Int) + 1) (by omega), if_neg (by omega), gs_st_same, m_byteAt (TxM_6 hb1 _) hT (by omega), Option.bind_some, gnS (x := byt T L (clS T L P).2.2) (by have := byt_rng hT (clS T L P).2.2; omega), gs_st_st]
      have me := m_end hb1 hL (P := (clS T L P).2.2) (by omega) (n + 1)
      by_cases c2 : (clS T L P).2.2 < L
      · rw [if_neg (by omega)] at me
        rw [if_pos c2, if_neg (show ¬ d + 1 = 0 by omega)]
        by_cases c3 : byt T L (clS T L P).2.2 = 59
        · rw [if_pos c3, if_pos c3]
          obtain ⟨b', f1, f2, f3, f4, f5⟩ := ih m' (n + 1) ((clS T L P).2.2 + 1) b1 (up V n (clS T L P).2.1) (by omega) (by omega) (by omega) hb1 (say0 c1)
          exact ⟨b', f1, fun c h1 h2 => by rw [f2 c h1 h2, e2.1 c h2], fun j h1 h2 => by rw [f3 j h1 h2, e2.1 70 (by decide)], f4, f5⟩
        · rw [if_neg c3, if_neg c3]
          exact ⟨_, me, (fr _).1, (fr _).2.1, (fr _).2.2, fun h => by cases h⟩
      · have c3 : ¬ byt T L (clS T L P).2.2 = 59 := fun e => by
          have := byt_lt (T := T) (L := L) (P := (clS T L P).2.2) (by omega)
          omega
        rw [if_pos (by omega)] at me
        rw [if_neg c2, if_neg c3]
        exact ⟨_, me, (fr _).1, (fr _).2.1, (fr _).2.2, fun _ => say c1 _⟩
    · rw [if_neg c1, if_pos rfl, if_neg c1, gn_0, if_pos rfl]
      exact ⟨_, m_bad b1 ((clS T L P).2.2 : Nat) _, (fr _).1, (fr _).2.1, (fr _).2.2, fun h => by cases h⟩
end
