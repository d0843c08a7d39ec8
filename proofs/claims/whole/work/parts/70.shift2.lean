theorem l_shift {σ : gs_Mem} (h : Rel σ) {u v w x y : Int} (hu : gn u = u) (hv : gn v = v) (hw : gn w = w) (hx : gn x = x) (hy : gn y = y) : Agree (f_X6_shift u v w x y σ) (f_X7_shift u v w x y) := by
  have rv := gn_rng v
  have rx := gn_rng x
  have ry := gn_rng y
  rw [hv] at rv
  rw [hx] at rx
  rw [hy] at ry
  unfold f_X6_shift
  rw [i_isTape, Option.bind_some, gn_iteP, i_isTape, Option.bind_some, gn_iteP, hu, hw]
  by_cases c1 : 0 ≤ u ∧ u ≤ 5
  · rw [if_pos c1, if_neg no10]
    by_cases c2 : 0 ≤ w ∧ w ≤ 5
    · rw [if_pos c2, if_neg no10]
      obtain ⟨k, rfl, hk⟩ := nat_of (n := 6) (show 0 ≤ u ∧ u < ((6 : Nat) : Int) by omega)
      obtain ⟨l, rfl, hl⟩ := nat_of (n := 6) (show 0 ≤ w ∧ w < ((6 : Nat) : Int) by omega)
      obtain ⟨q1, q2, q3, q4, q5, q6⟩ := h.2.2.2.2 k hk
      obtain ⟨p1, p2, p3, p4, p5, p6⟩ := h.2.2.2.2 l hl
      have hd : ∀ τ : gs_Mem, τ 76 = σ 76 → τ 77 = σ 77 → f_X7_shift (k : Int) v (l : Int) x y τ = if σ 76 k = -1 then some (-11, τ) else if σ 76 l = -1 then some (-11, τ) else if σ 76 k = σ 76 l then (if 0 ≤ v ∧ 0 ≤ y ∧ y ≤ σ 77 k - v then (if 0 ≤ x ∧ 0 ≤ y ∧ y ≤ σ 77 l - x then f_X7_shift_L135 (k : Int) v (l : Int) x y gs_fuel 0 τ else some (-13, τ)) else some (-13, τ)) else some (-12, τ) := fun τ e76 e77 => by
        unfold f_X7_shift
        rw [in_v hu (by decide) (by decide), Option.bind_some, gn_iteP, if_pos c1, if_neg no10, in_v hw (by decide) (by decide), Option.bind_some, gn_iteP, if_pos c2, if_neg no10, hu, hv, hw, hx, hy]
        simp (disch := omega) only [gs_chk_t, t1, e76, e77]
        have g1 : gn (σ 76 k) = σ 76 k := gnS (by omega)
        have g2 : gn (σ 76 l) = σ 76 l := gnS (by omega)
        have g3 : gn (σ 77 k) = σ 77 k := gnS (by omega)
        have g4 : gn (σ 77 l) = σ 77 l := gnS (by omega)
        simp only [g1, g2, g3, g4]
        by_cases e1 : σ 76 k = -1
        · rw [if_pos e1, if_pos e1]
        rw [if_neg e1, if_neg e1]
        by_cases e2 : σ 76 l = -1
        · rw [if_pos e2, if_pos e2]
        rw [if_neg e2, if_neg e2]
        by_cases e3 : σ 76 k = σ 76 l
        · rw [if_pos e3, if_pos e3]
          by_cases a1 : y < 0
          · rw [if_pos a1, if_neg (show ¬ (0 ≤ v ∧ 0 ≤ y ∧ y ≤ σ 77 k - v) by omega)]
          rw [if_neg a1]
          by_cases a2 : v < 0
          · rw [if_pos a2, if_neg (show ¬ (0 ≤ v ∧ 0 ≤ y ∧ y ≤ σ 77 k - v) by omega)]
          rw [if_neg a2]
          have hb : ∀ Z : Option (Int × gs_Mem), ¬ (0 ≤ x ∧ 0 ≤ y ∧ y ≤ σ 77 l - x) → (if 0 ≤ v ∧ 0 ≤ y ∧ y ≤ σ 77 k - v then (if 0 ≤ x ∧ 0 ≤ y ∧ y ≤ σ 77 l - x then Z else some (-13, τ)) else some (-13, τ)) = some (-13, τ) := fun Z hz => by
            rw [if_neg hz]; split <;> rfl
          by_cases a3 : x < 0
          · rw [if_pos a3, hb _ (by omega)]
          have g6 : gn (σ 77 k - v) = σ 77 k - v := gnS (by omega)
          have g7 : gn (σ 77 l - x) = σ 77 l - x := gnS (by omega)
          rw [if_neg a3]
          simp only [g6, g7]
          by_cases a4 : σ 77 k < v
          · rw [if_pos a4, if_neg (show ¬ (0 ≤ v ∧ 0 ≤ y ∧ y ≤ σ 77 k - v) by omega)]
          rw [if_neg a4]
          by_cases a5 : σ 77 l < x
          · rw [if_pos a5, hb _ (by omega)]
          rw [if_neg a5]
          by_cases a6 : σ 77 k - v < y
          · rw [if_pos a6, if_neg (show ¬ (0 ≤ v ∧ 0 ≤ y ∧ y ≤ σ 77 k - v) by omega)]
          rw [if_neg a6, if_pos (show 0 ≤ v ∧ 0 ≤ y ∧ y ≤ σ 77 k - v by omega)]
          by_cases a7 : y ≤ σ 77 l - x
          · rw [if_pos a7, if_pos (show 0 ≤ x ∧ 0 ≤ y ∧ y ≤ σ 77 l - x by omega)]
          · rw [if_neg a7, if_neg (show ¬ (0 ≤ x ∧ 0 ≤ y ∧ y ≤ σ 77 l - x) by omega)]
        · rw [if_neg e3, if_neg e3]
      rw [gs_chk_t (by omega) (by omega), gs_chk_t (by omega) (by omega), t1, t1, i_isBlank q1 q3, Option.bind_some, gn_iteP, i_isBlank p1 p3, Option.bind_some, gn_iteP]
      unfold f_X3_sort
      rw [Option.bind_some, Option.bind_some, q1, p1, gnS (x := σ 76 k) (by omega), gnS (x := σ 76 l) (by omega), i_holdsRun q2 q4 hv hy, Option.bind_some, gn_iteP, i_holdsRun p2 p4 hx hy, Option.bind_some, gn_iteP]
      by_cases e1 : σ 76 k = -1
      · rw [if_pos e1, if_neg no10]
        exact ⟨-11, σ, σ, rfl, by rw [hd σ rfl rfl, if_pos e1], h⟩
      rw [if_neg e1, if_pos rfl]
      by_cases e2 : σ 76 l = -1
      · rw [if_pos e2, if_neg no10]
        exact ⟨-11, σ, σ, rfl, by rw [hd σ rfl rfl, if_neg e1, if_pos e2], h⟩
      rw [if_neg e2, if_pos rfl]
      by_cases e3 : σ 76 k = σ 76 l
      · rw [if_pos e3]
        by_cases e4 : 0 ≤ v ∧ 0 ≤ y ∧ y ≤ σ 77 k - v
        · rw [if_pos e4, if_neg no10]
          by_cases e5 : 0 ≤ x ∧ 0 ≤ y ∧ y ≤ σ 77 l - x
          · rw [if_pos e5, if_neg no10]
            obtain ⟨i, rfl⟩ : ∃ i : Nat, v = i := ⟨v.toNat, by omega⟩
            obtain ⟨j, rfl⟩ : ∃ j : Nat, x = j := ⟨x.toNat, by omega⟩
            obtain ⟨n, rfl⟩ : ∃ n : Nat, y = n := ⟨y.toNat, by omega⟩
            unfold f_X3_take
            rw [i_holdsRun p2 p4 hx hy, Option.bind_some, gn_iteP, if_pos e5, if_neg no10, i_holdsRun q2 q4 hv hy, Option.bind_some, gn_iteP, if_pos e4, if_neg no10, hv, hx, hy, gs_chkc_t (by omega), t1, t1, t1, Option.bind_some]
            have row : ∀ c, c ≠ 58 + 2 * l + 1 → gs_cp σ (58 + 2 * k + 1) i (58 + 2 * l + 1) j n c = σ c := fun c hc => funext fun z => by
              unfold gs_cp
              rw [if_neg (fun q => hc q.1)]
            refine ⟨(n : Int), gs_cp σ (58 + 2 * k + 1) i (58 + 2 * l + 1) j n, rw_ (gs_cp σ (58 + 2 * k + 1) i (58 + 2 * l + 1) j n) 78 (mvR (σ 78) (60 * k + i) (60 * l + j) n), rfl, ?_, ?_⟩
            · rw [hd _ (row 76 (by omega)) (row 77 (by omega)), if_neg e1, if_neg e2, if_pos e3, if_pos e4, if_pos e5, m_shiftL hk hl (by omega) (by omega), row 78 (by omega)]
            · refine Rel_tape h (fun c h1 h2 h3 h4 => ?_) (RE_upd (t := σ 76 l) (z := σ 77 l) h.2.2.2.2 hl (fun c h1 h2 h3 => ?_) ?_ ?_ (fun z hz => ?_) (fun z hz => ?_) (fun z hz => ?_) (fun z hz => ?_) p3 p4 p5)
              · rw [rw_ne _ _ _ h4, row c (by omega)]
              · rw [rw_ne _ _ _ (by omega), row c (by omega)]
              · rw [rw_ne _ _ _ (by omega), row _ (by omega)]; exact p1
              · rw [rw_ne _ _ _ (by omega), row _ (by omega)]; exact p2
              · rw [rw_ne _ _ _ (by omega), row _ (by omega)]
                split
                · next e => rw [e]
                · rfl
              · rw [rw_ne _ _ _ (by omega), row _ (by omega)]
                split
                · next e => rw [e]
                · rfl
              · rw [rw_same]
                unfold mvR
                rw [if_neg (by omega)]
              · rw [rw_same, rw_ne _ _ _ (by omega)]
                unfold mvR gs_cp
                by_cases c : j ≤ z ∧ z < j + n
                · rw [if_pos ⟨by omega, c⟩, if_pos (by omega), show 58 + 2 * k + 1 = 59 + 2 * k by omega, q6 _ (by omega)]
                  exact congrArg (σ 78) (by omega)
                · rw [if_neg (fun q => c q.2), if_neg (by omega)]
                  exact p6 z hz
          · rw [if_neg e5, if_pos rfl]
            exact ⟨-13, σ, σ, rfl, by rw [hd σ rfl rfl, if_neg e1, if_neg e2, if_pos e3, if_pos e4, if_neg e5], h⟩
        · rw [if_neg e4, if_pos rfl]
          exact ⟨-13, σ, σ, rfl, by rw [hd σ rfl rfl, if_neg e1, if_neg e2, if_pos e3, if_neg e4], h⟩
      · rw [if_neg e3]
        exact ⟨-12, σ, σ, rfl, by rw [hd σ rfl rfl, if_neg e1, if_neg e2, if_neg e3], h⟩
    · rw [if_neg c2, if_pos rfl]
      refine ⟨-1, σ, σ, rfl, ?_, h⟩
      unfold f_X7_shift
      rw [in_v hu (by decide) (by decide), Option.bind_some, gn_iteP, if_pos c1, if_neg no10, in_v hw (by decide) (by decide), Option.bind_some, gn_iteP, if_neg c2, if_pos rfl]
  · rw [if_neg c1, if_pos rfl]
    refine ⟨-1, σ, σ, rfl, ?_, h⟩
    unfold f_X7_shift
    rw [in_v hu (by decide) (by decide), Option.bind_some, gn_iteP, if_neg c1, if_pos rfl]
