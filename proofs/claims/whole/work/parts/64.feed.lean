/-! ===== feed ===== -/
theorem gb_nat : ∀ k : Nat, k < 128 → gb (gb (k : Int)) = (k : Int) := by decide +kernel
theorem l_feed {σ : gs_Mem} (h : Rel σ) {v : Int} (hv : gn v = v) : Agree (f_X6_feed v σ) (f_X7_feed v) := by
  have h' := h
  obtain ⟨⟨hW, hP⟩, hB, hC, ⟨L, hL, d1, d2, d3⟩, hE⟩ := h
  have bad : ¬ (0 ≤ v ∧ v ≤ 127) → Agree (f_X6_feed_J10 σ) (f_X7_feed v) := fun c => by
    refine ⟨-2, σ, σ, rfl, ?_, h'⟩
    unfold f_X7_feed
    rw [in_v hv (by decide) (by decide), Option.bind_some, gn_iteP, if_neg c, if_pos rfl]
  unfold f_X6_feed
  rw [hv]
  by_cases c1 : v < 0
  · rw [if_pos c1]; exact bad (by omega)
  rw [if_neg c1]
  by_cases c2 : v ≤ 127
  · rw [if_pos c2]
    have c : 0 ≤ v ∧ v ≤ 127 := by omega
    unfold f_X4_append
    rw [d2, gnN (by omega)]
    by_cases c3 : (L : Int) < 100
    · rw [if_pos c3, gs_chk_t (by omega) (by omega), Option.bind_some]
      obtain ⟨w, rfl⟩ : ∃ w : Nat, v = w := ⟨v.toNat, by omega⟩
      rw [gb_nat w (by omega), t1]
      have e1 : gs_st σ 52 L (w : Int) 51 1 = (L : Int) := by rw [gs_st_far _ _ _ _ (by decide), d2]
      rw [e1]
      have e5 : gs_st (gs_st σ 52 L (w : Int)) 51 1 ((L : Int) + 1) 70 5 = (L : Int) := by rw [gs_st_far _ _ _ _ (by decide), gs_st_far _ _ _ _ (by decide), d1]
      refine ⟨(L : Int) + 1, gs_st (gs_st σ 52 L (w : Int)) 51 1 ((L : Int) + 1), gs_st (gs_st (gs_st (gs_st σ 52 L (w : Int)) 51 1 ((L : Int) + 1)) 74 L (w : Int)) 70 5 ((L : Int) + 1), ?_, ?_, ?_⟩
      · rw [gs_st_same]
      · unfold f_X7_feed
        rw [in_v hv (by decide) (by decide), Option.bind_some, gn_iteP, if_pos c, if_neg no10, e5, gnN (by omega), if_neg (by omega), gs_chk_t (by omega) (by omega), t1, gs_st_far _ 74 _ _ (show (70 : Nat) ≠ 74 by decide), e5, gs_st_same]
      · have row : ∀ a, a ≠ 51 → a ≠ 52 → a ≠ 70 → a ≠ 74 → gs_st (gs_st (gs_st (gs_st σ 52 L (w : Int)) 51 1 ((L : Int) + 1)) 74 L (w : Int)) 70 5 ((L : Int) + 1) a = σ a := fun a h1 h2 h3 h4 => by
          rw [gs_st_row _ _ _ _ h3, gs_st_row _ _ _ _ h4, gs_st_row _ _ _ _ h1, gs_st_row _ _ _ _ h2]
        refine ⟨⟨?_, ?_⟩, ?_, ?_, ⟨L + 1, by omega, ?_, ?_, fun i hi => ?_⟩, ?_⟩
        · rw [row 71 (by decide) (by decide) (by decide) (by decide)]; exact hW
        · rw [row 71 (by decide) (by decide) (by decide) (by decide)]
          exact PlR_keep hP (fun c h1 h2 => row c (by omega) (by omega) (by omega) (by omega))
        · exact RB_keep hB (fun c h1 h2 => row c (by omega) (by omega) (by omega) (by omega)) (row 71 (by decide) (by decide) (by decide) (by decide))
        · refine RC_keep hC (by rw [row 0 (by decide) (by decide) (by decide) (by decide)]) ?_ (row 73 (by decide) (by decide) (by decide) (by decide)) (fun c h1 h2 => row c (by omega) (by omega) (by omega) (by omega))
          rw [gs_st_slot _ _ _ _ (by decide), gs_st_far _ _ _ _ (by decide), gs_st_far _ _ _ _ (by decide), gs_st_far _ _ _ _ (by decide)]
        · rw [gs_st_same]; rfl
        · rw [gs_st_far _ _ _ _ (by decide), gs_st_far _ _ _ _ (by decide), gs_st_same]; rfl
        · rw [gs_st_far (a := 52) _ _ _ _ (by decide), gs_st_far (a := 52) _ _ _ _ (by decide), gs_st_far (a := 52) _ _ _ _ (by decide), gs_st_far (a := 74) _ 70 _ _ (by decide)]
          by_cases e : i = L
          · rw [e, gs_st_same, gs_st_same]; omega
          · rw [gs_st_slot _ _ _ _ e, gs_st_slot _ _ _ _ e, gs_st_far (a := 74) _ _ _ _ (by decide), gs_st_far (a := 74) _ _ _ _ (by decide)]
            exact d3 i (by omega)
        · exact RE_keep hE (fun c h1 h2 => row c (by omega) (by omega) (by omega) (by omega)) (row 76 (by decide) (by decide) (by decide) (by decide)) (row 77 (by decide) (by decide) (by decide) (by decide)) (row 78 (by decide) (by decide) (by decide) (by decide))
    · rw [if_neg c3, Option.bind_some]
      refine ⟨-4, σ, σ, rfl, ?_, h'⟩
      unfold f_X7_feed
      rw [in_v hv (by decide) (by decide), Option.bind_some, gn_iteP, if_pos c, if_neg no10, d1, gnN (by omega), if_pos (by omega)]
  · rw [if_neg c2]; exact bad (by omega)
