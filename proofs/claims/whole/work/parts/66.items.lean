theorem lb_ex (t v : Int) (σ : gs_Mem) : ∃ u, f_X7_lowestBits t v σ = some u := by
  unfold f_X7_lowestBits
  by_cases c0 : gn t = 0
  · rw [if_pos c0]; exact ⟨_, rfl⟩
  rw [if_neg c0]
  by_cases c1 : gn t = 1
  · rw [if_pos c1]; exact ⟨_, rfl⟩
  rw [if_neg c1]
  by_cases c2 : gn t = 2
  · rw [if_pos c2]; exact ⟨_, rfl⟩
  rw [if_neg c2]
  by_cases c3 : gn t = 3
  · rw [if_pos c3]; exact ⟨_, rfl⟩
  rw [if_neg c3]
  by_cases c4 : gn (gcmp v 0) = 0
  · rw [if_pos c4]; exact ⟨_, rfl⟩
  · rw [if_neg c4]; exact ⟨_, rfl⟩
theorem lb_free (t v : Int) (σ τ : gs_Mem) : f_X7_lowestBits t v σ = f_X7_lowestBits t v τ := rfl
theorem cut_lb (r : Nat) (v : Int) (σ : gs_Mem) : f_X3_cut r v σ = f_X7_lowestBits (σ r 1) v σ := rfl
theorem i_holds {σ : gs_Mem} {r : Nat} {z : Int} (e : σ r 2 = z) (hz : 0 ≤ z ∧ z ≤ 60) (v : Int) : f_X3_holds r v σ = some (if 0 ≤ gn v ∧ gn v ≤ z - 1 then 1 else 0) := by
  unfold f_X3_holds
  rw [e, gnS (x := z) (by omega)]
  by_cases c1 : gn v < 0
  · rw [if_pos c1, if_neg (by omega)]
  · rw [if_neg c1]
    by_cases c2 : z ≤ gn v
    · rw [if_pos c2, if_neg (by omega)]
    · rw [if_neg c2, if_pos (by omega)]
theorem i_isBlank {σ : gs_Mem} {r : Nat} {t : Int} (e : σ r 1 = t) (ht : -1 ≤ t ∧ t ≤ 4) : f_X3_isBlank r σ = some (if t = -1 then 1 else 0) := by
  unfold f_X3_isBlank
  rw [e, gnS (by omega)]
  split <;> rfl
theorem l_item {σ : gs_Mem} (h : Rel σ) {u v : Int} (hu : gn u = u) (hv : gn v = v) (w : Int) : Agree (f_X6_item u v w σ) (f_X7_item u v w) := by
  unfold f_X6_item
  rw [i_isTape, Option.bind_some, gn_iteP, hu]
  by_cases c1 : 0 ≤ u ∧ u ≤ 5
  · obtain ⟨k, rfl, hk⟩ := nat_of (n := 6) (show 0 ≤ u ∧ u < ((6 : Nat) : Int) by omega)
    obtain ⟨q1, q2, q3, q4, q5, q6⟩ := h.2.2.2.2 k hk
    have hd : ∀ σ', σ' 76 = σ 76 → σ' 77 = σ 77 → f_X7_item (k : Int) v w σ' = if σ 76 k = -1 then some (-11, σ') else if 0 ≤ v ∧ v ≤ σ 77 k - 1 then (f_X7_lowestBits (σ 76 k) w σ').bind (fun u3 => gs_chk (gn (60 * (k : Int) + v)) 360 (some (1, gs_st σ' 78 (gn (60 * (k : Int) + v)).toNat u3))) else some (-13, σ') := fun σ' e76 e77 => by
      unfold f_X7_item
      rw [in_v hu (by decide) (by decide), Option.bind_some, gn_iteP, if_pos c1, if_neg no10, hu, gs_chk_t (by omega) (by omega), gs_chk_t (by omega) (by omega), gs_chk_t (by omega) (by omega), t1, e76, e77, gnS (x := σ 76 k) (by omega), gnS (x := σ 77 k - 1) (by omega), in_v hv (by decide) (by omega), Option.bind_some, gn_iteP]
      by_cases d : σ 76 k = -1
      · rw [if_pos d, if_pos d]
      · rw [if_neg d, if_neg d]
        by_cases d2 : 0 ≤ v ∧ v ≤ σ 77 k - 1
        · rw [if_pos d2, if_pos d2, if_neg no10]
        · rw [if_neg d2, if_neg d2, if_pos rfl]
    rw [if_pos c1, if_neg no10, gs_chk_t (by omega) (by omega), t1, i_isBlank q1 q3, Option.bind_some, gn_iteP]
    by_cases c2 : σ 76 k = -1
    · rw [if_pos c2, if_neg no10]
      exact ⟨-11, σ, σ, rfl, by rw [hd σ rfl rfl, if_pos c2], h⟩
    · rw [if_neg c2, if_pos rfl, i_holds q2 q4, Option.bind_some, gn_iteP, hv]
      by_cases c3 : 0 ≤ v ∧ v ≤ σ 77 k - 1
      · rw [if_pos c3, if_neg no10]
        obtain ⟨j, rfl⟩ : ∃ j : Nat, v = j := ⟨v.toNat, by omega⟩
        obtain ⟨x, hx⟩ := lb_ex (σ 76 k) w σ
        unfold f_X3_put
        rw [i_holds q2 q4, Option.bind_some, gn_iteP, hv, if_pos c3, if_neg no10, cut_lb, q1, hx, Option.bind_some, gs_chk_t (by omega) (by omega), t1, Option.bind_some]
        refine ⟨1, gs_st σ (58 + 2 * k + 1) j x, gs_st (gs_st σ (58 + 2 * k + 1) j x) 78 (60 * k + j) x, rfl, ?_, ?_⟩
        · rw [hd _ (gs_st_row _ _ _ _ (by omega)) (gs_st_row _ _ _ _ (by omega)), if_neg c2, if_pos c3, lb_free _ _ _ σ, hx, Option.bind_some, gnS (by omega), gs_chk_t (by omega) (by omega), show (60 * (k : Int) + (j : Int)).toNat = 60 * k + j by omega]
        · refine Rel_tape h (fun c h1 h2 h3 h4 => ?_) (RE_upd (t := σ 76 k) (z := σ 77 k) h.2.2.2.2 hk (fun c h1 h2 h3 => ?_) ?_ ?_ (fun i hi => ?_) (fun i hi => ?_) (fun i hi => ?_) (fun i hi => ?_) q3 q4 q5)
          · rw [gs_st_row _ _ _ _ h4, gs_st_row _ _ _ _ (by omega)]
          · rw [gs_st_row _ _ _ _ (by omega), gs_st_row _ _ _ _ (by omega)]
          · rw [gs_st_row _ _ _ _ (by omega), gs_st_row _ _ _ _ (by omega)]; exact q1
          · rw [gs_st_row _ _ _ _ (by omega), gs_st_row _ _ _ _ (by omega)]; exact q2
          · rw [gs_st_row _ _ _ _ (by omega), gs_st_row _ _ _ _ (by omega)]
            split
            · next e => rw [e]
            · rfl
          · rw [gs_st_row _ _ _ _ (by omega), gs_st_row _ _ _ _ (by omega)]
            split
            · next e => rw [e]
            · rfl
          · rw [gs_st_slot _ _ _ _ (by omega), gs_st_row _ _ _ _ (by omega)]
          · rw [show 59 + 2 * k = 58 + 2 * k + 1 by omega, gs_st_far (a := 58 + 2 * k + 1) _ _ _ _ (by omega)]
            by_cases e : i = j
            · rw [e, gs_st_same, gs_st_same]
            · rw [gs_st_slot _ _ _ _ e, gs_st_slot _ _ _ _ (by omega), gs_st_row _ _ _ _ (by omega), show 58 + 2 * k + 1 = 59 + 2 * k by omega]
              exact q6 i hi
      · rw [if_neg c3, if_pos rfl]
        exact ⟨-13, σ, σ, rfl, by rw [hd σ rfl rfl, if_neg c2, if_neg c3], h⟩
  · rw [if_neg c1, if_pos rfl]
    refine ⟨-1, σ, σ, rfl, ?_, h⟩
    unfold f_X7_item
    rw [in_v hu (by decide) (by decide), Option.bind_some, gn_iteP, if_neg c1, if_pos rfl]
theorem l_peek {σ : gs_Mem} (h : Rel σ) {u v : Int} (hu : gn u = u) (hv : gn v = v) : Same (f_X6_peek u v σ) (f_X7_peek u v σ) := by
  unfold f_X6_peek f_X7_peek
  rw [i_isTape, Option.bind_some, gn_iteP, in_v hu (by decide) (by decide), Option.bind_some, gn_iteP, hu]
  by_cases c1 : 0 ≤ u ∧ u ≤ 5
  · obtain ⟨k, rfl, hk⟩ := nat_of (n := 6) (show 0 ≤ u ∧ u < ((6 : Nat) : Int) by omega)
    obtain ⟨q1, q2, q3, q4, q5, q6⟩ := h.2.2.2.2 k hk
    rw [if_pos c1, if_neg no10, if_neg no10, gs_chk_t (by omega) (by omega), gs_chk_t (by omega) (by omega), gs_chk_t (by omega) (by omega), t1, i_holds q2 q4, Option.bind_some, gn_iteP, gnS (x := σ 77 k - 1) (by omega), in_v hv (by decide) (by omega), Option.bind_some, gn_iteP, hv]
    by_cases c3 : 0 ≤ v ∧ v ≤ σ 77 k - 1
    · rw [if_pos c3, if_neg no10, if_neg no10]
      obtain ⟨j, rfl⟩ : ∃ j : Nat, v = j := ⟨v.toNat, by omega⟩
      unfold f_X3_get
      rw [i_holds q2 q4, Option.bind_some, gn_iteP, hv, if_pos c3, if_neg no10, gs_chk_t (by omega) (by omega), t1, Option.bind_some, gnS (by omega), gs_chk_t (by omega) (by omega), show (60 * (k : Int) + (j : Int)).toNat = 60 * k + j by omega, ← q6 j (by omega), show 58 + 2 * k + 1 = 59 + 2 * k by omega]
      exact ⟨_, rfl, rfl⟩
    · rw [if_neg c3, if_pos rfl, if_pos rfl]
      exact ⟨_, rfl, rfl⟩
  · rw [if_neg c1, if_pos rfl, if_pos rfl]
    exact ⟨_, rfl, rfl⟩
