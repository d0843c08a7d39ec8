/-! ===== the tapes ===== -/
theorem Rel_tape {σ σ' : gs_Mem} (h : Rel σ) (e : ∀ c, ¬ (58 ≤ c ∧ c ≤ 69) → c ≠ 76 → c ≠ 77 → c ≠ 78 → σ' c = σ c) (hE : RE σ') : Rel σ' := by
  obtain ⟨hA, hB, hC, hD, -⟩ := h
  refine ⟨?_, ?_, ?_, ?_, hE⟩
  · unfold RA
    rw [e 71 (by decide) (by decide) (by decide) (by decide)]
    exact ⟨hA.1, PlR_keep hA.2 (fun c h1 h2 => e c (by omega) (by omega) (by omega) (by omega))⟩
  · exact RB_keep hB (fun c h1 h2 => e c (by omega) (by omega) (by omega) (by omega)) (e 71 (by decide) (by decide) (by decide) (by decide))
  · exact RC_keep hC (by rw [e 0 (by decide) (by decide) (by decide) (by decide)]) (by rw [e 70 (by decide) (by decide) (by decide) (by decide)]) (e 73 (by decide) (by decide) (by decide) (by decide)) (fun c h1 h2 => e c (by omega) (by omega) (by omega) (by omega))
  · exact RD_keep hD (by rw [e 70 (by decide) (by decide) (by decide) (by decide)]) (by rw [e 51 (by decide) (by decide) (by decide) (by decide)]) (e 52 (by decide) (by decide) (by decide) (by decide)) (e 74 (by decide) (by decide) (by decide) (by decide))
theorem RE_upd {σ σ' : gs_Mem} (h : RE σ) {k : Nat} (hk : k < 6) {t z : Int} (e : ∀ c, (58 ≤ c ∧ c ≤ 69) → c ≠ 58 + 2 * k → c ≠ 59 + 2 * k → σ' c = σ c) (e1 : σ' (58 + 2 * k) 1 = t) (e2 : σ' (58 + 2 * k) 2 = z)
    (e76 : ∀ j, j < 6 → σ' 76 j = if j = k then t else σ 76 j) (e77 : ∀ j, j < 6 → σ' 77 j = if j = k then z else σ 77 j) (e78 : ∀ j, (j < 60 * k ∨ 60 * k + 60 ≤ j) → σ' 78 j = σ 78 j) (ei : ∀ i, i < 60 → σ' (59 + 2 * k) i = σ' 78 (60 * k + i))
    (ht : -1 ≤ t ∧ t ≤ 4) (hz : 0 ≤ z ∧ z ≤ 60) (htz : t = -1 → z = 0) : RE σ' := by
  intro j hj
  rw [e76 j hj, e77 j hj]
  by_cases c : j = k
  · rw [if_pos c, if_pos c, c]
    exact ⟨e1, e2, ht, hz, htz, ei⟩
  · rw [if_neg c, if_neg c, e (58 + 2 * j) (by omega) (by omega) (by omega), e (59 + 2 * j) (by omega) (by omega) (by omega)]
    obtain ⟨q1, q2, q3, q4, q5, q6⟩ := h j hj
    refine ⟨q1, q2, q3, q4, q5, fun i hi => ?_⟩
    rw [e78 _ (by omega)]
    exact q6 i hi
theorem i_isTape (v : Int) (σ : gs_Mem) : f_X6_isTape v σ = some (if 0 ≤ gn v ∧ gn v ≤ 5 then 1 else 0) := by
  unfold f_X6_isTape
  by_cases c1 : gn v < 0
  · rw [if_pos c1, if_neg (by omega)]
  · rw [if_neg c1]
    by_cases c2 : 6 ≤ gn v
    · rw [if_pos c2, if_neg (by omega)]
    · rw [if_neg c2, if_pos (by omega)]
/-- cell r with zeros in its first k slots from a on -/
def zr0 (σ : gs_Mem) (r a k : Nat) : gs_Mem := rw_ σ r (fun i => if a ≤ i ∧ i < a + k then 0 else σ r i)
theorem zr0_s (σ : gs_Mem) (r a k : Nat) : gs_st (zr0 σ r a k) r (a + k) 0 = zr0 σ r a (k + 1) := by
  unfold zr0
  rw [gs_st_rw, rw_same, rw_rw]
  refine congrArg (rw_ σ r) (funext fun i => ?_)
  rw [rs_at]
  by_cases e : i = a + k
  · rw [if_pos e, if_pos (by omega)]
  · rw [if_neg e]
    by_cases c : a ≤ i ∧ i < a + k
    · rw [if_pos c, if_pos (by omega)]
    · rw [if_neg c, if_neg (by omega)]
theorem zr0_0 (σ : gs_Mem) (r a : Nat) : zr0 σ r a 0 = σ := by
  unfold zr0
  rw [show (fun i => if a ≤ i ∧ i < a + 0 then 0 else σ r i) = σ r from funext fun i => if_neg (by omega), rw_self]
theorem zr0_ne (σ : gs_Mem) (r a k : Nat) {c : Nat} (h : c ≠ r) : zr0 σ r a k c = σ c := rw_ne _ _ _ h
theorem zr0_at (σ : gs_Mem) (r a k i : Nat) : zr0 σ r a k r i = if a ≤ i ∧ i < a + k then 0 else σ r i := by
  unfold zr0
  rw [rw_same]
theorem i_become {σ : gs_Mem} {r : Nat} {t z : Int} (hz : 0 ≤ z ∧ z ≤ 60) : f_X3_become r t z σ = some (0, zr0 (gs_st (gs_st σ r 1 t) r 2 z) (r + 1) 0 60) := by
  unfold f_X3_become
  have ez : gmax 0 (gmin z 60) = z := by
    rw [gminE (by omega) (by omega), if_neg (by omega), gmaxE (by omega) (by omega)]
    split <;> omega
  rw [ez]
  generalize gs_st (gs_st σ r 1 t) r 2 z = τ
  refine loop0 (fun m k (s : gs_Mem) => f_X3_become_L21 r m (k : Int) s) (fun k s => s = zr0 τ (r + 1) 0 k) (fun q => q = some (0, zr0 τ (r + 1) 0 60)) 60 τ (by decide) ?_ ?_ (zr0_0 _ _ _).symm
  · intro m k s hk hs
    subst hs
    refine Or.inr ⟨zr0 τ (r + 1) 0 (k + 1), ?_, rfl⟩
    rw [f_X3_become_L21, gnN (by omega), if_neg (by omega), gs_chk_t (by omega) (by omega), t1, ← zr0_s, Nat.zero_add]; rfl
  · intro m s hs
    subst hs
    rw [f_X3_become_L21, if_pos (by decide +kernel)]
theorem m_tapeL {k : Nat} (hk : k < 6) (τ : gs_Mem) : f_X7_tape_L80 (k : Int) gs_fuel 0 τ = some (1, zr0 τ 78 (60 * k) 60) := by
  refine loop0 (fun m j (s : gs_Mem) => f_X7_tape_L80 (k : Int) m (j : Int) s) (fun j s => s = zr0 τ 78 (60 * k) j) (fun q => q = some (1, zr0 τ 78 (60 * k) 60)) 60 τ (by decide) ?_ ?_ (zr0_0 _ _ _).symm
  · intro m j s hj hs
    subst hs
    refine Or.inr ⟨zr0 τ 78 (60 * k) (j + 1), ?_, rfl⟩
    rw [f_X7_tape_L80, gnN (by omega), if_neg (by omega), gnS (by omega), gs_chk_t (by omega) (by omega), show (60 * (k : Int) + (j : Int)).toNat = 60 * k + j by omega, ← zr0_s]; rfl
  · intro m s hs
    subst hs
    rw [f_X7_tape_L80, if_pos (by decide +kernel)]
/-- both make tape k one of sort t and size z -/
theorem Rel_become {σ : gs_Mem} (h : Rel σ) {k : Nat} (hk : k < 6) {t z : Int} (ht : -1 ≤ t ∧ t ≤ 4) (hz : 0 ≤ z ∧ z ≤ 60) (htz : t = -1 → z = 0) :
    Rel (zr0 (gs_st (gs_st (zr0 (gs_st (gs_st σ (58 + 2 * k) 1 t) (58 + 2 * k) 2 z) (58 + 2 * k + 1) 0 60) 76 k t) 77 k z) 78 (60 * k) 60) := by
  refine Rel_tape h (fun c h1 h2 h3 h4 => ?_) (RE_upd (t := t) (z := z) h.2.2.2.2 hk (fun c h1 h2 h3 => ?_) ?_ ?_ (fun j hj => ?_) (fun j hj => ?_) (fun j hj => ?_) (fun i hi => ?_) ht hz htz)
  · rw [zr0_ne _ _ _ _ h4, gs_st_row _ _ _ _ h3, gs_st_row _ _ _ _ h2, zr0_ne _ _ _ _ (by omega), gs_st_row _ _ _ _ (by omega), gs_st_row _ _ _ _ (by omega)]
  · rw [zr0_ne _ _ _ _ (by omega), gs_st_row _ _ _ _ (by omega), gs_st_row _ _ _ _ (by omega), zr0_ne _ _ _ _ (by omega), gs_st_row _ _ _ _ h2, gs_st_row _ _ _ _ h2]
  · rw [zr0_ne _ _ _ _ (by omega), gs_st_row _ _ _ _ (by omega), gs_st_row _ _ _ _ (by omega), zr0_ne _ _ _ _ (by omega), gs_st_slot _ _ _ _ (by decide), gs_st_same]
  · rw [zr0_ne _ _ _ _ (by omega), gs_st_row _ _ _ _ (by omega), gs_st_row _ _ _ _ (by omega), zr0_ne _ _ _ _ (by omega), gs_st_same]
  · rw [zr0_ne _ _ _ _ (by decide), gs_st_row _ _ _ _ (by decide), gs_st_at, zr0_ne _ _ _ _ (by omega), gs_st_row _ _ _ _ (by omega), gs_st_row _ _ _ _ (by omega)]
    by_cases c : j = k
    · rw [if_pos ⟨rfl, c⟩, if_pos c]
    · rw [if_neg (fun e => c e.2), if_neg c]
  · rw [zr0_ne _ _ _ _ (by decide), gs_st_at, gs_st_row _ _ _ _ (show (77 : Nat) ≠ 76 by decide), zr0_ne _ _ _ _ (by omega), gs_st_row _ _ _ _ (by omega), gs_st_row _ _ _ _ (by omega)]
    by_cases c : j = k
    · rw [if_pos ⟨rfl, c⟩, if_pos c]
    · rw [if_neg (fun e => c e.2), if_neg c]
  · rw [zr0_at, if_neg (by omega), gs_st_row _ _ _ _ (by decide), gs_st_row _ _ _ _ (by decide), zr0_ne _ _ _ _ (by omega), gs_st_row _ _ _ _ (by omega), gs_st_row _ _ _ _ (by omega)]
  · rw [zr0_at, if_pos (by omega), zr0_ne _ _ _ _ (by omega), gs_st_row _ _ _ _ (by omega), gs_st_row _ _ _ _ (by omega), show 59 + 2 * k = 58 + 2 * k + 1 by omega, zr0_at, if_pos (by omega)]
theorem l_tape {σ : gs_Mem} (h : Rel σ) {u v w : Int} (hu : gn u = u) (hv : gn v = v) (hw : gn w = w) : Agree (f_X6_tape u v w σ) (f_X7_tape u v w) := by
  unfold f_X6_tape
  rw [i_isTape, Option.bind_some, gn_iteP, hu, hv, hw]
  by_cases c1 : 0 ≤ u ∧ u ≤ 5
  · obtain ⟨k, rfl, hk⟩ := nat_of (n := 6) (show 0 ≤ u ∧ u < ((6 : Nat) : Int) by omega)
    rw [if_pos c1, if_neg no10]
    have hd : ∀ σ', f_X7_tape (k : Int) v w σ' = if -1 ≤ v ∧ v ≤ 4 then (if v = -1 then f_X7_tape_J42 (k : Int) v w σ' else if w ≤ 60 then f_X7_tape_J42 (k : Int) v w σ' else some (-2, σ')) else some (-2, σ') := fun σ' => by
      unfold f_X7_tape
      rw [in_v hu (by decide) (by decide), Option.bind_some, gn_iteP, if_pos c1, if_neg no10, in_v hv (by decide) (by decide), Option.bind_some, gn_iteP, hv, hw]
      by_cases d : -1 ≤ v ∧ v ≤ 4
      · rw [if_pos d, if_pos d, if_neg no10]
      · rw [if_neg d, if_neg d, if_pos rfl]
    have good : ∀ z : Int, (0 ≤ z ∧ z ≤ 60) → (-1 ≤ v ∧ v ≤ 4) → z = (if v = -1 then 0 else w) → ∀ o, o = ((f_X3_become (58 + 2 * ((k : Int)).toNat) v z σ).bind fun b5 => some ((1 : Int), b5.2)) → Agree o (f_X7_tape_J54 (k : Int) v w) := fun z hz hvv hzz o ho => by
      rw [ho, t1, i_become hz, Option.bind_some]
      refine ⟨1, _, _, rfl, ?_, Rel_become h hk hvv hz (fun e => by rw [hzz, if_pos e])⟩
      unfold f_X7_tape_J54 f_X7_tape_J76
      rw [hu, hv, gs_chk_t (by omega) (by omega), gs_chk_t (by omega) (by omega), t1, m_tapeL hk, m_tapeL hk, hzz]
      by_cases e : v = -1
      · rw [if_pos e, if_pos e]
      · rw [if_neg e, if_neg e, gs_chk_t (by omega) (by omega)]
    by_cases c2 : v = -1
    · rw [if_pos c2, gs_chk_t (by omega) (by omega)]
      obtain ⟨a, σ', σ'', q1, q2, q3⟩ := good 0 (by decide) (by omega) (by rw [if_pos c2]) _ rfl
      rw [c2] at q1
      refine ⟨a, σ', σ'', q1, ?_, q3⟩
      rw [hd, if_pos (by omega), if_pos c2]
      unfold f_X7_tape_J42
      rw [hv, if_pos c2, q2]
    · rw [if_neg c2]
      by_cases c3 : 0 ≤ v ∧ v ≤ 4
      · rw [if_neg (by omega), if_neg (by omega)]
        by_cases c4 : w ≤ 60
        · rw [if_pos c4]
          by_cases c5 : 0 ≤ w
          · rw [if_pos c5, gs_chk_t (by omega) (by omega)]
            obtain ⟨a, σ', σ'', q1, q2, q3⟩ := good w ⟨c5, c4⟩ (by omega) (by rw [if_neg c2]) _ rfl
            refine ⟨a, σ', σ'', q1, ?_, q3⟩
            rw [hd, if_pos (by omega), if_neg c2, if_pos c4]
            unfold f_X7_tape_J42
            rw [hv, hw, if_neg c2, if_pos c5, q2]
          · rw [if_neg c5]
            refine ⟨-14, σ, σ, rfl, ?_, h⟩
            rw [hd, if_pos (by omega), if_neg c2, if_pos c4]
            unfold f_X7_tape_J42
            rw [hv, hw, if_neg c2, if_neg c5]
        · rw [if_neg c4]
          refine ⟨-2, σ, σ, rfl, ?_, h⟩
          rw [hd, if_pos (by omega), if_neg c2, if_neg c4]
      · refine ⟨-2, σ, σ, ?_, ?_, h⟩
        · by_cases d : v < 0
          · rw [if_pos d]
          · rw [if_neg d, if_pos (by omega)]
        · rw [hd, if_neg (by omega)]
  · rw [if_neg c1, if_pos rfl]
    refine ⟨-1, σ, σ, rfl, ?_, h⟩
    unfold f_X7_tape
    rw [in_v hu (by decide) (by decide), Option.bind_some, gn_iteP, if_neg c1, if_pos rfl]
