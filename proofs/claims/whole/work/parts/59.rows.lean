/-! ===== see, plan, book ===== -/
theorem RwR_clear {σ : gs_Mem} {r b : Nat} {p : Nat → Int} : RwR (gs_st σ r 3 0) r b 0 p := ⟨gs_st_same _ _ _ _, fun k hk => absurd hk (by omega)⟩
/-- a row more: what the append does -/
theorem i_append {σ : gs_Mem} {r b : Nat} {cnt lim : Int} {p : Nat → Int} (hr : RwR σ r b cnt p) (hl : σ r 0 = lim) (hlim : lim ≤ 8) (hc : 0 ≤ cnt ∧ cnt ≤ lim) (v w : Int) :
    (cnt = lim → f_X1_append r v w σ = some (-4, σ)) ∧ (cnt < lim → ∃ σ', f_X1_append r v w σ = some (cnt + 1, σ') ∧ (∀ a, a ≠ r → a ≠ r + 1 → a ≠ r + 2 → σ' a = σ a) ∧ σ' r 0 = lim ∧ σ' r 3 = cnt + 1 ∧ (∀ k, σ' (r + 1) k = if k = cnt.toNat then v else σ (r + 1) k) ∧ (∀ k, σ' (r + 2) k = if k = cnt.toNat then w else σ (r + 2) k)) := by
  have z1 : r ≠ r + 1 := by omega
  have z2 : r ≠ r + 2 := by omega
  refine ⟨fun e => ?_, fun e => ?_⟩
  · unfold f_X1_append
    rw [hr.1, hl, if_neg (by rw [e]; omega)]
  · unfold f_X1_append
    simp only [gs_st_far _ _ _ _ z1, gs_st_far _ _ _ _ z2, gs_st_same]
    rw [hr.1, hl, gnS (by omega), gnS (by omega), if_pos e, gs_chk_t (by omega) (by omega), gs_chk_t (by omega) (by omega)]
    refine ⟨_, rfl, fun a h1 h2 h3 => ?_, ?_, gs_st_same _ _ _ _, fun k => ?_, fun k => ?_⟩
    · rw [gs_st_row _ _ _ _ h1, gs_st_row _ _ _ _ h3, gs_st_row _ _ _ _ h2]
    · rw [gs_st_slot _ _ _ _ (by decide), gs_st_far _ _ _ _ z2, gs_st_far _ _ _ _ z1, hl]
    · rw [gs_st_far (a := r + 1) _ _ _ _ (by omega), gs_st_far (a := r + 1) _ _ _ _ (by omega), gs_st_at]
      by_cases e : k = cnt.toNat
      · rw [if_pos ⟨rfl, e⟩, if_pos e]
      · rw [if_neg (fun z => e z.2), if_neg e]
    · rw [gs_st_far (a := r + 2) _ _ _ _ (by omega), gs_st_at, gs_st_far (a := r + 2) _ _ _ _ (by omega)]
      by_cases e : k = cnt.toNat
      · rw [if_pos ⟨rfl, e⟩, if_pos e]
      · rw [if_neg (fun z => e z.2), if_neg e]
/-- the reference's row with a row more -/
def rwP (p : Nat → Int) (j b : Nat) (v w : Int) : Nat → Int := rs (rs (rs p (b + 2 * (p j).toNat) v) (b + 1 + 2 * (p j).toNat) w) j (p j + 1)
theorem rwP_j (p : Nat → Int) (j b : Nat) (v w : Int) : rwP p j b v w j = p j + 1 := rs_same _ _ _
theorem rwP_ne (p : Nat → Int) (j b : Nat) (v w : Int) {i : Nat} (h : i ≠ j ∧ i ≠ b + 2 * (p j).toNat ∧ i ≠ b + 1 + 2 * (p j).toNat) : rwP p j b v w i = p i := by
  unfold rwP
  rw [rs_ne _ _ _ h.1, rs_ne _ _ _ h.2.2, rs_ne _ _ _ h.2.1]
theorem rwP_new (p : Nat → Int) (j b : Nat) (v w : Int) (hj : j < b) : rwP p j b v w (b + 2 * (p j).toNat) = v ∧ rwP p j b v w (b + 1 + 2 * (p j).toNat) = w := by
  unfold rwP
  refine ⟨?_, ?_⟩
  · rw [rs_ne _ _ _ (by omega), rs_ne _ _ _ (by omega), rs_same]
  · rw [rs_ne _ _ _ (by omega), rs_same]
theorem RwR_app {σ' : gs_Mem} {σ : gs_Mem} {r b j : Nat} {p : Nat → Int} (hj : j < b) (hr : RwR σ r b (p j) p) (h0 : 0 ≤ p j) {v w : Int} (e3 : σ' r 3 = p j + 1) (e1 : ∀ k, σ' (r + 1) k = if k = (p j).toNat then v else σ (r + 1) k) (e2 : ∀ k, σ' (r + 2) k = if k = (p j).toNat then w else σ (r + 2) k) : RwR σ' r b (rwP p j b v w j) (rwP p j b v w) := by
  obtain ⟨n1, n2⟩ := rwP_new p j b v w hj
  unfold RwR
  rw [rwP_j]
  refine ⟨e3, fun k hk => ?_⟩
  rw [e1, e2]
  by_cases e : k = (p j).toNat
  · rw [if_pos e, if_pos e, e, n1, n2]; exact ⟨rfl, rfl⟩
  · rw [if_neg e, if_neg e, rwP_ne p j b v w (by omega), rwP_ne p j b v w (by omega)]
    exact hr.2 k (by omega)
theorem RwR_oth {σ : gs_Mem} {r b : Nat} {cnt : Int} {p q : Nat → Int} (h : RwR σ r b cnt p) (e : ∀ k : Nat, (k : Int) < cnt → q (b + 2 * k) = p (b + 2 * k) ∧ q (b + 1 + 2 * k) = p (b + 1 + 2 * k)) : RwR σ r b cnt q := by
  refine ⟨h.1, fun k hk => ?_⟩
  rw [(e k hk).1, (e k hk).2]
  exact h.2 k hk
/-- the rows' part of the row changed: nothing else depends on it -/
def keepS (p q : Nat → Int) : Prop := ∀ i, (i = 0 ∨ (4 ≤ i ∧ i < 42)) → q i = p i
theorem keepS_geo {p q : Nat → Int} (k : keepS p q) : geo p q := ⟨k 0 (by omega), fun s hs => ⟨k _ (by omega), k _ (by omega)⟩, fun t ht => ⟨k _ (by omega), k _ (by omega)⟩⟩
theorem keepS_WF {p q : Nat → Int} (k : keepS p q) (h : WF p) : WF q := by
  have h8 := h.n8
  refine geo_WF (keepS_geo k) h (fun s hs => ?_)
  rw [k _ (by omega), k _ (by omega)]
  exact ⟨h.c hs, h.f hs, h.fc hs⟩
theorem keepS_PlR {σ : gs_Mem} {r : Nat} {p q : Nat → Int} (k : keepS p q) (h : WF p) (hp : PlR σ r p) : PlR σ r q := by
  have h8 := h.n8
  have g := keepS_geo k
  obtain ⟨q1, q2, q3, q4, m, q5, q6, q7⟩ := hp
  unfold PlR PlG
  rw [geo_nS g, geo_Ap g h]
  refine ⟨⟨q1.1, fun s hs => ?_, fun t ht => ?_⟩, fun s hs => ?_, q3, q4, m, q5, q6, fun s => ?_⟩
  · rw [k _ (by omega), k _ (by omega)]; exact q1.2.1 s hs
  · rw [k _ (by omega), k _ (by omega)]; exact q1.2.2 t ht
  · rw [k _ (by omega)]; exact q2 s hs
  · rw [q7 s]
    unfold Fx
    rw [geo_nS g]
    by_cases c : s < nS p
    · rw [k _ (by omega)]
    · rw [decide_eq_false c]; rfl
theorem keepS_Ch {p q : Nat → Int} (k : keepS p q) (h : WF p) : Ch q = Ch p := by
  have h8 := h.n8
  funext s
  unfold Ch
  rw [geo_nS (keepS_geo k)]
  by_cases c : s < nS p
  · rw [if_pos c, if_pos c, k _ (by omega)]
  · rw [if_neg c, if_neg c]
theorem rwP_keepS {p : Nat → Int} {j b : Nat} (v w : Int) (hj : j = 1 ∨ j = 2 ∨ j = 3) (hb : 42 ≤ b) : keepS p (rwP p j b v w) := fun i hi => rwP_ne p j b v w (by omega)
theorem rs_keepS {p : Nat → Int} {j : Nat} (x : Int) (hj : j = 1 ∨ j = 2 ∨ j = 3) : keepS p (rs p j x) := fun i hi => rs_ne _ _ _ (by omega)
/-- the rows changed on both sides -/
theorem Rel_rows {σ σ' : gs_Mem} {q : Nat → Int} (h : Rel σ) (e : ∀ c, (c < 11 ∨ 19 < c) → σ' c = σ c) (k : keepS (σ 71) q) (hF : WFr q) (hR : Rws σ' 1 q) (hl : σ' 11 0 = 5 ∧ σ' 14 0 = 8 ∧ σ' 17 0 = 8) : Rel (rw_ σ' 71 q) := by
  obtain ⟨hA, hB, hC, hD, hE⟩ := h
  have kk : ∀ c, (c < 11 ∨ 19 < c) → c ≠ 71 → rw_ σ' 71 q c = σ c := fun c hc h71 => by rw [rw_ne _ _ _ h71, e c hc]
  refine ⟨?_, ?_, ?_, ?_, ?_⟩
  · unfold RA
    rw [rw_same]
    refine ⟨keepS_WF k hA.1, keepS_PlR k hA.1 (PlR_keep hA.2 (fun c h1 h2 => kk c (by omega) (by omega)))⟩
  · unfold RB
    rw [rw_same, rw_ne _ _ _ (show (11 : Nat) ≠ 71 by decide), rw_ne _ _ _ (show (14 : Nat) ≠ 71 by decide), rw_ne _ _ _ (show (17 : Nat) ≠ 71 by decide)]
    exact ⟨hF, Rws_keep hR (fun c h1 h2 => rw_ne _ _ _ (by omega)), hl⟩
  · exact RC_keep hC (by rw [kk 0 (by decide) (by decide)]) (by rw [kk 70 (by decide) (by decide)]) (kk 73 (by decide) (by decide)) (fun c h1 h2 => kk c (by omega) (by omega))
  · exact RD_keep hD (by rw [kk 70 (by decide) (by decide)]) (by rw [kk 51 (by decide) (by decide)]) (kk 52 (by decide) (by decide)) (kk 74 (by decide) (by decide))
  · exact RE_keep hE (fun c h1 h2 => kk c (by omega) (by omega)) (kk 76 (by decide) (by decide)) (kk 77 (by decide) (by decide)) (kk 78 (by decide) (by decide))
