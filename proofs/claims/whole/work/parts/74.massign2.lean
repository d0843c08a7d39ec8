/-- rows that differ in channels only -/
def chr (p q : Nat → Int) : Prop := ∀ i, (∀ s, s < 8 → i ≠ 6 + 4 * s) → q i = p i
theorem chr_refl (p : Nat → Int) : chr p p := fun _ _ => rfl
theorem chr_trans {p q r : Nat → Int} (h1 : chr p q) (h2 : chr q r) : chr p r := fun i hi => (h2 i hi).trans (h1 i hi)
theorem chr_rs (p : Nat → Int) {s : Nat} (hs : s < 8) (x : Int) : chr p (rs p (6 + 4 * s) x) := fun i hi => rs_ne _ _ _ (hi s hs)
theorem chr_geo {p q : Nat → Int} (h : chr p q) : geo p q := ⟨h 0 (fun s _ => by omega), fun t ht => ⟨h _ (fun s _ => by omega), h _ (fun s _ => by omega)⟩, fun t ht => ⟨h _ (fun s _ => by omega), h _ (fun s _ => by omega)⟩⟩
theorem chr_rest {p q : Nat → Int} (h : chr p q) : rest p q := fun i hi => h i (fun s _ => by omega)
theorem chr_f {p q : Nat → Int} (h : chr p q) (t : Nat) : q (7 + 4 * t) = p (7 + 4 * t) := h _ (fun s _ => by omega)
theorem chr_Fx {p q : Nat → Int} (h : chr p q) : Fx q = Fx p := by
  funext t
  unfold Fx
  rw [geo_nS (chr_geo h), chr_f h t]
theorem chr_Ap {p q : Nat → Int} (h : chr p q) (hW : WF p) : Ap q = Ap p := geo_Ap (chr_geo h) hW
theorem Ch_rs {p : Nat → Int} {s : Nat} (hs : s < nS p) (x : Int) : Ch (rs p (6 + 4 * s) x) = up (Ch p) s x := by
  funext t
  unfold Ch up
  rw [show nS (rs p (6 + 4 * s) x) = nS p by unfold nS; rw [rs_ne _ _ _ (by omega)], rs_at]
  by_cases e : t = s
  · rw [if_pos e, if_pos (by omega), if_pos (by omega)]
  · rw [if_neg e]
    show _ = if t < nS p then p (6 + 4 * t) else -1
    by_cases c : t < nS p
    · rw [if_pos c, if_pos c, if_neg (by omega)]
    · rw [if_neg c, if_neg c]
theorem WF_rs {p : Nat → Int} (h : WF p) {s : Nat} (hs : s < nS p) {x : Int} (hx : -1 ≤ x ∧ x ≤ 19) (hf : Fx p s = true → 0 ≤ x) : WF (rs p (6 + 4 * s) x) := by
  have h8 := h.n8
  refine geo_WF (chr_geo (chr_rs p (by omega) x)) h (fun t ht => ?_)
  rw [rs_at, rs_ne _ _ _ (show 7 + 4 * t ≠ 6 + 4 * s by omega)]
  by_cases e : t = s
  · rw [if_pos (by omega)]
    refine ⟨hx, h.f ht, fun q => hf ?_⟩
    rw [Fx_lt hs, ← e, decide_eq_true q]
  · rw [if_neg (by omega)]
    exact ⟨h.c ht, h.f ht, h.fc ht⟩
def clr (p : Nat → Int) (s : Nat) : Int := if Fx p s then Ch p s else -1
/-- the row with the channels of the unfixed among the first k taken away -/
def clrR (p : Nat → Int) : Nat → Nat → Int
  | 0 => p
  | k + 1 => if Fx p k then clrR p k else rs (clrR p k) (6 + 4 * k) (-1)
theorem clrR_s (p : Nat → Int) (k : Nat) : clrR p (k + 1) = if Fx p k then clrR p k else rs (clrR p k) (6 + 4 * k) (-1) := rfl
theorem clrR_ok {p : Nat → Int} (h : WF p) : ∀ k, k ≤ nS p → chr p (clrR p k) ∧ WF (clrR p k) ∧ Ch (clrR p k) = fun s => if s < k ∧ Fx p s = false then -1 else Ch p s
  | 0, _ => ⟨chr_refl p, h, funext fun s => (if_neg (fun e => absurd e.1 (Nat.not_lt_zero s))).symm⟩
  | k + 1, hk => by
    have h8 := h.n8
    obtain ⟨i1, i2, i3⟩ := clrR_ok h k (by omega)
    rw [clrR_s]
    cases c : Fx p k with
    | true =>
      rw [if_pos rfl]
      refine ⟨i1, i2, ?_⟩
      rw [i3]
      funext s
      by_cases e : s = k
      · rw [e, if_neg (by omega), if_neg (by rw [c]; exact fun z => by cases z.2)]
      · by_cases d : s < k ∧ Fx p s = false
        · rw [if_pos d, if_pos ⟨by omega, d.2⟩]
        · rw [if_neg d, if_neg (fun z => d ⟨by omega, z.2⟩)]
    | false =>
      rw [if_neg (by decide)]
      have hn : nS (clrR p k) = nS p := geo_nS (chr_geo i1)
      refine ⟨chr_trans i1 (chr_rs _ (by omega) _), WF_rs i2 (by omega) (by decide) (fun q => ?_), ?_⟩
      · rw [chr_Fx i1, c] at q; cases q
      · rw [Ch_rs (by omega), i3]
        funext s
        unfold up
        by_cases e : s = k
        · rw [if_pos e, if_pos ⟨by omega, e ▸ c⟩]
        · rw [if_neg e]
          show (if s < k ∧ Fx p s = false then -1 else Ch p s) = _
          by_cases d : s < k ∧ Fx p s = false
          · rw [if_pos d, if_pos ⟨by omega, d.2⟩]
          · rw [if_neg d, if_neg (fun z => d ⟨by omega, z.2⟩)]
theorem clrR_Ch {p : Nat → Int} (h : WF p) : Ch (clrR p (nS p)) = clr p := by
  rw [(clrR_ok h (nS p) (Nat.le_refl _)).2.2]
  funext s
  unfold clr
  by_cases c : s < nS p
  · cases e : Fx p s with
    | true => rw [if_neg (fun z => by cases z.2), if_pos rfl]
    | false => rw [if_pos ⟨c, rfl⟩, if_neg (by decide)]
  · rw [if_neg (fun z => c z.1)]
    unfold Ch
    rw [if_neg c]
    split <;> rfl
theorem m_clearL {σ : gs_Mem} (h : WF (σ 71)) (K : gs_Mem → Option (Int × gs_Mem)) : f_X7_assigned_L2 K gs_fuel 0 σ = K (rw_ σ 71 (clrR (σ 71) (nS (σ 71)))) := by
  have h8 := h.n8
  refine loop0 (fun m k (s : gs_Mem) => f_X7_assigned_L2 K m (k : Int) s) (fun k s => s = rw_ σ 71 (clrR (σ 71) k)) (fun q => q = K (rw_ σ 71 (clrR (σ 71) (nS (σ 71))))) (nS (σ 71)) σ (by omega) ?_ ?_ (rw_self _ _).symm
  · intro m k s hk hs
    subst hs
    obtain ⟨i1, i2, -⟩ := clrR_ok h k (by omega)
    have hn : nS (clrR (σ 71) k) = nS (σ 71) := geo_nS (chr_geo i1)
    have i2' : WF (rw_ σ 71 (clrR (σ 71) k) 71) := by rw [rw_same]; exact i2
    refine Or.inr ⟨rw_ σ 71 (clrR (σ 71) (k + 1)), ?_, rfl⟩
    rw [f_X7_assigned_L2, m_fixed i2' (by rw [rw_same]; omega), rw_same, gs_chk_t (by decide) (by decide), i2.n0, hn, gnN (by omega), gnN (by omega), if_neg (by omega), Option.bind_some, gn_ite1, m_has (by omega), Option.bind_some, chr_Fx i1, clrR_s]
    unfold f_X7_assigned_J26
    cases Fx (σ 71) k with
    | true => rw [if_neg (show ¬ (if true = true then (1 : Int) else 0) = 0 by decide), if_pos (show true = true from rfl)]; rfl
    | false =>
      rw [if_pos (show (if false = true then (1 : Int) else 0) = 0 from rfl), if_neg (show ¬ false = true by decide)]
      dsimp only
      rw [gs_st_rw, rw_same, rw_rw]; rfl
  · intro m s hs
    subst hs
    obtain ⟨i1, i2, -⟩ := clrR_ok h (nS (σ 71)) (Nat.le_refl _)
    have hn : nS (clrR (σ 71) (nS (σ 71))) = nS (σ 71) := geo_nS (chr_geo i1)
    rw [f_X7_assigned_L2, rw_same, gs_chk_t (by decide) (by decide), i2.n0, hn, gnN (by omega), if_pos (Int.le_refl _)]
