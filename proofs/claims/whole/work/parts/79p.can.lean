/-! ===== the reference's search ===== -/
def Ext (n : Nat) (c : Nat → Int) (A : Nat → Nat → Int) (w : Nat) : Prop := ∃ f : Nat → Nat, (∀ s, s < n → 0 ≤ c s → (f s : Int) = c s) ∧ (∀ s, s < n → c s < 0 → f s < w) ∧ ∀ s t, s < n → t < n → (c s < 0 ∨ c t < 0) → A s t ≤ ab ((f s : Int) - (f t : Int))
theorem Ext_done {n : Nat} {c : Nat → Int} {A : Nat → Nat → Int} {w : Nat} (h : ∀ s, s < n → 0 ≤ c s) : Ext n c A w :=
  ⟨fun s => (c s).toNat, fun s hs _ => by have := h s hs; show ((c s).toNat : Int) = c s; omega, fun s hs q => by have := h s hs; omega, fun s t hs ht q => by have := h s hs; have := h t ht; omega⟩
theorem Ext_step {n : Nat} {c : Nat → Int} {A : Nat → Nat → Int} (hg : RgA n c A) {w x : Nat} (hx : x < n) (hc : c x < 0) : Ext n c A w ↔ ∃ k, k < w ∧ alw n c A x (k : Int) = true ∧ Ext n (up c x (k : Int)) A w := by
  have ux : ∀ k : Nat, up c x (k : Int) x = (k : Int) := fun k => if_pos rfl
  have un : ∀ (k t : Nat), t ≠ x → up c x (k : Int) t = c t := fun k t h => if_neg h
  constructor
  · rintro ⟨f, h1, h2, h3⟩
    refine ⟨f x, h2 x hx hc, ?_, f, fun s hs q => ?_, fun s hs q => ?_, fun s t hs ht q => ?_⟩
    · rw [alw_lt, aN_iff]
      intro t ht
      by_cases q : c t < 0
      · rw [decide_eq_true q]; rfl
      · have := h3 x t hx ht (Or.inl hc)
        rw [h1 t ht (by omega), ab_comm] at this
        rw [decide_eq_true this, Bool.or_true]
    · by_cases e : s = x
      · rw [e, ux]
      · rw [un _ _ e] at q ⊢; exact h1 s hs q
    · by_cases e : s = x
      · rw [e, ux] at q; omega
      · rw [un _ _ e] at q; exact h2 s hs q
    · refine h3 s t hs ht ?_
      rcases q with q | q
      · by_cases e : s = x
        · rw [e, ux] at q; omega
        · rw [un _ _ e] at q; exact Or.inl q
      · by_cases e : t = x
        · rw [e, ux] at q; omega
        · rw [un _ _ e] at q; exact Or.inr q
  · rintro ⟨k, hk, ha, f, h1, h2, h3⟩
    have fx : (f x : Int) = (k : Int) := by
      have := h1 x hx (by rw [ux]; omega)
      rw [ux] at this; exact this
    have al : ∀ t, t < n → 0 ≤ c t → A x t ≤ ab (c t - (k : Int)) := fun t ht q => by
      rw [alw_lt, aN_iff] at ha
      have := ha t ht
      rw [decide_eq_false (by omega : ¬ c t < 0), Bool.false_or, decide_eq_true_eq] at this
      exact this
    -- x against any other
    have xs : ∀ t, t < n → t ≠ x → A x t ≤ ab ((f x : Int) - (f t : Int)) := fun t ht e => by
      by_cases q : c t < 0
      · exact h3 x t hx ht (Or.inr (by rw [un _ _ e]; exact q))
      · have := h1 t ht (by rw [un _ _ e]; omega)
        rw [un _ _ e] at this
        rw [this, fx, ab_comm]
        exact al t ht (by omega)
    refine ⟨f, fun s hs q => ?_, fun s hs q => ?_, fun s t hs ht q => ?_⟩
    · have e : s ≠ x := fun e => by rw [e] at q; omega
      have := h1 s hs (by rw [un _ _ e]; exact q)
      rw [un _ _ e] at this; exact this
    · by_cases e : s = x
      · rw [e]; omega
      · exact h2 s hs (by rw [un _ _ e]; exact q)
    · by_cases e1 : s = x
      · by_cases e2 : t = x
        · rw [e1, e2, hg.2.2.2.1 x]
          unfold ab
          split <;> omega
        · rw [e1]; exact xs t ht e2
      · by_cases e2 : t = x
        · rw [e2, hg.2.2.2.2 s x, ab_comm]; exact xs s hs e1
        · refine h3 s t hs ht ?_
          rw [un _ _ e1, un _ _ e2]; exact q
theorem rs_rs (p : Nat → Int) (j : Nat) (x y : Int) : rs (rs p j x) j y = rs p j y := by
  funext i
  simp only [rs_at]
  by_cases c : i = j
  · rw [if_pos c, if_pos c]
  · rw [if_neg c, if_neg c, if_neg c]
/-- who is next in the search -/
theorem m_canL8 {σ : gs_Mem} (h : WF (σ 71)) {w : Nat} (hw : w ≤ 12) (rcf : Int → gs_Mem → Option (Int × gs_Mem)) (K : Int → Int → gs_Mem → Option (Int × gs_Mem)) : ∃ v2 v3 : Int, f_X7_can_L8 rcf (w : Int) K gs_fuel (-1) 99 0 σ = K v2 v3 σ ∧ ((v2 = -1 ∧ ∀ s, s < nS (σ 71) → 0 ≤ Ch (σ 71) s) ∨ ∃ s, s < nS (σ 71) ∧ v2 = (s : Int) ∧ Ch (σ 71) s < 0 ∧ v3 = ((alC (nS (σ 71)) (Ch (σ 71)) (Ap (σ 71)) s w : Nat) : Int)) := by
  have h8 := h.n8
  have hn := h.n0
  refine loop0 (fun m k (a : Int × Int) => f_X7_can_L8 rcf (w : Int) K m a.1 a.2 (k : Int) σ) (fun k a => (a.1 = -1 ∧ a.2 = 99 ∧ ∀ s, s < k → 0 ≤ Ch (σ 71) s) ∨ ∃ s, s < k ∧ a.1 = (s : Int) ∧ Ch (σ 71) s < 0 ∧ a.2 = ((alC (nS (σ 71)) (Ch (σ 71)) (Ap (σ 71)) s w : Nat) : Int)) (fun q => ∃ v2 v3 : Int, q = K v2 v3 σ ∧ ((v2 = -1 ∧ ∀ s, s < nS (σ 71) → 0 ≤ Ch (σ 71) s) ∨ ∃ s, s < nS (σ 71) ∧ v2 = (s : Int) ∧ Ch (σ 71) s < 0 ∧ v3 = ((alC (nS (σ 71)) (Ch (σ 71)) (Ap (σ 71)) s w : Nat) : Int))) (nS (σ 71)) (-1, 99) (by omega) ?_ ?_ (Or.inl ⟨rfl, rfl, fun s hs => absurd hs (Nat.not_lt_zero s)⟩)
  · intro m k a hk ha
    obtain ⟨v2, v3⟩ := a
    have ha : (v2 = -1 ∧ v3 = 99 ∧ ∀ s, s < k → 0 ≤ Ch (σ 71) s) ∨ ∃ s, s < k ∧ v2 = (s : Int) ∧ Ch (σ 71) s < 0 ∧ v3 = ((alC (nS (σ 71)) (Ch (σ 71)) (Ap (σ 71)) s w : Nat) : Int) := ha
    have r1 := Ch_rng h k
    refine Or.inr ?_
    dsimp only
    rw [f_X7_can_L8, gs_chk_t (by decide) (by decide), hn, gnN (by omega), gnN (by omega), if_neg (by omega), m_ch h hk, Option.bind_some, gnS (x := Ch (σ 71) k) (by omega)]
    unfold f_X7_can_J49 f_X7_can_J57
    by_cases c1 : 0 ≤ Ch (σ 71) k
    · rw [if_pos c1]
      refine ⟨(v2, v3), rfl, ?_⟩
      rcases ha with ⟨h1, h2, h3⟩ | ⟨s, h1, h2, h3, h4⟩
      · refine Or.inl ⟨h1, h2, fun s hs => ?_⟩
        by_cases e : s = k
        · rw [e]; exact c1
        · exact h3 s (by omega)
      · exact Or.inr ⟨s, by omega, h2, h3, h4⟩
    · have ew := m_allowed h hk (w := w) (by omega)
      have lk := alC_le (nS (σ 71)) (Ch (σ 71)) (Ap (σ 71)) k w
      rw [if_neg c1, ew, Option.bind_some, gnN (k := alC (nS (σ 71)) (Ch (σ 71)) (Ap (σ 71)) k w) (by omega)]
      rcases ha with ⟨h1, h2, h3⟩ | ⟨s, h1, h2, h3, h4⟩
      · rw [h2, show gn 99 = 99 by decide +kernel, if_neg (by omega), gminE (by decide) (by omega), if_pos (by omega)]
        exact ⟨((k : Int), ((alC (nS (σ 71)) (Ch (σ 71)) (Ap (σ 71)) k w : Nat) : Int)), rfl, Or.inr ⟨k, by omega, rfl, by omega, rfl⟩⟩
      · have ls := alC_le (nS (σ 71)) (Ch (σ 71)) (Ap (σ 71)) s w
        rw [h4, gnN (k := alC (nS (σ 71)) (Ch (σ 71)) (Ap (σ 71)) s w) (by omega), gminE (by omega) (by omega)]
        by_cases c2 : ((alC (nS (σ 71)) (Ch (σ 71)) (Ap (σ 71)) s w : Nat) : Int) ≤ ((alC (nS (σ 71)) (Ch (σ 71)) (Ap (σ 71)) k w : Nat) : Int)
        · rw [if_pos c2, if_neg (by omega)]
          exact ⟨(v2, ((alC (nS (σ 71)) (Ch (σ 71)) (Ap (σ 71)) s w : Nat) : Int)), rfl, Or.inr ⟨s, by omega, h2, h3, rfl⟩⟩
        · rw [if_neg c2, if_pos (by omega)]
          exact ⟨((k : Int), ((alC (nS (σ 71)) (Ch (σ 71)) (Ap (σ 71)) k w : Nat) : Int)), rfl, Or.inr ⟨k, by omega, rfl, by omega, rfl⟩⟩
  · intro m a ha
    obtain ⟨v2, v3⟩ := a
    have ha : (v2 = -1 ∧ v3 = 99 ∧ ∀ s, s < nS (σ 71) → 0 ≤ Ch (σ 71) s) ∨ ∃ s, s < nS (σ 71) ∧ v2 = (s : Int) ∧ Ch (σ 71) s < 0 ∧ v3 = ((alC (nS (σ 71)) (Ch (σ 71)) (Ap (σ 71)) s w : Nat) : Int) := ha
    refine ⟨v2, v3, ?_, ?_⟩
    · dsimp only
      rw [f_X7_can_L8, gs_chk_t (by decide) (by decide), hn, gnN (by omega), if_pos (Int.le_refl _)]
    · rcases ha with ⟨h1, h2, h3⟩ | h1
      · exact Or.inl ⟨h1, h3⟩
      · exact Or.inr h1
theorem m_can {w : Nat} (hw : w ≤ 12) : ∀ (D : Nat) (σ : gs_Mem), WF (σ 71) → cN (fun s => decide (Ch (σ 71) s < 0)) (nS (σ 71)) < D → ∃ b : Int, f_X7_can D (w : Int) σ = some (b, σ) ∧ ((b = 1 ∧ Ext (nS (σ 71)) (Ch (σ 71)) (Ap (σ 71)) w) ∨ (b = 0 ∧ ¬ Ext (nS (σ 71)) (Ch (σ 71)) (Ap (σ 71)) w))
  | 0, _, _, h => absurd h (Nat.not_lt_zero _)
  | D + 1, σ, h, hD => by
    have h8 := h.n8
    rw [f_X7_can]
    unfold f_X7_can_body
    obtain ⟨v2, v3, a1, a2⟩ := m_canL8 h hw (f_X7_can D) (fun w2 w3 σ3 => if 0 ≤ (gn w2) then f_X7_can_L72 (f_X7_can D) (w : Int) w2 w3 gs_fuel 0 σ3 else some (1, σ3))
    rw [a1]
    rcases a2 with ⟨rfl, a2⟩ | ⟨x, hx, rfl, hcx, rfl⟩
    · rw [if_neg (by decide +kernel)]
      exact ⟨1, rfl, Or.inl ⟨rfl, Ext_done a2⟩⟩
    · have lx := alC_le (nS (σ 71)) (Ch (σ 71)) (Ap (σ 71)) x w
      have r1 := Ch_rng h x
      have st := Ext_step h.rg (w := w) hx hcx
      have px : σ 71 (6 + 4 * x) = -1 := by rw [← Ch_lt hx]; omega
      rw [gnN (k := x) (by omega), if_pos (by omega)]
      refine loop0 (fun m k (_ : Unit) => f_X7_can_L72 (f_X7_can D) (w : Int) (x : Int) ((alC (nS (σ 71)) (Ch (σ 71)) (Ap (σ 71)) x w : Nat) : Int) m (k : Int) σ) (fun k _ => ∀ j, j < k → ¬ (alw (nS (σ 71)) (Ch (σ 71)) (Ap (σ 71)) x (j : Int) = true ∧ Ext (nS (σ 71)) (up (Ch (σ 71)) x (j : Int)) (Ap (σ 71)) w)) (fun q => ∃ b : Int, q = some (b, σ) ∧ ((b = 1 ∧ Ext (nS (σ 71)) (Ch (σ 71)) (Ap (σ 71)) w) ∨ (b = 0 ∧ ¬ Ext (nS (σ 71)) (Ch (σ 71)) (Ap (σ 71)) w))) w () (by omega) ?_ ?_ (fun j hj => absurd hj (Nat.not_lt_zero j))
      · intro m k _ hk hv
        rw [f_X7_can_L72, gnN (k := w) (by omega), gnN (k := k) (by omega), if_neg (by omega), gnN (k := alC (nS (σ 71)) (Ch (σ 71)) (Ap (σ 71)) x w) (by omega)]
        by_cases c0 : ((alC (nS (σ 71)) (Ch (σ 71)) (Ap (σ 71)) x w : Nat) : Int) ≤ 0
        · rw [if_pos c0]
          refine Or.inl ⟨0, rfl, Or.inr ⟨rfl, fun e => ?_⟩⟩
          obtain ⟨j, j1, j2, -⟩ := st.mp e
          have := cN_zero_iff (f := fun k => alw (nS (σ 71)) (Ch (σ 71)) (Ap (σ 71)) x (k : Int)) (n := w) (show alC (nS (σ 71)) (Ch (σ 71)) (Ap (σ 71)) x w = 0 by omega) j j1
          rw [j2] at this; cases this
        · rw [if_neg c0, m_isAllowed h hx (c := (k : Int)) (by omega), Option.bind_some, gn_ite1]
          unfold f_X7_can_J119
          have next : (¬ (alw (nS (σ 71)) (Ch (σ 71)) (Ap (σ 71)) x (k : Int) = true ∧ Ext (nS (σ 71)) (up (Ch (σ 71)) x (k : Int)) (Ap (σ 71)) w)) → ∀ j, j < k + 1 → ¬ (alw (nS (σ 71)) (Ch (σ 71)) (Ap (σ 71)) x (j : Int) = true ∧ Ext (nS (σ 71)) (up (Ch (σ 71)) x (j : Int)) (Ap (σ 71)) w) := fun z j hj => by
            by_cases e : j = k
            · rw [e]; exact z
            · exact hv j (by omega)
          cases ca : alw (nS (σ 71)) (Ch (σ 71)) (Ap (σ 71)) x (k : Int) with
          | false =>
            rw [if_pos (show (if false = true then (1 : Int) else 0) = 0 from rfl)]
            exact Or.inr ⟨(), rfl, next (fun z => by rw [ca] at z; cases z.1)⟩
          | true =>
            have hc := chr_rs (σ 71) (show x < 8 by omega) (k : Int)
            have hW' : WF (rs (σ 71) (6 + 4 * x) (k : Int)) := WF_rs h hx (by omega) (fun _ => by omega)
            have hn' := geo_nS (chr_geo hc)
            have hA' := chr_Ap hc h
            have hC' := Ch_rs hx (k : Int)
            have cnt : cN (fun s => decide (up (Ch (σ 71)) x (k : Int) s < 0)) (nS (σ 71)) + 1 = cN (fun s => decide (Ch (σ 71) s < 0)) (nS (σ 71)) := cN_drop (s := x) (decide_eq_true hcx) (by unfold up; rw [if_pos rfl]; exact decide_eq_false (by omega)) (fun t ht => by unfold up; rw [if_neg ht]) _ hx
            obtain ⟨b, b1, b2⟩ := m_can hw D (rw_ σ 71 (rs (σ 71) (6 + 4 * x) (k : Int))) (by rw [rw_same]; exact hW') (by rw [rw_same, hn', hC']; omega)
            rw [rw_same, hn', hA', hC'] at b2
            have back : gs_st (rw_ σ 71 (rs (σ 71) (6 + 4 * x) (k : Int))) 71 (6 + 4 * x) (-1) = σ := by
              rw [gs_st_rw, rw_same, rw_rw, rs_rs, ← px, rs_self, rw_self]
            rw [if_neg (show ¬ (if true = true then (1 : Int) else 0) = 0 by decide), m_has (by omega), Option.bind_some]
            dsimp only
            rw [gs_st_rw, b1, Option.bind_some]
            dsimp only
            rw [m_has (by omega), Option.bind_some]
            dsimp only
            rw [back]
            rcases b2 with ⟨rfl, z⟩ | ⟨rfl, z⟩
            · rw [if_neg (by rw [gn_1]; decide)]
              exact Or.inl ⟨1, rfl, Or.inl ⟨rfl, st.mpr ⟨k, hk, ca, z⟩⟩⟩
            · rw [if_pos gn_0]
              exact Or.inr ⟨(), rfl, next (fun y => z y.2)⟩
      · intro m _ hv
        rw [f_X7_can_L72, gnN (k := w) (by omega), if_pos (Int.le_refl _)]
        refine ⟨0, rfl, Or.inr ⟨rfl, fun e => ?_⟩⟩
        obtain ⟨j, j1, j2, j3⟩ := st.mp e
        exact hv j j1 ⟨j2, j3⟩
