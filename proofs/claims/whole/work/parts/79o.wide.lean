/-! ===== wide enough; the least width, on the plane's side ===== -/
/-- what a station may have within a width: its own channel, if it is fixed -/
def lC (p : Nat → Int) (w s j : Nat) : Bool := decide (j < w) && (!Fx p s || decide ((j : Int) = Ch p s))
def Col (p : Nat → Int) (w : Nat) : Prop := Seat (nS p) (Ap p) (fun _ => true) (lC p w)
theorem PlR_50 {σ τ : gs_Mem} {p : Nat → Int} (hp : PlR σ 2 p) {b : Nat} (h : Fr50 σ τ b) : PlR τ 2 p := PlR_keep hp (fun c h1 h2 => h.1 c (by omega))
theorem i_wide {σ : gs_Mem} {p : Nat → Int} (hp : PlR σ 2 p) (h : WF p) (hn : 0 < nS p) {w : Nat} (hw : 1 ≤ w ∧ w ≤ 12) : ∃ (b : Int) (τ : gs_Mem), f_X5_isWideEnough 2 (w : Int) σ = some (b, τ) ∧ Fr50 σ τ 0 ∧ ((b = 1 ∧ Col p w) ∨ (b = 0 ∧ ¬ Col p w)) := by
  have h8 := h.n8
  have hpw : 2 ^ w ≤ 4096 := Nat.pow_le_pow_right (by decide) (show w ≤ 12 by omega)
  have hpw0 : 1 < 2 ^ w := Nat.one_lt_two_pow (by omega)
  have ev : gshl 1 (w : Int) - 1 = ((2 ^ w - 1 : Nat) : Int) := by
    rw [gshl_one _ (by omega)]; omega
  unfold f_X5_isWideEnough
  rw [ev]
  refine loop0 (fun m k (τ : gs_Mem) => f_X5_isWideEnough_L9 2 ((2 ^ w - 1 : Nat) : Int) (fun σ6 =>
    (f_X0_size 2 σ6).bind fun u7 =>
    (f_X5_areSeated 12 2 ((gshl 1 u7) - 1) 0 σ6).bind fun b8 =>
    gs_chkz (gn b8.1) (some (b8.1, b8.2))) m (k : Int) τ) (fun k τ => Fr50 σ τ 0 ∧ ∀ s, s < k → ∃ M : Nat, τ 50 s = (M : Int) ∧ M < 4096 ∧ ∀ j, M.testBit j = lC p w s j) (fun q => ∃ (b : Int) (τ : gs_Mem), q = some (b, τ) ∧ Fr50 σ τ 0 ∧ ((b = 1 ∧ Col p w) ∨ (b = 0 ∧ ¬ Col p w))) (nS p) σ (by omega) ?_ ?_ ⟨Fr50.refl _ _, fun s hs => absurd hs (Nat.not_lt_zero s)⟩
  · intro m k τ hk ⟨e1, e2⟩
    have hpτ := PlR_50 hp e1
    have hc := Ch_rng h k
    rw [f_X5_isWideEnough_L9, i_size (hpτ.pa h), Option.bind_some, gnN (by omega), gnN (by omega), if_neg (by omega), i_fixed hpτ h hk, Option.bind_some, gn_ite1]
    unfold f_X5_isWideEnough_J43
    have lay : ∀ M : Nat, M < 4096 → (∀ j, M.testBit j = lC p w k j) → f_X5_leave 0 (k : Int) (M : Int) τ = some (0, gs_st τ 50 k (M : Int)) ∧ (Fr50 σ (gs_st τ 50 k (M : Int)) 0 ∧ ∀ s, s < k + 1 → ∃ M' : Nat, gs_st τ 50 k (M : Int) 50 s = (M' : Int) ∧ M' < 4096 ∧ ∀ j, M'.testBit j = lC p w s j) := fun M hM hb => by
      refine ⟨?_, Fr50.trans e1 (Fr50.st τ (Nat.zero_le _) _) (Nat.le_refl _), fun s hs => ?_⟩
      · have := i_leave (σ := τ) (d := 0) (s := k) (by decide) (by omega) (M : Int)
        rw [show 8 * 0 + k = k by omega] at this
        exact this
      · by_cases q : s = k
        · exact ⟨M, by rw [q, gs_st_same], hM, fun j => by rw [q]; exact hb j⟩
        · rw [gs_st_slot _ _ _ _ q]
          exact e2 s (by omega)
    cases c0 : Fx p k with
    | false =>
      obtain ⟨l1, l2⟩ := lay (2 ^ w - 1) (by omega) (fun j => by unfold lC; rw [full_bit, c0]; simp)
      rw [if_pos (show (if false = true then (1 : Int) else 0) = 0 from rfl), gnN (k := 2 ^ w - 1) (by omega), if_neg (by omega), l1, Option.bind_some]
      exact Or.inr ⟨_, rfl, l2⟩
    | true =>
      have hc0 := (Fx_pos h c0).2
      obtain ⟨B, b1, b2, b3⟩ := band_spec (σ := τ) (c := Ch p k) (g := 1) hc (by decide)
      have bits : ∀ j, ((2 ^ w - 1) &&& B).testBit j = lC p w k j := fun j => by
        unfold lC
        rw [Nat.testBit_and, full_bit, c0]
        by_cases l : j < 20
        · rw [b3 j l, decide_eq_true hc0, Bool.true_and]
          have : decide (ab (Ch p k - (j : Int)) < 1) = decide ((j : Int) = Ch p k) := by
            unfold ab
            by_cases e : (j : Int) = Ch p k
            · rw [decide_eq_true e, decide_eq_true]
              split <;> omega
            · rw [decide_eq_false e, decide_eq_false]
              split <;> omega
          rw [this]; rfl
        · rw [decide_eq_false (by omega : ¬ j < w)]; rfl
      have hM : (2 ^ w - 1) &&& B < 4096 := Nat.lt_of_le_of_lt Nat.and_le_left (by omega)
      rw [if_neg (show ¬ (if true = true then (1 : Int) else 0) = 0 by decide), i_ch (hpτ.pa h) h.rg hk, Option.bind_some, b1, Option.bind_some, gand_nat (by omega), gnN (k := (2 ^ w - 1) &&& B) (by omega)]
      by_cases z : (2 ^ w - 1) &&& B = 0
      · rw [if_pos (by omega)]
        refine Or.inl ⟨0, τ, rfl, e1, Or.inr ⟨rfl, fun ⟨f, hf, _⟩ => ?_⟩⟩
        have := hf k hk rfl
        rw [← bits, z, Nat.zero_testBit] at this
        cases this
      · obtain ⟨l1, l2⟩ := lay _ hM bits
        rw [if_neg (by omega), l1, Option.bind_some]
        exact Or.inr ⟨_, rfl, l2⟩
  · intro m τ ⟨e1, e2⟩
    have hpτ := PlR_50 hp e1
    have hpn : 0 < 2 ^ nS p := Nat.pow_pos (by decide)
    have en : gshl 1 ((nS p : Nat) : Int) - 1 = ((2 ^ nS p - 1 : Nat) : Int) := by
      rw [gshl_one _ (by omega)]; omega
    obtain ⟨F, f1, f2, f3⟩ := hpτ.2.2.2.2
    have hL : Lft τ (nS p) (2 ^ nS p - 1) 0 := fun s hs _ => by
      obtain ⟨M, m1, m2, -⟩ := e2 s hs
      exact ⟨M, by rw [show 8 * 0 + s = s by omega]; exact m1, m2⟩
    have hlf : ∀ s, s < nS p → ∀ j, lfB τ 0 s j = lC p w s j := fun s hs j => by
      obtain ⟨M, m1, -, m3⟩ := e2 s hs
      have : τ 50 (8 * 0 + s) = (M : Int) := by rw [show 8 * 0 + s = s by omega]; exact m1
      rw [Lft_bit this, m3]
    obtain ⟨b, υ, a1, a2, a3⟩ := i_seated0 (by decide) h.rg (hpτ.pa h) hn f1 f2 hw hL (fun hF s hs j => by
      rw [hlf s hs j]
      unfold lC
      have := f3 s
      rw [hF, Nat.zero_testBit] at this
      rw [← this]; simp)
    have hb : b = 0 ∨ b = 1 := by
      rcases a3 with ⟨q, -⟩ | ⟨q, -⟩
      · exact Or.inr q
      · exact Or.inl q
    refine ⟨b, υ, ?_, Fr50.trans e1 a2 (Nat.le_refl _), ?_⟩
    · rw [f_X5_isWideEnough_L9, i_size (hpτ.pa h), Option.bind_some, gnN (by omega), if_pos (Int.le_refl _), Option.bind_some, en, a1, Option.bind_some]
      dsimp only
      rw [gnS (x := b) (by omega), gs_chkz_t hb]
    · have eq1 : Seat (nS p) (Ap p) (fun _ => true) (lfB τ 0) ↔ Col p w := ⟨fun z => Seat_congr (fun s hs _ j => (hlf s hs j).symm) z, fun z => Seat_congr (fun s hs _ j => hlf s hs j) z⟩
      rcases a3 with ⟨q, z⟩ | ⟨q, z⟩
      · exact Or.inl ⟨q, eq1.mp z⟩
      · exact Or.inr ⟨q, fun y => z (eq1.mpr y)⟩
/-- the least width from b on, or that there is none -/
def Lst (p : Nat → Int) (b : Nat) (v : Int) : Prop := (v = -5 ∧ ∀ w, b ≤ w → w ≤ 12 → ¬ Col p w) ∨ ∃ w : Nat, v = (w : Int) ∧ b ≤ w ∧ w ≤ 12 ∧ Col p w ∧ ∀ u, b ≤ u → u < w → ¬ Col p u
theorem Lst_same {p : Nat → Int} {b : Nat} {v v' : Int} (h : Lst p b v) (h' : Lst p b v') : v = v' := by
  rcases h with ⟨h1, h2⟩ | ⟨w, h1, h2, h3, h4, h5⟩
  · rcases h' with ⟨k1, k2⟩ | ⟨w', k1, k2, k3, k4, k5⟩
    · rw [h1, k1]
    · exact absurd k4 (h2 w' k2 k3)
  · rcases h' with ⟨k1, k2⟩ | ⟨w', k1, k2, k3, k4, k5⟩
    · exact absurd h4 (k2 w h2 h3)
    · rcases Nat.lt_trichotomy w w' with q | q | q
      · exact absurd h4 (k5 w h2 q)
      · rw [h1, k1, q]
      · exact absurd k4 (h5 w' k2 q)
theorem i_least {σ : gs_Mem} {p : Nat → Int} (hp : PlR σ 2 p) (h : WF p) (hn : 0 < nS p) {b : Nat} (hb : 1 ≤ b ∧ b ≤ 125) : ∃ (v : Int) (τ : gs_Mem), f_X5_leastWidth_L15 2 gs_fuel (b : Int) σ = some (v, τ) ∧ Fr50 σ τ 0 ∧ Lst p b v := by
  have key : ∀ (d m w : Nat) (τ : gs_Mem), 13 - w ≤ d → d < m → b ≤ w → w ≤ 126 → Fr50 σ τ 0 → (∀ u, b ≤ u → u < w → ¬ Col p u) → ∃ (v : Int) (τ' : gs_Mem), f_X5_leastWidth_L15 2 m (w : Int) τ = some (v, τ') ∧ Fr50 σ τ' 0 ∧ Lst p b v := by
    intro d
    induction d with
    | zero =>
      intro m w τ hd hm hbw hw hF hN
      obtain ⟨m', rfl⟩ : ∃ m', m = m' + 1 := ⟨m - 1, by omega⟩
      refine ⟨-5, τ, ?_, hF, Or.inl ⟨rfl, fun u h1 h2 => hN u h1 (by omega)⟩⟩
      rw [f_X5_leastWidth_L15, gnN (by omega), if_pos (by omega)]
    | succ d ih =>
      intro m w τ hd hm hbw hw hF hN
      obtain ⟨m', rfl⟩ : ∃ m', m = m' + 1 := ⟨m - 1, by omega⟩
      rw [f_X5_leastWidth_L15, gnN (by omega)]
      by_cases c : 12 < (w : Int)
      · rw [if_pos c]
        exact ⟨-5, τ, rfl, hF, Or.inl ⟨rfl, fun u h1 h2 => hN u h1 (by omega)⟩⟩
      · rw [if_neg c]
        obtain ⟨x, τ1, a1, a2, a3⟩ := i_wide (PlR_50 hp hF) h hn (w := w) (by omega)
        have f1 := Fr50.trans hF a2 (Nat.le_refl _)
        rw [a1, Option.bind_some]
        rcases a3 with ⟨rfl, z⟩ | ⟨rfl, z⟩
        · rw [if_neg (by rw [gn_1]; decide)]
          exact ⟨(w : Int), τ1, rfl, f1, Or.inr ⟨w, rfl, hbw, by omega, z, hN⟩⟩
        · rw [if_pos gn_0]
          exact ih m' (w + 1) τ1 (by omega) (by omega) (by omega) (by omega) f1 (fun u h1 h2 => by
            by_cases q : u = w
            · rw [q]; exact z
            · exact hN u h1 (by omega))
  exact key 13 gs_fuel b σ (by omega) (by have := fuel_big; omega) (Nat.le_refl b) (by omega) (Fr50.refl _ _) (fun u h1 h2 => absurd h1 (by omega))
