/-! ===== seated; wide enough; the least width on the plane's side ===== -/
theorem Seat_w {n : Nat} {A : Nat → Nat → Int} {w w' : Nat → Bool} {l : Nat → Nat → Bool} (e : ∀ s, s < n → w' s = w s) (h : Seat n A w l) : Seat n A w' l := by
  obtain ⟨f, h1, h2⟩ := h
  exact ⟨f, fun s hs hw => h1 s hs (by rw [← e s hs]; exact hw), fun s t hs ht a b => h2 s t hs ht (by rw [← e s hs]; exact a) (by rw [← e t ht]; exact b)⟩
theorem lf12 {σ : gs_Mem} {d s M j : Nat} (h : σ 50 (8 * d + s) = (M : Int)) (hM : M < 4096) (hb : lfB σ d s j = true) : j < 12 := by
  rw [Lft_bit h] at hb
  apply Classical.byContradiction
  intro q
  rw [Nat.testBit_lt_two_pow (Nat.lt_of_lt_of_le hM (Nat.pow_le_pow_right (by decide) (by omega) : 2 ^ 12 ≤ 2 ^ j))] at hb
  cases hb
section
variable {r n : Nat} {c : Nat → Int} {A : Nat → Nat → Int}
/-- one step: who is next has one of the channels T -/
theorem seat_step {σ : gs_Mem} (hg : RgA n c A) {W d x M : Nat} (hx : x < n) (hwx : W.testBit x = true) (hW : W < 256) (hM : σ 50 (8 * d + x) = (M : Int)) (hM2 : M < 4096) : ((∃ k, k < 12 ∧ M.testBit k = true ∧ Seat n A (fun s => (andn W (2 ^ x)).testBit s) (cut A (lfB σ d) x k)) ↔ Seat n A (fun s => W.testBit s) (lfB σ d)) := by
  have h8 := hg.1
  have bits : ∀ t, (andn W (2 ^ x)).testBit t = (W.testBit t && !decide (x = t)) := fun t => by
    rw [andn_bit (by omega), Nat.testBit_two_pow]
  constructor
  · rintro ⟨k, h1, h2, f, hf⟩
    refine ⟨up f x k, Sol_up hg (by rw [Lft_bit hM]; exact h2) (fun s hs hne => ?_) hf⟩
    show (andn W (2 ^ x)).testBit s = true
    rw [bits s]
    have hs : W.testBit s = true := hs
    rw [hs, decide_eq_false (fun e => hne e.symm)]; rfl
  · rintro ⟨f, hf⟩
    have hb := hf.1 x hx hwx
    refine ⟨f x, lf12 hM hM2 hb, by rw [← Lft_bit hM]; exact hb, f, Sol_down hf hx hwx (fun s hs => ?_)⟩
    have hs : (andn W (2 ^ x)).testBit s = true := hs
    rw [bits s, Bool.and_eq_true] at hs
    exact hs.1
theorem i_seated (hr : r + 9 < 49) (hg : RgA n c A) : ∀ (D W d : Nat) (σ : gs_Mem), 1 ≤ d → PlA σ r n c A → (∀ s, W.testBit s = true → s < n) → cN (fun s => W.testBit s) n < D → cN (fun s => W.testBit s) n + d ≤ 8 → Lft σ n W d → ∃ (b : Int) (τ : gs_Mem), f_X5_areSeated D r (W : Int) (d : Int) σ = some (b, τ) ∧ Fr50 σ τ (8 * d) ∧ ((b = 1 ∧ Seat n A (fun s => W.testBit s) (lfB σ d)) ∨ (b = 0 ∧ ¬ Seat n A (fun s => W.testBit s) (lfB σ d)))
  | 0, _, _, _, _, _, _, h, _, _ => absurd h (Nat.not_lt_zero _)
  | D + 1, W, d, σ, hd1, hp, hWn, hD, hd, hL => by
    have h8 := hg.1
    have h256 := mask256 h8 hWn
    rw [f_X5_areSeated]
    unfold f_X5_areSeated_body
    rw [gnN (k := W) (by omega), gnN (k := d) (by omega)]
    by_cases z : W = 0
    · rw [if_pos (by omega)]
      refine ⟨1, σ, rfl, Fr50.refl _ _, Or.inl ⟨rfl, fun _ => 0, fun s _ hw => ?_, fun s _ _ _ hw => ?_⟩⟩
      · have hw' : W.testBit s = true := hw
        rw [z, Nat.zero_testBit] at hw'; cases hw'
      · have hw' : W.testBit s = true := hw
        rw [z, Nat.zero_testBit] at hw'; cases hw'
    · rw [if_neg (by omega)]
      obtain ⟨t, t1_, t2_⟩ := i_tightW hp hg h256 (by omega) hL
      rcases t2_ with ⟨-, tn⟩ | ⟨x, hx, rfl, hwx⟩
      · refine absurd (Nat.eq_of_testBit_eq fun i => ?_) z
        rw [Nat.zero_testBit]
        cases q : W.testBit i with
        | false => rfl
        | true => rw [tn i (hWn i q)] at q; cases q
      · have hpos := cN_pos (f := fun s => W.testBit s) hx hwx
        rw [if_neg (by omega), t1_, Option.bind_some]
        obtain ⟨M, m1, m2⟩ := hL x hx hwx
        have hO : andn W (2 ^ x) < 256 := Nat.lt_of_le_of_lt (andn_le _ _) h256
        have bits : ∀ t, (andn W (2 ^ x)).testBit t = (W.testBit t && !decide (x = t)) := fun t => by
          rw [andn_bit (by omega), Nat.testBit_two_pow]
        have cnt : cN (fun s => (andn W (2 ^ x)).testBit s) n + 1 = cN (fun s => W.testBit s) n := cN_drop (f := fun s => W.testBit s) (s := x) hwx (by rw [bits x, decide_eq_true rfl]; simp) (fun t ht => by rw [bits t, decide_eq_false (fun e => ht e.symm)]; simp) n hx
        have hLO : Lft σ n (andn W (2 ^ x)) d := fun s hs ho => by
          rw [bits s, Bool.and_eq_true] at ho
          exact hL s hs ho.1
        obtain ⟨b, τ, a1, a2, a3⟩ := i_tryL hr hg hp (O := andn W (2 ^ x)) (d := d) (x := x) (T := M) hO (by omega) hx m2 hLO (f_X5_areSeated D) (fun τ hpτ _ hLτ => by
          have ih := i_seated hr hg D (andn W (2 ^ x)) (d + 1) τ (by omega) hpτ (fun s hs => by
            rw [bits s, Bool.and_eq_true] at hs
            exact hWn s hs.1) (by omega) (by omega) hLτ
          exact ih)
        unfold f_X5_areSeated_J23 f_X5_areSeated_J69
        rw [gnN (k := x) (by omega), if_pos (by omega), i_leftAt (by omega) (by omega), Option.bind_some, gnN (k := d) (by omega), if_neg (by omega), m1, gshl_one x (by omega), gandn_nat (by omega)]
        refine ⟨b, τ, a1, ⟨a2.1, fun i hi => a2.2 i (by omega)⟩, ?_⟩
        have st := seat_step (σ := σ) hg hx hwx h256 m1 m2
        rcases a3 with ⟨rfl, q⟩ | ⟨rfl, q⟩
        · exact Or.inl ⟨rfl, st.mp q⟩
        · refine Or.inr ⟨rfl, fun h => ?_⟩
          obtain ⟨k, k1, k2, k3⟩ := st.mpr h
          exact q k k1 k2 k3
/-- all channels mirrored -/
theorem mirror {w : Nat} {l : Nat → Nat → Bool} {W : Nat → Bool} {f : Nat → Nat} (hl : ∀ s, s < n → ∀ j, l s j = decide (j < w)) (h : Sol n A W l f) : Sol n A W l (fun s => w - 1 - f s) := by
  have lt : ∀ s, s < n → W s = true → f s < w := fun s hs hw => by
    have := h.1 s hs hw
    rw [hl s hs] at this
    exact of_decide_eq_true this
  refine ⟨fun s hs hw => ?_, fun s t hs ht h1 h2 => ?_⟩
  · rw [hl s hs]
    have := lt s hs hw
    exact decide_eq_true (by show w - 1 - f s < w; omega)
  · have a := lt s hs h1
    have b := lt t ht h2
    have := h.2 s t hs ht h1 h2
    have e : ((w - 1 - f s : Nat) : Int) - ((w - 1 - f t : Nat) : Int) = (f t : Int) - (f s : Int) := by omega
    rw [e, ab_comm]; exact this
theorem popc_full : ∀ w : Nat, w < 13 → popc (2 ^ w - 1) = w := by decide +kernel
theorem full_bit (w j : Nat) : (2 ^ w - 1).testBit j = decide (j < w) := Nat.testBit_two_pow_sub_one w j
theorem lowerHalf_spec {w : Nat} (hw : w < 13) (σ : gs_Mem) : ∃ T : Nat, f_X5_lowerHalf ((2 ^ w - 1 : Nat) : Int) σ = some (T : Int) ∧ T < 4096 ∧ ∀ j, T.testBit j = (decide (j < w) && decide (j < (w + 1) / 2)) := by
  have h1 : 2 ^ w - 1 < 4096 := by
    have : 2 ^ w ≤ 2 ^ 12 := Nat.pow_le_pow_right (by decide) (by omega)
    omega
  have e2 : gshl 1 (((w + 1) / 2 : Nat) : Int) - 1 = ((2 ^ ((w + 1) / 2) - 1 : Nat) : Int) := by
    rw [gshl_one _ (by omega)]
    have : 0 < 2 ^ ((w + 1) / 2) := Nat.pow_pos (by decide)
    omega
  have e3 : ((w : Int) + 1) = ((w + 1 : Nat) : Int) := rfl
  refine ⟨(2 ^ w - 1) &&& (2 ^ ((w + 1) / 2) - 1), ?_, Nat.lt_of_le_of_lt Nat.and_le_left h1, fun j => ?_⟩
  · unfold f_X5_lowerHalf
    rw [bitCount_spec (by omega), Option.bind_some, popc_full w hw, gs_chk0_t (by decide), e3, gdiv2 (by omega), e2, gand_nat (by omega)]
  · rw [Nat.testBit_and, full_bit, full_bit]
theorem all_bit {n : Nat} (s : Nat) (hs : s < n) : (2 ^ n - 1).testBit s = true := by rw [full_bit]; exact decide_eq_true hs
/-- from the start -/
theorem i_seated0 (hr : r + 9 < 49) (hg : RgA n c A) {σ : gs_Mem} (hp : PlA σ r n c A) (hn : 0 < n) {F : Nat} (hF : σ r 8 = (F : Int)) (hF2 : F < 256) {w : Nat} (hw : 1 ≤ w ∧ w ≤ 12) (hL : Lft σ n (2 ^ n - 1) 0) (hU : F = 0 → ∀ s, s < n → ∀ j, lfB σ 0 s j = decide (j < w)) : ∃ (b : Int) (τ : gs_Mem), f_X5_areSeated 12 r ((2 ^ n - 1 : Nat) : Int) 0 σ = some (b, τ) ∧ Fr50 σ τ 0 ∧ ((b = 1 ∧ Seat n A (fun _ => true) (lfB σ 0)) ∨ (b = 0 ∧ ¬ Seat n A (fun _ => true) (lfB σ 0))) := by
  have h8 := hg.1
  have hWn : ∀ s, (2 ^ n - 1).testBit s = true → s < n := fun s hs => by
    rw [full_bit] at hs
    exact of_decide_eq_true hs
  have h256 := mask256 h8 hWn
  have wAll : ∀ s, s < n → (fun s => (2 ^ n - 1).testBit s) s = (fun _ => true) s := fun s hs => all_bit s hs
  have z : ¬ 2 ^ n - 1 = 0 := fun e => by
    have := all_bit (n := n) 0 hn
    rw [e, Nat.zero_testBit] at this; cases this
  obtain ⟨t, t1_, t2_⟩ := i_tightW hp hg h256 (d := 0) (by decide) hL
  have t1' : f_X5_tightest r ((2 ^ n - 1 : Nat) : Int) 0 σ = some t := t1_
  rcases t2_ with ⟨-, tn⟩ | ⟨x, hx, rfl, hwx⟩
  · have := tn 0 hn
    rw [all_bit 0 hn] at this; cases this
  · obtain ⟨M, m1, m2⟩ := hL x hx hwx
    have hO : andn (2 ^ n - 1) (2 ^ x) < 256 := Nat.lt_of_le_of_lt (andn_le _ _) h256
    have bits : ∀ t, (andn (2 ^ n - 1) (2 ^ x)).testBit t = ((2 ^ n - 1).testBit t && !decide (x = t)) := fun t => by
      rw [andn_bit (by omega), Nat.testBit_two_pow]
    have cnt : cN (fun s => (andn (2 ^ n - 1) (2 ^ x)).testBit s) n + 1 = cN (fun s => (2 ^ n - 1).testBit s) n := cN_drop (f := fun s => (2 ^ n - 1).testBit s) (s := x) hwx (by rw [bits x, decide_eq_true rfl]; simp) (fun t ht => by rw [bits t, decide_eq_false (fun e => ht e.symm)]; simp) n hx
    have cle := cN_le (fun s => (2 ^ n - 1).testBit s) n
    have hLO : Lft σ n (andn (2 ^ n - 1) (2 ^ x)) 0 := fun s hs ho => by
      rw [bits s, Bool.and_eq_true] at ho
      exact hL s hs ho.1
    have st := seat_step (σ := σ) (d := 0) hg hx hwx h256 m1 m2
    have go : ∀ T : Nat, T < 4096 → ∃ (b : Int) (τ : gs_Mem), f_X5_areSeated_L72 (f_X5_areSeated 11) r 0 (x : Int) ((andn (2 ^ n - 1) (2 ^ x) : Nat) : Int) (T : Int) gs_fuel 0 σ = some (b, τ) ∧ Fr50 σ τ (8 * (0 + 1)) ∧ ((b = 1 ∧ ∃ k, k < 12 ∧ T.testBit k = true ∧ Seat n A (fun s => (andn (2 ^ n - 1) (2 ^ x)).testBit s) (cut A (lfB σ 0) x k)) ∨ (b = 0 ∧ ∀ k, k < 12 → T.testBit k = true → ¬ Seat n A (fun s => (andn (2 ^ n - 1) (2 ^ x)).testBit s) (cut A (lfB σ 0) x k))) := fun T hT =>
      i_tryL hr hg hp (O := andn (2 ^ n - 1) (2 ^ x)) (d := 0) (x := x) (T := T) hO (by decide) hx hT hLO (f_X5_areSeated 11) (fun τ hpτ _ hLτ => i_seated hr hg 11 (andn (2 ^ n - 1) (2 ^ x)) 1 τ (Nat.le_refl 1) hpτ (fun s hs => by
            rw [bits s, Bool.and_eq_true] at hs
            exact hWn s hs.1) (by omega) (by omega) hLτ)
    rw [f_X5_areSeated]
    unfold f_X5_areSeated_body f_X5_areSeated_J23 f_X5_areSeated_J69
    have el : f_X5_leftAt 0 (x : Int) σ = some (M : Int) := by
      have := i_leftAt (σ := σ) (d := 0) (s := x) (by decide) (by omega)
      rw [m1] at this; exact this
    rw [gnN (k := 2 ^ n - 1) (by omega), if_neg (by omega), gn_0, if_neg (by decide), t1', Option.bind_some, gnN (k := x) (by omega), if_pos (by omega), el, Option.bind_some, if_pos rfl]
    unfold f_X0_fixedBits
    rw [Option.bind_some, hF, gnN (k := F) (by omega), gshl_one x (by omega), gandn_nat (by omega)]
    by_cases c0 : F = 0
    · have eM : M = 2 ^ w - 1 := Nat.eq_of_testBit_eq fun j => by
        rw [full_bit, ← hU c0 x hx j, Lft_bit m1]
      rw [if_pos (by omega), eM]
      obtain ⟨T, e1, e2, e3⟩ := lowerHalf_spec (show w < 13 by omega) σ
      rw [e1, Option.bind_some]
      obtain ⟨b, τ, a1, a2, a3⟩ := go T e2
      refine ⟨b, τ, a1, ⟨a2.1, fun i hi => absurd hi (Nat.not_lt_zero i)⟩, ?_⟩
      rcases a3 with ⟨rfl, k, k1, k2, k3⟩ | ⟨rfl, q⟩
      · refine Or.inl ⟨rfl, Seat_w (fun s hs => (wAll s hs).symm) (st.mp ⟨k, k1, ?_, k3⟩)⟩
        rw [eM, full_bit]
        rw [e3 k, Bool.and_eq_true] at k2
        exact k2.1
      · refine Or.inr ⟨rfl, fun h => ?_⟩
        obtain ⟨f, hf⟩ := Seat_w (fun s hs => wAll s hs) h
        have lt : f x < w := by
          have := hf.1 x hx hwx
          rw [hU c0 x hx] at this
          exact of_decide_eq_true this
        have down : ∀ s, (fun s => (andn (2 ^ n - 1) (2 ^ x)).testBit s) s = true → (fun s => (2 ^ n - 1).testBit s) s = true := fun s hs => by
          have hs : (andn (2 ^ n - 1) (2 ^ x)).testBit s = true := hs
          rw [bits s, Bool.and_eq_true] at hs
          exact hs.1
        by_cases c1 : f x < (w + 1) / 2
        · refine q (f x) (by omega) ?_ ⟨f, Sol_down hf hx hwx down⟩
          rw [e3, decide_eq_true lt, decide_eq_true c1]; rfl
        · have hf' := mirror (hU c0) hf
          refine q (w - 1 - f x) (by omega) ?_ ⟨_, Sol_down hf' hx hwx down⟩
          rw [e3, decide_eq_true (by omega), decide_eq_true (by omega)]; rfl
    · rw [if_neg (by omega)]
      obtain ⟨b, τ, a1, a2, a3⟩ := go M m2
      refine ⟨b, τ, a1, ⟨a2.1, fun i hi => absurd hi (Nat.not_lt_zero i)⟩, ?_⟩
      rcases a3 with ⟨rfl, q⟩ | ⟨rfl, q⟩
      · exact Or.inl ⟨rfl, Seat_w (fun s hs => (wAll s hs).symm) (st.mp q)⟩
      · refine Or.inr ⟨rfl, fun h => ?_⟩
        obtain ⟨k, k1, k2, k3⟩ := st.mpr (Seat_w (fun s hs => wAll s hs) h)
        exact q k k1 k2 k3
end
