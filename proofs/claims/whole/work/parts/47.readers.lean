/-! ===== spans, counts, ranks ===== -/
theorem p31 {d : Nat} (h : d < 31) : 2 ^ d < 2147483648 := Nat.lt_of_lt_of_le (Nat.pow_lt_pow_right (by decide) h) (by decide : 2 ^ 31 ≤ 2147483648)
def mnN (c : Nat → Int) : Nat → Int
  | 0 => 20
  | k + 1 => if c k < 0 then mnN c k else if c k < mnN c k then c k else mnN c k
def mxN (c : Nat → Int) : Nat → Int
  | 0 => -1
  | k + 1 => if c k < 0 then mxN c k else if mxN c k < c k then c k else mxN c k
def spn (n : Nat) (c : Nat → Int) : Int := if 0 ≤ mxN c n then mxN c n - mnN c n + 1 else 0
theorem mnN_s (c : Nat → Int) (k : Nat) : mnN c (k + 1) = if c k < 0 then mnN c k else if c k < mnN c k then c k else mnN c k := rfl
theorem mxN_s (c : Nat → Int) (k : Nat) : mxN c (k + 1) = if c k < 0 then mxN c k else if mxN c k < c k then c k else mxN c k := rfl
theorem mnN_rng {c : Nat → Int} (h : ∀ s, -1 ≤ c s ∧ c s ≤ 19) : ∀ k, 0 ≤ mnN c k ∧ mnN c k ≤ 20
  | 0 => (by decide : (0 : Int) ≤ 20 ∧ (20 : Int) ≤ 20)
  | k + 1 => by
    have := mnN_rng h k
    have := h k
    rw [mnN_s]
    split
    · omega
    · split <;> omega
theorem mxN_rng {c : Nat → Int} (h : ∀ s, -1 ≤ c s ∧ c s ≤ 19) : ∀ k, -1 ≤ mxN c k ∧ mxN c k ≤ 19
  | 0 => (by decide : (-1 : Int) ≤ -1 ∧ (-1 : Int) ≤ 19)
  | k + 1 => by
    have := mxN_rng h k
    have := h k
    rw [mxN_s]
    split
    · omega
    · split <;> omega
/-- the channels in use, as a mask -/
def usd (c : Nat → Int) : Nat → Nat
  | 0 => 0
  | k + 1 => usd c k ||| (if c k < 0 then 0 else 2 ^ (c k).toNat)
theorem usd_s (c : Nat → Int) (k : Nat) : usd c (k + 1) = usd c k ||| (if c k < 0 then 0 else 2 ^ (c k).toNat) := rfl
theorem usd_lt {c : Nat → Int} (h : ∀ s, -1 ≤ c s ∧ c s ≤ 19) : ∀ k, usd c k < 1048576
  | 0 => (by decide : 0 < 1048576)
  | k + 1 => by
    have q := h k
    rw [usd_s]
    refine Nat.or_lt_two_pow (n := 20) (usd_lt h k) ?_
    split
    · decide
    · exact Nat.pow_lt_pow_right (by decide) (by omega)
theorem usd_bit {c : Nat → Int} (h : ∀ s, -1 ≤ c s ∧ c s ≤ 19) (j : Nat) : ∀ k, (usd c k).testBit j = true ↔ ∃ s, s < k ∧ c s = (j : Int)
  | 0 => by
    rw [show usd c 0 = 0 from rfl, Nat.zero_testBit]
    exact ⟨fun e => (by cases e), fun ⟨s, hs, _⟩ => absurd hs (Nat.not_lt_zero s)⟩
  | k + 1 => by
    have q := h k
    rw [usd_s, Nat.testBit_or, Bool.or_eq_true, usd_bit h j k]
    have : ((if c k < 0 then 0 else 2 ^ (c k).toNat).testBit j = true) ↔ c k = (j : Int) := by
      split
      · rw [Nat.zero_testBit]
        exact ⟨fun e => (by cases e), fun e => by omega⟩
      · rw [Nat.testBit_two_pow, decide_eq_true_eq]
        omega
    rw [this]
    constructor
    · rintro (⟨s, hs, e⟩ | e)
      · exact ⟨s, by omega, e⟩
      · exact ⟨k, by omega, e⟩
    · rintro ⟨s, hs, e⟩
      by_cases d : s = k
      · exact Or.inr (d ▸ e)
      · exact Or.inl ⟨s, by omega, e⟩
/-- the highest of 0 .. n - 1 that f takes, 0 for none -/
def lstN (f : Nat → Bool) : Nat → Nat
  | 0 => 0
  | k + 1 => if f k then k else lstN f k
theorem lstN_spec {f : Nat → Bool} : ∀ {n i}, i < n → f i = true → f (lstN f n) = true ∧ i ≤ lstN f n
  | 0, i, h, _ => absurd h (Nat.not_lt_zero i)
  | n + 1, i, h, hf => by
    show f (if f n then n else lstN f n) = true ∧ i ≤ (if f n then n else lstN f n)
    by_cases c : f n = true
    · rw [if_pos c]; exact ⟨c, by omega⟩
    · rw [if_neg c]
      have : i ≠ n := fun e => c (e ▸ hf)
      exact lstN_spec (by omega) hf
theorem mxN_spec {c : Nat → Int} : ∀ k, (∀ s, s < k → c s ≤ mxN c k ∨ c s < 0) ∧ (0 ≤ mxN c k → ∃ s, s < k ∧ c s = mxN c k)
  | 0 => ⟨fun s h => absurd h (Nat.not_lt_zero s), fun h => absurd h (by decide : ¬ (0 : Int) ≤ -1)⟩
  | k + 1 => by
    obtain ⟨i1, i2⟩ := mxN_spec (c := c) k
    rw [mxN_s]
    by_cases d : c k < 0
    · rw [if_pos d]
      refine ⟨fun s hs => ?_, fun h => ?_⟩
      · by_cases e : s = k
        · exact Or.inr (e ▸ d)
        · exact i1 s (by omega)
      · obtain ⟨s, h1, h2⟩ := i2 h
        exact ⟨s, by omega, h2⟩
    · rw [if_neg d]
      by_cases e : mxN c k < c k
      · rw [if_pos e]
        refine ⟨fun s hs => ?_, fun h => ⟨k, by omega, rfl⟩⟩
        by_cases e : s = k
        · rw [e]; exact Or.inl (Int.le_refl _)
        · have := i1 s (by omega); omega
      · rw [if_neg e]
        refine ⟨fun s hs => ?_, fun h => ?_⟩
        · by_cases e : s = k
          · rw [e]; exact Or.inl (by omega)
          · exact i1 s (by omega)
        · obtain ⟨s, h1, h2⟩ := i2 h
          exact ⟨s, by omega, h2⟩
theorem mnN_spec {c : Nat → Int} : ∀ k, (∀ s, s < k → mnN c k ≤ c s ∨ c s < 0) ∧ ((∃ s, s < k ∧ 0 ≤ c s ∧ c s < 20) → ∃ s, s < k ∧ 0 ≤ c s ∧ c s = mnN c k)
  | 0 => ⟨fun s h => absurd h (Nat.not_lt_zero s), fun ⟨s, h, _⟩ => absurd h (Nat.not_lt_zero s)⟩
  | k + 1 => by
    obtain ⟨i1, i2⟩ := mnN_spec (c := c) k
    rw [mnN_s]
    by_cases d : c k < 0
    · rw [if_pos d]
      refine ⟨fun s hs => ?_, fun ⟨s, h1, h2, h3⟩ => ?_⟩
      · by_cases e : s = k
        · exact Or.inr (e ▸ d)
        · exact i1 s (by omega)
      · have : s ≠ k := fun e => by rw [e] at h2; omega
        obtain ⟨s, h1, h2⟩ := i2 ⟨s, by omega, h2, h3⟩
        exact ⟨s, by omega, h2⟩
    · rw [if_neg d]
      by_cases e : c k < mnN c k
      · rw [if_pos e]
        refine ⟨fun s hs => ?_, fun h => ⟨k, by omega, by omega, rfl⟩⟩
        by_cases e : s = k
        · rw [e]; exact Or.inl (Int.le_refl _)
        · have := i1 s (by omega); omega
      · rw [if_neg e]
        refine ⟨fun s hs => ?_, fun ⟨s, h1, h2, h3⟩ => ?_⟩
        · by_cases e : s = k
          · rw [e]; exact Or.inl (by omega)
          · exact i1 s (by omega)
        · by_cases g : c k = mnN c k
          · exact ⟨k, by omega, by omega, g⟩
          · by_cases f : s = k
            · subst f
              have : mnN c s < 20 := by omega
              have : ∃ t, t < s ∧ 0 ≤ c t ∧ c t < 20 := by
                clear i2
                induction s with
                | zero => exact absurd this (by decide : ¬ (20 : Int) < 20)
                | succ u _ =>
                  apply Classical.byContradiction
                  intro hn
                  have hz : ∀ w, w ≤ u + 1 → mnN c w = 20 := by
                    intro w
                    induction w with
                    | zero => intro _; rfl
                    | succ w ih =>
                      intro hw
                      rw [mnN_s, ih (by omega)]
                      by_cases q : c w < 0
                      · rw [if_pos q]
                      · rw [if_neg q]
                        by_cases q2 : c w < 20
                        · exact absurd ⟨w, by omega, by omega, q2⟩ hn
                        · rw [if_neg q2]
                  have := hz (u + 1) (Nat.le_refl _)
                  omega
              obtain ⟨t, h1, h2⟩ := i2 this
              exact ⟨t, by omega, h2⟩
            · obtain ⟨t, h1, h2⟩ := i2 ⟨s, by omega, h2, h3⟩
              exact ⟨t, by omega, h2⟩
def hav (n : Nat) (c : Nat → Int) : Nat := cN (fun s => decide (0 ≤ c s)) n
def chs (c : Nat → Int) : Nat → Nat
  | 0 => 0
  | k + 1 => chs c k + (c k).toNat
theorem chs_s (c : Nat → Int) (k : Nat) : chs c (k + 1) = chs c k + (c k).toNat := rfl
theorem chs_le {c : Nat → Int} (h : ∀ s, -1 ≤ c s ∧ c s ≤ 19) : ∀ k, chs c k ≤ 19 * k
  | 0 => Nat.le_refl 0
  | k + 1 => by
    have := chs_le h k
    have := h k
    rw [chs_s]; omega
section
variable {σ : gs_Mem}
theorem m_span (h : WF (σ 71)) : f_X7_span σ = some (spn (nS (σ 71)) (Ch (σ 71))) := by
  have h8 := h.n8
  have hn := h.n0
  unfold f_X7_span
  refine loop0 (fun m k (a : Int × Int) => f_X7_span_L7 σ _ m a.1 a.2 (k : Int)) (fun k a => a = (mnN (Ch (σ 71)) k, mxN (Ch (σ 71)) k)) (fun q => q = some (spn (nS (σ 71)) (Ch (σ 71)))) (nS (σ 71)) (20, -1) (by omega) ?_ ?_ rfl
  · intro m k v hk hv
    subst hv
    have r1 := Ch_rng h k
    have r2 := mnN_rng (Ch_rng h) k
    have r3 := mxN_rng (Ch_rng h) k
    refine Or.inr ⟨_, ?_, rfl⟩
    dsimp only
    rw [f_X7_span_L7, m_ch h hk]
    unfold f_X7_span_J45
    simp (disch := omega) only [gnS, gs_chk_t, hn, Option.bind_some, gminE, gmaxE]
    rw [if_neg (by omega), mnN_s, mxN_s]
    by_cases c : Ch (σ 71) k < 0
    · rw [if_pos c, if_pos c, if_pos c]; rfl
    · rw [if_neg c, if_neg c, if_neg c]; rfl
  · intro m v hv
    subst hv
    have r3 := mxN_rng (Ch_rng h) (nS (σ 71))
    dsimp only
    rw [f_X7_span_L7]
    simp (disch := omega) only [gnS, gs_chk_t, hn]
    rw [if_pos (Int.le_refl _)]
    unfold spn
    by_cases c : 0 ≤ mxN (Ch (σ 71)) (nS (σ 71))
    · rw [if_pos c, if_pos c]
    · rw [if_neg c, if_neg c]
theorem m_having (h : WF (σ 71)) : f_X7_having σ = some ((hav (nS (σ 71)) (Ch (σ 71)) : Nat) : Int) := by
  have h8 := h.n8
  have hn := h.n0
  refine loop0 (fun m k (v : Int) => f_X7_having_L4 σ m v (k : Int)) (fun k v => v = ((hav k (Ch (σ 71)) : Nat) : Int)) (fun q => q = some ((hav (nS (σ 71)) (Ch (σ 71)) : Nat) : Int)) (nS (σ 71)) 0 (by omega) ?_ ?_ rfl
  · intro m k v hk hv
    subst hv
    have r1 := Ch_rng h k
    refine Or.inr ⟨_, ?_, rfl⟩
    rw [f_X7_having_L4, m_ch h hk]
    unfold f_X7_having_J28 hav
    simp (disch := omega) only [gnS, gs_chk_t, hn, Option.bind_some]
    rw [if_neg (by omega), cN_s]
    by_cases c : Ch (σ 71) k < 0
    · rw [if_pos c, decide_eq_false (by omega)]; rfl
    · rw [if_neg c, decide_eq_true (by omega)]; rfl
  · intro m v hv
    rw [f_X7_having_L4]
    simp (disch := omega) only [gnS, gs_chk_t, hn]
    rw [if_pos (Int.le_refl _), hv]
theorem m_unlike (h : WF (σ 71)) : f_X7_unlike σ = some ((popc (usd (Ch (σ 71)) (nS (σ 71))) : Nat) : Int) := by
  have h8 := h.n8
  have hn := h.n0
  unfold f_X7_unlike
  refine loop0 (fun m k (v : Int) => f_X7_unlike_L4 σ _ m v (k : Int)) (fun k v => v = ((usd (Ch (σ 71)) k : Nat) : Int)) (fun q => q = some ((popc (usd (Ch (σ 71)) (nS (σ 71))) : Nat) : Int)) (nS (σ 71)) 0 (by omega) ?_ ?_ rfl
  · intro m k v hk hv
    subst hv
    have r1 := Ch_rng h k
    have r2 := usd_lt (Ch_rng h) k
    refine Or.inr ⟨_, ?_, rfl⟩
    rw [f_X7_unlike_L4, m_ch h hk]
    unfold f_X7_unlike_J34
    simp (disch := omega) only [gnS, gs_chk_t, hn, Option.bind_some]
    rw [if_neg (by omega), usd_s]
    by_cases c : Ch (σ 71) k < 0
    · rw [if_pos c, if_pos c, show (0 : Int) = ((0 : Nat) : Int) from rfl, gor_nat (by omega) (by decide)]; rfl
    · rw [if_neg c, if_neg c]
      obtain ⟨d, hd⟩ : ∃ d : Nat, Ch (σ 71) k = d := ⟨(Ch (σ 71) k).toNat, by omega⟩
      rw [hd, gshl_one d (by omega), gor_nat (by omega) (p31 (d := d) (by omega))]; rfl
  · intro m v hv
    rw [f_X7_unlike_L4]
    simp (disch := omega) only [gnS, gs_chk_t, hn]
    have r2 := usd_lt (Ch_rng h) (nS (σ 71))
    rw [if_pos (Int.le_refl _), hv, bitCount_spec (by omega)]; rfl
theorem m_sum (h : WF (σ 71)) (v : Int) (a b : Int) (K : Int → Option Int) : f_X7_mean_L28 σ a b K gs_fuel 0 0 = K ((chs (Ch (σ 71)) (nS (σ 71)) : Nat) : Int) := by
  have h8 := h.n8
  have hn := h.n0
  refine loop0 (fun m k (v : Int) => f_X7_mean_L28 σ a b K m v (k : Int)) (fun k v => v = ((chs (Ch (σ 71)) k : Nat) : Int)) (fun q => q = K ((chs (Ch (σ 71)) (nS (σ 71)) : Nat) : Int)) (nS (σ 71)) 0 (by omega) ?_ ?_ rfl
  · intro m k v hk hv
    subst hv
    have r1 := Ch_rng h k
    refine Or.inr ⟨_, ?_, rfl⟩
    rw [f_X7_mean_L28, m_ch h hk]
    simp (disch := omega) only [gnS, gs_chk_t, hn, Option.bind_some, gmaxE]
    rw [if_neg (by omega), chs_s]
    congr 1
    split <;> omega
  · intro m v hv
    rw [f_X7_mean_L28]
    simp (disch := omega) only [gnS, gs_chk_t, hn]
    rw [if_pos (Int.le_refl _), hv]
variable {r n : Nat} {c : Nat → Int} {A : Nat → Nat → Int}
theorem i_used (hp : PlA σ r n c A) (hg : RgA n c A) : f_X0_usedChannels r σ = some ((usd c n : Nat) : Int) := by
  have h8 := hg.1
  refine loop0 (fun m k (v : Int) => f_X0_usedChannels_L4 σ r m v (k : Int)) (fun k v => v = ((usd c k : Nat) : Int)) (fun q => q = some ((usd c n : Nat) : Int)) n 0 (by omega) ?_ ?_ rfl
  · intro m k v hk hv
    subst hv
    have r1 := hg.2.1 k
    have r2 := usd_lt hg.2.1 k
    obtain ⟨B, e, hB, hbB⟩ := band_spec (σ := σ) r1 (g := 1) (by decide)
    refine Or.inr ⟨_, ?_, rfl⟩
    rw [f_X0_usedChannels_L4, hp.1]
    simp (disch := omega) only [gnS, gs_chk_t, t1]
    rw [if_neg (by omega), hp.2.1 k hk, usd_s]
    unfold f_X6_band
    simp (disch := omega) only [gnS]
    by_cases d : c k < 0
    · rw [if_pos d, if_pos d, Option.bind_some, show (0 : Int) = ((0 : Nat) : Int) from rfl, gor_nat (by omega) (by decide)]; rfl
    · rw [if_neg d, if_neg d, if_pos (by decide)]
      obtain ⟨d, hd⟩ : ∃ d : Nat, c k = d := ⟨(c k).toNat, by omega⟩
      rw [hd, Option.bind_some, show (2 * (1 : Int) - 1) = ((1 : Nat) : Int) from rfl, gshl_one 1 (by decide), show (((2 ^ 1 : Nat) : Int) - 1) = 1 from rfl, gshl_one d (by omega), show (1 : Int) - 1 = ((0 : Nat) : Int) from rfl, gshr_nat (p31 (d := d) (by omega)) (by decide)]
      rw [show 2 ^ d / 2 ^ 0 = 2 ^ d by rw [Nat.pow_zero, Nat.div_one], gor_nat (by omega) (p31 (d := d) (by omega))]; rfl
  · intro m v hv
    rw [f_X0_usedChannels_L4, hp.1]
    simp (disch := omega) only [gnS]
    rw [if_pos (Int.le_refl _), hv]
theorem i_span (hp : PlA σ r n c A) (hg : RgA n c A) : f_X0_span r σ = some (spn n c) := by
  have h8 := hg.1
  have hU := usd_lt hg.2.1 n
  have hb := fun j => usd_bit hg.2.1 j n
  have r2 := mnN_rng hg.2.1 n
  have r3 := mxN_rng hg.2.1 n
  unfold f_X0_span
  rw [i_used hp hg]
  simp (disch := omega) only [gnS, Option.bind_some]
  by_cases z : usd c n = 0
  · rw [z, if_pos (show ((0 : Nat) : Int) = 0 from rfl)]
    unfold spn
    rw [if_neg]
    intro h
    obtain ⟨s, h1, h2⟩ := (mxN_spec (c := c) n).2 h
    have := (hb (mxN c n).toNat).mpr ⟨s, h1, by omega⟩
    rw [z, Nat.zero_testBit] at this
    cases this
  · rw [if_neg (by omega)]
    have hL : f_X0_span_L15 σ ((usd c n : Nat) : Int) (fun w2 => (f_X6_leastOf ((usd c n : Nat) : Int) σ).bind fun u2 => some ((w2 - u2) + 1)) gs_fuel 0 0 = (f_X6_leastOf ((usd c n : Nat) : Int) σ).bind fun u2 => some ((((lstN (fun k => (usd c n).testBit k) 20 : Nat) : Int) - u2) + 1) := by
      refine loop0 (fun m k (v : Int) => f_X0_span_L15 σ ((usd c n : Nat) : Int) _ m v (k : Int)) (fun k v => v = ((lstN (fun k => (usd c n).testBit k) k : Nat) : Int)) (fun q => q = (f_X6_leastOf ((usd c n : Nat) : Int) σ).bind fun u2 => some ((((lstN (fun k => (usd c n).testBit k) 20 : Nat) : Int) - u2) + 1)) 20 0 (by decide) ?_ ?_ rfl
      · intro m k v hk hv
        subst hv
        refine Or.inr ⟨_, ?_, rfl⟩
        rw [f_X0_span_L15]
        unfold f_X0_span_J35
        simp (disch := omega) only [gnS]
        rw [if_neg (by omega), gbit (by omega) (by omega), show lstN (fun k => (usd c n).testBit k) (k + 1) = if (usd c n).testBit k then k else lstN (fun k => (usd c n).testBit k) k from rfl]
        cases (usd c n).testBit k <;> rfl
      · intro m v hv
        rw [f_X0_span_L15, if_pos (by decide +kernel), hv]
    rw [hL, leastOf_spec hU]
    obtain ⟨j, hj⟩ : ∃ j, (usd c n).testBit j = true := by
      apply Classical.byContradiction
      intro hn
      apply z
      apply Nat.eq_of_testBit_eq
      intro i
      rw [Nat.zero_testBit]
      cases q : (usd c n).testBit i with
      | false => rfl
      | true => exact absurd ⟨i, q⟩ hn
    obtain ⟨s, hs, hcs⟩ := (hb j).mp hj
    have hj20 : j < 20 := by have := hg.2.1 s; omega
    obtain ⟨l1, l2⟩ := lstN_spec (f := fun k => (usd c n).testBit k) hj20 hj
    obtain ⟨t, ht, hct⟩ := (hb _).mp l1
    have hx := (mxN_spec (c := c) n).1
    have hx0 : 0 ≤ mxN c n := by have := hx s hs; omega
    obtain ⟨u, hu, hcu⟩ := (mxN_spec (c := c) n).2 hx0
    have hl : ((lstN (fun k => (usd c n).testBit k) 20 : Nat) : Int) = mxN c n := by
      have a1 := hx t ht
      have a2 := (lstN_spec (f := fun k => (usd c n).testBit k) (n := 20) (i := (mxN c n).toNat) (by omega) ((hb _).mpr ⟨u, hu, by omega⟩)).2
      omega
    have hm := (mnN_spec (c := c) n).1
    obtain ⟨w, hw, hw0, hcw⟩ := (mnN_spec (c := c) n).2 ⟨s, hs, by omega, by omega⟩
    have hf : fN (fun k => (usd c n).testBit k) 20 = some (mnN c n).toNat := by
      refine fN_some ⟨by have := hg.2.1 w; omega, (hb _).mpr ⟨w, hw, by omega⟩, fun i hi => ?_⟩
      cases q : (usd c n).testBit i with
      | false => rfl
      | true =>
        obtain ⟨v, hv, hcv⟩ := (hb i).mp q
        have := hm v hv
        omega
    rw [hf, hl]
    unfold spn foundOr
    rw [if_pos hx0]
    simp only [Option.bind_some]
    congr 1
    omega
theorem i_tuned (hp : PlA σ r n c A) (hg : RgA n c A) : f_X0_tuned r σ = some ((hav n c : Nat) : Int) := by
  have h8 := hg.1
  refine loop0 (fun m k (v : Int) => f_X0_tuned_L4 σ r m v (k : Int)) (fun k v => v = ((hav k c : Nat) : Int)) (fun q => q = some ((hav n c : Nat) : Int)) n 0 (by omega) ?_ ?_ rfl
  · intro m k v hk hv
    subst hv
    have r1 := hg.2.1 k
    refine Or.inr ⟨_, ?_, rfl⟩
    rw [f_X0_tuned_L4, hp.1]
    unfold f_X0_tuned_J28 hav
    simp (disch := omega) only [gnS, gs_chk_t, t1]
    rw [if_neg (by omega), hp.2.1 k hk, cN_s, gnS (by omega)]
    by_cases d : c k = -1
    · rw [if_pos d, decide_eq_false (by omega)]; rfl
    · rw [if_neg d, decide_eq_true (by omega)]; rfl
  · intro m v hv
    rw [f_X0_tuned_L4, hp.1]
    simp (disch := omega) only [gnS]
    rw [if_pos (Int.le_refl _), hv]
theorem i_sum (hp : PlA σ r n c A) (hg : RgA n c A) : f_X0_channelSum r σ = some ((chs c n : Nat) : Int) := by
  have h8 := hg.1
  refine loop0 (fun m k (v : Int) => f_X0_channelSum_L4 σ r m v (k : Int)) (fun k v => v = ((chs c k : Nat) : Int)) (fun q => q = some ((chs c n : Nat) : Int)) n 0 (by omega) ?_ ?_ rfl
  · intro m k v hk hv
    subst hv
    have r1 := hg.2.1 k
    refine Or.inr ⟨_, ?_, rfl⟩
    rw [f_X0_channelSum_L4, hp.1]
    unfold f_X0_channelSum_J33
    simp (disch := omega) only [gnS, gs_chk_t, t1]
    rw [if_neg (by omega), hp.2.1 k hk, chs_s, gnS (by omega)]
    by_cases d : c k = -1
    · rw [if_pos d, d]; rfl
    · rw [if_neg d]
      congr 1
      omega
  · intro m v hv
    rw [f_X0_channelSum_L4, hp.1]
    simp (disch := omega) only [gnS]
    rw [if_pos (Int.le_refl _), hv]
end
