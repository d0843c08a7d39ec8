/-! ===== what is reached: the same on both sides ===== -/
/-- M: stations below n, s0 among them, closed under e, and no others than must be -/
def Clo (n : Nat) (e : Nat → Nat → Bool) (s0 : Nat) (M : Nat) : Prop := (∀ s, M.testBit s = true → s < n) ∧ M.testBit s0 = true ∧ (∀ P : Nat → Prop, P s0 → (∀ s t, s < n → t < n → P s → e s t = true → P t) → ∀ t, M.testBit t = true → P t)
def Clsd (n : Nat) (e : Nat → Nat → Bool) (M : Nat) : Prop := ∀ s t, s < n → t < n → M.testBit s = true → e s t = true → M.testBit t = true
theorem Clo_same {n : Nat} {e : Nat → Nat → Bool} {s0 M M' : Nat} (h1 : Clo n e s0 M) (h2 : Clsd n e M) (h3 : Clo n e s0 M') (h4 : Clsd n e M') : M = M' := by
  refine Nat.eq_of_testBit_eq fun i => ?_
  have k1 := h1.2.2 (fun t => M'.testBit t = true) h3.2.1 h4 i
  have k2 := h3.2.2 (fun t => M.testBit t = true) h1.2.1 h2 i
  cases a : M.testBit i with
  | true => exact (k1 a).symm
  | false =>
    cases b : M'.testBit i with
    | false => rfl
    | true => rw [k2 b] at a; cases a
theorem cN_mono {f g : Nat → Bool} : ∀ n, (∀ i, i < n → f i = true → g i = true) → cN f n ≤ cN g n
  | 0, _ => Nat.le_refl 0
  | n + 1, h => by
    have ih := cN_mono n (fun i hi => h i (by omega))
    have := h n (Nat.lt_succ_self n)
    rw [cN_s, cN_s]
    cases a : f n with
    | false => rw [if_neg (by decide)]; split <;> omega
    | true => rw [this a]; simp; exact ih
theorem cN_mono1 {f g : Nat → Bool} {j : Nat} : ∀ n, j < n → (∀ i, i < n → f i = true → g i = true) → f j = false → g j = true → cN f n + 1 ≤ cN g n
  | 0, hj, _, _, _ => absurd hj (Nat.not_lt_zero j)
  | n + 1, hj, h, h1, h2 => by
    rw [cN_s, cN_s]
    by_cases q : j = n
    · subst q
      have ih := cN_mono (f := f) (g := g) j (fun i hi => h i (by omega))
      rw [h1, h2]; simp; exact ih
    · have ih := cN_mono1 n (by omega) (fun i hi => h i (by omega)) h1 h2
      have := h n (Nat.lt_succ_self n)
      cases a : f n with
      | false => rw [if_neg (by decide)]; split <;> omega
      | true => rw [this a]; simp; exact ih
theorem cN_pos {f : Nat → Bool} {j n : Nat} (hj : j < n) (h : f j = true) : 1 ≤ cN f n := by
  have z : cN (fun _ => false) n = 0 := by
    have : ∀ k, cN (fun _ => false) k = 0 := fun k => by
      induction k with
      | zero => rfl
      | succ k ih => rw [cN_s, ih]; rfl
    exact this n
  have := cN_mono1 (f := fun _ => false) (g := f) n hj (fun i _ q => by cases q) rfl h
  omega
/-- a way on: no others than must be, none lost -/
def Way (n : Nat) (e : Nat → Nat → Bool) (M M' : Nat) : Prop := (∀ s, M.testBit s = true → M'.testBit s = true) ∧ (∀ P : Nat → Prop, (∀ s t, s < n → t < n → P s → e s t = true → P t) → (∀ s, M.testBit s = true → P s) → ∀ t, M'.testBit t = true → P t)
theorem Way.refl (n : Nat) (e : Nat → Nat → Bool) (M : Nat) : Way n e M M := ⟨fun _ h => h, fun _ _ h => h⟩
theorem Way.trans {n : Nat} {e : Nat → Nat → Bool} {M M' M'' : Nat} (h1 : Way n e M M') (h2 : Way n e M' M'') : Way n e M M'' := ⟨fun s h => h2.1 s (h1.1 s h), fun P h3 h4 => h2.2 P h3 (h1.2 P h3 h4)⟩
theorem Clo_way {n : Nat} {e : Nat → Nat → Bool} {s0 M M' : Nat} (h : Clo n e s0 M) (w : Way n e M M') : Clo n e s0 M' :=
  ⟨w.2 (fun t => t < n) (fun _ _ _ ht _ _ => ht) h.1, w.1 _ h.2.1, fun P h1 h2 => w.2 P h2 (h.2.2 P h1 h2)⟩
/-- a round: closed, or one more -/
theorem Way_more {n : Nat} {e : Nat → Nat → Bool} {M M' : Nat} (w : Way n e M M') (hs : ∀ s t, s < n → t < n → M.testBit s = true → e s t = true → M'.testBit t = true) : (Clsd n e M ∧ M' = M) ∨ cN (fun s => M.testBit s) n + 1 ≤ cN (fun s => M'.testBit s) n := by
  by_cases c : Clsd n e M
  · refine Or.inl ⟨c, Nat.eq_of_testBit_eq fun i => ?_⟩
    have k := w.2 (fun t => M.testBit t = true) c (fun _ h => h) i
    cases a : M'.testBit i with
    | true => exact (k a).symm
    | false =>
      cases b : M.testBit i with
      | false => rfl
      | true => rw [w.1 i b] at a; cases a
  · refine Or.inr ?_
    have : ∃ t, t < n ∧ M.testBit t = false ∧ M'.testBit t = true := by
      apply Classical.byContradiction
      intro q
      apply c
      intro s t h1 h2 h3 h4
      cases a : M.testBit t with
      | true => rfl
      | false => exact absurd ⟨t, h2, a, hs s t h1 h2 h3 h4⟩ q
    obtain ⟨t, h1, h2, h3⟩ := this
    exact cN_mono1 (f := fun s => M.testBit s) (g := fun s => M'.testBit s) n h1 (fun i _ h => w.1 i h) h2 h3
theorem mask256 {M n : Nat} (h8 : n ≤ 8) (h : ∀ s, M.testBit s = true → s < n) : M < 256 := by
  apply Classical.byContradiction
  intro q
  obtain ⟨i, h1, h2⟩ := Nat.exists_ge_and_testBit_of_ge_two_pow (x := M) (n := 8) (by omega)
  have := h i h2
  omega
/-- whom a chain takes on: e -/
def lnk (c : Nat → Int) (A : Nat → Nat → Int) (both : Int) (s t : Nat) : Bool := decide (c t = both - c s) && decide (0 < A s t)
section
variable {σ : gs_Mem} {r n : Nat} {c : Nat → Int} {A : Nat → Nat → Int}
theorem i_neighboursOn (hp : PlA σ r n c A) (hg : RgA n c A) {s : Nat} (hs : s < n) {v : Int} (hv : -2147483648 ≤ v ∧ v < 2147483648) : ∃ B : Nat, f_X0_neighboursOn r (s : Int) v σ = some (B : Int) ∧ B < 256 ∧ ∀ t, B.testBit t = (decide (t < n) && (decide (c t = v) && decide (0 < A s t))) := by
  have h8 := hg.1
  refine loop0 (fun m k (a : Int) => f_X0_neighboursOn_L5 σ r (s : Int) v m a (k : Int)) (fun k a => ∃ B : Nat, a = (B : Int) ∧ B < 256 ∧ ∀ t, B.testBit t = (decide (t < k) && (decide (c t = v) && decide (0 < A s t)))) (fun q => ∃ B : Nat, q = some (B : Int) ∧ B < 256 ∧ ∀ t, B.testBit t = (decide (t < n) && (decide (c t = v) && decide (0 < A s t)))) n 0 (by omega) ?_ ?_ ⟨0, rfl, by decide, fun t => by rw [Nat.zero_testBit, decide_eq_false (Nat.not_lt_zero t)]; rfl⟩
  · intro m k a hk ⟨B, e1, e2, e3⟩
    subst e1
    have q1 := hg.2.1 k
    have q2 := hg.2.2.1 s k
    have same : (decide (c k = v) && decide (0 < A s k)) = false → ∀ t, B.testBit t = (decide (t < k + 1) && (decide (c t = v) && decide (0 < A s t))) := fun z t => by
      rw [e3 t]
      by_cases e : t = k
      · rw [e, z, Bool.and_false, Bool.and_false]
      · by_cases l : t < k
        · rw [decide_eq_true l, decide_eq_true (by omega : t < k + 1)]
        · rw [decide_eq_false l, decide_eq_false (by omega : ¬ t < k + 1)]
    rw [f_X0_neighboursOn_L5, hp.1, gnN (by omega), gnN (by omega), if_neg (by omega), gs_chk_t (by omega) (by omega), t1, hp.2.1 k hk, gnS (x := c k) (by omega), gnS hv]
    unfold f_X0_neighboursOn_J42
    by_cases c1 : c k = v
    · rw [if_pos c1, i_between hp hg hs hk, Option.bind_some, gnS (x := A s k) (by omega)]
      by_cases c2 : A s k ≤ 0
      · rw [if_pos c2]
        exact Or.inr ⟨(B : Int), rfl, B, rfl, e2, same (by rw [decide_eq_false (by omega : ¬ 0 < A s k), Bool.and_false])⟩
      · rw [if_neg c2, gshl_one k (by omega), gor_nat (by omega) (p31 (d := k) (by omega))]
        refine Or.inr ⟨_, rfl, B ||| 2 ^ k, rfl, Nat.or_lt_two_pow (n := 8) e2 (Nat.pow_lt_pow_right (by decide) (by omega)), fun t => ?_⟩
        rw [Nat.testBit_or, Nat.testBit_two_pow, e3 t]
        by_cases e : t = k
        · rw [e, decide_eq_true (rfl : k = k), decide_eq_true (Nat.lt_succ_self k), decide_eq_true c1, decide_eq_true (by omega : 0 < A s k), Bool.or_true]; rfl
        · rw [decide_eq_false (fun z : k = t => e z.symm), Bool.or_false]
          by_cases l : t < k
          · rw [decide_eq_true l, decide_eq_true (by omega : t < k + 1)]
          · rw [decide_eq_false l, decide_eq_false (by omega : ¬ t < k + 1)]
    · rw [if_neg c1]
      exact Or.inr ⟨(B : Int), rfl, B, rfl, e2, same (by rw [decide_eq_false c1, Bool.false_and])⟩
  · intro m a ⟨B, e1, e2, e3⟩
    refine ⟨B, ?_, e2, e3⟩
    rw [f_X0_neighboursOn_L5, hp.1, gnN (by omega), if_pos (Int.le_refl _), e1]
/-- one round -/
theorem i_chainL19 (hp : PlA σ r n c A) (hg : RgA n c A) {both : Int} (hb : 0 ≤ both ∧ both ≤ 38) (v4 : Int) (K : Int → Option Int) {M : Nat} (hM : ∀ s, M.testBit s = true → s < n) : ∃ M' : Nat, f_X0_chainOf_L19 σ r both v4 K gs_fuel (M : Int) 0 = K (M' : Int) ∧ Way n (lnk c A both) M M' ∧ ∀ s t, s < n → t < n → M.testBit s = true → lnk c A both s t = true → M'.testBit t = true := by
  have h8 := hg.1
  refine loop0 (fun m k (a : Int) => f_X0_chainOf_L19 σ r both v4 K m a (k : Int)) (fun k a => ∃ M' : Nat, a = (M' : Int) ∧ Way n (lnk c A both) M M' ∧ ∀ s t, s < k → t < n → M.testBit s = true → lnk c A both s t = true → M'.testBit t = true) (fun q => ∃ M' : Nat, q = K (M' : Int) ∧ Way n (lnk c A both) M M' ∧ ∀ s t, s < n → t < n → M.testBit s = true → lnk c A both s t = true → M'.testBit t = true) n (M : Int) (by omega) ?_ ?_ ⟨M, rfl, Way.refl _ _ _, fun s t h => absurd h (Nat.not_lt_zero s)⟩
  · intro m k a hk ⟨M', e1, e2, e3⟩
    subst e1
    have hM' : ∀ s, M'.testBit s = true → s < n := e2.2 (fun t => t < n) (fun _ _ _ ht _ _ => ht) hM
    have h256 := mask256 h8 hM'
    have q1 := hg.2.1 k
    rw [f_X0_chainOf_L19, hp.1, gnN (by omega), gnN (by omega), if_neg (by omega), gbit (by omega) (by omega)]
    unfold f_X0_chainOf_J56
    cases c1 : M'.testBit k with
    | false =>
      rw [if_neg (show ¬ (if false = true then (1 : Int) else 0) = 1 by decide)]
      refine Or.inr ⟨(M' : Int), rfl, M', rfl, e2, fun s t h1 h2 h3 h4 => ?_⟩
      by_cases e : s = k
      · rw [e] at h3
        rw [e2.1 k h3] at c1; cases c1
      · exact e3 s t (by omega) h2 h3 h4
    | true =>
      obtain ⟨B, b1, b2, b3⟩ := i_neighboursOn hp hg hk (v := both - c k) (by omega)
      rw [if_pos (show (if true = true then (1 : Int) else 0) = 1 from rfl), gs_chk_t (by omega) (by omega), t1, hp.2.1 k hk, b1, Option.bind_some, gor_nat (by omega) (by omega)]
      refine Or.inr ⟨_, rfl, M' ||| B, rfl, ⟨fun s hs => ?_, fun P h1 h2 t ht => ?_⟩, fun s t h1 h2 h3 h4 => ?_⟩
      · rw [Nat.testBit_or, e2.1 s hs, Bool.true_or]
      · rw [Nat.testBit_or, Bool.or_eq_true] at ht
        rcases ht with ht | ht
        · exact e2.2 P h1 h2 t ht
        · rw [b3 t, Bool.and_eq_true, decide_eq_true_eq] at ht
          exact h1 k t hk ht.1 (e2.2 P h1 h2 k c1) ht.2
      · rw [Nat.testBit_or, Bool.or_eq_true]
        by_cases e : s = k
        · refine Or.inr ?_
          rw [b3 t, decide_eq_true h2, Bool.true_and]
          rw [e] at h4; exact h4
        · exact Or.inl (e3 s t (by omega) h2 h3 h4)
  · intro m a ⟨M', e1, e2, e3⟩
    refine ⟨M', ?_, e2, e3⟩
    rw [f_X0_chainOf_L19, hp.1, gnN (by omega), if_pos (Int.le_refl _), e1]
theorem i_chainOf (hp : PlA σ r n c A) (hg : RgA n c A) {both : Int} (hb : 0 ≤ both ∧ both ≤ 38) {s0 : Nat} (h0 : s0 < n) : ∃ M : Nat, f_X0_chainOf r (s0 : Int) both σ = some (M : Int) ∧ Clo n (lnk c A both) s0 M ∧ Clsd n (lnk c A both) M := by
  have h8 := hg.1
  unfold f_X0_chainOf
  rw [gshl_one s0 (by omega)]
  refine loop0 (fun m k (a : Int) => f_X0_chainOf_L7 σ r both m a (k : Int)) (fun k a => ∃ M : Nat, a = (M : Int) ∧ Clo n (lnk c A both) s0 M ∧ (Clsd n (lnk c A both) M ∨ k + 1 ≤ cN (fun s => M.testBit s) n)) (fun q => ∃ M : Nat, q = some (M : Int) ∧ Clo n (lnk c A both) s0 M ∧ Clsd n (lnk c A both) M) n ((2 ^ s0 : Nat) : Int) (by omega) ?_ ?_ ⟨2 ^ s0, rfl, ⟨fun s hs => ?_, ?_, fun P h1 h2 t ht => ?_⟩, Or.inr (cN_pos h0 ?_)⟩
  · intro m k a hk ⟨M, e1, e2, e3⟩
    subst e1
    rw [f_X0_chainOf_L7, hp.1, gnN (by omega), gnN (by omega), if_neg (by omega)]
    obtain ⟨M', d1, d2, d3⟩ := i_chainL19 hp hg hb (k : Int) (fun w3 => f_X0_chainOf_L7 σ r both m w3 ((k : Int) + 1)) e2.1
    refine Or.inr ⟨(M' : Int), d1, M', rfl, Clo_way e2 d2, ?_⟩
    rcases Way_more d2 d3 with ⟨z1, z2⟩ | z
    · rw [z2]; exact Or.inl z1
    · rcases e3 with e3 | e3
      · have k := d2.2 (fun t => M.testBit t = true) e3 (fun _ h => h)
        have := cN_mono (f := fun s => M'.testBit s) (g := fun s => M.testBit s) n (fun i _ h => k i h)
        omega
      · exact Or.inr (by omega)
  · intro m a ⟨M, e1, e2, e3⟩
    refine ⟨M, ?_, e2, ?_⟩
    · rw [f_X0_chainOf_L7, hp.1, gnN (by omega), if_pos (Int.le_refl _), e1]
    · rcases e3 with e3 | e3
      · exact e3
      · have := cN_le (fun s => M.testBit s) n
        omega
  · rw [Nat.testBit_two_pow, decide_eq_true_eq] at hs
    omega
  · rw [Nat.testBit_two_pow]; exact decide_eq_true rfl
  · rw [Nat.testBit_two_pow, decide_eq_true_eq] at ht
    rw [← ht]; exact h1
  · rw [Nat.testBit_two_pow]; exact decide_eq_true rfl
end
