/-! ===== the assigning, as such ===== -/
def ahd (n : Nat) (c : Nat → Int) (A : Nat → Nat → Int) (a b : Nat) : Bool := (decide (alC n c A a 20 = alC n c A b 20) && decide (apM n A b < apM n A a)) || decide (alC n c A a 20 < alC n c A b 20)
/-- the next one of those that wait, among the first k -/
def nx (n : Nat) (c : Nat → Int) (A : Nat → Nat → Int) (w : Nat → Bool) : Nat → Option Nat
  | 0 => none
  | k + 1 => if w k then (match nx n c A w k with
    | none => some k
    | some b => if ahd n c A k b then some k else some b) else nx n c A w k
theorem nx_s (n : Nat) (c : Nat → Int) (A : Nat → Nat → Int) (w : Nat → Bool) (k : Nat) : nx n c A w (k + 1) = if w k then (match nx n c A w k with
    | none => some k
    | some b => if ahd n c A k b then some k else some b) else nx n c A w k := rfl
theorem nx_some {n : Nat} {c : Nat → Int} {A : Nat → Nat → Int} {w : Nat → Bool} : ∀ {k s}, nx n c A w k = some s → s < k ∧ w s = true
  | 0, s, h => by cases h
  | k + 1, s, h => by
    rw [nx_s] at h
    by_cases e : w k = true
    · rw [if_pos e] at h
      cases q : nx n c A w k with
      | none =>
        rw [q] at h
        cases h
        exact ⟨by omega, e⟩
      | some b =>
        rw [q] at h
        have ib := nx_some q
        dsimp only at h
        by_cases z : ahd n c A k b = true
        · rw [if_pos z] at h
          cases h
          exact ⟨by omega, e⟩
        · rw [if_neg z] at h
          cases h
          exact ⟨by omega, ib.2⟩
    · rw [if_neg e] at h
      have := nx_some h
      exact ⟨by omega, this.2⟩
theorem nx_none {n : Nat} {c : Nat → Int} {A : Nat → Nat → Int} {w : Nat → Bool} : ∀ {k}, nx n c A w k = none → ∀ s, s < k → w s = false
  | 0, _, s, h => absurd h (Nat.not_lt_zero s)
  | k + 1, h, s, hs => by
    rw [nx_s] at h
    by_cases e : w k = true
    · rw [if_pos e] at h
      cases q : nx n c A w k with
      | none => rw [q] at h; cases h
      | some b =>
        rw [q] at h
        dsimp only at h
        by_cases z : ahd n c A k b = true
        · rw [if_pos z] at h; cases h
        · rw [if_neg z] at h; cases h
    · rw [if_neg e] at h
      by_cases d : s = k
      · rw [d]; simpa using e
      · exact nx_none h s (by omega)
/-- with one number changed -/
def up {α : Type} (f : Nat → α) (s : Nat) (x : α) : Nat → α := fun t => if t = s then x else f t
def wt (c : Nat → Int) (st : Nat → Bool) (s : Nat) : Bool := decide (c s < 0) && !st s
/-- d steps: c the channels, st those for whom nothing is left -/
def grd (n : Nat) (A : Nat → Nat → Int) : Nat → (Nat → Int) → (Nat → Bool) → (Nat → Int) × (Nat → Bool)
  | 0, c, st => (c, st)
  | d + 1, c, st => match nx n c A (wt c st) n with
    | none => (c, st)
    | some s => if alF n c A s < 0 then grd n A d c (up st s true) else grd n A d (up c s (alF n c A s)) st
theorem grd_none {n : Nat} {A : Nat → Nat → Int} {c : Nat → Int} {st : Nat → Bool} (h : nx n c A (wt c st) n = none) : ∀ d, grd n A d c st = (c, st)
  | 0 => rfl
  | d + 1 => by unfold grd; rw [h]
theorem grd_step {n : Nat} {A : Nat → Nat → Int} {c : Nat → Int} {st : Nat → Bool} {s : Nat} (h : nx n c A (wt c st) n = some s) (d : Nat) : grd n A (d + 1) c st = if alF n c A s < 0 then grd n A d c (up st s true) else grd n A d (up c s (alF n c A s)) st := by
  show (match nx n c A (wt c st) n with
    | none => (c, st)
    | some s => if alF n c A s < 0 then grd n A d c (up st s true) else grd n A d (up c s (alF n c A s)) st) = _
  rw [h]
theorem alF_rng (n : Nat) (c : Nat → Int) (A : Nat → Nat → Int) (s : Nat) : alF n c A s = -5 ∨ (0 ≤ alF n c A s ∧ alF n c A s < 20) := by
  unfold alF foundOr
  cases q : fN (fun k => alw n c A s (k : Int)) 20 with
  | none => exact Or.inl rfl
  | some j =>
    have := fN_prop q
    refine Or.inr ⟨?_, ?_⟩
    · show (0 : Int) ≤ (j : Int); omega
    · show (j : Int) < 20; omega
/-- how many wait -/
theorem cN_drop {f g : Nat → Bool} {s : Nat} (hf : f s = true) (hg : g s = false) (e : ∀ t, t ≠ s → g t = f t) : ∀ n, s < n → cN g n + 1 = cN f n
  | 0, h => absurd h (Nat.not_lt_zero s)
  | n + 1, h => by
    rw [cN_s, cN_s]
    by_cases q : s = n
    · subst q
      rw [hf, hg, cN_congr (f := g) (g := f) s (fun i hi => e i (by omega))]; simp
    · rw [e n (fun z => q z.symm), ← cN_drop hf hg e n (by omega)]
      omega
theorem wt_st {c : Nat → Int} {st : Nat → Bool} {s n : Nat} (hs : s < n) (h : wt c st s = true) : cN (wt c (up st s true)) n + 1 = cN (wt c st) n :=
  cN_drop h (by unfold wt up; rw [if_pos rfl]; simp) (fun t ht => by unfold wt up; rw [if_neg ht]) n hs
theorem wt_c {c : Nat → Int} {st : Nat → Bool} {s n : Nat} {x : Int} (hx : 0 ≤ x) (hs : s < n) (h : wt c st s = true) : cN (wt (up c s x) st) n + 1 = cN (wt c st) n :=
  cN_drop h (by unfold wt up; rw [if_pos rfl, decide_eq_false (by omega)]; rfl) (fun t ht => by unfold wt up; rw [if_neg ht]) n hs
