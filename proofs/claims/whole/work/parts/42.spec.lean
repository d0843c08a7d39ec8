/-! ===== loops that go upwards ===== -/
theorem loop_inv {A R : Type} (F : Nat → Nat → A → R) (P : Nat → A → Prop) (Q : R → Prop) (n : Nat)
    (hs : ∀ m k a, k < n → P k a → Q (F (m + 1) k a) ∨ ∃ a', F (m + 1) k a = F m (k + 1) a' ∧ P (k + 1) a')
    (he : ∀ m a, P n a → Q (F (m + 1) n a)) : ∀ d k a m, k + d = n → d < m → P k a → Q (F m k a)
  | 0, k, a, m + 1, h1, _, hp => by
    have e : k = n := h1
    subst e
    exact he m a hp
  | d + 1, k, a, m + 1, h1, h2, hp => by
    rcases hs m k a (by omega) hp with h | ⟨a', h, hp'⟩
    · exact h
    · rw [h]
      exact loop_inv F P Q n hs he d (k + 1) a' m (by omega) (by omega) hp'
theorem fuel_big : 5000 < gs_fuel := by have := gs_fuel_big; omega
/-- from the start, with the machine's fuel -/
theorem loop0 {A R : Type} (F : Nat → Nat → A → R) (P : Nat → A → Prop) (Q : R → Prop) (n : Nat) (a : A) (hn : n ≤ 4000)
    (hs : ∀ m k a, k < n → P k a → Q (F (m + 1) k a) ∨ ∃ a', F (m + 1) k a = F m (k + 1) a' ∧ P (k + 1) a')
    (he : ∀ m a, P n a → Q (F (m + 1) n a)) (hp : P 0 a) : Q (F gs_fuel 0 a) :=
  loop_inv F P Q n hs he n 0 a gs_fuel (Nat.zero_add n) (by have := fuel_big; omega) hp
/-! ===== counts, sums, all, first: over 0 .. n - 1 ===== -/
def cN (f : Nat → Bool) : Nat → Nat
  | 0 => 0
  | k + 1 => cN f k + (if f k then 1 else 0)
def sN (f : Nat → Int) : Nat → Int
  | 0 => 0
  | k + 1 => sN f k + f k
def aN (f : Nat → Bool) : Nat → Bool
  | 0 => true
  | k + 1 => aN f k && f k
/-- the first of 0 .. n - 1 that f takes -/
def fN (f : Nat → Bool) : Nat → Option Nat
  | 0 => none
  | k + 1 => (fN f k).or (if f k then some k else none)
theorem cN_le (f : Nat → Bool) : ∀ n, cN f n ≤ n
  | 0 => Nat.le_refl 0
  | n + 1 => by
    have := cN_le f n
    unfold cN
    split <;> omega
theorem cN_congr {f g : Nat → Bool} : ∀ n, (∀ i, i < n → f i = g i) → cN f n = cN g n
  | 0, _ => rfl
  | n + 1, h => by
    unfold cN
    rw [cN_congr n (fun i hi => h i (by omega)), h n (Nat.lt_succ_self n)]
theorem sN_congr {f g : Nat → Int} : ∀ n, (∀ i, i < n → f i = g i) → sN f n = sN g n
  | 0, _ => rfl
  | n + 1, h => by
    unfold sN
    rw [sN_congr n (fun i hi => h i (by omega)), h n (Nat.lt_succ_self n)]
theorem aN_iff {f : Nat → Bool} : ∀ {n}, aN f n = true ↔ ∀ i, i < n → f i = true
  | 0 => ⟨fun _ i h => absurd h (Nat.not_lt_zero i), fun _ => rfl⟩
  | n + 1 => by
    unfold aN
    rw [Bool.and_eq_true, aN_iff]
    refine ⟨fun ⟨h1, h2⟩ i hi => ?_, fun h => ⟨fun i hi => h i (by omega), h n (Nat.lt_succ_self n)⟩⟩
    by_cases e : i = n
    · rw [e]; exact h2
    · exact h1 i (by omega)
theorem aN_false {f : Nat → Bool} {n i : Nat} (hi : i < n) (h : f i = false) : aN f n = false := by
  cases c : aN f n with
  | false => rfl
  | true => rw [aN_iff.mp c i hi] at h; cases h
theorem aN_congr {f g : Nat → Bool} : ∀ n, (∀ i, i < n → f i = g i) → aN f n = aN g n
  | 0, _ => rfl
  | n + 1, h => by
    unfold aN
    rw [aN_congr n (fun i hi => h i (by omega)), h n (Nat.lt_succ_self n)]
theorem fN_none {f : Nat → Bool} : ∀ {n}, fN f n = none ↔ ∀ i, i < n → f i = false
  | 0 => ⟨fun _ i h => absurd h (Nat.not_lt_zero i), fun _ => rfl⟩
  | n + 1 => by
    unfold fN
    constructor
    · intro h i hi
      cases c : fN f n with
      | some j => rw [c] at h; cases h
      | none =>
        rw [c] at h
        by_cases e : i = n
        · rw [e]
          cases d : f n with
          | false => rfl
          | true => rw [d] at h; cases h
        · exact fN_none.mp c i (by omega)
    · intro h
      rw [fN_none.mpr (fun i hi => h i (by omega)), h n (Nat.lt_succ_self n)]
      rfl
theorem fN_some {f : Nat → Bool} : ∀ {n j}, (j < n ∧ f j = true ∧ ∀ i, i < j → f i = false) → fN f n = some j
  | 0, j, h => absurd h.1 (Nat.not_lt_zero j)
  | n + 1, j, ⟨h1, h2, h3⟩ => by
    unfold fN
    by_cases e : j = n
    · subst e
      rw [fN_none.mpr h3, h2]; rfl
    · rw [fN_some ⟨by omega, h2, h3⟩]; rfl
theorem fN_prop {f : Nat → Bool} : ∀ {n j}, fN f n = some j → j < n ∧ f j = true ∧ ∀ i, i < j → f i = false
  | 0, j, h => by cases h
  | n + 1, j, h => by
    unfold fN at h
    cases c : fN f n with
    | some i =>
      rw [c] at h
      cases h
      obtain ⟨a, b, d⟩ := fN_prop c
      exact ⟨by omega, b, d⟩
    | none =>
      rw [c] at h
      cases d : f n with
      | false => rw [d] at h; cases h
      | true =>
        rw [d] at h
        cases h
        exact ⟨by omega, d, fN_none.mp c⟩
theorem fN_congr {f g : Nat → Bool} : ∀ n, (∀ i, i < n → f i = g i) → fN f n = fN g n
  | 0, _ => rfl
  | n + 1, h => by
    unfold fN
    rw [fN_congr n (fun i hi => h i (by omega)), h n (Nat.lt_succ_self n)]
theorem cntR_cN (f : Nat → Bool) : ∀ n, cntR f 0 n = cN f n
  | 0 => rfl
  | n + 1 => by
    rw [cntR_add, cntR_cN f n]
    show cN f n + ((if f (0 + n) then 1 else 0) + 0) = _
    rw [Nat.zero_add]; rfl
theorem popc_cN {m : Nat} (n : Nat) (hn : n ≤ 32) (h : m < 2 ^ n) : popc m = cN (fun i => m.testBit i) n := by
  rw [popc_n n hn h, cntR_cN]
/-- the number found, or 'absent' -/
def foundOr (o : Option Nat) : Int := match o with
  | none => -5
  | some j => (j : Int)
/-! ===== small numbers ===== -/
theorem sq40 {x : Int} (h : 0 ≤ x ∧ x ≤ 40) : 0 ≤ x * x ∧ x * x ≤ 1600 := by
  refine ⟨Int.mul_nonneg h.1 h.1, ?_⟩
  have := Int.mul_le_mul h.2 h.2 h.1 (by decide)
  omega
theorem sq31 {x : Int} (h : -31 ≤ x ∧ x ≤ 31) : 0 ≤ x * x ∧ x * x ≤ 961 := by
  by_cases c : 0 ≤ x
  · refine ⟨Int.mul_nonneg c c, ?_⟩
    have := Int.mul_le_mul h.2 h.2 c (by decide)
    omega
  · have c1 : 0 ≤ -x := by omega
    have c2 : -x ≤ 31 := by omega
    rw [← Int.neg_mul_neg]
    refine ⟨Int.mul_nonneg c1 c1, ?_⟩
    have := Int.mul_le_mul c2 c2 c1 (by decide)
    omega
theorem sqpos {x : Int} (h : x ≠ 0) : 1 ≤ x * x := by
  by_cases c : 0 ≤ x
  · have : 0 < x * x := Int.mul_pos (by omega) (by omega)
    omega
  · have : 0 < (-x) * (-x) := Int.mul_pos (by omega) (by omega)
    rw [Int.neg_mul_neg] at this
    omega
theorem t4 (s : Nat) : (4 + 4 * (s : Int)).toNat = 4 + 4 * s := by omega
theorem t5 (s : Nat) : (4 + 4 * (s : Int) + 1).toNat = 5 + 4 * s := by omega
theorem t6 (s : Nat) : (4 + 4 * (s : Int) + 2).toNat = 6 + 4 * s := by omega
theorem t7 (s : Nat) : (4 + 4 * (s : Int) + 3).toNat = 7 + 4 * s := by omega
theorem t36 (s : Nat) : (36 + 2 * (s : Int)).toNat = 36 + 2 * s := by omega
theorem t37 (s : Nat) : (36 + 2 * (s : Int) + 1).toNat = 37 + 2 * s := by omega
theorem t1 (s : Nat) : (s : Int).toNat = s := rfl
theorem t8 (a b : Nat) : ((a : Int) * 8 + (b : Int)).toNat = 8 * a + b := by omega
theorem gmaxE {x y : Int} (hx : -2147483648 ≤ x ∧ x < 2147483648) (hy : -2147483648 ≤ y ∧ y < 2147483648) : gmax x y = if x < y then y else x := by
  unfold gmax; rw [gnS hx, gnS hy]
theorem gminE {x y : Int} (hx : -2147483648 ≤ x ∧ x < 2147483648) (hy : -2147483648 ≤ y ∧ y < 2147483648) : gmin x y = if y < x then y else x := by
  unfold gmin; rw [gnS hx, gnS hy]
theorem gabsE {x : Int} (hx : -2147483648 ≤ x ∧ x < 2147483648) : gabs x = if 0 ≤ x then x else 0 - x := by
  unfold gabs; rw [gnS hx]
theorem gs_st_at (σ : gs_Mem) (r k : Nat) (x : Int) (a j : Nat) : gs_st σ r k x a j = if a = r ∧ j = k then x else σ a j := rfl
/-! ===== the stations, from a row of the reference's kind ===== -/
def nS (p : Nat → Int) : Nat := (p 0).toNat
def WF (p : Nat → Int) : Prop := (0 ≤ p 0 ∧ p 0 ≤ 8) ∧ (∀ s : Nat, s < nS p → (0 ≤ p (4 + 4 * s) ∧ p (4 + 4 * s) ≤ 31) ∧ (0 ≤ p (5 + 4 * s) ∧ p (5 + 4 * s) ≤ 31) ∧ (-1 ≤ p (6 + 4 * s) ∧ p (6 + 4 * s) ≤ 19) ∧ (p (7 + 4 * s) = 0 ∨ p (7 + 4 * s) = 1) ∧ (p (7 + 4 * s) = 1 → 0 ≤ p (6 + 4 * s))) ∧ (∀ r : Nat, r < 3 → (0 ≤ p (36 + 2 * r) ∧ p (36 + 2 * r) ≤ 40) ∧ (1 ≤ p (37 + 2 * r) ∧ p (37 + 2 * r) ≤ 4)) ∧ (∀ a b : Nat, a < nS p → b < nS p → a ≠ b → ¬ (p (4 + 4 * a) = p (4 + 4 * b) ∧ p (5 + 4 * a) = p (5 + 4 * b)))
theorem WF.n8 {p : Nat → Int} (h : WF p) : nS p ≤ 8 := by unfold nS; have := h.1; omega
theorem WF.n0 {p : Nat → Int} (h : WF p) : p 0 = (nS p : Int) := by unfold nS; have := h.1; omega
theorem WF.x {p : Nat → Int} (h : WF p) {s : Nat} (hs : s < nS p) : 0 ≤ p (4 + 4 * s) ∧ p (4 + 4 * s) ≤ 31 := (h.2.1 s hs).1
theorem WF.y {p : Nat → Int} (h : WF p) {s : Nat} (hs : s < nS p) : 0 ≤ p (5 + 4 * s) ∧ p (5 + 4 * s) ≤ 31 := (h.2.1 s hs).2.1
theorem WF.c {p : Nat → Int} (h : WF p) {s : Nat} (hs : s < nS p) : -1 ≤ p (6 + 4 * s) ∧ p (6 + 4 * s) ≤ 19 := (h.2.1 s hs).2.2.1
theorem WF.f {p : Nat → Int} (h : WF p) {s : Nat} (hs : s < nS p) : p (7 + 4 * s) = 0 ∨ p (7 + 4 * s) = 1 := (h.2.1 s hs).2.2.2.1
theorem WF.fc {p : Nat → Int} (h : WF p) {s : Nat} (hs : s < nS p) : p (7 + 4 * s) = 1 → 0 ≤ p (6 + 4 * s) := (h.2.1 s hs).2.2.2.2
theorem WF.near {p : Nat → Int} (h : WF p) {r : Nat} (hr : r < 3) : 0 ≤ p (36 + 2 * r) ∧ p (36 + 2 * r) ≤ 40 := (h.2.2.1 r hr).1
theorem WF.gap {p : Nat → Int} (h : WF p) {r : Nat} (hr : r < 3) : 1 ≤ p (37 + 2 * r) ∧ p (37 + 2 * r) ≤ 4 := (h.2.2.1 r hr).2
theorem WF.dis {p : Nat → Int} (h : WF p) {a b : Nat} (ha : a < nS p) (hb : b < nS p) (hab : a ≠ b) : ¬ (p (4 + 4 * a) = p (4 + 4 * b) ∧ p (5 + 4 * a) = p (5 + 4 * b)) := h.2.2.2 a b ha hb hab
/-- a station's channel, -1 for none and for no station -/
def Ch (p : Nat → Int) (s : Nat) : Int := if s < nS p then p (6 + 4 * s) else -1
def Fx (p : Nat → Int) (s : Nat) : Bool := decide (s < nS p) && decide (p (7 + 4 * s) = 1)
def ds (p : Nat → Int) (a b : Nat) : Int := (p (4 + 4 * a) - p (4 + 4 * b)) * (p (4 + 4 * a) - p (4 + 4 * b)) + (p (5 + 4 * a) - p (5 + 4 * b)) * (p (5 + 4 * a) - p (5 + 4 * b))
/-- what the first k rules ask of two stations at the square d -/
def rlN (p : Nat → Int) (d : Int) : Nat → Int
  | 0 => 0
  | k + 1 => if p (36 + 2 * k) ≤ 0 ∨ p (36 + 2 * k) * p (36 + 2 * k) < d then rlN p d k else if rlN p d k < p (37 + 2 * k) then p (37 + 2 * k) else rlN p d k
def Ap (p : Nat → Int) (a b : Nat) : Int := if a < nS p ∧ b < nS p ∧ a ≠ b then rlN p (ds p a b) 3 else 0
theorem rlN_rng {p : Nat → Int} (h : WF p) (d : Int) : ∀ k, k ≤ 3 → 0 ≤ rlN p d k ∧ rlN p d k ≤ 4
  | 0, _ => ⟨Int.le_refl 0, (by decide : (0 : Int) ≤ 4)⟩
  | k + 1, hk => by
    have ih := rlN_rng h d k (by omega)
    have g := h.gap (r := k) (by omega)
    unfold rlN
    split
    · exact ih
    · split <;> omega
theorem Ap_rng {p : Nat → Int} (h : WF p) (a b : Nat) : 0 ≤ Ap p a b ∧ Ap p a b ≤ 4 := by
  unfold Ap
  split
  · exact rlN_rng h _ 3 (by omega)
  · decide
theorem ds_comm (p : Nat → Int) (a b : Nat) : ds p a b = ds p b a := by
  unfold ds
  rw [← Int.neg_mul_neg (p (4 + 4 * a) - p (4 + 4 * b)), ← Int.neg_mul_neg (p (5 + 4 * a) - p (5 + 4 * b)), Int.neg_sub, Int.neg_sub]
theorem Ap_comm (p : Nat → Int) (a b : Nat) : Ap p a b = Ap p b a := by
  unfold Ap
  rw [ds_comm]
  by_cases c : a < nS p ∧ b < nS p ∧ a ≠ b
  · rw [if_pos c, if_pos ⟨c.2.1, c.1, fun e => c.2.2 e.symm⟩]
  · rw [if_neg c, if_neg (fun e => c ⟨e.2.1, e.1, fun d => e.2.2 d.symm⟩)]
theorem Ap_self (p : Nat → Int) (a : Nat) : Ap p a a = 0 := if_neg (fun h => h.2.2 rfl)
theorem Ch_lt {p : Nat → Int} {s : Nat} (h : s < nS p) : Ch p s = p (6 + 4 * s) := if_pos h
theorem Ch_rng {p : Nat → Int} (h : WF p) (s : Nat) : -1 ≤ Ch p s ∧ Ch p s ≤ 19 := by
  unfold Ch
  split
  · next c => exact h.c c
  · decide
theorem ds_rng {p : Nat → Int} (h : WF p) {a b : Nat} (ha : a < nS p) (hb : b < nS p) : 0 ≤ ds p a b ∧ ds p a b ≤ 1922 := by
  have h1 := h.x ha
  have h2 := h.x hb
  have h3 := h.y ha
  have h4 := h.y hb
  have q1 := sq31 (x := p (4 + 4 * a) - p (4 + 4 * b)) (by omega)
  have q2 := sq31 (x := p (5 + 4 * a) - p (5 + 4 * b)) (by omega)
  unfold ds
  omega
theorem ds_pos {p : Nat → Int} (h : WF p) {a b : Nat} (ha : a < nS p) (hb : b < nS p) (hab : a ≠ b) : 1 ≤ ds p a b := by
  have h1 := h.x ha
  have h2 := h.x hb
  have h3 := h.y ha
  have h4 := h.y hb
  have q1 := sq31 (x := p (4 + 4 * a) - p (4 + 4 * b)) (by omega)
  have q2 := sq31 (x := p (5 + 4 * a) - p (5 + 4 * b)) (by omega)
  have q := h.dis ha hb hab
  unfold ds
  by_cases c : p (4 + 4 * a) = p (4 + 4 * b)
  · have d : p (5 + 4 * a) - p (5 + 4 * b) ≠ 0 := fun e => q ⟨c, by omega⟩
    have := sqpos d
    omega
  · have d : p (4 + 4 * a) - p (4 + 4 * b) ≠ 0 := fun e => c (by omega)
    have := sqpos d
    omega
/-! ===== what the two sides work out, of n stations with channels c and gaps A ===== -/
def clash (c : Nat → Int) (A : Nat → Nat → Int) (s t : Nat) : Bool := decide (0 ≤ c s) && decide (0 ≤ c t) && decide ((if 0 ≤ c s - c t then c s - c t else 0 - (c s - c t)) < A s t)
def clo (n : Nat) (c : Nat → Int) (A : Nat → Nat → Int) (s : Nat) : Nat := cN (clash c A s) n
def clsum (n : Nat) (c : Nat → Int) (A : Nat → Nat → Int) : Nat → Nat
  | 0 => 0
  | k + 1 => clsum n c A k + clo n c A k
def cls (n : Nat) (c : Nat → Int) (A : Nat → Nat → Int) : Nat := clsum n c A n / 2
def alw (n : Nat) (c : Nat → Int) (A : Nat → Nat → Int) (s : Nat) (k : Int) : Bool := aN (fun t => decide (c t < 0) || decide (A s t ≤ (if 0 ≤ c t - k then c t - k else 0 - (c t - k)))) n
def alC (n : Nat) (c : Nat → Int) (A : Nat → Nat → Int) (s w : Nat) : Nat := cN (fun k => alw n c A s (k : Int)) w
def alF (n : Nat) (c : Nat → Int) (A : Nat → Nat → Int) (s : Nat) : Int := foundOr (fN (fun k => alw n c A s (k : Int)) 20)
def apM (n : Nat) (A : Nat → Nat → Int) (s : Nat) : Nat := cN (fun t => decide (0 < A s t)) n
theorem clo_le (n : Nat) (c : Nat → Int) (A : Nat → Nat → Int) (s : Nat) : clo n c A s ≤ n := cN_le _ n
theorem clsum_le (n : Nat) (c : Nat → Int) (A : Nat → Nat → Int) : ∀ k, clsum n c A k ≤ k * n
  | 0 => Nat.zero_le _
  | k + 1 => by
    have h1 := clsum_le n c A k
    have h2 := clo_le n c A k
    unfold clsum
    rw [Nat.succ_mul]; omega
