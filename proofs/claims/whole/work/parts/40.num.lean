/-! ===== numbers ===== -/
theorem gnS {x : Int} (h : -2147483648 ≤ x ∧ x < 2147483648) : gn x = x := gn_id h.1 h.2
theorem gnN {k : Nat} (h : k < 2147483648) : gn (k : Int) = k := gn_id (by omega) (by omega)
theorem oi_nat (n : Nat) : Int32.ofInt (n : Int) = Int32.ofNat n := by
  apply Int32.toInt_inj.mp
  rw [Int32.toInt_ofInt, Int32.toInt_ofNat']
theorem gand_nat {a b : Nat} (ha : a < 2147483648) : gand (a : Int) (b : Int) = ((a &&& b : Nat) : Int) := by
  have h : (Int32.ofNat a &&& Int32.ofNat b) = Int32.ofNat (a &&& b) := by
    apply Int32.toBitVec_inj.mp
    show BitVec.ofNat 32 a &&& BitVec.ofNat 32 b = BitVec.ofNat 32 (a &&& b)
    exact (BitVec.ofNat_and).symm
  have hl : a &&& b < 2147483648 := Nat.lt_of_le_of_lt Nat.and_le_left ha
  unfold gand
  rw [oi_nat, oi_nat, h]
  exact nI_toInt hl
theorem gor_nat {a b : Nat} (ha : a < 2147483648) (hb : b < 2147483648) : gor (a : Int) (b : Int) = ((a ||| b : Nat) : Int) := by
  have h : (Int32.ofNat a ||| Int32.ofNat b) = Int32.ofNat (a ||| b) := by
    apply Int32.toBitVec_inj.mp
    show BitVec.ofNat 32 a ||| BitVec.ofNat 32 b = BitVec.ofNat 32 (a ||| b)
    exact (BitVec.ofNat_or).symm
  have hl : a ||| b < 2147483648 := Nat.or_lt_two_pow (n := 31) ha hb
  unfold gor
  rw [oi_nat, oi_nat, h]
  exact nI_toInt hl
/-- a without the bits of b -/
def andn (a b : Nat) : Nat := a &&& (b ^^^ 2147483647)
theorem andn_bit {a b : Nat} (ha : a < 2147483648) (i : Nat) : (andn a b).testBit i = (a.testBit i && !b.testBit i) := by
  unfold andn
  rw [Nat.testBit_and, Nat.testBit_xor, show (2147483647 : Nat) = 2 ^ 31 - 1 from rfl, Nat.testBit_two_pow_sub_one]
  by_cases h : i < 31
  · rw [decide_eq_true h, Bool.xor_true]
  · have : a.testBit i = false := Nat.testBit_lt_two_pow (Nat.lt_of_lt_of_le ha (Nat.pow_le_pow_right (by decide) (by omega) : 2 ^ 31 ≤ 2 ^ i))
    rw [this]; rfl
theorem andn_le (a b : Nat) : andn a b ≤ a := Nat.and_le_left
theorem gandn_nat {a b : Nat} (ha : a < 2147483648) : gand (a : Int) (gxor (b : Int) (-1)) = ((andn a b : Nat) : Int) := by
  have h : Int32.ofNat a &&& (Int32.ofNat b ^^^ Int32.ofInt (-1)) = Int32.ofNat (andn a b) := by
    apply Int32.toBitVec_inj.mp
    show BitVec.ofNat 32 a &&& (BitVec.ofNat 32 b ^^^ BitVec.allOnes 32) = BitVec.ofNat 32 (andn a b)
    apply BitVec.eq_of_getLsbD_eq
    intro i hi
    have e := andn_bit (b := b) ha i
    simp only [BitVec.getLsbD_and, BitVec.getLsbD_xor, BitVec.getLsbD_ofNat, BitVec.getLsbD_allOnes, hi, decide_true, Bool.true_and, e, Bool.xor_true]
  have hl : andn a b < 2147483648 := Nat.lt_of_le_of_lt (andn_le a b) ha
  unfold gand gxor
  rw [oi_nat, oi_nat, oi_toInt, h]
  exact nI_toInt hl
theorem gshl_one : ∀ s : Nat, s < 31 → gshl 1 (s : Int) = ((2 ^ s : Nat) : Int) := by decide +kernel
theorem sh31 : ∀ n : Nat, n < 32 → ((nI n &&& 31).toBitVec.smod 32).toNat = n := by decide +kernel
theorem gshr_nat {a s : Nat} (ha : a < 2147483648) (hs : s < 32) : gshr (a : Int) (s : Int) = ((a / 2 ^ s : Nat) : Int) := by
  unfold gshr
  rw [oi_nat, oi_nat]
  show (nI a >>> (nI s &&& 31)).toInt = _
  rw [pk_shrN ha (nI s &&& 31) s (sh31 s hs)]
  exact nI_toInt (Nat.lt_of_le_of_lt (Nat.div_le_self _ _) ha)
theorem gbit {a s : Nat} (ha : a < 2147483648) (hs : s < 32) : gand (gshr (a : Int) (s : Int)) 1 = if a.testBit s then 1 else 0 := by
  rw [gshr_nat ha hs, show (1 : Int) = ((1 : Nat) : Int) from rfl, gand_nat (Nat.lt_of_le_of_lt (Nat.div_le_self _ _) ha), Nat.and_one_is_mod]
  rw [Nat.testBit_eq_decide_div_mod_eq]
  have := Nat.mod_two_eq_zero_or_one (a / 2 ^ s)
  rcases this with h | h
  · rw [h]; rfl
  · rw [h]; rfl
/-! ===== folds over a row of numbers, upwards ===== -/
def cntR (f : Nat → Bool) : Nat → Nat → Nat
  | _, 0 => 0
  | k, d + 1 => (if f k then 1 else 0) + cntR f (k + 1) d
def sumR (f : Nat → Int) : Nat → Nat → Int
  | _, 0 => 0
  | k, d + 1 => f k + sumR f (k + 1) d
def allR (f : Nat → Bool) : Nat → Nat → Bool
  | _, 0 => true
  | k, d + 1 => f k && allR f (k + 1) d
def firR (f : Nat → Bool) : Nat → Nat → Option Nat
  | _, 0 => none
  | k, d + 1 => if f k then some k else firR f (k + 1) d
def foldR {A : Type} (g : A → Nat → A) : Nat → Nat → A → A
  | _, 0, a => a
  | k, d + 1, a => foldR g (k + 1) d (g a k)
theorem cntR_le (f : Nat → Bool) : ∀ d k, cntR f k d ≤ d
  | 0, _ => Nat.le_refl 0
  | d + 1, k => by
    have h := cntR_le f d (k + 1)
    unfold cntR
    split <;> omega
theorem cntR_congr {f g : Nat → Bool} : ∀ d k, (∀ i, k ≤ i → i < k + d → f i = g i) → cntR f k d = cntR g k d
  | 0, _, _ => rfl
  | d + 1, k, h => by
    unfold cntR
    rw [h k (Nat.le_refl _) (by omega), cntR_congr d (k + 1) (fun i h1 h2 => h i (by omega) (by omega))]
theorem sumR_congr {f g : Nat → Int} : ∀ d k, (∀ i, k ≤ i → i < k + d → f i = g i) → sumR f k d = sumR g k d
  | 0, _, _ => rfl
  | d + 1, k, h => by
    unfold sumR
    rw [h k (Nat.le_refl _) (by omega), sumR_congr d (k + 1) (fun i h1 h2 => h i (by omega) (by omega))]
theorem allR_congr {f g : Nat → Bool} : ∀ d k, (∀ i, k ≤ i → i < k + d → f i = g i) → allR f k d = allR g k d
  | 0, _, _ => rfl
  | d + 1, k, h => by
    unfold allR
    rw [h k (Nat.le_refl _) (by omega), allR_congr d (k + 1) (fun i h1 h2 => h i (by omega) (by omega))]
theorem firR_congr {f g : Nat → Bool} : ∀ d k, (∀ i, k ≤ i → i < k + d → f i = g i) → firR f k d = firR g k d
  | 0, _, _ => rfl
  | d + 1, k, h => by
    unfold firR
    rw [h k (Nat.le_refl _) (by omega), firR_congr d (k + 1) (fun i h1 h2 => h i (by omega) (by omega))]
theorem foldR_congr {A : Type} {f g : A → Nat → A} : ∀ d k a, (∀ i a, k ≤ i → i < k + d → f a i = g a i) → foldR f k d a = foldR g k d a
  | 0, _, _, _ => rfl
  | d + 1, k, a, h => by
    unfold foldR
    rw [h k a (Nat.le_refl _) (by omega), foldR_congr d (k + 1) _ (fun i a h1 h2 => h i a (by omega) (by omega))]
theorem allR_iff {f : Nat → Bool} : ∀ {d k}, allR f k d = true ↔ ∀ i, k ≤ i → i < k + d → f i = true
  | 0, k => ⟨fun _ i h1 h2 => absurd h2 (by omega), fun _ => rfl⟩
  | d + 1, k => by
    unfold allR
    rw [Bool.and_eq_true, allR_iff]
    refine ⟨fun ⟨h1, h2⟩ i h3 h4 => ?_, fun h => ⟨h k (Nat.le_refl _) (by omega), fun i h1 h2 => h i (by omega) (by omega)⟩⟩
    by_cases e : i = k
    · rw [e]; exact h1
    · exact h2 i (by omega) (by omega)
theorem firR_some {f : Nat → Bool} : ∀ {d k j}, firR f k d = some j → k ≤ j ∧ j < k + d ∧ f j = true ∧ ∀ i, k ≤ i → i < j → f i = false
  | 0, k, j, h => by cases h
  | d + 1, k, j, h => by
    unfold firR at h
    by_cases c : f k = true
    · rw [if_pos c] at h; cases h
      exact ⟨Nat.le_refl _, by omega, c, fun i h1 h2 => absurd h2 (by omega)⟩
    · rw [if_neg c] at h
      obtain ⟨h1, h2, h3, h4⟩ := firR_some h
      refine ⟨by omega, by omega, h3, fun i h5 h6 => ?_⟩
      by_cases e : i = k
      · rw [e]; simpa using c
      · exact h4 i (by omega) h6
theorem firR_none {f : Nat → Bool} : ∀ {d k}, firR f k d = none ↔ ∀ i, k ≤ i → i < k + d → f i = false
  | 0, k => ⟨fun _ i h1 h2 => absurd h2 (by omega), fun _ => rfl⟩
  | d + 1, k => by
    unfold firR
    by_cases c : f k = true
    · rw [if_pos c]
      exact ⟨fun h => (by cases h), fun h => (by have := h k (Nat.le_refl _) (by omega); rw [c] at this; cases this)⟩
    · rw [if_neg c, firR_none]
      refine ⟨fun h i h1 h2 => ?_, fun h i h1 h2 => h i (by omega) (by omega)⟩
      by_cases e : i = k
      · rw [e]; simpa using c
      · exact h i (by omega) (by omega)
theorem cntR_zero {f : Nat → Bool} : ∀ {d k}, cntR f k d = 0 ↔ ∀ i, k ≤ i → i < k + d → f i = false
  | 0, k => ⟨fun _ i h1 h2 => absurd h2 (by omega), fun _ => rfl⟩
  | d + 1, k => by
    unfold cntR
    by_cases c : f k = true
    · rw [if_pos c]
      exact ⟨fun h => absurd h (by omega), fun h => (by have := h k (Nat.le_refl _) (by omega); rw [c] at this; cases this)⟩
    · rw [if_neg c, Nat.zero_add, cntR_zero]
      refine ⟨fun h i h1 h2 => ?_, fun h i h1 h2 => h i (by omega) (by omega)⟩
      by_cases e : i = k
      · rw [e]; simpa using c
      · exact h i (by omega) (by omega)
theorem cntR_add (f : Nat → Bool) : ∀ a b k, cntR f k (a + b) = cntR f k a + cntR f (k + a) b
  | 0, b, k => by rw [Nat.zero_add]; show _ = 0 + _; rw [Nat.zero_add]; rfl
  | a + 1, b, k => by
    rw [show a + 1 + b = (a + b) + 1 by omega]
    show (if f k then 1 else 0) + cntR f (k + 1) (a + b) = ((if f k then 1 else 0) + cntR f (k + 1) a) + cntR f (k + (a + 1)) b
    rw [cntR_add f a b (k + 1), show k + (a + 1) = k + 1 + a by omega]
    omega
theorem cntR_false {f : Nat → Bool} {d k : Nat} (h : ∀ i, k ≤ i → i < k + d → f i = false) : cntR f k d = 0 := cntR_zero.mpr h
/-! ===== bits of a mask, counted ===== -/
def popc (m : Nat) : Nat := cntR (fun i => m.testBit i) 0 32
theorem popc_n {m : Nat} (n : Nat) (hn : n ≤ 32) (h : m < 2 ^ n) : popc m = cntR (fun i => m.testBit i) 0 n := by
  unfold popc
  rw [show 32 = n + (32 - n) by omega, cntR_add, cntR_false (d := 32 - n), Nat.add_zero]
  intro i h1 h2
  exact Nat.testBit_lt_two_pow (Nat.lt_of_lt_of_le h (Nat.pow_le_pow_right (by decide) (by omega)))
