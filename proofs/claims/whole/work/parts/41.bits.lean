/-! ===== the JDK's bitCount counts bits (of numbers below 2^24) ===== -/
theorem andD {a m : Nat} (ha : a < 256) (hm : m < 256) (w M : Nat) : (256 * w + a) &&& (256 * M + m) = 256 * (w &&& M) + (a &&& m) := by
  have hx : a &&& m < 2 ^ 8 := Nat.lt_of_le_of_lt Nat.and_le_left ha
  apply Nat.eq_of_testBit_eq
  intro i
  rw [Nat.testBit_and, show (256 : Nat) = 2 ^ 8 from rfl, Nat.testBit_two_pow_mul_add _ ha, Nat.testBit_two_pow_mul_add _ hm, Nat.testBit_two_pow_mul_add _ hx]
  by_cases h : i < 8
  · rw [if_pos h, if_pos h, if_pos h, Nat.testBit_and]
  · rw [if_neg h, if_neg h, if_neg h, Nat.testBit_and]
def bS1 (M v : Nat) : Nat := v - (v / 2 &&& M)
def bS2 (M x : Nat) : Nat := (x &&& M) + (x / 4 &&& M)
def bg (a : Nat) : Nat := bS2 51 (bS1 85 a)
def tb (a : Nat) : Nat := cntR (fun i => a.testBit i) 0 8
theorem b1a : ∀ q : Nat, q < 2 → ∀ a : Nat, a < 256 → (128 * q + a / 2) &&& 85 = a / 2 &&& 85 := by decide +kernel
theorem b2a : ∀ q : Nat, q < 4 → ∀ a : Nat, a < 256 → (64 * q + a / 4) &&& 51 = a / 4 &&& 51 := by decide +kernel
theorem b1c : ∀ a : Nat, a < 256 → bS1 85 a < 256 ∧ bg a % 16 < 5 ∧ bg a < 69 := by decide +kernel
theorem b3a : ∀ q : Nat, q < 5 → ∀ a : Nat, a < 256 → (bg a + bg a / 16 + 16 * q) &&& 15 = tb a := by decide +kernel
theorem b4a : ∀ a : Nat, a < 256 → tb a < 9 := by decide +kernel
theorem bS1_step {a : Nat} (ha : a < 256) (w M : Nat) : bS1 (256 * M + 85) (256 * w + a) = 256 * bS1 M w + bS1 85 a := by
  unfold bS1
  have e : (256 * w + a) / 2 = 256 * (w / 2) + (128 * (w % 2) + a / 2) := by omega
  rw [e, andD (by omega) (by decide), b1a _ (Nat.mod_lt _ (by decide)) a ha]
  have h1 : w / 2 &&& M ≤ w / 2 := Nat.and_le_left
  have h2 : a / 2 &&& 85 ≤ a / 2 := Nat.and_le_left
  omega
theorem bS2_step {a : Nat} (ha : a < 256) (w M : Nat) : bS2 (256 * M + 51) (256 * w + a) = 256 * bS2 M w + bS2 51 a := by
  unfold bS2
  have e : (256 * w + a) / 4 = 256 * (w / 4) + (64 * (w % 4) + a / 4) := by omega
  rw [e, andD ha (by decide), andD (by omega) (by decide), b2a _ (Nat.mod_lt _ (by decide)) a ha]
  omega
theorem swar {a b c : Nat} (ha : a < 256) (hb : b < 256) (hc : c < 256) :
    let v := 256 * (256 * c + b) + a
    let x1 := bS2 858993459 (bS1 1431655765 v)
    let y := (x1 + x1 / 16) &&& 252645135
    let x2 := y + y / 256
    (x2 + x2 / 65536) &&& 63 = tb a + tb b + tb c := by
  intro v x1 y x2
  have e1 : bS1 1431655765 v = 256 * (256 * bS1 85 c + bS1 85 b) + bS1 85 a := by
    show bS1 (256 * (256 * 21845 + 85) + 85) (256 * (256 * c + b) + a) = _
    rw [bS1_step ha, bS1_step hb]
    have : bS1 21845 c = bS1 85 c := by
      have := bS1_step hc 0 85
      rw [show 256 * 85 + 85 = 21845 from rfl, Nat.mul_zero, Nat.zero_add] at this
      rw [this]; show 256 * (0 - (0 / 2 &&& 85)) + _ = _; simp
    rw [this]
  have e2 : x1 = 256 * (256 * bg c + bg b) + bg a := by
    show bS2 858993459 (bS1 1431655765 v) = _
    rw [e1]
    show bS2 (256 * (256 * 13107 + 51) + 51) _ = _
    rw [bS2_step (b1c a ha).1, bS2_step (b1c b hb).1]
    have : bS2 13107 (bS1 85 c) = bS2 51 (bS1 85 c) := by
      have := bS2_step (b1c c hc).1 0 51
      rw [show 256 * 51 + 51 = 13107 from rfl, Nat.mul_zero, Nat.zero_add] at this
      rw [this]; show 256 * ((0 &&& 51) + (0 / 4 &&& 51)) + _ = _; simp
    rw [this]; rfl
  obtain ⟨-, qa, ra⟩ := b1c a ha
  obtain ⟨-, qb, rb⟩ := b1c b hb
  obtain ⟨-, qc, rc⟩ := b1c c hc
  have e3 : y = 256 * (256 * tb c + tb b) + tb a := by
    show (x1 + x1 / 16) &&& 252645135 = _
    have e : x1 + x1 / 16 = 256 * (256 * (bg c + bg c / 16 + 16 * 0) + (bg b + bg b / 16 + 16 * (bg c % 16))) + (bg a + bg a / 16 + 16 * (bg b % 16)) := by rw [e2]; omega
    rw [e, show (252645135 : Nat) = 256 * (256 * 3855 + 15) + 15 from rfl, andD (by omega) (by decide), andD (by omega) (by decide), b3a _ qb a ha, b3a _ qc b hb]
    have : (bg c + bg c / 16 + 16 * 0) &&& 3855 = (bg c + bg c / 16 + 16 * 0) &&& 15 := by
      have := andD (a := bg c + bg c / 16 + 16 * 0) (m := 15) (by omega) (by decide) 0 15
      rw [show 256 * 15 + 15 = 3855 from rfl, Nat.mul_zero, Nat.zero_add] at this
      rw [this]; simp
    rw [this, b3a 0 (by decide) c hc]
  have t1 := b4a a ha
  have t2 := b4a b hb
  have t3 := b4a c hc
  have e4 : x2 + x2 / 65536 = 64 * (4 * (tb b + tb c) + 1024 * tb c) + (tb a + tb b + tb c) := by
    show (y + y / 256) + (y + y / 256) / 65536 = _
    rw [e3]; omega
  rw [e4, show (63 : Nat) = 2 ^ 6 - 1 from rfl, Nat.and_two_pow_sub_one_eq_mod]
  omega
theorem cntR_shift (f : Nat → Bool) (s : Nat) : ∀ d k, cntR (fun i => f (i + s)) k d = cntR f (k + s) d
  | 0, _ => rfl
  | d + 1, k => by
    show (if f (k + s) then 1 else 0) + cntR (fun i => f (i + s)) (k + 1) d = (if f (k + s) then 1 else 0) + cntR f (k + s + 1) d
    rw [cntR_shift f s d (k + 1), show k + 1 + s = k + s + 1 by omega]
theorem popc_bytes {a b c : Nat} (ha : a < 256) (hb : b < 256) (hc : c < 256) : popc (256 * (256 * c + b) + a) = tb a + tb b + tb c := by
  have hv : 256 * (256 * c + b) + a < 2 ^ 24 := by omega
  rw [popc_n 24 (by decide) hv, show 24 = 8 + (8 + 8) from rfl, cntR_add, cntR_add]
  have h1 : cntR (fun i => (256 * (256 * c + b) + a).testBit i) 0 8 = tb a := by
    apply cntR_congr
    intro i _ hi
    rw [show (256 : Nat) = 2 ^ 8 from rfl, Nat.testBit_two_pow_mul_add _ ha, if_pos (by omega)]
  have h2 : cntR (fun i => (256 * (256 * c + b) + a).testBit i) (0 + 8) 8 = tb b := by
    rw [← cntR_shift (fun i => (256 * (256 * c + b) + a).testBit i) 8 8 0]
    apply cntR_congr
    intro i _ hi
    show Nat.testBit (256 * (256 * c + b) + a) (i + 8) = _
    rw [show (256 : Nat) = 2 ^ 8 from rfl, Nat.testBit_two_pow_mul_add _ ha, if_neg (by omega), show i + 8 - 8 = i by omega, Nat.testBit_two_pow_mul_add _ hb, if_pos (by omega)]
  have h3 : cntR (fun i => (256 * (256 * c + b) + a).testBit i) (0 + 8 + 8) 8 = tb c := by
    rw [show 0 + 8 + 8 = 0 + 16 from rfl, ← cntR_shift (fun i => (256 * (256 * c + b) + a).testBit i) 16 8 0]
    apply cntR_congr
    intro i _ hi
    show Nat.testBit (256 * (256 * c + b) + a) (i + 16) = _
    rw [show (256 : Nat) = 2 ^ 8 from rfl, Nat.testBit_two_pow_mul_add _ ha, if_neg (by omega), show i + 16 - 8 = i + 8 by omega, Nat.testBit_two_pow_mul_add _ hb, if_neg (by omega), show i + 8 - 8 = i by omega]
  rw [h1, h2, h3]; omega
theorem su31 : ∀ n : Nat, n < 32 → (((nI n).toUInt32 &&& Int32.toUInt32 31).toBitVec % 32).toNat = n := by decide +kernel
theorem gushr_nat {a s : Nat} (ha : a < 2147483648) (hs : s < 32) : gushr (a : Int) (s : Int) = ((a / 2 ^ s : Nat) : Int) := by
  unfold gushr
  rw [oi_nat, oi_nat]
  show (((nI a).toUInt32 >>> ((nI s).toUInt32 &&& Int32.toUInt32 31)).toInt32).toInt = _
  rw [pk_ushrN (by omega) (nI s) s (su31 s hs)]
  exact nI_toInt (Nat.lt_of_le_of_lt (Nat.div_le_self _ _) ha)
theorem bitCount_spec {v : Nat} (hv : v < 16777216) (σ : gs_Mem) : f_J6_bitCount_0f7a4 (v : Int) σ = some ((popc v : Nat) : Int) := by
  have key := swar (a := v % 256) (b := v / 256 % 256) (c := v / 65536) (by omega) (by omega) (by omega)
  have ev : 256 * (256 * (v / 65536) + v / 256 % 256) + v % 256 = v := by omega
  have pb := popc_bytes (a := v % 256) (b := v / 256 % 256) (c := v / 65536) (by omega) (by omega) (by omega)
  rw [ev] at key pb
  simp only at key
  unfold f_J6_bitCount_0f7a4 gs_let
  have hle : v / 2 &&& 1431655765 ≤ v / 2 := Nat.and_le_left
  have e1 : (v : Int) - gand (gushr (v : Int) 1) 1431655765 = ((bS1 1431655765 v : Nat) : Int) := by
    rw [show (1 : Int) = ((1 : Nat) : Int) from rfl, gushr_nat (by omega) (by decide), show (1431655765 : Int) = ((1431655765 : Nat) : Int) from rfl, gand_nat (by omega)]
    unfold bS1
    show _ = ((v - (v / 2 &&& 1431655765) : Nat) : Int)
    rw [show v / 2 ^ 1 = v / 2 from rfl]
    omega
  have b1 : bS1 1431655765 v ≤ v := Nat.sub_le _ _
  have l2 : (bS1 1431655765 v &&& 858993459) ≤ bS1 1431655765 v := Nat.and_le_left
  have l3 : (bS1 1431655765 v / 4 &&& 858993459) ≤ bS1 1431655765 v / 4 := Nat.and_le_left
  have e2 : gand ((bS1 1431655765 v : Nat) : Int) 858993459 + gand (gushr ((bS1 1431655765 v : Nat) : Int) 2) 858993459 = ((bS2 858993459 (bS1 1431655765 v) : Nat) : Int) := by
    rw [show (2 : Int) = ((2 : Nat) : Int) from rfl, gushr_nat (by omega) (by decide), show (858993459 : Int) = ((858993459 : Nat) : Int) from rfl, gand_nat (by omega), gand_nat (by omega)]
    unfold bS2
    rw [show bS1 1431655765 v / 2 ^ 2 = bS1 1431655765 v / 4 from rfl]
    omega
  have b2 : bS2 858993459 (bS1 1431655765 v) < 33554432 := by unfold bS2; omega
  rw [e1]; dsimp only
  rw [e2]
  generalize bS2 858993459 (bS1 1431655765 v) = x1 at key b2 ⊢
  have l4 : (x1 + x1 / 16) &&& 252645135 ≤ x1 + x1 / 16 := Nat.and_le_left
  have e3 : gand ((x1 : Int) + gushr (x1 : Int) 4) 252645135 = (((x1 + x1 / 16) &&& 252645135 : Nat) : Int) := by
    rw [show (4 : Int) = ((4 : Nat) : Int) from rfl, gushr_nat (by omega) (by decide), show (252645135 : Int) = ((252645135 : Nat) : Int) from rfl, show (x1 : Int) + ((x1 / 2 ^ 4 : Nat) : Int) = ((x1 + x1 / 16 : Nat) : Int) by omega, gand_nat (by omega)]
  rw [e3]
  generalize ((x1 + x1 / 16) &&& 252645135) = y at key l4 ⊢
  have e4 : (y : Int) + gushr (y : Int) 8 = ((y + y / 256 : Nat) : Int) := by
    rw [show (8 : Int) = ((8 : Nat) : Int) from rfl, gushr_nat (by omega) (by decide)]; omega
  rw [e4]
  have e5 : ((y + y / 256 : Nat) : Int) + gushr ((y + y / 256 : Nat) : Int) 16 = ((y + y / 256 + (y + y / 256) / 65536 : Nat) : Int) := by
    rw [show (16 : Int) = ((16 : Nat) : Int) from rfl, gushr_nat (by omega) (by decide)]; omega
  rw [e5, show (63 : Int) = ((63 : Nat) : Int) from rfl, gand_nat (by omega), key, pb]
