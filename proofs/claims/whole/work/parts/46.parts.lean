/-! ===== lowest terms: the long one and the int one ===== -/
theorem gdiv_nat {x d : Nat} (h : x < 2147483648) (h0 : 0 < d) (hd : d < 2147483648) : gdiv (x : Int) (d : Int) = ((x / d : Nat) : Int) := by
  unfold gdiv
  rw [oi_nat, oi_nat]
  show (nI x / nI d).toInt = _
  rw [pk_div h h0 hd]
  exact nI_toInt (Nat.lt_of_le_of_lt (Nat.div_le_self _ _) h)
theorem grem_nat {x d : Nat} (h : x < 2147483648) (h0 : 0 < d) (hd : d < 2147483648) : grem (x : Int) (d : Int) = ((x % d : Nat) : Int) := by
  unfold grem
  rw [oi_nat, oi_nat]
  show (nI x - nI x / nI d * nI d).toInt = _
  rw [pk_rem h h0 hd]
  exact nI_toInt (Nat.lt_of_le_of_lt (Nat.mod_le _ _) h)
theorem ol_n {x : Nat} (h : x < 4611686018427387904) : (Int64.ofInt (x : Int)).toInt = (x : Int) := gm_id (by omega) (by omega)
theorem gldiv_nat {x d : Nat} (h : x < 4611686018427387904) (hd : d < 4611686018427387904) : gldiv (x : Int) (d : Int) = ((x / d : Nat) : Int) := by
  unfold gldiv
  rw [Int64.toInt_div, ol_n h, ol_n hd, ← Int.ofNat_tdiv]
  have := Nat.div_le_self x d
  generalize x / d = q at this ⊢
  exact (bm64 _).2 (by omega) (by omega)
theorem glrem_nat {x d : Nat} (h : x < 4611686018427387904) (hd : d < 4611686018427387904) : glrem (x : Int) (d : Int) = ((x % d : Nat) : Int) := by
  unfold glrem
  have e1 : (Int64.ofInt (x : Int) / Int64.ofInt (d : Int)).toInt = ((x / d : Nat) : Int) := gldiv_nat h hd
  have q1 := Nat.div_le_self x d
  have q2 := Nat.div_mul_le_self x d
  have q3 := Nat.div_add_mod x d
  have e2 : (Int64.ofInt (x : Int) / Int64.ofInt (d : Int) * Int64.ofInt (d : Int)).toInt = ((x / d * d : Nat) : Int) := by
    rw [Int64.toInt_mul, e1, ol_n hd]
    rw [show ((x / d : Nat) : Int) * (d : Int) = ((x / d * d : Nat) : Int) from (Int.natCast_mul _ _).symm]
    exact (bm64 _).2 (by omega) (by omega)
  rw [Int64.toInt_sub, e2, ol_n h]
  rw [Nat.mul_comm] at q3
  have e3 : (x : Int) - ((x / d * d : Nat) : Int) = ((x % d : Nat) : Int) := by omega
  rw [e3]
  have := Nat.mod_le x d
  exact (bm64 _).2 (by omega) (by omega)
/-- the numerator or the denominator, in lowest terms -/
def prt (a b : Nat) (v : Int) : Int := if gn v = 0 then ((a / Nat.gcd a b : Nat) : Int) else ((b / Nat.gcd a b : Nat) : Int)
theorem gcmp0 {x : Nat} (h : x < 4611686018427387904) : (gn (gcmp (x : Int) 0) = 0) ↔ x = 0 := by
  have e1 : gm (x : Int) = x := gm_id (by omega) (by omega)
  have e2 : gm 0 = 0 := gm_id (by decide) (by decide)
  have g1 : gn 1 = 1 := by decide +kernel
  unfold gcmp
  rw [e1, e2]
  by_cases c : x = 0
  · subst c
    exact ⟨fun _ => rfl, fun _ => (by decide +kernel)⟩
  · rw [if_pos (by omega), g1]
    exact ⟨fun e => absurd e (by decide), fun e => absurd e c⟩
section
variable {σ : gs_Mem}
theorem m_gcd (a0 b0 v : Int) (K : Int → Option Int) : ∀ m a b : Nat, a < 100000 → b < 100000 → b < m → f_X7_lowest_L6 σ a0 b0 v K m (a : Int) (b : Int) = K ((Nat.gcd a b : Nat) : Int)
  | 0, _, b, _, _, h => absurd h (Nat.not_lt_zero b)
  | m + 1, a, b, ha, hb, hm => by
    rw [f_X7_lowest_L6]
    by_cases c : b = 0
    · subst c
      rw [if_pos ((gcmp0 (by decide)).mpr rfl), Nat.gcd_zero_right]
    · rw [if_neg (fun e => c ((gcmp0 (by omega)).mp e)), gs_chk0_t (by rw [gm_id (by omega) (by omega)]; omega), glrem_nat (by omega) (by omega)]
      have l := Nat.mod_lt a (Nat.pos_of_ne_zero c)
      rw [m_gcd a0 b0 v K m b (a % b) hb (by omega) (by omega), Nat.gcd_comm b, ← Nat.gcd_rec, Nat.gcd_comm]
theorem m_lowest {a b : Nat} (ha : a < 5000) (hb : b < 5000) (h0 : 0 < b) (v : Int) : f_X7_lowest (a : Int) (b : Int) v σ = some (prt a b v) := by
  unfold f_X7_lowest
  rw [m_gcd _ _ _ _ gs_fuel a b (by omega) (by omega) (by have := fuel_big; omega)]
  have hg := Nat.gcd_pos_of_pos_right a h0
  have hl := Nat.gcd_le_right a h0
  unfold f_X7_lowest_J41 prt
  have e : gm ((Nat.gcd a b : Nat) : Int) ≠ 0 := by rw [gm_id (by omega) (by omega)]; omega
  rw [gs_chk0_t e, gs_chk0_t e, gldiv_nat (by omega) (by omega), gldiv_nat (by omega) (by omega)]
  by_cases c : gn v = 0
  · rw [if_pos c, if_pos c]
  · rw [if_neg c, if_neg c]
theorem i_gcd (a0 b0 v : Int) (K : Int → Option Int) : ∀ m a b j : Nat, a < 100000 → b < 100000 → b < m → b + j < 64 → f_X6_partOf_L8 σ a0 b0 v K m (a : Int) (b : Int) (j : Int) = K ((Nat.gcd a b : Nat) : Int)
  | 0, _, b, _, _, _, h, _ => absurd h (Nat.not_lt_zero b)
  | m + 1, a, b, j, ha, hb, hm, hj => by
    rw [f_X6_partOf_L8]
    simp (disch := omega) only [gnS]
    rw [if_neg (by omega)]
    by_cases c : b = 0
    · subst c
      rw [if_pos (show ((0 : Nat) : Int) = 0 from rfl), Nat.gcd_zero_right]
    · rw [if_neg (by omega), gs_chk0_t (by omega), grem_nat (by omega) (by omega) (by omega)]
      have l := Nat.mod_lt a (Nat.pos_of_ne_zero c)
      rw [show ((j : Int) + 1) = ((j + 1 : Nat) : Int) from rfl, i_gcd a0 b0 v K m b (a % b) (j + 1) hb (by omega) (by omega) (by omega), Nat.gcd_comm b, ← Nat.gcd_rec, Nat.gcd_comm]
theorem i_partOf {a b : Nat} (ha : a < 5000) (hb : b < 64) (h0 : 0 < b) (v : Int) : f_X6_partOf (a : Int) (b : Int) v σ = some (prt a b v) := by
  unfold f_X6_partOf
  show f_X6_partOf_L8 σ (a : Int) (b : Int) v _ gs_fuel (a : Int) (b : Int) ((0 : Nat) : Int) = _
  rw [i_gcd _ _ _ _ gs_fuel a b 0 (by omega) (by omega) (by have := fuel_big; omega) (by omega)]
  have hg := Nat.gcd_pos_of_pos_right a h0
  have hl := Nat.gcd_le_right a h0
  have q1 := Nat.div_le_self a (Nat.gcd a b)
  have q2 := Nat.div_le_self b (Nat.gcd a b)
  unfold f_X6_partOf_J39 prt
  rw [gnS (x := ((Nat.gcd a b : Nat) : Int)) (by omega), if_neg (by omega), gs_chk0_t (by omega), gs_chk0_t (by omega), gdiv_nat (by omega) (by omega) (by omega), gdiv_nat (by omega) (by omega) (by omega), gnN (k := a / Nat.gcd a b) (by omega), gnN (k := b / Nat.gcd a b) (by omega)]
  by_cases c : gn v = 0
  · rw [if_pos c, if_pos c]
  · rw [if_neg c, if_neg c]
theorem prt_rng {a b : Nat} (ha : a < 5000) (hb : b < 5000) (v : Int) : 0 ≤ prt a b v ∧ prt a b v < 5000 := by
  have q1 := Nat.div_le_self a (Nat.gcd a b)
  have q2 := Nat.div_le_self b (Nat.gcd a b)
  unfold prt
  generalize a / Nat.gcd a b = x at q1 ⊢
  generalize b / Nat.gcd a b = y at q2 ⊢
  split <;> omega
end
