/-! ===== the law's loop over calls that agree ===== -/
theorem gx (x : Int32) : gn x.toInt = x.toInt := by
  unfold gn
  rw [oi_toInt]
theorem gcmp_self (x : Int) : gcmp x x = 0 := by
  unfold gcmp
  rw [if_neg (Int.lt_irrefl _), if_pos rfl]
section
variable {xs : Nat → Int32} {L : Nat} {k : Int → gs_Mem → Option (Int × gs_Mem)} {i : Int} {σ : gs_Mem}
theorem go_w {f : Option (Int × gs_Mem)} {g : gs_Mem → Option (Int × gs_Mem)} (h : Agree f g) (hk : ∀ τ, Rel τ → ∃ a, k (i + 6) τ = some a) : ∃ a, (f.bind fun b1 => (g b1.2).bind fun b2 => if (gn b1.1) = (gn b2.1) then f_L_law_J1144 xs L k i b2.2 else none) = some a := by
  obtain ⟨a, σ', σ'', h1, h2, h3⟩ := h
  rw [h1, Option.bind_some]
  show ∃ x, ((g σ').bind fun b2 => if (gn a) = (gn b2.1) then f_L_law_J1144 xs L k i b2.2 else none) = some x
  rw [h2, Option.bind_some]
  show ∃ x, (if (gn a) = (gn a) then f_L_law_J1144 xs L k i σ'' else none) = some x
  rw [if_pos rfl]
  exact hk σ'' h3
theorem go_wl {f : Option (Int × gs_Mem)} {g : gs_Mem → Option (Int × gs_Mem)} (h : Agree f g) (hk : ∀ τ, Rel τ → ∃ a, k (i + 6) τ = some a) : ∃ a, (f.bind fun b1 => (g b1.2).bind fun b2 => if (gn (gcmp b1.1 b2.1)) = 0 then f_L_law_J1144 xs L k i b2.2 else none) = some a := by
  obtain ⟨a, σ', σ'', h1, h2, h3⟩ := h
  rw [h1, Option.bind_some]
  show ∃ x, ((g σ').bind fun b2 => if (gn (gcmp a b2.1)) = 0 then f_L_law_J1144 xs L k i b2.2 else none) = some x
  rw [h2, Option.bind_some]
  show ∃ x, (if (gn (gcmp a a)) = 0 then f_L_law_J1144 xs L k i σ'' else none) = some x
  rw [gcmp_self, if_pos gn_0]
  exact hk σ'' h3
theorem go_r {f g : Option Int} (h : Same f g) (hσ : Rel σ) (hk : ∀ τ, Rel τ → ∃ a, k (i + 6) τ = some a) : ∃ a, (f.bind fun u1 => g.bind fun u2 => if (gn u1) = (gn u2) then f_L_law_J1144 xs L k i σ else none) = some a := by
  obtain ⟨a, h1, h2⟩ := h
  rw [h1, Option.bind_some, h2, Option.bind_some, if_pos rfl]
  exact hk σ hσ
theorem go_rl {f g : Option Int} (h : Same f g) (hσ : Rel σ) (hk : ∀ τ, Rel τ → ∃ a, k (i + 6) τ = some a) : ∃ a, (f.bind fun u1 => g.bind fun u2 => if (gn (gcmp u1 u2)) = 0 then f_L_law_J1144 xs L k i σ else none) = some a := by
  obtain ⟨a, h1, h2⟩ := h
  rw [h1, Option.bind_some, h2, Option.bind_some, gcmp_self, if_pos gn_0]
  exact hk σ hσ
end
theorem law_loop {xs : Nat → Int32} {L : Nat} (hL : L ≤ 3072) : ∀ (d m i : Nat) (σ : gs_Mem), Rel σ → L < i + 6 * d + 6 → i ≤ 4000 → d < m → ∃ a, f_L_law_L18 xs L m (i : Int) σ = some a := by
  intro d
  induction d with
  | zero =>
    intro m i σ h hd hi hm
    obtain ⟨m', rfl⟩ : ∃ m', m = m' + 1 := ⟨m - 1, by omega⟩
    rw [f_L_law_L18, gnS (x := (L : Int) - 6) (by omega), gnN (by omega), if_pos (by omega)]
    exact ⟨_, rfl⟩
  | succ d ih =>
    intro m i σ h hd hi hm
    obtain ⟨m', rfl⟩ : ∃ m', m = m' + 1 := ⟨m - 1, by omega⟩
    rw [f_L_law_L18, gnS (x := (L : Int) - 6) (by omega), gnN (by omega)]
    by_cases c : (L : Int) - 6 < (i : Int)
    · rw [if_pos c]; exact ⟨_, rfl⟩
    rw [if_neg c]
    have k0 : ∀ {α : Type} (o : Option α), gs_chk (i : Int) L o = o := fun o => gs_chk_t (by omega) (by omega)
    have k1 : ∀ {α : Type} (o : Option α), gs_chk (gn ((i : Int) + 1)) L o = o := fun o => by rw [gnS (by omega)]; exact gs_chk_t (by omega) (by omega)
    have k2 : ∀ {α : Type} (o : Option α), gs_chk (gn ((i : Int) + 2)) L o = o := fun o => by rw [gnS (by omega)]; exact gs_chk_t (by omega) (by omega)
    have k3 : ∀ {α : Type} (o : Option α), gs_chk (gn ((i : Int) + 3)) L o = o := fun o => by rw [gnS (by omega)]; exact gs_chk_t (by omega) (by omega)
    have k4 : ∀ {α : Type} (o : Option α), gs_chk (gn ((i : Int) + 4)) L o = o := fun o => by rw [gnS (by omega)]; exact gs_chk_t (by omega) (by omega)
    have k5 : ∀ {α : Type} (o : Option α), gs_chk (gn ((i : Int) + 5)) L o = o := fun o => by rw [gnS (by omega)]; exact gs_chk_t (by omega) (by omega)
    have hk : ∀ τ, Rel τ → ∃ a, f_L_law_L18 xs L m' ((i : Int) + 6) τ = some a := fun τ hτ => ih m' (i + 6) τ hτ (by omega) (by omega) (by omega)
    rw [k0]
    generalize gn (gand (xs ((i : Int)).toNat).toInt 31) = op
    by_cases o0 : op = 0
    · rw [if_pos o0]; simp only [k1, k2]; exact go_w (l_station h (gx _) (gx _)) hk
    rw [if_neg o0]
    by_cases o1 : op = 1
    · rw [if_pos o1]; simp only [k1, k2, k3]; exact go_w (l_rule h (gx _) (gx _) (gx _)) hk
    rw [if_neg o1]
    by_cases o2 : op = 2
    · rw [if_pos o2]; simp only [k1, k2]; exact go_w (l_channel h (gx _) (gx _)) hk
    rw [if_neg o2]
    by_cases o3 : op = 3
    · rw [if_pos o3]
      unfold f_L_law_J300 f_L_law_J322
      simp only [k1, k2]
      by_cases z : (xs (gn ((i : Int) + 2)).toNat).toInt = 0
      · rw [if_pos z]
        simp only [if_pos z]
        exact go_w (l_fix h (gx _) (Or.inl rfl)) hk
      · rw [if_neg z]
        simp only [if_neg z]
        exact go_w (l_fix h (gx _) (Or.inr rfl)) hk
    rw [if_neg o3]
    by_cases o4 : op = 4
    · rw [if_pos o4]; simp only [k1, k2, k3]; exact go_w (l_move h (gx _) (gx _) (gx _)) hk
    rw [if_neg o4]
    by_cases o5 : op = 5
    · rw [if_pos o5]; simp only [k1]; exact go_w (l_feed h (gx _)) hk
    rw [if_neg o5]
    by_cases o6 : op = 6
    · rw [if_pos o6]; exact go_w (l_read h) hk
    rw [if_neg o6]
    by_cases o7 : op = 7
    · rw [if_pos o7]; simp only [k1, k2]; exact go_r (l_of h (gx _) (gx _)) h hk
    rw [if_neg o7]
    by_cases o8 : op = 8
    · rw [if_pos o8]; simp only [k1, k2]; exact go_r (l_apart h (gx _) (gx _)) h hk
    rw [if_neg o8]
    by_cases o9 : op = 9
    · rw [if_pos o9]; simp only [k1, k2]; exact go_r (l_at h (gx _) (gx _)) h hk
    rw [if_neg o9]
    by_cases o10 : op = 10
    · rw [if_pos o10]; exact go_w (l_assign h) hk
    rw [if_neg o10]
    by_cases o11 : op = 11
    · rw [if_pos o11]; simp only [k1, k2]; exact go_w (l_exchange h (gx _) (gx _)) hk
    rw [if_neg o11]
    by_cases o12 : op = 12
    · rw [if_pos o12]; simp only [k1]; exact go_w (l_told h (gx _)) hk
    rw [if_neg o12]
    by_cases o13 : op = 13
    · rw [if_pos o13]; simp only [k1]
      obtain ⟨a, σ', h1, h2, h3⟩ := l_clique h (gx (xs (gn ((i : Int) + 1)).toNat))
      rw [h1, Option.bind_some]
      dsimp only
      rw [h2, Option.bind_some, if_pos rfl]
      exact hk σ' h3
    rw [if_neg o13]
    by_cases o14 : op = 14
    · rw [if_pos o14]; simp only [k1]; exact go_r (l_sorted h _) h hk
    rw [if_neg o14]
    by_cases o15 : op = 15
    · rw [if_pos o15]; simp only [k1, k2]; exact go_w (l_see h (gx _) (gx _)) hk
    rw [if_neg o15]
    by_cases o16 : op = 16
    · rw [if_pos o16]; simp only [k1, k2]; exact go_w (l_fits h (gx _) (gx _)) hk
    rw [if_neg o16]
    by_cases o17 : op = 17
    · rw [if_pos o17]; simp only [k1, k2]; exact go_wl (l_odds h (gx _) (gx _)) hk
    rw [if_neg o17]
    by_cases o18 : op = 18
    · rw [if_pos o18]; simp only [k1]; exact go_rl (l_mean h (gx _)) h hk
    rw [if_neg o18]
    by_cases o19 : op = 19
    · rw [if_pos o19]; simp only [k1, k2]; exact go_w (l_plan h (gx _) (gx _)) hk
    rw [if_neg o19]
    by_cases o20 : op = 20
    · rw [if_pos o20]; simp only [k1]; exact go_w (l_ends h (gx _)) hk
    rw [if_neg o20]
    by_cases o21 : op = 21
    · rw [if_pos o21]; simp only [k1, k2]; exact go_w (l_book h (gx _) (gx _)) hk
    rw [if_neg o21]
    by_cases o22 : op = 22
    · rw [if_pos o22]; exact go_r (l_looked h) h hk
    rw [if_neg o22]
    by_cases o23 : op = 23
    · rw [if_pos o23]; simp only [k1, k2]; exact go_r (l_judge h (gx _) (gx _)) h hk
    rw [if_neg o23]
    by_cases o24 : op = 24
    · rw [if_pos o24]; exact go_w (l_image h) hk
    rw [if_neg o24]
    by_cases o25 : op = 25
    · rw [if_pos o25]; exact go_w (l_undo h) hk
    rw [if_neg o25]
    by_cases o26 : op = 26
    · rw [if_pos o26]; simp only [k1]; exact go_r (l_count h _) h hk
    rw [if_neg o26]
    by_cases o27 : op = 27
    · rw [if_pos o27]; simp only [k1, k2, k3]; exact go_w (l_tape h (gx _) (gx _) (gx _)) hk
    rw [if_neg o27]
    by_cases o28 : op = 28
    · rw [if_pos o28]; simp only [k1, k2, k3, k4]; exact go_w (l_item h (gx _) (gx _) _) hk
    rw [if_neg o28]
    by_cases o29 : op = 29
    · rw [if_pos o29]; simp only [k1, k2]; exact go_rl (l_peek h (gx _) (gx _)) h hk
    rw [if_neg o29]
    by_cases o30 : op = 30
    · rw [if_pos o30]; simp only [k1, k2, k3, k4, k5]; exact go_w (l_shift h (gx _) (gx _) (gx _) (gx _) (gx _)) hk
    rw [if_neg o30]
    exact hk σ h
