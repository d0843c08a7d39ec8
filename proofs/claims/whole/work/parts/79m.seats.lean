/-! ===== seats: whether those that wait can have channels out of what is left ===== -/
def Sol (n : Nat) (A : Nat → Nat → Int) (w : Nat → Bool) (l : Nat → Nat → Bool) (f : Nat → Nat) : Prop := (∀ s, s < n → w s = true → l s (f s) = true) ∧ ∀ s t, s < n → t < n → w s = true → w t = true → A s t ≤ ab ((f s : Int) - (f t : Int))
def Seat (n : Nat) (A : Nat → Nat → Int) (w : Nat → Bool) (l : Nat → Nat → Bool) : Prop := ∃ f, Sol n A w l f
/-- what is left for the others, when x has channel k -/
def cut (A : Nat → Nat → Int) (l : Nat → Nat → Bool) (x k : Nat) (s j : Nat) : Bool := l s j && !decide (ab ((k : Int) - (j : Int)) < A x s)
theorem Seat_congr {n : Nat} {A : Nat → Nat → Int} {w : Nat → Bool} {l l' : Nat → Nat → Bool} (e : ∀ s, s < n → w s = true → ∀ j, l' s j = l s j) (h : Seat n A w l) : Seat n A w l' := by
  obtain ⟨f, h1, h2⟩ := h
  exact ⟨f, fun s hs hw => by rw [e s hs hw]; exact h1 s hs hw, h2⟩
theorem Sol_down {n : Nat} {A : Nat → Nat → Int} {w w' : Nat → Bool} {l : Nat → Nat → Bool} {f : Nat → Nat} (h : Sol n A w l f) {x : Nat} (hx : x < n) (hwx : w x = true) (hw : ∀ s, w' s = true → w s = true) : Sol n A w' (cut A l x (f x)) f := by
  refine ⟨fun s hs hws => ?_, fun s t hs ht h1 h2 => h.2 s t hs ht (hw s h1) (hw t h2)⟩
  unfold cut
  have := h.2 x s hx hs hwx (hw s hws)
  rw [h.1 s hs (hw s hws), decide_eq_false (by omega)]; rfl
theorem Sol_up {n : Nat} {A : Nat → Nat → Int} {c : Nat → Int} (hg : RgA n c A) {w w' : Nat → Bool} {l : Nat → Nat → Bool} {f : Nat → Nat} {x k : Nat} (hx : l x k = true) (hw : ∀ s, w s = true → s ≠ x → w' s = true) (h : Sol n A w' (cut A l x k) f) : Sol n A w l (up f x k) := by
  have key : ∀ s, s < n → w s = true → s ≠ x → l s (f s) = true ∧ A x s ≤ ab ((k : Int) - (f s : Int)) := fun s hs hws hne => by
    have := h.1 s hs (hw s hws hne)
    unfold cut at this
    rw [Bool.and_eq_true] at this
    refine ⟨this.1, ?_⟩
    have z := this.2
    rw [Bool.not_eq_true', decide_eq_false_iff_not] at z
    omega
  refine ⟨fun s hs hws => ?_, fun s t hs ht h1 h2 => ?_⟩
  · unfold up
    by_cases e : s = x
    · rw [if_pos e, e]; exact hx
    · rw [if_neg e]; exact (key s hs hws e).1
  · unfold up
    by_cases e1 : s = x
    · rw [if_pos e1]
      by_cases e2 : t = x
      · rw [if_pos e2, e1, e2, hg.2.2.2.1 x]
        unfold ab
        split <;> omega
      · rw [if_neg e2, e1]; exact (key t ht h2 e2).2
    · rw [if_neg e1]
      by_cases e2 : t = x
      · rw [if_pos e2, e2, hg.2.2.2.2 s x, ab_comm]; exact (key s hs h1 e1).2
      · rw [if_neg e2]
        exact h.2 s t hs ht (hw s h1 e1) (hw t h2 e2)
/-! the rows of what is left, in the memory -/
def Fr50 (σ τ : gs_Mem) (b : Nat) : Prop := (∀ a, a ≠ 50 → τ a = σ a) ∧ ∀ i, i < b → τ 50 i = σ 50 i
theorem Fr50.refl (σ : gs_Mem) (b : Nat) : Fr50 σ σ b := ⟨fun _ _ => rfl, fun _ _ => rfl⟩
theorem Fr50.trans {σ τ υ : gs_Mem} {b b' : Nat} (h1 : Fr50 σ τ b) (h2 : Fr50 τ υ b') (hb : b ≤ b') : Fr50 σ υ b := ⟨fun a ha => (h2.1 a ha).trans (h1.1 a ha), fun i hi => (h2.2 i (by omega)).trans (h1.2 i hi)⟩
theorem Fr50.st (σ : gs_Mem) {b i : Nat} (h : b ≤ i) (x : Int) : Fr50 σ (gs_st σ 50 i x) b := ⟨fun a ha => gs_st_row _ _ _ _ ha, fun j hj => gs_st_slot _ _ _ _ (by omega)⟩
theorem PlA_50 {σ τ : gs_Mem} {r n : Nat} {c : Nat → Int} {A : Nat → Nat → Int} (hr : r + 9 < 49) (hp : PlA σ r n c A) {b : Nat} (h : Fr50 σ τ b) : PlA τ r n c A :=
  PlA_rows hp (h.1 _ (by omega)) (h.1 _ (by omega)) (h.1 _ (by omega))
def lfB (σ : gs_Mem) (d : Nat) (s j : Nat) : Bool := ((σ 50 (8 * d + s)).toNat).testBit j
def Lft (σ : gs_Mem) (n : Nat) (W : Nat) (d : Nat) : Prop := ∀ s, s < n → W.testBit s = true → ∃ M : Nat, σ 50 (8 * d + s) = (M : Int) ∧ M < 4096
theorem Lft_bit {σ : gs_Mem} {d s M : Nat} (h : σ 50 (8 * d + s) = (M : Int)) (j : Nat) : lfB σ d s j = M.testBit j := by
  unfold lfB; rw [h]; rfl
section
variable {σ : gs_Mem} {r n : Nat} {c : Nat → Int} {A : Nat → Nat → Int}
theorem i_leftAt {d s : Nat} (hd : d ≤ 8) (hs : s < 8) : f_X5_leftAt (d : Int) (s : Int) σ = some (σ 50 (8 * d + s)) := by
  unfold f_X5_leftAt
  rw [gnS (x := (d : Int) * 8 + (s : Int)) (by omega), if_neg (by omega), if_neg (by omega), gs_chk_t (by omega) (by omega), t8]
theorem i_leave {d s : Nat} (hd : d ≤ 8) (hs : s < 8) (v : Int) : f_X5_leave (d : Int) (s : Int) v σ = some (0, gs_st σ 50 (8 * d + s) v) := by
  unfold f_X5_leave
  rw [gnS (x := (d : Int) * 8 + (s : Int)) (by omega), if_neg (by omega), if_neg (by omega), gs_chk_t (by omega) (by omega), t8]
theorem i_weight (hp : PlA σ r n c A) (hg : RgA n c A) {W : Nat} (hW : W < 256) {x : Nat} (hx : x < n) : ∃ v, f_X5_weightAmong r (W : Int) (x : Int) σ = some v := by
  have h8 := hg.1
  refine loop0 (fun m k (a : Int) => f_X5_weightAmong_L6 σ r (W : Int) (x : Int) m a (k : Int)) (fun _ _ => True) (fun q => ∃ v, q = some v) n 0 (by omega) ?_ ?_ trivial
  · intro m k a hk _
    rw [f_X5_weightAmong_L6, i_size hp, Option.bind_some, gnN (by omega), gnN (by omega), if_neg (by omega), gbit (by omega) (by omega), i_between hp hg hx hk, Option.bind_some]
    unfold f_X5_weightAmong_J38
    cases W.testBit k with
    | true => exact Or.inr ⟨_, rfl, trivial⟩
    | false => exact Or.inr ⟨_, rfl, trivial⟩
  · intro m a _
    refine ⟨a, ?_⟩
    rw [f_X5_weightAmong_L6, i_size hp, Option.bind_some, gnN (by omega), if_pos (Int.le_refl _)]
theorem i_tightW (hp : PlA σ r n c A) (hg : RgA n c A) {W d : Nat} (hW : W < 256) (hd : d ≤ 8) (hL : Lft σ n W d) : ∃ t, f_X5_tightest r (W : Int) (d : Int) σ = some t ∧ ((t = -1 ∧ ∀ s, s < n → W.testBit s = false) ∨ ∃ s, s < n ∧ t = (s : Int) ∧ W.testBit s = true) := by
  have h8 := hg.1
  refine loop0 (fun m k (a : Int × Int × Int) => f_X5_tightest_L12 σ r (W : Int) (d : Int) m a.1 a.2.1 a.2.2 (k : Int)) (fun k a => (a.1 = -1 ∧ ∀ s, s < k → W.testBit s = false) ∨ ∃ s, s < k ∧ a.1 = (s : Int) ∧ W.testBit s = true) (fun q => ∃ t, q = some t ∧ ((t = -1 ∧ ∀ s, s < n → W.testBit s = false) ∨ ∃ s, s < n ∧ t = (s : Int) ∧ W.testBit s = true)) n (-1, 0, 0) (by omega) ?_ ?_ (Or.inl ⟨rfl, fun s hs => absurd hs (Nat.not_lt_zero s)⟩)
  · intro m k a hk ha
    obtain ⟨v4, v5, v6⟩ := a
    have ha : (v4 = -1 ∧ ∀ s, s < k → W.testBit s = false) ∨ ∃ s, s < k ∧ v4 = (s : Int) ∧ W.testBit s = true := ha
    dsimp only
    refine Or.inr ?_
    rw [f_X5_tightest_L12, i_size hp, Option.bind_some, gnN (by omega), gnN (by omega), if_neg (by omega), gbit (by omega) (by omega)]
    unfold f_X5_tightest_J73 f_X5_tightest_J85
    cases e : W.testBit k with
    | false =>
      rw [if_neg (show ¬ (if false = true then (1 : Int) else 0) = 1 by decide)]
      refine ⟨(v4, v5, v6), rfl, ?_⟩
      rcases ha with ⟨h1, h2⟩ | ⟨s, h1, h2, h3⟩
      · refine Or.inl ⟨h1, fun s hs => ?_⟩
        by_cases q : s = k
        · rw [q]; exact e
        · exact h2 s (by omega)
      · exact Or.inr ⟨s, by omega, h2, h3⟩
    | true =>
      obtain ⟨M, m1, m2⟩ := hL k hk e
      obtain ⟨v, hv⟩ := i_weight hp hg hW hk
      have bb := bitCount_spec (v := M) (by omega) σ
      rw [if_pos (show (if true = true then (1 : Int) else 0) = 1 from rfl), i_leftAt hd (by omega), Option.bind_some, m1, bb, Option.bind_some, hv, Option.bind_some]
      have new : ∀ x y : Int, ∃ a' : Int × Int × Int, f_X5_tightest_L12 σ r (W : Int) (d : Int) m (k : Int) x y ((k : Int) + 1) = f_X5_tightest_L12 σ r (W : Int) (d : Int) m a'.1 a'.2.1 a'.2.2 ((k + 1 : Nat) : Int) ∧ ((a'.1 = -1 ∧ ∀ s, s < k + 1 → W.testBit s = false) ∨ ∃ s, s < k + 1 ∧ a'.1 = (s : Int) ∧ W.testBit s = true) := fun x y => ⟨((k : Int), x, y), rfl, Or.inr ⟨k, by omega, rfl, e⟩⟩
      rcases ha with ⟨h1, h2⟩ | ⟨s, h1, h2, h3⟩
      · rw [h1, show gn (-1) = -1 by decide +kernel, if_pos (by decide)]
        exact new _ _
      · rw [h2, gnN (k := s) (by omega), if_neg (by omega)]
        by_cases z : gn (v5 * (1 + v)) ≤ gn (((popc M : Nat) : Int) * v6)
        · rw [if_pos z]
          exact ⟨((s : Int), v5, v6), rfl, Or.inr ⟨s, by omega, rfl, h3⟩⟩
        · rw [if_neg z]
          exact new _ _
  · intro m a ha
    obtain ⟨v4, v5, v6⟩ := a
    refine ⟨v4, ?_, ha⟩
    dsimp only
    rw [f_X5_tightest_L12, i_size hp, Option.bind_some, gnN (by omega), if_pos (Int.le_refl _)]
/-- what a channel rules out is taken from the others -/
theorem i_leaves (hr : r + 9 < 49) (hg : RgA n c A) (hp : PlA σ r n c A) {O d x k : Nat} (hO : O < 256) (hd : d < 8) (hx : x < n) (hk : k < 12) (hL : Lft σ n O d) : ∃ (b : Int) (τ : gs_Mem), f_X5_leaves r (O : Int) (d : Int) (x : Int) (k : Int) σ = some (b, τ) ∧ Fr50 σ τ (8 * (d + 1)) ∧ ((b = 0 ∧ ¬ Seat n A (fun s => O.testBit s) (cut A (lfB σ d) x k)) ∨ (b = 1 ∧ Lft τ n O (d + 1) ∧ ∀ s, s < n → O.testBit s = true → ∀ j, lfB τ (d + 1) s j = cut A (lfB σ d) x k s j)) := by
  have h8 := hg.1
  refine loop0 (fun m i (τ : gs_Mem) => f_X5_leaves_L3 r (O : Int) (d : Int) (x : Int) (k : Int) m (i : Int) τ) (fun i τ => Fr50 σ τ (8 * (d + 1)) ∧ ∀ s, s < i → O.testBit s = true → ∃ M : Nat, τ 50 (8 * (d + 1) + s) = (M : Int) ∧ M < 4096 ∧ ∀ j, M.testBit j = cut A (lfB σ d) x k s j) (fun q => ∃ (b : Int) (τ : gs_Mem), q = some (b, τ) ∧ Fr50 σ τ (8 * (d + 1)) ∧ ((b = 0 ∧ ¬ Seat n A (fun s => O.testBit s) (cut A (lfB σ d) x k)) ∨ (b = 1 ∧ Lft τ n O (d + 1) ∧ ∀ s, s < n → O.testBit s = true → ∀ j, lfB τ (d + 1) s j = cut A (lfB σ d) x k s j))) n σ (by omega) ?_ ?_ ⟨Fr50.refl _ _, fun s hs => absurd hs (Nat.not_lt_zero s)⟩
  · intro m i τ hi ⟨e1, e2⟩
    have hpτ := PlA_50 hr hp e1
    rw [f_X5_leaves_L3, i_size hpτ, Option.bind_some, gnN (by omega), gnN (by omega), if_neg (by omega), gbit (by omega) (by omega)]
    unfold f_X5_leaves_J65
    cases e : O.testBit i with
    | false =>
      rw [if_neg (show ¬ (if false = true then (1 : Int) else 0) = 1 by decide)]
      refine Or.inr ⟨τ, rfl, e1, fun s hs ho => ?_⟩
      by_cases q : s = i
      · rw [q, e] at ho; cases ho
      · exact e2 s (by omega) ho
    | true =>
      obtain ⟨M, m1, m2⟩ := hL i hi e
      have hA := hg.2.2.1 x i
      obtain ⟨B, b1, b2, b3⟩ := band_spec (σ := τ) (c := (k : Int)) (g := A x i) (by omega) hA
      have hM : τ 50 (8 * d + i) = (M : Int) := by rw [e1.2 _ (by omega), m1]
      rw [if_pos (show (if true = true then (1 : Int) else 0) = 1 from rfl), i_leftAt (by omega) (by omega), Option.bind_some, i_between hpτ hg hx hi, Option.bind_some, b1, Option.bind_some, hM, gandn_nat (by omega)]
      have bits : ∀ j, (andn M B).testBit j = cut A (lfB σ d) x k i j := fun j => by
        unfold cut
        rw [Lft_bit m1, andn_bit (by omega)]
        by_cases l : j < 20
        · rw [b3 j l, decide_eq_true (by omega : 0 ≤ (k : Int)), Bool.true_and]
        · have : M.testBit j = false := Nat.testBit_lt_two_pow (Nat.lt_of_lt_of_le m2 (Nat.pow_le_pow_right (by decide) (by omega) : 2 ^ 12 ≤ 2 ^ j))
          rw [this]; rfl
      by_cases z : andn M B = 0
      · rw [if_pos (by omega)]
        refine Or.inl ⟨0, τ, rfl, e1, Or.inl ⟨rfl, fun ⟨f, hf, _⟩ => ?_⟩⟩
        have := hf i hi e
        rw [← bits, z, Nat.zero_testBit] at this
        cases this
      · have hd1 : f_X5_leave ((d : Int) + 1) (i : Int) ((andn M B : Nat) : Int) τ = some (0, gs_st τ 50 (8 * (d + 1) + i) ((andn M B : Nat) : Int)) := i_leave (d := d + 1) (by omega) (by omega) _
        rw [if_neg (by omega), hd1, Option.bind_some]
        refine Or.inr ⟨gs_st τ 50 (8 * (d + 1) + i) ((andn M B : Nat) : Int), rfl, Fr50.trans e1 (Fr50.st τ (by omega) _) (Nat.le_refl _), fun s hs ho => ?_⟩
        by_cases q : s = i
        · exact ⟨andn M B, by rw [q, gs_st_same], Nat.lt_of_le_of_lt (andn_le _ _) m2, fun j => by rw [q]; exact bits j⟩
        · rw [gs_st_slot _ _ _ _ (by omega)]
          exact e2 s (by omega) ho
  · intro m τ ⟨e1, e2⟩
    have hpτ := PlA_50 hr hp e1
    refine ⟨1, τ, ?_, e1, Or.inr ⟨rfl, fun s hs ho => ?_, fun s hs ho j => ?_⟩⟩
    · rw [f_X5_leaves_L3, i_size hpτ, Option.bind_some, gnN (by omega), if_pos (Int.le_refl _)]
    · obtain ⟨M, h1, h2, -⟩ := e2 s hs ho
      exact ⟨M, h1, h2⟩
    · obtain ⟨M, h1, -, h3⟩ := e2 s hs ho
      rw [Lft_bit h1, h3]
/-- channel by channel -/
theorem i_tryL (hr : r + 9 < 49) (hg : RgA n c A) (hp : PlA σ r n c A) {O d x T : Nat} (hO : O < 256) (hd : d < 8) (hx : x < n) (hT : T < 4096) (hL : Lft σ n O d) (rcf : Nat → Int → Int → gs_Mem → Option (Int × gs_Mem))
    (IH : ∀ τ : gs_Mem, PlA τ r n c A → τ r 8 = σ r 8 → Lft τ n O (d + 1) → ∃ (b : Int) (τ' : gs_Mem), rcf r (O : Int) ((d : Int) + 1) τ = some (b, τ') ∧ Fr50 τ τ' (8 * (d + 1)) ∧ ((b = 1 ∧ Seat n A (fun s => O.testBit s) (lfB τ (d + 1))) ∨ (b = 0 ∧ ¬ Seat n A (fun s => O.testBit s) (lfB τ (d + 1))))) :
    ∃ (b : Int) (τ : gs_Mem), f_X5_areSeated_L72 rcf r (d : Int) (x : Int) (O : Int) (T : Int) gs_fuel 0 σ = some (b, τ) ∧ Fr50 σ τ (8 * (d + 1)) ∧ ((b = 1 ∧ ∃ k, k < 12 ∧ T.testBit k = true ∧ Seat n A (fun s => O.testBit s) (cut A (lfB σ d) x k)) ∨ (b = 0 ∧ ∀ k, k < 12 → T.testBit k = true → ¬ Seat n A (fun s => O.testBit s) (cut A (lfB σ d) x k))) := by
  have h8 := hg.1
  refine loop0 (fun m k (τ : gs_Mem) => f_X5_areSeated_L72 rcf r (d : Int) (x : Int) (O : Int) (T : Int) m (k : Int) τ) (fun k τ => Fr50 σ τ (8 * (d + 1)) ∧ ∀ j, j < k → T.testBit j = true → ¬ Seat n A (fun s => O.testBit s) (cut A (lfB σ d) x j)) (fun q => ∃ (b : Int) (τ : gs_Mem), q = some (b, τ) ∧ Fr50 σ τ (8 * (d + 1)) ∧ ((b = 1 ∧ ∃ k, k < 12 ∧ T.testBit k = true ∧ Seat n A (fun s => O.testBit s) (cut A (lfB σ d) x k)) ∨ (b = 0 ∧ ∀ k, k < 12 → T.testBit k = true → ¬ Seat n A (fun s => O.testBit s) (cut A (lfB σ d) x k)))) 12 σ (by decide) ?_ ?_ ⟨Fr50.refl _ _, fun j hj => absurd hj (Nat.not_lt_zero j)⟩
  · intro m k τ hk ⟨e1, e2⟩
    have hpτ := PlA_50 hr hp e1
    have same : ∀ s j, s < n → lfB τ d s j = lfB σ d s j := fun s j hs => by
      unfold lfB
      rw [e1.2 _ (by omega)]
    have hLτ : Lft τ n O d := fun s hs ho => by
      obtain ⟨M, h1, h2⟩ := hL s hs ho
      exact ⟨M, by rw [e1.2 _ (by omega), h1], h2⟩
    have cutE : ∀ s, s < n → O.testBit s = true → ∀ j, cut A (lfB τ d) x k s j = cut A (lfB σ d) x k s j := fun s hs _ j => by
      unfold cut; rw [same s j hs]
    have no : ¬ Seat n A (fun s => O.testBit s) (cut A (lfB σ d) x k) → ∀ j, j < k + 1 → T.testBit j = true → ¬ Seat n A (fun s => O.testBit s) (cut A (lfB σ d) x j) := fun h j hj hb => by
      by_cases q : j = k
      · rw [q]; exact h
      · exact e2 j (by omega) hb
    rw [f_X5_areSeated_L72, gnN (by omega), if_neg (by omega), gbit (by omega) (by omega)]
    unfold f_X5_areSeated_J120
    cases e : T.testBit k with
    | false =>
      rw [if_neg (show ¬ (if false = true then (1 : Int) else 0) = 1 by decide)]
      refine Or.inr ⟨τ, rfl, e1, fun j hj hb => ?_⟩
      by_cases q : j = k
      · rw [q, e] at hb; cases hb
      · exact e2 j (by omega) hb
    | true =>
      obtain ⟨b, τ1, a1, a2, a3⟩ := i_leaves hr hg hpτ hO hd hx hk hLτ
      rw [if_pos (show (if true = true then (1 : Int) else 0) = 1 from rfl), a1, Option.bind_some]
      have f1 := Fr50.trans e1 a2 (Nat.le_refl _)
      rcases a3 with ⟨rfl, z⟩ | ⟨rfl, hL1, hcut⟩
      · rw [if_pos gn_0]
        exact Or.inr ⟨τ1, rfl, f1, no (fun h => z (Seat_congr cutE h))⟩
      · rw [if_neg (by rw [gn_1]; decide)]
        have hp1 := PlA_50 hr hpτ a2
        obtain ⟨b', τ2, c1, c2, c3⟩ := IH τ1 hp1 (by rw [f1.1 r (by omega)]) hL1
        dsimp only
        rw [c1, Option.bind_some]
        have f2 := Fr50.trans f1 c2 (Nat.le_refl _)
        rcases c3 with ⟨rfl, z⟩ | ⟨rfl, z⟩
        · rw [if_neg (by rw [gn_1]; decide)]
          exact Or.inl ⟨1, τ2, rfl, f2, Or.inl ⟨rfl, k, hk, e, Seat_congr (fun s hs ho j => ((hcut s hs ho j).trans (cutE s hs ho j)).symm) z⟩⟩
        · rw [if_pos gn_0]
          exact Or.inr ⟨τ2, rfl, f2, no (fun h => z (Seat_congr (fun s hs ho j => (hcut s hs ho j).trans (cutE s hs ho j)) h))⟩
  · intro m τ ⟨e1, e2⟩
    refine ⟨0, τ, ?_, e1, Or.inr ⟨rfl, e2⟩⟩
    rw [f_X5_areSeated_L72, if_pos (by decide +kernel)]
end
