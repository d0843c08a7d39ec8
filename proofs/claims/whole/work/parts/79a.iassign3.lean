/-! ===== the plane's assigning, altogether ===== -/
theorem fN_isSome {f : Nat → Bool} {n j : Nat} (h : fN f n = some j) : f j = true ∧ j < n := ⟨(fN_prop h).2.1, (fN_prop h).1⟩
theorem open_zero {n : Nat} {c : Nat → Int} {A : Nat → Nat → Int} {s M : Nat} (hM : M < 1048576) (hb : ∀ k : Nat, k < 20 → M.testBit k = alw n c A s (k : Int)) : (M = 0 ↔ alF n c A s < 0) := by
  constructor
  · intro e
    subst e
    have : fN (fun k => alw n c A s (k : Int)) 20 = none := fN_none.mpr (fun i hi => by rw [← hb i hi, Nat.zero_testBit])
    unfold alF
    rw [this]; decide
  · intro e
    have : fN (fun k => alw n c A s (k : Int)) 20 = none := by
      cases q : fN (fun k => alw n c A s (k : Int)) 20 with
      | none => rfl
      | some j =>
        unfold alF at e
        rw [q] at e
        exact absurd e (by show ¬ (j : Int) < 0; omega)
    have z := fN_none.mp this
    refine Nat.eq_of_testBit_eq fun i => ?_
    rw [Nat.zero_testBit]
    by_cases l : i < 20
    · rw [hb i l]; exact z i l
    · exact Nat.testBit_lt_two_pow (Nat.lt_of_lt_of_le hM (Nat.pow_le_pow_right (by decide) (by omega) : 2 ^ 20 ≤ 2 ^ i))
theorem cN_up {f : Nat → Bool} {s n : Nat} (hs : s < n) (hf : f s = false) : cN (up f s true) n = cN f n + 1 :=
  (cN_drop (f := up f s true) (g := f) (by unfold up; rw [if_pos rfl]) hf (fun t ht => by unfold up; rw [if_neg ht]) n hs).symm
theorem OpA_w {σ : gs_Mem} {r n : Nat} {c : Nat → Int} {A : Nat → Nat → Int} {w w' : Nat → Bool} (h : OpA σ r n c A w) (e : ∀ s, s < n → w' s = true → w s = true) : OpA σ r n c A w' := fun s hs => by
  obtain ⟨M, m1, m2, m3⟩ := h s hs
  exact ⟨M, m1, m2, fun q => m3 (e s hs q)⟩
theorem i_greedy {r n : Nat} {A : Nat → Nat → Int} : ∀ (d m k : Nat) (σ : gs_Mem) (p : Nat → Int) (W : Nat) (st : Nat → Bool), PlR σ r p → WF p → nS p = n → Ap p = A → W < 256 → (∀ s, W.testBit s = (decide (s < n) && wt (Ch p) st s)) → OpA σ r n (Ch p) A (wt (Ch p) st) → cN (wt (Ch p) st) n ≤ d → k + d = n → d < m →
    ∃ (σ' : gs_Mem) (q : Nat → Int), f_X0_tuneAll_L70 r m (W : Int) (cN st n : Nat) (k : Int) σ = some (((cN (grd n A d (Ch p) st).2 n : Nat) : Int), σ') ∧ PlR σ' r q ∧ WF q ∧ chr p q ∧ Ch q = (grd n A d (Ch p) st).1 ∧ Fr σ σ' r
  | d, 0, _, _, _, _, _, _, _, _, _, _, _, _, _, _, h => absurd h (Nat.not_lt_zero d)
  | 0, m + 1, k, σ, p, W, st, hp, hW, hn, hA, h256, hb, hO, hd, hk, hm => by
    have h8 := hW.n8
    refine ⟨σ, p, ?_, hp, hW, chr_refl p, rfl, Fr.refl _ _⟩
    rw [f_X0_tuneAll_L70, hp.1.1, gnN (by omega), gnN (by omega), if_pos (by omega)]
    rfl
  | d + 1, m + 1, k, σ, p, W, st, hp, hW, hn, hA, h256, hb, hO, hd, hk, hm => by
    have h8 := hW.n8
    rw [f_X0_tuneAll_L70, hp.1.1, gnN (by omega), gnN (by omega), if_neg (by omega), gnN (k := W) (by omega)]
    have ht := i_tightest0 (w := wt (Ch p) st) hp hW h256 (fun s hs => by rw [hb s, decide_eq_true (show s < n by omega)]; rfl) (by rw [hn, hA]; exact hO)
    rw [hn, hA] at ht
    rw [ht, Option.bind_some]
    cases e : nx n (Ch p) A (wt (Ch p) st) n with
    | none =>
      refine ⟨σ, p, ?_, hp, hW, chr_refl p, by rw [grd_none e], Fr.refl _ _⟩
      rw [grd_none e, show gn (nxI none) = -1 from gnNone, if_neg (show ¬ (0 : Int) ≤ -1 by decide), ite_self]
    | some s =>
      obtain ⟨s1, s2⟩ := nx_some e
      have hs : s < nS p := by omega
      have hbs : W.testBit s = true := by rw [hb s, decide_eq_true s1, s2]; rfl
      have hW0 : ¬ (W : Int) = 0 := fun z => by
        have : W = 0 := by omega
        rw [this, Nat.zero_testBit] at hbs; cases hbs
      have hcs : Ch p s < 0 ∧ st s = false := by
        unfold wt at s2
        rw [Bool.and_eq_true, decide_eq_true_eq] at s2
        exact ⟨s2.1, by simpa using s2.2⟩
      have hf : Fx p s = false := by
        cases c : Fx p s with
        | false => rfl
        | true =>
          rw [Fx_lt hs, decide_eq_true_eq] at c
          have := hW.fc hs c
          have q := hcs.1
          rw [Ch_lt hs] at q
          omega
      obtain ⟨M, q1, q2, q3⟩ := hO s s1
      have oz := open_zero q2 (q3 s2)
      have lo := leastOf_alw (σ := σ) q2 (q3 s2)
      have rng := alF_rng n (Ch p) A s
      have bits : ∀ t, (andn W (2 ^ s)).testBit t = (W.testBit t && !decide (s = t)) := fun t => by
        rw [andn_bit (by omega), Nat.testBit_two_pow]
      have w256 : andn W (2 ^ s) < 256 := Nat.lt_of_le_of_lt (andn_le _ _) h256
      rw [if_neg hW0, show gn (nxI (some s)) = (s : Int) from gnN (by omega), if_pos (by omega), gs_chk_t (by omega) (by omega), t1, q1, gnN (k := M) (by omega), show nxI (some s) = (s : Int) from rfl, gshl_one s (by omega), gandn_nat (by omega), gs_chk_t (by omega) (by omega), lo, Option.bind_some, grd_step e]
      unfold f_X0_tuneAll_J137
      by_cases z : M = 0
      · have zz := oz.mp z
        rw [if_pos (by omega), if_pos zz]
        have hw := wt_st (c := Ch p) (st := st) s1 s2
        have ih := i_greedy d m (k + 1) σ p (andn W (2 ^ s)) (up st s true) hp hW hn hA w256 (fun t => by
          rw [bits t, hb t]
          unfold wt up
          by_cases q : t = s
          · rw [q, if_pos rfl, decide_eq_true (rfl : s = s)]; simp
          · rw [if_neg q, decide_eq_false (fun z : s = t => q z.symm)]; simp) (OpA_w hO (fun t _ ht => by
          unfold wt up at ht
          unfold wt
          by_cases q : t = s
          · rw [if_pos q] at ht; simp at ht
          · rw [if_neg q] at ht; exact ht)) (by omega) (by omega) (by omega)
        rw [cN_up s1 hcs.2] at ih
        exact ih
      · have zz : ¬ alF n (Ch p) A s < 0 := fun y => z (oz.mpr y)
        have hx : 0 ≤ alF n (Ch p) A s ∧ alF n (Ch p) A s ≤ 19 := by omega
        obtain ⟨τ, g1, g2, g3, g4⟩ := i_give hp hW hs hx hf hcs.1 (w := wt (Ch p) st) (by rw [hn, hA]; exact hO)
        have hc := chr_rs p (show s < 8 by omega) (alF n (Ch p) A s)
        have hW' : WF (rs p (6 + 4 * s) (alF n (Ch p) A s)) := WF_rs hW hs (by omega) (fun q => by rw [hf] at q; cases q)
        have hC' := Ch_rs hs (alF n (Ch p) A s)
        rw [if_neg (by omega), if_neg zz, g1, Option.bind_some]
        have hw := wt_c (c := Ch p) (st := st) (x := alF n (Ch p) A s) hx.1 s1 s2
        have ih := i_greedy d m (k + 1) τ (rs p (6 + 4 * s) (alF n (Ch p) A s)) (andn W (2 ^ s)) st g2 hW' ((geo_nS (chr_geo hc)).trans hn) ((chr_Ap hc hW).trans hA) w256 (fun t => by
          rw [bits t, hb t, hC']
          unfold wt up
          by_cases q : t = s
          · rw [q, if_pos rfl, decide_eq_true (rfl : s = s), decide_eq_false (show ¬ alF n (Ch p) A s < 0 from zz)]; simp
          · rw [if_neg q, decide_eq_false (fun z : s = t => q z.symm)]; simp) (by
          rw [hC']
          rw [hn, hA] at g4
          refine OpA_w g4 (fun t _ ht => ?_)
          unfold wt up at ht
          unfold wt
          by_cases q : t = s
          · rw [if_pos q, decide_eq_false (show ¬ alF n (Ch p) A s < 0 from zz)] at ht; simp at ht
          · rw [if_neg q] at ht; exact ht) (by rw [hC']; omega) (by omega) (by omega)
        obtain ⟨σ', q, j1, j2, j3, j4, j5, j6⟩ := ih
        rw [hC'] at j1 j5
        exact ⟨σ', q, j1, j2, j3, chr_trans hc j4, j5, Fr.trans g3 j6⟩
theorem grd_more {n : Nat} {A : Nat → Nat → Int} : ∀ (d e : Nat) (c : Nat → Int) (st : Nat → Bool), cN (wt c st) n ≤ d → d ≤ e → grd n A e c st = grd n A d c st
  | 0, e, c, st, h, _ => by
    have hn : nx n c A (wt c st) n = none := by
      cases q : nx n c A (wt c st) n with
      | none => rfl
      | some s =>
        obtain ⟨s1, s2⟩ := nx_some q
        rw [cN_zero_iff (show cN (wt c st) n = 0 by omega) s s1] at s2
        cases s2
    rw [grd_none hn, grd_none hn]
  | d + 1, 0, _, _, _, h => absurd h (by omega)
  | d + 1, e + 1, c, st, h, hd => by
    cases q : nx n c A (wt c st) n with
    | none => rw [grd_none q, grd_none q]
    | some s =>
      obtain ⟨s1, s2⟩ := nx_some q
      rw [grd_step q, grd_step q]
      by_cases z : alF n c A s < 0
      · rw [if_pos z, if_pos z]
        have := wt_st (c := c) (st := st) s1 s2
        exact grd_more d e _ _ (by omega) (by omega)
      · rw [if_neg z, if_neg z]
        have := wt_c (c := c) (st := st) (x := alF n c A s) (by omega) s1 s2
        exact grd_more d e _ _ (by omega) (by omega)
theorem i_tuneAll {σ : gs_Mem} {r : Nat} {p : Nat → Int} (hp : PlR σ r p) (h : WF p) : ∃ (σ' : gs_Mem) (q : Nat → Int), f_X0_tuneAll r σ = some (((asgN p : Nat) : Int), σ') ∧ PlR σ' r q ∧ WF q ∧ chr p q ∧ Ch q = asgC p ∧ Fr σ σ' r := by
  have h8 := h.n8
  obtain ⟨i1, i2, -⟩ := clrR_ok h (nS p) (Nat.le_refl _)
  have i3 := clrR_Ch h
  have hn : nS (clrR p (nS p)) = nS p := geo_nS (chr_geo i1)
  have hA := chr_Ap i1 h
  obtain ⟨W, τ, a1, a2, a3, a4, a5⟩ := i_clearL hp h (fun w1 σ2 => f_X0_tuneAll_L41 r w1 (fun σ4 => f_X0_tuneAll_L70 r gs_fuel w1 0 0 σ4) gs_fuel 0 σ2)
  obtain ⟨τ', b1, b2, b3, b4⟩ := i_openL a4 i2 (W : Int) (fun σ4 => f_X0_tuneAll_L70 r gs_fuel (W : Int) 0 0 σ4)
  rw [hn, hA] at b4
  have hwt := cN_le (wt (Ch (clrR p (nS p))) (fun _ => false)) (nS p)
  have z : ∀ k, cN (fun _ => false) k = 0 := fun k => by
    induction k with
    | zero => rfl
    | succ k ih => rw [cN_s, ih]; rfl
  obtain ⟨σ', q, c1, c2, c3, c4, c5, c6⟩ := i_greedy (nS p) gs_fuel 0 τ' (clrR p (nS p)) W (fun _ => false) b2 i2 hn hA a2 (fun s => by
    rw [a3 s, i3]
    by_cases l : s < nS p
    · rw [decide_eq_true l, Bool.true_and, Bool.true_and]
      unfold wt clr
      cases e : Fx p s with
      | true =>
        have : 0 ≤ Ch p s := by
          rw [Ch_lt l]
          refine h.fc l ?_
          rw [Fx_lt l, decide_eq_true_eq] at e
          exact e
        rw [if_pos rfl, decide_eq_false (by omega)]; rfl
      | false => rw [if_neg (by decide)]; rfl
    · rw [decide_eq_false l, Bool.false_and, Bool.false_and]) (OpA_w b4 (fun _ _ _ => rfl)) hwt (Nat.zero_add _) (by have := fuel_big; omega)
  have eg : grd (nS p) (Ap p) (nS p) (Ch (clrR p (nS p))) (fun _ => false) = asg p := by
    unfold asg
    rw [i3] at hwt ⊢
    exact (grd_more (nS p) 8 (clr p) (fun _ => false) hwt h8).symm
  rw [eg, z] at c1
  rw [eg] at c5
  refine ⟨σ', q, ?_, c2, c3, chr_trans i1 c4, c5, Fr.trans a5 (Fr.trans b3 c6)⟩
  unfold f_X0_tuneAll
  rw [a1, b1]
  exact c1
theorem l_assign {σ : gs_Mem} (h : Rel σ) : Agree (f_X6_assign σ) f_X7_assign := by
  obtain ⟨σ', q, a1, a2, a3, a4, a5, a6⟩ := i_tuneAll h.1.2 h.1.1
  have e71 : σ' 71 = σ 71 := a6 71 (by decide)
  obtain ⟨q', b1, b2, b3, b4⟩ := m_assigned (σ := σ') (by rw [e71]; exact h.1.1)
  rw [e71] at b1 b2 b4
  refine ⟨((asgN (σ 71) : Nat) : Int), σ', rw_ σ' 71 q', ?_, ?_, ?_⟩
  · unfold f_X6_assign
    rw [a1, Option.bind_some]
  · unfold f_X7_assign
    rw [b1, Option.bind_some]
  · have cc : chr q q' := fun i hi => (b2 i hi).trans (a4 i hi).symm
    refine Rel_plane h a6 (PlR_chr a2 a3 cc (b4.trans a5.symm)) b3 (chr_rest b2) (Nat.le_of_eq (geo_nS (chr_geo b2)).symm)
