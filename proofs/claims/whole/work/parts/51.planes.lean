/-! ===== a plane that holds what a row says ===== -/
def PlR (σ : gs_Mem) (r : Nat) (p : Nat → Int) : Prop := PlG σ r p ∧ (∀ s, s < nS p → σ (r + 3) s = p (6 + 4 * s)) ∧
  (∀ x y, x < 8 → y < 8 → (x < nS p → y < nS p → σ (r + 6) (8 * x + y) = Ap p x y) ∧ (x = y → σ (r + 6) (8 * x + y) = 0) ∧ 0 ≤ σ (r + 6) (8 * x + y) ∧ σ (r + 6) (8 * x + y) ≤ 4) ∧
  (∀ x, x < nS p → σ (r + 7) x = (apM (nS p) (Ap p) x : Nat)) ∧
  (∃ m : Nat, σ r 8 = (m : Int) ∧ m < 256 ∧ ∀ s, m.testBit s = Fx p s)
theorem PlR.pa {σ : gs_Mem} {r : Nat} {p : Nat → Int} (hp : PlR σ r p) (h : WF p) : PlA σ r (nS p) (Ch p) (Ap p) := by
  have h8 := h.n8
  refine ⟨hp.1.1, fun s hs => ?_, fun a b ha hb => (hp.2.2.1 a b (by omega) (by omega)).1 ha hb⟩
  rw [hp.2.1 s hs, Ch_lt hs]
/-- nothing but the plane's own cells -/
def Fr (σ σ' : gs_Mem) (r : Nat) : Prop := ∀ c, (c < r ∨ r + 8 < c) → σ' c = σ c
theorem Fr.refl (σ : gs_Mem) (r : Nat) : Fr σ σ r := fun _ _ => rfl
theorem Fr.trans {σ σ' σ'' : gs_Mem} {r : Nat} (h1 : Fr σ σ' r) (h2 : Fr σ' σ'' r) : Fr σ σ'' r := fun c hc => (h2 c hc).trans (h1 c hc)
theorem Fr.st (σ : gs_Mem) (r k j : Nat) (x : Int) (hk : k ≤ 8) : Fr σ (gs_st σ (r + k) j x) r := fun c hc => gs_st_row _ _ _ _ (by omega)
theorem PlR_keep {σ σ' : gs_Mem} {r : Nat} {p : Nat → Int} (hp : PlR σ r p) (e : ∀ c, r ≤ c → c ≤ r + 8 → σ' c = σ c) : PlR σ' r p := by
  unfold PlR PlG
  rw [e r (by omega) (by omega), e (r + 1) (by omega) (by omega), e (r + 2) (by omega) (by omega), e (r + 3) (by omega) (by omega), e (r + 4) (by omega) (by omega), e (r + 5) (by omega) (by omega), e (r + 6) (by omega) (by omega), e (r + 7) (by omega) (by omega)]
  exact hp
def rs (p : Nat → Int) (j : Nat) (x : Int) : Nat → Int := fun i => if i = j then x else p i
theorem rs_at (p : Nat → Int) (j : Nat) (x : Int) (i : Nat) : rs p j x i = if i = j then x else p i := rfl
theorem rs_same (p : Nat → Int) (j : Nat) (x : Int) : rs p j x j = x := if_pos rfl
theorem rs_ne (p : Nat → Int) (j : Nat) (x : Int) {i : Nat} (h : i ≠ j) : rs p j x i = p i := if_neg h
/-- the memory with a row put in a cell's place -/
def rw_ (σ : gs_Mem) (r : Nat) (q : Nat → Int) : gs_Mem := fun a => if a = r then q else σ a
theorem rw_same (σ : gs_Mem) (r : Nat) (q : Nat → Int) : rw_ σ r q r = q := if_pos rfl
theorem rw_ne (σ : gs_Mem) (r : Nat) (q : Nat → Int) {a : Nat} (h : a ≠ r) : rw_ σ r q a = σ a := if_neg h
theorem rw_rw (σ : gs_Mem) (r : Nat) (q q' : Nat → Int) : rw_ (rw_ σ r q) r q' = rw_ σ r q' := by
  funext a
  unfold rw_
  by_cases c : a = r
  · rw [if_pos c, if_pos c]
  · rw [if_neg c, if_neg c, if_neg c]
theorem rw_self (σ : gs_Mem) (r : Nat) : rw_ σ r (σ r) = σ := by
  funext a
  unfold rw_
  by_cases c : a = r
  · rw [if_pos c, c]
  · rw [if_neg c]
theorem gs_st_rw (σ : gs_Mem) (r j : Nat) (x : Int) : gs_st σ r j x = rw_ σ r (rs (σ r) j x) := by
  funext a i
  rw [gs_st_at]
  unfold rw_ rs
  by_cases c : a = r
  · rw [if_pos c]
    by_cases d : i = j
    · rw [if_pos ⟨c, d⟩, if_pos d]
    · rw [if_neg (fun e => d e.2), if_neg d, c]
  · rw [if_neg c, if_neg (fun e => c e.1)]
/-- the same places and rules -/
def geo (p p' : Nat → Int) : Prop := p' 0 = p 0 ∧ (∀ s, s < 8 → p' (4 + 4 * s) = p (4 + 4 * s) ∧ p' (5 + 4 * s) = p (5 + 4 * s)) ∧ (∀ q, q < 3 → p' (36 + 2 * q) = p (36 + 2 * q) ∧ p' (37 + 2 * q) = p (37 + 2 * q))
theorem geo_nS {p p' : Nat → Int} (g : geo p p') : nS p' = nS p := by unfold nS; rw [g.1]
theorem rlN_geo {p p' : Nat → Int} (g : geo p p') (d : Int) : ∀ k, k ≤ 3 → rlN p' d k = rlN p d k
  | 0, _ => rfl
  | k + 1, hk => by
    unfold rlN
    rw [rlN_geo g d k (by omega), (g.2.2 k (by omega)).1, (g.2.2 k (by omega)).2]
theorem geo_Ap {p p' : Nat → Int} (g : geo p p') (h : WF p) : Ap p' = Ap p := by
  have h8 := h.n8
  funext a b
  unfold Ap
  rw [geo_nS g]
  by_cases c : a < nS p ∧ b < nS p ∧ a ≠ b
  · rw [if_pos c, if_pos c, rlN_geo g _ 3 (by omega)]
    unfold ds
    rw [(g.2.1 a (by omega)).1, (g.2.1 a (by omega)).2, (g.2.1 b (by omega)).1, (g.2.1 b (by omega)).2]
  · rw [if_neg c, if_neg c]
theorem geo_rs {p : Nat → Int} {j : Nat} {x : Int} (h : ∃ s, s < 8 ∧ (j = 6 + 4 * s ∨ j = 7 + 4 * s)) : geo p (rs p j x) := by
  obtain ⟨s, hs, hj⟩ := h
  refine ⟨rs_ne _ _ _ (by omega), fun t ht => ⟨rs_ne _ _ _ (by omega), rs_ne _ _ _ (by omega)⟩, fun q hq => ⟨rs_ne _ _ _ (by omega), rs_ne _ _ _ (by omega)⟩⟩
theorem geo_trans {p p' p'' : Nat → Int} (g : geo p p') (g' : geo p' p'') : geo p p'' :=
  ⟨g'.1.trans g.1, fun s hs => ⟨(g'.2.1 s hs).1.trans (g.2.1 s hs).1, (g'.2.1 s hs).2.trans (g.2.1 s hs).2⟩, fun q hq => ⟨(g'.2.2 q hq).1.trans (g.2.2 q hq).1, (g'.2.2 q hq).2.trans (g.2.2 q hq).2⟩⟩
theorem geo_refl (p : Nat → Int) : geo p p := ⟨rfl, fun _ _ => ⟨rfl, rfl⟩, fun _ _ => ⟨rfl, rfl⟩⟩
theorem geo_WF {p p' : Nat → Int} (g : geo p p') (h : WF p) (hc : ∀ s, s < nS p → (-1 ≤ p' (6 + 4 * s) ∧ p' (6 + 4 * s) ≤ 19) ∧ (p' (7 + 4 * s) = 0 ∨ p' (7 + 4 * s) = 1) ∧ (p' (7 + 4 * s) = 1 → 0 ≤ p' (6 + 4 * s))) : WF p' := by
  have h8 := h.n8
  unfold WF
  rw [geo_nS g, g.1]
  refine ⟨h.1, fun s hs => ?_, fun q hq => ?_, fun a b ha hb hab => ?_⟩
  · rw [(g.2.1 s (by omega)).1, (g.2.1 s (by omega)).2]
    exact ⟨h.x hs, h.y hs, hc s hs⟩
  · rw [(g.2.2 q hq).1, (g.2.2 q hq).2]
    exact ⟨h.near hq, h.gap hq⟩
  · rw [(g.2.1 a (by omega)).1, (g.2.1 a (by omega)).2, (g.2.1 b (by omega)).1, (g.2.1 b (by omega)).2]
    exact h.dis ha hb hab
/-- a row with a station's channel and mark changed -/
def pcf (p : Nat → Int) (s : Nat) (c f : Int) : Nat → Int := rs (rs p (6 + 4 * s) c) (7 + 4 * s) f
theorem pcf_geo (p : Nat → Int) {s : Nat} (hs : s < 8) (c f : Int) : geo p (pcf p s c f) := geo_trans (geo_rs ⟨s, hs, Or.inl rfl⟩) (geo_rs ⟨s, hs, Or.inr rfl⟩)
theorem pcf_c (p : Nat → Int) (s t : Nat) (c f : Int) : pcf p s c f (6 + 4 * t) = if t = s then c else p (6 + 4 * t) := by
  unfold pcf
  rw [rs_ne _ _ _ (by omega), rs_at]
  by_cases e : t = s
  · rw [if_pos (by omega), if_pos e]
  · rw [if_neg (by omega), if_neg e]
theorem pcf_f (p : Nat → Int) (s t : Nat) (c f : Int) : pcf p s c f (7 + 4 * t) = if t = s then f else p (7 + 4 * t) := by
  unfold pcf
  rw [rs_at]
  by_cases e : t = s
  · rw [if_pos (by omega), if_pos e]
  · rw [if_neg (by omega), if_neg e, rs_ne _ _ _ (by omega)]
theorem pcf_WF {p : Nat → Int} (h : WF p) {s : Nat} (hs : s < nS p) {c f : Int} (hc : -1 ≤ c ∧ c ≤ 19) (hf : f = 0 ∨ f = 1) (hfc : f = 1 → 0 ≤ c) : WF (pcf p s c f) := by
  have h8 := h.n8
  refine geo_WF (pcf_geo p (show s < 8 by omega) c f) h (fun t ht => ?_)
  rw [pcf_c, pcf_f]
  by_cases e : t = s
  · rw [if_pos e, if_pos e]; exact ⟨hc, hf, hfc⟩
  · rw [if_neg e, if_neg e]; exact ⟨h.c ht, h.f ht, h.fc ht⟩
theorem pcf_Ch {p : Nat → Int} (h : WF p) {s : Nat} (hs : s < nS p) (c f : Int) : Ch (pcf p s c f) = fun t => if t = s then c else Ch p t := by
  have h8 := h.n8
  funext t
  unfold Ch
  rw [geo_nS (pcf_geo p (show s < 8 by omega) c f), pcf_c]
  by_cases e : t = s
  · rw [if_pos e, if_pos e, if_pos (by omega)]
  · rw [if_neg e, if_neg e]
theorem pcf_Fx {p : Nat → Int} (h : WF p) {s : Nat} (hs : s < nS p) (c f : Int) : Fx (pcf p s c f) = fun t => if t = s then decide (f = 1) else Fx p t := by
  have h8 := h.n8
  funext t
  unfold Fx
  rw [geo_nS (pcf_geo p (show s < 8 by omega) c f), pcf_f]
  by_cases e : t = s
  · rw [if_pos e, if_pos e, decide_eq_true (by omega : t < nS p), Bool.true_and]
  · rw [if_neg e, if_neg e]
/-- a plane whose channel and marks change as the row's do -/
theorem PlR_pcf {σ σ' : gs_Mem} {r : Nat} {p : Nat → Int} (hp : PlR σ r p) (h : WF p) {s : Nat} (hs : s < nS p) (c f : Int)
    (e : ∀ a, r < a → a ≤ r + 8 → a ≠ r + 3 → σ' a = σ a) (e9 : σ' r 9 = σ r 9) (e3 : ∀ t, t < nS p → σ' (r + 3) t = if t = s then c else σ (r + 3) t)
    (em : ∀ m : Nat, σ r 8 = (m : Int) → m < 256 → ∃ m' : Nat, σ' r 8 = (m' : Int) ∧ m' < 256 ∧ ∀ t, m'.testBit t = if t = s then decide (f = 1) else m.testBit t) : PlR σ' r (pcf p s c f) := by
  have h8 := h.n8
  have g := pcf_geo p (show s < 8 by omega) c f
  obtain ⟨q1, q2, q3, q4, m, q5, q6, q7⟩ := hp
  obtain ⟨m', d1, d2, d3⟩ := em m q5 q6
  unfold PlR PlG
  rw [geo_nS g, geo_Ap g h, e (r + 1) (by omega) (by omega) (by omega), e (r + 2) (by omega) (by omega) (by omega), e (r + 4) (by omega) (by omega) (by omega), e (r + 5) (by omega) (by omega) (by omega), e (r + 6) (by omega) (by omega) (by omega), e (r + 7) (by omega) (by omega) (by omega), e9, pcf_Fx h hs]
  refine ⟨⟨q1.1, fun t ht => ?_, fun q hq => ?_⟩, fun t ht => ?_, q3, q4, m', d1, d2, fun t => ?_⟩
  · rw [(g.2.1 t (by omega)).1, (g.2.1 t (by omega)).2]; exact q1.2.1 t ht
  · rw [(g.2.2 q hq).1, (g.2.2 q hq).2]; exact q1.2.2 q hq
  · rw [e3 t ht, pcf_c, q2 t ht]
  · rw [d3 t, q7 t]
theorem i_tune {σ : gs_Mem} {r : Nat} {p : Nat → Int} (hp : PlR σ r p) (h : WF p) {s : Nat} (hs : s < nS p) {v : Int} (hv : -1 ≤ v ∧ v ≤ 19) :
    ∃ σ', f_X0_tune r (s : Int) v σ = some (0, σ') ∧ PlR σ' r (pcf p s v (if v = -1 then 0 else p (7 + 4 * s))) ∧ Fr σ σ' r := by
  have h8 := h.n8
  have hA := hp.pa h
  obtain ⟨m, m1, m2, m3⟩ := hp.2.2.2.2
  unfold f_X0_tune
  rw [i_has_s hA.1 h8 hs, Option.bind_some]
  unfold f_X0_tune_J37
  simp (disch := omega) only [gnS, gs_chk_t, t1]
  rw [if_neg (by decide)]
  have hr3 : r ≠ r + 3 := by omega
  by_cases c : v = -1
  · rw [if_pos c, if_pos c, gs_st_far _ _ _ _ hr3, m1, gshl_one s (by omega), gandn_nat (by omega)]
    refine ⟨_, rfl, PlR_pcf hp h hs v 0 (fun a h1 h2 h3 => ?_) ?_ (fun t ht => ?_) (fun m0 hm0 hm1 => ?_), (Fr.st σ r 3 s v (by omega)).trans (Fr.st _ r 0 8 _ (by omega))⟩
    · rw [gs_st_row _ _ _ _ (by omega), gs_st_row _ _ _ _ (by omega)]
    · rw [gs_st_slot _ _ _ _ (by decide), gs_st_far _ _ _ _ hr3]
    · rw [gs_st_far _ _ _ _ (by omega), gs_st_at]
      by_cases e : t = s
      · rw [if_pos ⟨rfl, e⟩, if_pos e]
      · rw [if_neg (fun q => e q.2), if_neg e]
    · have : m0 = m := by omega
      subst this
      refine ⟨_, gs_st_same _ _ _ _, Nat.lt_of_le_of_lt (andn_le _ _) m2, fun t => ?_⟩
      rw [andn_bit (by omega), Nat.testBit_two_pow]
      by_cases e : t = s
      · rw [if_pos e, decide_eq_true e.symm]; simp
      · rw [if_neg e, decide_eq_false (fun q => e q.symm)]; simp
  · rw [if_neg c, if_neg c, gs_st_far _ _ _ _ hr3, m1, gand_nat (by omega), Nat.and_self]
    refine ⟨_, rfl, PlR_pcf hp h hs v _ (fun a h1 h2 h3 => ?_) ?_ (fun t ht => ?_) (fun m0 hm0 hm1 => ?_), (Fr.st σ r 3 s v (by omega)).trans (Fr.st _ r 0 8 _ (by omega))⟩
    · rw [gs_st_row _ _ _ _ (by omega), gs_st_row _ _ _ _ (by omega)]
    · rw [gs_st_slot _ _ _ _ (by decide), gs_st_far _ _ _ _ hr3]
    · rw [gs_st_far _ _ _ _ (by omega), gs_st_at]
      by_cases e : t = s
      · rw [if_pos ⟨rfl, e⟩, if_pos e]
      · rw [if_neg (fun q => e q.2), if_neg e]
    · have : m0 = m := by omega
      subst this
      refine ⟨_, gs_st_same _ _ _ _, m2, fun t => ?_⟩
      by_cases e : t = s
      · rw [if_pos e, m3 t, e]
        unfold Fx
        rw [decide_eq_true hs, Bool.true_and]
      · rw [if_neg e]
theorem i_pin {σ : gs_Mem} {r : Nat} {p : Nat → Int} (hp : PlR σ r p) (h : WF p) {s : Nat} (hs : s < nS p) (v : Int) :
    ∃ σ', f_X0_pin r (s : Int) v σ = some (0, σ') ∧ PlR σ' r (pcf p s (p (6 + 4 * s)) (if gn v = 0 ∨ p (6 + 4 * s) = -1 then 0 else 1)) ∧ Fr σ σ' r := by
  have h8 := h.n8
  have hA := hp.pa h
  have hc := h.c hs
  obtain ⟨m, m1, m2, m3⟩ := hp.2.2.2.2
  unfold f_X0_pin f_X0_pin_J26
  rw [i_has_s hA.1 h8 hs, Option.bind_some]
  unfold f_X0_pin_J27 f_X0_pin_J54
  have g1 : gn 1 = 1 := by decide +kernel
  rw [g1, gn_0, if_neg (show ¬ (1 : Int) = 0 by decide), if_neg (show ¬ (1 : Int) = 0 by decide), if_pos (show (0 : Int) = 0 from rfl)]
  simp (disch := omega) only [gnS (x := (s : Int)), gs_chk_t, t1]
  rw [hp.2.1 s hs, gnS (x := p (6 + 4 * s)) (by omega), m1, gshl_one s (by omega), gandn_nat (by omega), gor_nat (by omega) (p31 (d := s) (by omega))]
  have key : ∀ (f : Int) (m' : Nat), m' < 256 → (∀ t, m'.testBit t = if t = s then decide (f = 1) else m.testBit t) → PlR (gs_st σ r 8 (m' : Int)) r (pcf p s (p (6 + 4 * s)) f) ∧ Fr σ (gs_st σ r 8 (m' : Int)) r := fun f m' hm' hb => by
    refine ⟨PlR_pcf hp h hs _ f (fun a h1 h2 h3 => ?_) ?_ (fun t ht => ?_) (fun m0 hm0 hm1 => ?_), Fr.st σ r 0 8 _ (by omega)⟩
    · rw [gs_st_row _ _ _ _ (by omega)]
    · rw [gs_st_slot _ _ _ _ (by decide)]
    · rw [gs_st_far _ _ _ _ (by omega)]
      by_cases e : t = s
      · rw [if_pos e, e, hp.2.1 s hs]
      · rw [if_neg e]
    · have : m0 = m := by omega
      subst this
      exact ⟨m', gs_st_same _ _ _ _, hm', hb⟩
  have k0 := key 0 (andn m (2 ^ s)) (Nat.lt_of_le_of_lt (andn_le _ _) m2) (fun t => by
    rw [andn_bit (by omega), Nat.testBit_two_pow]
    by_cases e : t = s
    · rw [if_pos e, decide_eq_true e.symm]; simp
    · rw [if_neg e, decide_eq_false (fun q => e q.symm)]; simp)
  have k1 := key 1 (m ||| 2 ^ s) (Nat.or_lt_two_pow (n := 8) m2 (Nat.pow_lt_pow_right (by decide) (by omega))) (fun t => by
    rw [Nat.testBit_or, Nat.testBit_two_pow]
    by_cases e : t = s
    · rw [if_pos e, decide_eq_true e.symm]; simp
    · rw [if_neg e, decide_eq_false (fun q => e q.symm)]; simp)
  by_cases c1 : gn v = 0
  · rw [if_pos c1, if_pos (Or.inl c1)]
    exact ⟨_, rfl, k0.1, k0.2⟩
  · rw [if_neg c1]
    by_cases c2 : p (6 + 4 * s) = -1
    · rw [if_pos c2, if_pos (Or.inr c2)]
      exact ⟨_, rfl, k0.1, k0.2⟩
    · rw [if_neg c2, if_neg (fun e => e.elim c1 c2)]
      exact ⟨_, rfl, k1.1, k1.2⟩
