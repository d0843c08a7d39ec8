/-- a class' field tables: number, name, fields -/
def gs_cls (ci : Nat) (C : String) (T : u_T) (N : Nat) (ty : Nat → FieldType) : Prop :=
  vwCl[ci]? = some (C, T, N) ∧ (∀ w ∈ u_ws C T N, w ∈ WS) ∧ (∀ k, k < N → parseFieldDescriptor (T k).2.2.1 = some (ty k)) ∧ (∀ a, a < N → ∀ b, b < N → a ≠ b → (T a).2.1 ≠ (T b).2.1)
theorem mapIdx_get (E : gs_E) (row : Nat → Int) (fs : List (Option Nat)) {k : Nat} {f : Option Nat} (h : fs[k]? = some f) : (fs.mapIdx (gs_fv E row))[k]? = some (gs_fv E row k f) := by
  rw [List.getElem?_mapIdx, h]; rfl
theorem mapIdx_set (E : gs_E) (row : Nat → Int) (fs : List (Option Nat)) {k : Nat} (x : Int) (h : fs[k]? = some none) : fs.mapIdx (gs_fv E (fun j => if j = k then x else row j)) = (fs.mapIdx (gs_fv E row)).set k (gi x) := by
  apply List.ext_getElem?
  intro j
  by_cases e : j = k
  · subst e
    have hl : j < fs.length := (List.getElem?_eq_some_iff.mp h).1
    rw [List.getElem?_set_self (by rw [List.length_mapIdx]; exact hl), List.getElem?_mapIdx, h]
    simp [gs_fv]
  · rw [List.getElem?_set_ne (Ne.symm e), List.getElem?_mapIdx, List.getElem?_mapIdx]
    cases fs[j]? with
    | none => rfl
    | some f => cases f with
      | none => simp [gs_fv, e]
      | some q => rfl
theorem ai_nn {x : Int} (h0 : 0 ≤ gn x) : (Int32.ofInt x).toNatClampNeg = (gn x).toNat := rfl
theorem ai_in {x : Int} {n : Nat} (h : 0 ≤ gn x ∧ gn x < n) : vp_in (Int32.ofInt x) n := vp_in_iff.mpr h
theorem upd_i (σ : gs_Mem) (r k : Nat) (x : Int) : upd (fun j => Int32.ofInt (σ r j)) k (Int32.ofInt x) = fun j => Int32.ofInt (gs_st σ r k x r j) := by
  funext j
  unfold upd
  rw [gs_st_s]
  by_cases h : j = k
  · rw [if_pos h, if_pos h]
  · rw [if_neg h, if_neg h]
theorem upd_l (σ : gs_Mem) (r k : Nat) (x : Int) : vp_updL (fun j => Int64.ofInt (σ r j)) k (Int64.ofInt x) = fun j => Int64.ofInt (gs_st σ r k x r j) := by
  funext j
  unfold vp_updL
  rw [gs_st_s]
  by_cases h : j = k
  · rw [if_pos h, if_pos h]
  · rw [if_neg h, if_neg h]
theorem nar_b (x : Int) : vp_nar .byte (Int32.ofInt x) = Int32.ofInt (gb x) := (vp_nar_byte _).trans (oi_toInt _).symm
theorem cpy_i (σ : gs_Mem) (r1 sp r2 dp n : Nat) : va_cpy (fun j => Int32.ofInt (σ r1 j)) (fun j => Int32.ofInt (σ r2 j)) sp dp n = fun j => Int32.ofInt (gs_cp σ r1 sp r2 dp n r2 j) := by
  funext j
  unfold va_cpy gs_cp
  by_cases h : dp ≤ j ∧ j < dp + n
  · rw [if_pos h, if_pos ⟨rfl, h⟩]
  · rw [if_neg h, if_neg (fun q => h q.2)]
theorem cpy_l (σ : gs_Mem) (r1 sp r2 dp n : Nat) : va_cpy (fun j => Int64.ofInt (σ r1 j)) (fun j => Int64.ofInt (σ r2 j)) sp dp n = fun j => Int64.ofInt (gs_cp σ r1 sp r2 dp n r2 j) := by
  funext j
  unfold va_cpy gs_cp
  by_cases h : dp ≤ j ∧ j < dp + n
  · rw [if_pos h, if_pos ⟨rfl, h⟩]
  · rw [if_neg h, if_neg (fun q => h q.2)]
section GKmem
variable {α β : Type} {E : gs_E} {M : gs_M} {out : α → Int × gs_Mem} {o o1 o2 o' : Option α} {pc tgt : Nat} {L L' : List (Nat × Value)} {S S' : List Value} {σ : gs_Mem}
theorem gs_get_o {r ci : Nat} {fs : List (Option Nat)} (hr : r < 79) (hsh : SH r = sp_o ci fs) : (gs_ws E σ)[r]? = some (gs_ad E r, .inr (ci, fs.mapIdx (gs_fv E (σ r)))) := by
  rw [gs_ws_get E σ hr, hsh]; rfl
theorem gs_get_i {r n : Nat} (hr : r < 79) (hsh : SH r = sp_i n) : (gs_ws E σ)[r]? = some (gs_ad E r, .inl (gs_cA E .int, n, .inl fun j => Int32.ofInt (σ r j))) := by
  rw [gs_ws_get E σ hr, hsh]; rfl
theorem gs_get_b {r n : Nat} (hr : r < 79) (hsh : SH r = .inl (.byte, n)) : (gs_ws E σ)[r]? = some (gs_ad E r, .inl (gs_cA E .byte, n, .inl fun j => Int32.ofInt (σ r j))) := by
  rw [gs_ws_get E σ hr, hsh]; rfl
theorem gs_get_z {r n : Nat} (hr : r < 79) (hsh : SH r = .inl (.boolean, n)) : (gs_ws E σ)[r]? = some (gs_ad E r, .inl (gs_cA E .boolean, n, .inl fun j => Int32.ofInt (σ r j))) := by
  rw [gs_ws_get E σ hr, hsh]; rfl
theorem gs_get_l {r n : Nat} (hr : r < 79) (hsh : SH r = sp_l n) : (gs_ws E σ)[r]? = some (gs_ad E r, .inl (gs_cA E .long, n, .inr (.inl fun j => Int64.ofInt (σ r j)))) := by
  rw [gs_ws_get E σ hr, hsh]; rfl
theorem gs_get_q {r n : Nat} {q : Nat → Nat} (hr : r < 79) (hsh : SH r = .inr (.inr (n, q))) : (gs_ws E σ)[r]? = some (gs_ad E r, .inl (gs_cA E gs_tT, n, .inr (.inr (.inr (.inr fun j => if j < n then some (gs_ad E (q j)) else none))))) := by
  rw [gs_ws_get E σ hr, hsh]; rfl
/-! fields -/
theorem gk_getF {own C : String} {T : u_T} {N ci index r : Nat} {ty : Nat → FieldType} {fs : List (Option Nat)} {f : Option Nat} (ho : mM_own M = own) (hcl : gs_cls ci C T N ty) (hr : r < 79) (hsh : SH r = sp_o ci fs) (k : Nat) (hk : k < N) (hf : fs[k]? = some f) (hlink : Cond.fieldLink own index (T k).1 (T k).2.1 (T k).2.2.1 ∈ WS) (d : decode (mM_cc M) pc = .ok (.getfield index, 3))
    (kk : gs_K E M out o (pc + 3) L (gs_fv E (σ r) k f :: S) σ) : gs_K E M out o pc L (gr E r :: S) σ :=
  gk_goR (fun p e s m args below meth c H locs ls Q hc hK hP kk => by
    subst ho
    exact va_get (D := gs_D E) hc.1 hc.2.1 hc.2.2.2.2.2.2.1 hcl.2.1 hc.2.2.2.2.2.1 hK hP r (gs_get_o hr hsh) hcl.1 k hk (hc.2.2.2.2.2.2.1 _ hlink) (fun _ h => h) (mapIdx_get E (σ r) fs hf) d kk) kk
theorem gk_getFN {own C host : String} {T : u_T} {N ci index r : Nat} {ty : Nat → FieldType} {fs : List (Option Nat)} {f : Option Nat} (ho : mM_own M = own) (hcl : gs_cls ci C T N ty) (hr : r < 79) (hsh : SH r = sp_o ci fs) (k : Nat) (hk : k < N) (hf : fs[k]? = some f) (hlink : Cond.fieldLinkNest own index (T k).1 (T k).2.1 (T k).2.2.1 host ∈ WN) (d : decode (mM_cc M) pc = .ok (.getfield index, 3))
    (kk : gs_K E M out o (pc + 3) L (gs_fv E (σ r) k f :: S) σ) : gs_K E M out o pc L (gr E r :: S) σ :=
  gk_goR (fun p e s m args below meth c H locs ls Q hc hK hP kk => by
    subst ho
    exact va_getN (D := gs_D E) hc.1 hc.2.1 hc.2.2.2.2.2.2.1 hcl.2.1 hc.2.2.2.2.2.1 hK hP r (gs_get_o hr hsh) hcl.1 k hk (hc.2.2.2.2.2.2.2.1.use hlink) (fun _ h => h) (mapIdx_get E (σ r) fs hf) d kk) kk
theorem gk_putF {own C : String} {T : u_T} {N ci index r : Nat} {ty : Nat → FieldType} {fs : List (Option Nat)} {x : Int} (ho : mM_own M = own) (hcl : gs_cls ci C T N ty) (hr : r < 79) (hsh : SH r = sp_o ci fs) (k : Nat) (hk : k < N) (hf : fs[k]? = some none) (hfin : (T k).2.2.2 = false) (hn : narrow (ty k) (gi x) = gi x) (hfit : fits (ty k) (gi x) = true) (hlink : Cond.fieldLink own index (T k).1 (T k).2.1 (T k).2.2.1 ∈ WS) (d : decode (mM_cc M) pc = .ok (.putfield index, 3))
    (kk : gs_K E M out o (pc + 3) L S (gs_st σ r k x)) : gs_K E M out o pc L (gi x :: gr E r :: S) σ :=
  gk_goW (fun p e s m args below meth c H locs ls Q hc hK hP hD hS hl kk => by
    subst ho
    have e1 : gs_ent E (gs_st σ r k x r) (SH r) = .inr (ci, (fs.mapIdx (gs_fv E (σ r))).set k (gi x)) := by
      rw [hsh, ← mapIdx_set E (σ r) fs x hf, ← funext (gs_st_s σ r k x)]
      rfl
    exact va_put (D := gs_D E) hc.1 hc.2.1 hc.2.2.2.2.2.2.1 hcl.2.1 ty hcl.2.2.1 hcl.2.2.2 hc.2.2.2.2.2.1 hK hP hD hS r (gs_get_o hr hsh) hcl.1 k hk (hc.2.2.2.2.2.2.1 _ hlink) (fun _ h => h) hfin (hcl.2.2.1 k hk) hn hfit (by rw [List.length_mapIdx]; exact (List.getElem?_eq_some_iff.mp hf).1) d
      (fun H1 locs1 hP1 hD1 hS1 => kk H1 locs1 (by rw [gs_ws_set hr (gs_st_o σ r k x) e1] at hP1; exact hP1) hS1)) kk
/-! arrays -/
theorem gk_iald {r n : Nat} {i i' : Int} (hr : r < 79) (hsh : SH r = sp_i n) (hi : gn i = i') (d : decode (mM_cc M) pc = .ok (.iaload, 1))
    (kk : gs_K E M out o (pc + 1) L (gi (σ r i'.toNat) :: S) σ) : gs_K E M out (if 0 ≤ i' ∧ i' < (n : Int) then o else none) pc L (gi i :: gr E r :: S) σ :=
  gk_guard fun hin => gk_goR (fun p e s m args below meth c H locs ls Q hc hK hP kk => by
    subst hi
    exact va_iald hc.1 hc.2.1 hK hP r 0 (gs_get_i hr hsh) rfl (ai_in hin) d kk) kk
theorem gk_bald {r n : Nat} {i i' : Int} (hr : r < 79) (hsh : SH r = .inl (.byte, n)) (hi : gn i = i') (d : decode (mM_cc M) pc = .ok (.baload, 1))
    (kk : gs_K E M out o (pc + 1) L (gi (σ r i'.toNat) :: S) σ) : gs_K E M out (if 0 ≤ i' ∧ i' < (n : Int) then o else none) pc L (gi i :: gr E r :: S) σ :=
  gk_guard fun hin => gk_goR (fun p e s m args below meth c H locs ls Q hc hK hP kk => by
    subst hi
    exact va_bald hc.1 hc.2.1 hK hP r 1 (gs_get_b hr hsh) rfl (ai_in hin) d kk) kk
theorem gk_zald {r n : Nat} {i i' : Int} (hr : r < 79) (hsh : SH r = .inl (.boolean, n)) (hi : gn i = i') (d : decode (mM_cc M) pc = .ok (.baload, 1))
    (kk : gs_K E M out o (pc + 1) L (gi (σ r i'.toNat) :: S) σ) : gs_K E M out (if 0 ≤ i' ∧ i' < (n : Int) then o else none) pc L (gi i :: gr E r :: S) σ :=
  gk_guard fun hin => gk_goR (fun p e s m args below meth c H locs ls Q hc hK hP kk => by
    subst hi
    exact va_zald hc.1 hc.2.1 hK hP r 2 (gs_get_z hr hsh) rfl (ai_in hin) d kk) kk
theorem gk_lald {r n : Nat} {i i' : Int} (hr : r < 79) (hsh : SH r = sp_l n) (hi : gn i = i') (d : decode (mM_cc M) pc = .ok (.laload, 1))
    (kk : gs_K E M out o (pc + 1) L (gl (σ r i'.toNat) :: S) σ) : gs_K E M out (if 0 ≤ i' ∧ i' < (n : Int) then o else none) pc L (gi i :: gr E r :: S) σ :=
  gk_guard fun hin => gk_goR (fun p e s m args below meth c H locs ls Q hc hK hP kk => by
    subst hi
    exact va_lald hc.1 hc.2.1 hK hP r 3 (gs_get_l hr hsh) rfl (ai_in hin) d kk) kk
theorem gk_aald {r n : Nat} {q : Nat → Nat} {i i' : Int} (hr : r < 79) (hsh : SH r = .inr (.inr (n, q))) (hi : gn i = i') (d : decode (mM_cc M) pc = .ok (.aaload, 1))
    (kk : 0 ≤ i' ∧ i' < (n : Int) → gs_K E M out o (pc + 1) L (gr E (q i'.toNat) :: S) σ) : gs_K E M out (if 0 ≤ i' ∧ i' < (n : Int) then o else none) pc L (gi i :: gr E r :: S) σ :=
  gk_guard fun hin => gk_goR (fun p e s m args below meth c H locs ls Q hc hK hP kk => by
    subst hi
    have e : va_rf (if (Int32.ofInt i).toNatClampNeg < n then some (gs_ad E (q (Int32.ofInt i).toNatClampNeg)) else none) = gr E (q (gn i).toNat) := by
      rw [ai_nn hin.1, if_pos (by omega)]; rfl
    rw [← e] at kk
    exact va_aldq (C := "GapStations$Tape") hc.1 hc.2.1 hK hP r 4 (gs_get_q hr hsh) rfl (ai_in hin) d kk) (kk hin)
theorem gk_iast {r n : Nat} {i i' x : Int} (hr : r < 79) (hsh : SH r = sp_i n) (hi : gn i = i') (d : decode (mM_cc M) pc = .ok (.iastore, 1))
    (kk : gs_K E M out o (pc + 1) L S (gs_st σ r i'.toNat x)) : gs_K E M out (if 0 ≤ i' ∧ i' < (n : Int) then o else none) pc L (gi x :: gi i :: gr E r :: S) σ :=
  gk_guard fun hin => gk_goW (fun p e s m args below meth c H locs ls Q hc hK hP hD hS hl kk => by
    subst hi
    have e1 : gs_ent E (gs_st σ r (gn i).toNat x r) (SH r) = .inl (gs_cA E .int, n, .inl (upd (fun j => Int32.ofInt (σ r j)) (Int32.ofInt i).toNatClampNeg (Int32.ofInt x))) := by
      rw [hsh, ai_nn hin.1, upd_i]; rfl
    exact va_iast hc.1 hc.2.1 hK hP hD hS r 0 (gs_get_i hr hsh) rfl (ai_in hin) d
      (fun H1 locs1 hP1 hD1 hS1 => kk H1 locs1 (by rw [gs_ws_set hr (gs_st_o σ r _ x) e1] at hP1; exact hP1) hS1)) kk
theorem gk_bast {r n : Nat} {i i' x : Int} (hr : r < 79) (hsh : SH r = .inl (.byte, n)) (hi : gn i = i') (d : decode (mM_cc M) pc = .ok (.bastore, 1))
    (kk : gs_K E M out o (pc + 1) L S (gs_st σ r i'.toNat (gb x))) : gs_K E M out (if 0 ≤ i' ∧ i' < (n : Int) then o else none) pc L (gi x :: gi i :: gr E r :: S) σ :=
  gk_guard fun hin => gk_goW (fun p e s m args below meth c H locs ls Q hc hK hP hD hS hl kk => by
    subst hi
    have e1 : gs_ent E (gs_st σ r (gn i).toNat (gb x) r) (SH r) = .inl (gs_cA E .byte, n, .inl (upd (fun j => Int32.ofInt (σ r j)) (Int32.ofInt i).toNatClampNeg (vp_nar .byte (Int32.ofInt x)))) := by
      rw [hsh, ai_nn hin.1, nar_b, upd_i]; rfl
    exact va_bast hc.1 hc.2.1 hK hP hD hS r 1 (gs_get_b hr hsh) rfl (ai_in hin) d
      (fun H1 locs1 hP1 hD1 hS1 => kk H1 locs1 (by rw [gs_ws_set hr (gs_st_o σ r _ _) e1] at hP1; exact hP1) hS1)) kk
theorem gk_zast {r n : Nat} {i i' x : Int} (hr : r < 79) (hsh : SH r = .inl (.boolean, n)) (hi : gn i = i') (hx : vp_nar .boolean (Int32.ofInt x) = Int32.ofInt x) (d : decode (mM_cc M) pc = .ok (.bastore, 1))
    (kk : gs_K E M out o (pc + 1) L S (gs_st σ r i'.toNat x)) : gs_K E M out (if 0 ≤ i' ∧ i' < (n : Int) then o else none) pc L (gi x :: gi i :: gr E r :: S) σ :=
  gk_guard fun hin => gk_goW (fun p e s m args below meth c H locs ls Q hc hK hP hD hS hl kk => by
    subst hi
    have e1 : gs_ent E (gs_st σ r (gn i).toNat x r) (SH r) = .inl (gs_cA E .boolean, n, .inl (upd (fun j => Int32.ofInt (σ r j)) (Int32.ofInt i).toNatClampNeg (vp_nar .boolean (Int32.ofInt x)))) := by
      rw [hsh, ai_nn hin.1, hx, upd_i]; rfl
    exact va_zast hc.1 hc.2.1 hK hP hD hS r 2 (gs_get_z hr hsh) rfl (ai_in hin) d
      (fun H1 locs1 hP1 hD1 hS1 => kk H1 locs1 (by rw [gs_ws_set hr (gs_st_o σ r _ _) e1] at hP1; exact hP1) hS1)) kk
theorem gk_last {r n : Nat} {i i' x : Int} (hr : r < 79) (hsh : SH r = sp_l n) (hi : gn i = i') (d : decode (mM_cc M) pc = .ok (.lastore, 1))
    (kk : gs_K E M out o (pc + 1) L S (gs_st σ r i'.toNat x)) : gs_K E M out (if 0 ≤ i' ∧ i' < (n : Int) then o else none) pc L (gl x :: gi i :: gr E r :: S) σ :=
  gk_guard fun hin => gk_goW (fun p e s m args below meth c H locs ls Q hc hK hP hD hS hl kk => by
    subst hi
    have e1 : gs_ent E (gs_st σ r (gn i).toNat x r) (SH r) = .inl (gs_cA E .long, n, .inr (.inl (vp_updL (fun j => Int64.ofInt (σ r j)) (Int32.ofInt i).toNatClampNeg (Int64.ofInt x)))) := by
      rw [hsh, ai_nn hin.1, upd_l]; rfl
    exact va_last hc.1 hc.2.1 hK hP hD hS r 3 (gs_get_l hr hsh) rfl (ai_in hin) d
      (fun H1 locs1 hP1 hD1 hS1 => kk H1 locs1 (by rw [gs_ws_set hr (gs_st_o σ r _ _) e1] at hP1; exact hP1) hS1)) kk
theorem gk_alen_i {r n : Nat} {x : Int} (hr : r < 79) (hsh : SH r = sp_i n) (hx : Int32.ofNat n = Int32.ofInt x) (d : decode (mM_cc M) pc = .ok (.arraylength, 1))
    (kk : gs_K E M out o (pc + 1) L (gi x :: S) σ) : gs_K E M out o pc L (gr E r :: S) σ :=
  gk_goR (fun p e s m args below meth c H locs ls Q hc hK hP kk => va_alen hc.1 hc.2.1 hK hP r 0 (gs_get_i hr hsh) rfl hx d kk) kk
end GKmem
