theorem mm_X6_has_ini : Cond.initialized RX6 ∈ WS := inWS 57 (by decide +kernel) (by decide +kernel)
theorem mm_X7_has_ini : Cond.initialized RX7 ∈ WS := inWS 65 (by decide +kernel) (by decide +kernel)
theorem wl_L_9 : Cond.methodLink R_law 9 yX6_init ∈ WS := inWS 70 (by decide +kernel) (by decide +kernel)
theorem wl_L_12 : Cond.methodLink R_law 12 yX7_init ∈ WS := inWS 771 (by decide +kernel) (by decide +kernel)
theorem dv_6b : ∀ j, j < 7 → defaultValue (tyX6 j) = vp_V [.null, .null, gi 0, .null, .null, .null, .null] j := by
  intro j hj
  match j, hj with
  | 0, _ => rfl
  | 1, _ => rfl
  | 2, _ => rfl
  | 3, _ => rfl
  | 4, _ => rfl
  | 5, _ => rfl
  | 6, _ => rfl
  | z + 7, h => exact absurd h (by omega)
theorem dv_7b : ∀ j, j < 11 → defaultValue (tyX7 j) = vp_V [.null, .null, .null, gi 0, .null, gi 0, gi 0, .null, .null, .null, .null] j := by
  intro j hj
  match j, hj with
  | 0, _ => rfl
  | 1, _ => rfl
  | 2, _ => rfl
  | 3, _ => rfl
  | 4, _ => rfl
  | 5, _ => rfl
  | 6, _ => rfl
  | 7, _ => rfl
  | 8, _ => rfl
  | 9, _ => rfl
  | 10, _ => rfl
  | z + 11, h => exact absurd h (by omega)
theorem gw_callW {p : Program} {l : Launch} {e : Env} {R : Room} {s : State} {m : MethodId} {args : Array Value} {below : List Frame} {meth : Method} {c : Code} {H : Heap} {locs : List Loc} {ls : Array Slot} {Q : State → Prop} {pc k n z : Nat} {D : va_G} {cA : FieldType → ClassId} {L : List (Nat × Value)} {rest : List Value}
    {cc : ByteArray} {nL index maxL nA b : Nat} {own : String} {y : MethodName} {bytes : ByteArray} {rm : Room} {As : List Value} {x : va_E} {post : va_W → Prop} (l0 : va_W)
    (S : CallFix p m c cc nL s args WS own) (h8 : gs_NW s) (h10 : z ≤ s.heap.size) (hK : va_K D vwCl (gw_tys (l, (D, (cA, (z, l0))))) s) (hP : va_P D vwCl (l0 ++ [(b, x)]) H) (hD : va_D (fun q => z ≤ q) (l0 ++ [(b, x)])) (hS : va_S (fun q => z ≤ q) s.heap H locs) (hl : lv_has ls nL L)
    (hC : gw_C (l, (D, (cA, (z, l0)))) y bytes maxL rm b As x post) (hm : gw_mI y bytes maxL nA) (hlink : Cond.methodLink own index y ∈ WS)
    (hfit : rm.frames + 1 ≤ R.frames ∧ 8 + (maxL + 11) + rm.locals ≤ R.locals ∧ k + rm.cells ≤ R.cells ∧ n + rm.slots ≤ R.slots) (hn : As.length = nA) (hrest : (rest.map fun v => v.category).sum ≤ 8) (d : decode cc pc = .ok (.invokespecial index, 3))
    (kk : ∀ (l3 : va_W) (H3 : Heap) (locs3 : List Loc), post l3 → va_P D vwCl (l0 ++ l3) H3 → va_D (fun q => z ≤ q) (l0 ++ l3) → va_S (fun q => z ≤ q) s.heap H3 locs3 → W p l e R s m args below meth c H3 locs3 (k + rm.cells) (n + rm.slots) Q (F0 m (pc + 3) ls rest)) : W p l e R s m args below meth c H locs k n Q (F0 m pc ls (As.reverse ++ .ref b :: rest)) := by
  obtain ⟨h1, h2, h3, h6, h7⟩ := S
  obtain ⟨m1, m2, m4, my, m5, m6, m7⟩ := hm
  obtain ⟨f1, f2, f3, f4⟩ := hfit
  have hPc : ∀ V : State, V.heap = H → s.WarmedH V.vm → va_Pc (.ref b :: As) (gw_B (l, (D, (cA, (z, l0)))) [(b, x)]) (Value.ref b :: As).toArray V := by
    intro V hV hW
    exact ⟨rfl, by rw [hV]; exact hP, hD, va_K.moved hW.alike hK, h8.warm hW, by rw [hV]; exact Nat.le_trans h10 hS.1⟩
  have hrun : va_Run p l e R s m args below meth c H locs k n rm.cells rm.slots (F0 m pc ls (As.reverse ++ .ref b :: rest)) rest (gw_Q (l, (D, (cA, (z, l0)))) post (Value.ref b :: As).toArray) (fun q => z ≤ q) :=
    va_runI (As := As) (rest := rest) ⟨h1, h2, h3, h6, h7⟩ hC
        ⟨⟨rfl, rfl, f1, f2, pay_in h7 (gs_goodc m1), List.mem_cons_self, h7 _ m1, h7 _ m4, ⟨m5, m6⟩, some_len m7, h7 _ hlink⟩, my, h7 _ m2⟩
        ⟨gw_blind, hPc⟩ rfl hn hl.1 rfl (lv_room hrest) d ⟨f3, f4⟩
  intro T hT X0
  obtain ⟨v, st₀, t, T', L1, h0, X', hL, e1, e2, ⟨hv, ⟨l3, hp, hP3, hD3⟩, hF⟩, st⟩ := hrun T hT X0
  cases hv
  have hS1 : va_S (fun q => z ≤ q) s.heap t.heap (locs ++ L1) := by
    refine ⟨Nat.le_trans hS.1 (by rw [← h0]; exact hF.1), fun q q1 q2 => ?_, fun q hq => ?_⟩
    · rw [hF.2 q (by rw [h0]; exact Nat.lt_of_lt_of_le q1 hS.1) q2, h0]
      exact hS.2.1 q q1 q2
    · rcases List.mem_append.mp hq with h | h
      · exact hS.2.2 q h
      · exact hL q h
  obtain ⟨t2, a1, b1⟩ := kk l3 t.heap (locs ++ L1) hp hP3 hD3 hS1 T' e1 X'
  exact ⟨t2, st t2 a1, b1⟩
set_option maxRecDepth 100000 in
set_option maxHeartbeats 8000000 in
/-- THE LAW, from its entry, given that its loop over the memory comes to 1 -/
theorem law_start {p : Program} {e : Env} {s : State} {m : MethodId} {below : List Frame} {meth : Method} {c : Code} (l : Launch) {b L : Nat} {xs : Nat → Int32} {a : Int × gs_Mem} (hm : f_L_law_L18 xs L gs_fuel 0 s0 = some a) (C0 : lw_At p s m meth c b L xs) : W p l e room_1 s m #[Value.ref b] below meth c s.heap [] 0 0 (lw_Z below #[Value.ref b] s) (entryFrame m ([Value.ref b] : List Value).toArray 4) := by
  obtain ⟨hx, hb, hr, hml, hown, hts, hX, hbl, hlocks, hgv⟩ := id C0
  have htsW := WS_tbl hts
  have hN := gs_NW_of hts
  obtain ⟨c0, i0, k0⟩ := u_known (C := RX0) (T := TX0) (N := 10) (n := 10) htsW inWX0 (hts (.instantiable RX0 10) (List.mem_of_getElem? (i := 83) (by decide +kernel)))
  obtain ⟨c1, i1, k1⟩ := u_known (C := RX1) (T := TX1) (N := 4) (n := 4) htsW inWX1 (hts (.instantiable RX1 4) (List.mem_of_getElem? (i := 121) (by decide +kernel)))
  obtain ⟨c2, i2, k2⟩ := u_known (C := RX2) (T := TX2) (N := 4) (n := 4) htsW inWX2 (hts (.instantiable RX2 4) (List.mem_of_getElem? (i := 77) (by decide +kernel)))
  obtain ⟨c3, i3, k3⟩ := u_known (C := RX3) (T := TX3) (N := 3) (n := 3) htsW inWX3 (hts (.instantiable RX3 3) (List.mem_of_getElem? (i := 212) (by decide +kernel)))
  obtain ⟨c4, i4, k4⟩ := u_known (C := RX4) (T := TX4) (N := 9) (n := 9) htsW inWX4 (hts (.instantiable RX4 9) (List.mem_of_getElem? (i := 175) (by decide +kernel)))
  obtain ⟨c5, i5, k5⟩ := u_known (C := RX5) (T := TX5) (N := 2) (n := 2) htsW inWX5 (hts (.instantiable RX5 2) (List.mem_of_getElem? (i := 162) (by decide +kernel)))
  obtain ⟨c6, i6, k6⟩ := u_known (C := RX6) (T := TX6) (N := 7) (n := 7) htsW inWX6 (hts (.instantiable RX6 7) (List.mem_of_getElem? (i := 69) (by decide +kernel)))
  obtain ⟨c7, i7, k7⟩ := u_known (C := RX7) (T := TX7) (N := 11) (n := 11) htsW inWX7 (hts (.instantiable RX7 11) (List.mem_of_getElem? (i := 770) (by decide +kernel)))
  obtain ⟨dC, dI, hKc⟩ : ∃ (dC : Nat → ClassId) (dI : Nat → Nat → Nat), ∀ (k : Nat) (q : vw_C), vwCl[k]? = some q → u_Kn s q.1 q.2.1 q.2.2 (dC k) (dI k) := by
    refine ⟨fun k => ([c0, c1, c2, c3, c4, c5, c6, c7] : List ClassId).getD k c0, fun k => ([i0, i1, i2, i3, i4, i5, i6, i7] : List (Nat → Nat)).getD k i0, ?_⟩
    intro k q hq
    match k, hq with
    | 0, hq => cases hq; exact k0
    | 1, hq => cases hq; exact k1
    | 2, hq => cases hq; exact k2
    | 3, hq => cases hq; exact k3
    | 4, hq => cases hq; exact k4
    | 5, hq => cases hq; exact k5
    | 6, hq => cases hq; exact k6
    | 7, hq => cases hq; exact k7
    | k + 8, hq => simp [vwCl] at hq
  obtain ⟨a0, ka0, comp0, f0, g0, e0⟩ := Cond.arrayClass_spec (hts (Cond.arrayClass .int) (List.mem_of_getElem? (i := 119) (by decide +kernel)))
  obtain ⟨a1, ka1, comp1, f1, g1, e1⟩ := Cond.arrayClass_spec (hts (Cond.arrayClass .byte) (List.mem_of_getElem? (i := 208) (by decide +kernel)))
  obtain ⟨a2, ka2, comp2, f2, g2, e2⟩ := Cond.arrayClass_spec (hts (Cond.arrayClass .boolean) (List.mem_of_getElem? (i := 209) (by decide +kernel)))
  obtain ⟨a3, ka3, comp3, f3, g3, e3⟩ := Cond.arrayClass_spec (hts (Cond.arrayClass .long) (List.mem_of_getElem? (i := 227) (by decide +kernel)))
  obtain ⟨comp4, a4, ka4, fo, fi, g4, e4, f4⟩ := Cond.arrayOver_spec (hts (Cond.arrayOver (.object "GapStations$Tape")) (List.mem_of_getElem? (i := 211) (by decide +kernel)))
  obtain ⟨cA, hcA⟩ : ∃ cA : FieldType → ClassId, cA = fun ty => match ty with | .int => a0 | .byte => a1 | .boolean => a2 | .long => a3 | _ => a4 := ⟨_, rfl⟩
  have hK : va_K (dC, dI) vwCl (gw_tys (l, ((dC, dI), (cA, (s.heap.size, []))))) s := by
    subst hcA
    refine ⟨hKc, fun k q hq => ?_⟩
    match k, hq with
    | 0, hq => cases hq; exact ⟨fun n z => ⟨fun k h => (by cases h), ka0, g0, comp0, e0⟩, f0⟩
    | 1, hq => cases hq; exact ⟨fun n z => ⟨fun k h => (by cases h), ka1, g1, comp1, e1⟩, f1⟩
    | 2, hq => cases hq; exact ⟨fun n z => ⟨fun k h => (by cases h), ka2, g2, comp2, e2⟩, f2⟩
    | 3, hq => cases hq; exact ⟨fun n z => ⟨fun k h => (by cases h), ka3, g3, comp3, e3⟩, f3⟩
    | 4, hq => cases hq; exact ⟨fun n z => ⟨fun k h => (by cases h), ka4, g4, comp4, e4⟩, ka4, comp4, g4, e4, fo, f4⟩
    | k + 5, hq => simp [gw_tys] at hq
  have hS : va_S (fun q : Nat => s.heap.size ≤ q) s.heap s.heap [] := va_S.rf
  have hP : va_P (dC, dI) vwCl [] s.heap := fun k q h => by simp at h
  have hD : va_D (fun q : Nat => s.heap.size ≤ q) [] := ⟨fun i j p q h => by simp at h, fun k q h => by simp at h⟩
  have hl := lv_entry ([.ref b]) (n := 4) (Nat.le_of_ble_eq_true rfl)
  rw [lg_entry_eq]
  generalize (lg_sl ([.ref b]) ++ List.replicate (4 - (lg_sl ([.ref b])).length) Slot.unset).toArray = ls at hl ⊢
  have hl : lv_has ls 4 [(0, .ref b)] := hl
  refine va_new (ci := 6) (fs := [.null, .null, gi 0, .null, .null, .null, .null]) (C := RX6) (T := TX6) (N := 7) hx hb htsW inWX6 tyX6 tyX6_ok hown (hts (.classLink RL 7 RX6) (List.mem_of_getElem? (i := 68) (by decide +kernel))) (hts (.instantiable RX6 7) (List.mem_of_getElem? (i := 69) (by decide +kernel))) (htsW (.initialized RX6) mm_X6_has_ini) hK hP hD hS (fun q h => h) rfl dv_6b (Nat.le_of_ble_eq_true rfl) (Nat.le_of_ble_eq_true rfl) dL_law_0 (fun q0 H hP hD hS => ?_)
  refine lv_dup hx hb dL_law_3 rfl ?_
  refine gw_callW (As := []) (z := s.heap.size) (cA := cA) [] ⟨hx, hb, hml, hown, htsW⟩ hN (Nat.le_refl _) hK hP hD hS hl (c_X6_init _ q0) mi_X6_init wl_L_9 ⟨Nat.le_of_ble_eq_true rfl, Nat.le_of_ble_eq_true rfl, Nat.le_of_ble_eq_true rfl, Nat.le_of_ble_eq_true rfl⟩ rfl (Nat.le_of_ble_eq_true rfl) dL_law_4 (fun l6 H locs hp6 hP hD hS => ?_)
  refine lv_astore_n (lv' := [(1, .ref q0), (0, .ref b)]) hx hb dL_law_7 rfl hl (by decide) rfl (fun ls hl => ?_)
  refine va_new (ci := 7) (fs := [.null, .null, .null, gi 0, .null, gi 0, gi 0, .null, .null, .null, .null]) (C := RX7) (T := TX7) (N := 11) hx hb htsW inWX7 tyX7 tyX7_ok hown (hts (.classLink RL 10 RX7) (List.mem_of_getElem? (i := 769) (by decide +kernel))) (hts (.instantiable RX7 11) (List.mem_of_getElem? (i := 770) (by decide +kernel))) (htsW (.initialized RX7) mm_X7_has_ini) hK hP hD hS (fun q h => h) rfl dv_7b (Nat.le_of_ble_eq_true rfl) (Nat.le_of_ble_eq_true rfl) dL_law_8 (fun q1 H hP hD hS => ?_)
  refine lv_dup hx hb dL_law_11 rfl ?_
  refine gw_callW (As := []) (z := s.heap.size) (cA := cA) l6 ⟨hx, hb, hml, hown, htsW⟩ hN (Nat.le_refl _) hK hP hD hS hl (c_X7_init _ q1) mi_X7_init wl_L_12 ⟨Nat.le_of_ble_eq_true rfl, Nat.le_of_ble_eq_true rfl, Nat.le_of_ble_eq_true rfl, Nat.le_of_ble_eq_true rfl⟩ rfl (Nat.le_of_ble_eq_true rfl) dL_law_12 (fun l7 H9 locs9 hp7 hP9 hD9 hS9 => ?_)
  refine lv_astore_n (lv' := [(2, .ref q1), (1, .ref q0), (0, .ref b)]) hx hb dL_law_15 rfl hl (by decide) rfl (fun ls hl => ?_)
  have hP9 : va_P (dC, dI) vwCl (l6 ++ l7) H9 := hP9
  have hD9 : va_D (fun q => s.heap.size ≤ q) (l6 ++ l7) := hD9
  refine lv_iconst (v := Int32.ofInt 0) hx hb dL_law_16 rfl ?_
  refine lv_istore_n (lv' := [(3, .int (Int32.ofInt 0)), (2, .ref q1), (1, .ref q0), (0, .ref b)]) hx hb dL_law_17 rfl hl (by decide) rfl (fun ls9 hl9 => ?_)
  obtain ⟨ad, hw, ha0, ha1⟩ := w0_all l (dC, dI) cA (fun q => s.heap.size ≤ q) hp6 hp7
  subst ha0; subst ha1
  rw [hw] at hP9 hD9
  refine W.widen (k := 600000) (n := 7302250) (Nat.le_of_ble_eq_true rfl) (Nat.le_of_ble_eq_true rfl) ?_
  obtain ⟨E, hE⟩ : ∃ E : gs_E, E = (l, ((dC, dI), (cA, (ad, fun q => s.heap.size ≤ q)))) := ⟨_, rfl⟩
  have hAp : gs_Ap E := by
    rw [← hE] at hP9 hD9
    refine ⟨fun i j hi hj h => ?_, fun i hi => ?_⟩
    · exact hD9.1 i j _ _ (gs_ws_get E s0 hi) (gs_ws_get E s0 hj) h
    · have := hD9.2 i _ (gs_ws_get E s0 hi)
      subst hE
      exact this
  subst hE
  exact k_L_law_L18 (b := b) xs L gs_fuel 0 s0 a hm hAp p e s m #[Value.ref b] below meth c H9 locs9 ls9 ⟨hx, hb, hml, hr, hlocks, hown, htsW, hN, rfl, hX, hbl, Nat.not_le.mpr hbl, fun q h => h⟩ hK hP9 hS9 (lv_sub hl9 [3, 2, 1, 0] rfl)
