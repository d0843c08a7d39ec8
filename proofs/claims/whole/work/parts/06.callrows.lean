section GKcalls
variable {α β : Type} {E : gs_E} {M : gs_M} {out : α → Int × gs_Mem} {o : Option α} {pc tgt : Nat} {L L' : List (Nat × Value)} {S S' S0 rest : List Value} {σ : gs_Mem}
/-! ends -/
theorem gs_end_Q {κ : Nat} {x : Int} {s t : State} {H : Heap} {locs : List Loc} {args : Array Value} (hN : gs_NW s) (hK : va_K (gs_D E) vwCl (gs_tys E) s) (hP : va_P (gs_D E) vwCl (gs_ws E σ) H) (hS : va_S (gs_A E) s.heap H locs) (ht : t.heap = H) (hW : s.WarmedH t.vm) : gs_Q E κ x σ args s (.returned (gs_rv κ x)) t :=
  ⟨rfl, ⟨by rw [ht]; exact hP, va_K.moved hW.alike hK, hN.warm hW⟩, hS.F ht⟩
theorem gk_iret {y : MethodName} {bytes : ByteArray} {maxL : Nat} {rm : Room} {a : α} {x : Int} (hout : out a = (x, σ)) (d : decode bytes pc = .ok (.ireturn, 1)) : gs_K E (gs_MC E y bytes maxL (some .int) 0 rm) out (some a) pc L [gi x] σ := by
  intro a2 ha hE p e s m args below meth c H locs ls hc hK hP hS hl
  cases ha
  rw [hout]
  exact W.iret hc.1 hc.2.1 hc.2.2.2.1 (fun t ht hW => gs_end_Q (κ := 0) hc.2.2.2.2.2.2.2.1 hK hP hS ht hW) hS.2.2 d hc.2.2.2.2.1
theorem nar_z {x : Int} (h : gn x = 0 ∨ gn x = 1) : narrow .boolean (.int (Int32.ofInt x)) = .int (Int32.ofInt x) := by
  rcases h with h | h
  · have e : Int32.ofInt x = Int32.ofInt 0 := oi_inj.mpr (by rw [h]; decide +kernel)
    rw [e]; decide +kernel
  · have e : Int32.ofInt x = Int32.ofInt 1 := oi_inj.mpr (by rw [h]; decide +kernel)
    rw [e]; decide +kernel
theorem gk_zret {y : MethodName} {bytes : ByteArray} {maxL : Nat} {rm : Room} {a : α} {x : Int} (hz : gn x = 0 ∨ gn x = 1) (hout : out a = (x, σ)) (d : decode bytes pc = .ok (.ireturn, 1)) : gs_K E (gs_MC E y bytes maxL (some .boolean) 0 rm) out (some a) pc L [gi x] σ := by
  intro a2 ha hE p e s m args below meth c H locs ls hc hK hP hS hl
  cases ha
  rw [hout]
  exact W.zret (ty := .boolean) hc.1 hc.2.1 hc.2.2.2.1 (nar_z hz) (fun t ht hW => gs_end_Q (κ := 0) hc.2.2.2.2.2.2.2.1 hK hP hS ht hW) hS.2.2 d hc.2.2.2.2.1
theorem gk_zretG {y : MethodName} {bytes : ByteArray} {maxL : Nat} {rm : Room} {a : α} {x x' : Int} (hx : gn x = x') (hout : out a = (x, σ)) (d : decode bytes pc = .ok (.ireturn, 1)) : gs_K E (gs_MC E y bytes maxL (some .boolean) 0 rm) out (if x' = 0 ∨ x' = 1 then some a else none) pc L [gi x] σ :=
  gk_guard fun h => gk_zret (by rw [hx]; exact h) hout d
theorem gk_lret {y : MethodName} {bytes : ByteArray} {maxL : Nat} {rm : Room} {a : α} {x : Int} (hout : out a = (x, σ)) (d : decode bytes pc = .ok (.lreturn, 1)) : gs_K E (gs_MC E y bytes maxL (some .long) 1 rm) out (some a) pc L [gl x] σ := by
  intro a2 ha hE p e s m args below meth c H locs ls hc hK hP hS hl
  cases ha
  rw [hout]
  exact W.lret hc.1 hc.2.1 hc.2.2.2.1 (fun t ht hW => gs_end_Q (κ := 1) hc.2.2.2.2.2.2.2.1 hK hP hS ht hW) hS.2.2 d hc.2.2.2.2.1
theorem gk_vret {y : MethodName} {bytes : ByteArray} {maxL : Nat} {rm : Room} {a : α} {x : Int} (hout : out a = (x, σ)) (d : decode bytes pc = .ok (.return_, 1)) : gs_K E (gs_MC E y bytes maxL none 2 rm) out (some a) pc L [] σ := by
  intro a2 ha hE p e s m args below meth c H locs ls hc hK hP hS hl
  cases ha
  rw [hout]
  exact W.vret hc.1 hc.2.1 hc.2.2.2.1 (fun t ht hW => gs_end_Q (κ := 2) (x := x) hc.2.2.2.2.2.2.2.1 hK hP hS ht hW) hS.2.2 d hc.2.2.2.2.1
/-! calls -/
theorem gs_blind {av : List Value} : FrameBlind (va_Pc av (gs_B E σ)) := fun a U g mk q => ⟨q.1, q.2.1, va_K.moved (u := U) (U := U.calling g mk a) (Vm.Alike.refl U.vm) q.2.2.1, gs_NW.same (u := U) (U := U.calling g mk a) rfl q.2.2.2⟩
/-- a call's run, and what goes on behind it -/
theorem gk_run {κ : Nat} {oc : Option β} {outc : β → Int × gs_Mem} {X : β → Option α} {av : List Value}
    (hrun : gs_Ap E → ∀ b, oc = some b → ∀ (p : Program) (e : Env) (s : State) (m : MethodId) (args : Array Value) (below : List Frame) (meth : Method) (c : Code) (H : Heap) (locs : List Loc) (ls : Array Slot), gs_ctx M p s m args meth c → va_K (gs_D E) vwCl (gs_tys E) s → va_P (gs_D E) vwCl (gs_ws E σ) H → lv_has ls (mM_nL M) L →
      va_Run p (gs_l E) e (mM_R M) s m args below meth c H locs (mM_c M) (mM_s M) 0 0 (F0 m pc ls S0) rest (gs_Q E κ (outc b).1 (outc b).2 av.toArray) (gs_A E))
    (k : ∀ b, gs_K E M out (X b) (pc + 3) L ((gs_rv κ (outc b).1).toList ++ rest) (outc b).2) : gs_K E M out (oc.bind X) pc L S0 σ := by
  intro a ha hE p e s m args below meth c H locs ls hc hK hP hS hl
  cases hoc : oc with
  | none => rw [hoc] at ha; cases ha
  | some b =>
    rw [hoc] at ha
    have ha : X b = some a := ha
    intro T hT X0
    obtain ⟨v, st₀, t, T', L1, h0, X', hL, e1, e2, ⟨hv, hB, hF⟩, st⟩ := hrun hE b hoc p e s m args below meth c H locs ls hc hK hP hl T hT X0
    cases hv
    have hS1 : va_S (gs_A E) s.heap t.heap (locs ++ L1) := by
      refine ⟨Nat.le_trans hS.1 (by rw [← h0]; exact hF.1), fun q h1 h2 => ?_, fun q hq => ?_⟩
      · rw [hF.2 q (by rw [h0]; exact Nat.lt_of_lt_of_le h1 hS.1) h2, h0]
        exact hS.2.1 q h1 h2
      · rcases List.mem_append.mp hq with h | h
        · exact hS.2.2 q h
        · exact hL q h
    obtain ⟨t2, a1, b1⟩ := k b a ha hE p e s m args below meth c t.heap (locs ++ L1) ls hc hK hB.1 hS1 hl T' e1 X'
    exact ⟨t2, st t2 a1, b1⟩
/-- what is said of a method once: its words -/
def gs_mV (y : MethodName) (bytes : ByteArray) (maxL : Nat) (ret : Option FieldType) (n : Nat) : Prop :=
  Cond.code y bytes maxL ret ∈ WS ∧ Cond.instanceMethod y ∈ WS ∧ Cond.selects y.cls y y ∈ WS ∧ Cond.initialized y.cls ∈ WS ∧ y.cls ≠ "java/lang/invoke/MethodHandle" ∧ y.cls ≠ "java/lang/invoke/VarHandle" ∧ (parseMethodDescriptor y.desc).map (fun d => d.parameters.length) = some n
def gs_mS (y : MethodName) (bytes : ByteArray) (maxL : Nat) (ret : Option FieldType) (n : Nat) : Prop :=
  Cond.code y bytes maxL ret ∈ WS ∧ Cond.static y ∈ WS ∧ Cond.initialized y.cls ∈ WS ∧ y.cls ≠ "java/lang/invoke/MethodHandle" ∧ y.cls ≠ "java/lang/invoke/VarHandle" ∧ (parseMethodDescriptor y.desc).map (fun d => d.parameters.length) = some n
theorem gs_goodc {y : MethodName} {bytes : ByteArray} {maxL : Nat} {ret : Option FieldType} (h : Cond.code y bytes maxL ret ∈ WS) : GoodIn WS (Cond.code y bytes maxL ret :: WS) := by
  intro w hw
  rcases List.mem_cons.mp hw with rfl | hw
  · exact WS_good _ h
  · exact WS_good _ hw
theorem some_len {y : MethodName} {n : Nat} (h : (parseMethodDescriptor y.desc).map (fun d => d.parameters.length) = some n) : ∀ sig, parseMethodDescriptor y.desc = some sig → n = sig.parameters.length := by
  intro sig hs
  rw [hs] at h
  exact (Option.some.inj h).symm
/-- how much of the room a call takes -/
def gs_fit (M : gs_M) (rm : Room) (maxL : Nat) : Prop := rm.cells = 0 ∧ rm.slots = 0 ∧ rm.frames + 1 ≤ (mM_R M).frames ∧ 8 + (maxL + 11) + rm.locals ≤ (mM_R M).locals ∧ mM_c M ≤ (mM_R M).cells ∧ mM_s M ≤ (mM_R M).slots
theorem gk_callV {κ r ci n index maxL : Nat} {own : String} {y : MethodName} {bytes : ByteArray} {ret : Option FieldType} {rm : Room} {As : List Value} {C : String} {T : u_T} {N : Nat} {ty : Nat → FieldType} {fs : List (Option Nat)} {oc : Option β} {outc : β → Int × gs_Mem} {X : β → Option α}
    (hC : gs_C E y bytes maxL ret κ rm (gr E r :: As) σ oc outc) (ho : mM_own M = own) (hm : gs_mV y bytes maxL ret n) (hlink : Cond.methodLink own index y ∈ WS) (hcl : gs_cls ci C T N ty) (hyC : y.cls = C) (hr : r < 79) (hsh : SH r = sp_o ci fs) (hfit : gs_fit M rm maxL)
    (hn : As.length = n) (hst : As.reverse ++ gr E r :: rest = S0) (hrest : (rest.map fun v => v.category).sum ≤ 8) (d : decode (mM_cc M) pc = .ok (.invokevirtual index, 3))
    (k : ∀ b, gs_K E M out (X b) (pc + 3) L ((gs_rv κ (outc b).1).toList ++ rest) (outc b).2) : gs_K E M out (oc.bind X) pc L S0 σ := by
  subst ho; subst hst; subst hyC
  refine gk_run (κ := κ) (av := gr E r :: As) (fun hE b hb p e s m args below meth c H locs ls hc hK hP hl => ?_) k
  obtain ⟨hx, hbc, hml, hr0, hlk, hown, hts, hX⟩ := hc
  obtain ⟨m1, m2, m3, m4, m5, m6, m7⟩ := hm
  obtain ⟨f1, f2, f3, f4, f5, f6⟩ := hfit
  exact va_runV (As := As) (rest := rest) ⟨hx, hbc, hml, hown, hts⟩ (hC hE b hb)
    ⟨⟨f1, f2, f3, f4, pay_in hts (gs_goodc m1), List.mem_cons_self, hts _ m1, hts _ m4, ⟨m5, m6⟩, some_len m7, hts _ hlink⟩, hts _ m2, hts _ m3⟩
    ⟨gs_blind, va_recv hK hP hcl.1 (gs_get_o hr hsh), fun U hU hW => ⟨rfl, by rw [hU]; exact hP, va_K.moved hW.alike hK, hX.1.warm hW⟩⟩
    rfl hn hl.1 rfl (lv_room hrest) d ⟨f5, f6⟩
theorem gk_callVN {κ r ci n index maxL : Nat} {own host : String} {y : MethodName} {bytes : ByteArray} {ret : Option FieldType} {rm : Room} {As : List Value} {C : String} {T : u_T} {N : Nat} {ty : Nat → FieldType} {fs : List (Option Nat)} {oc : Option β} {outc : β → Int × gs_Mem} {X : β → Option α}
    (hC : gs_C E y bytes maxL ret κ rm (gr E r :: As) σ oc outc) (ho : mM_own M = own) (hm : gs_mV y bytes maxL ret n) (hlink : Cond.methodLinkNest own index y host ∈ WN) (hcl : gs_cls ci C T N ty) (hyC : y.cls = C) (hr : r < 79) (hsh : SH r = sp_o ci fs) (hfit : gs_fit M rm maxL)
    (hn : As.length = n) (hst : As.reverse ++ gr E r :: rest = S0) (hrest : (rest.map fun v => v.category).sum ≤ 8) (d : decode (mM_cc M) pc = .ok (.invokevirtual index, 3))
    (k : ∀ b, gs_K E M out (X b) (pc + 3) L ((gs_rv κ (outc b).1).toList ++ rest) (outc b).2) : gs_K E M out (oc.bind X) pc L S0 σ := by
  subst ho; subst hst; subst hyC
  refine gk_run (κ := κ) (av := gr E r :: As) (fun hE b hb p e s m args below meth c H locs ls hc hK hP hl => ?_) k
  obtain ⟨hx, hbc, hml, hr0, hlk, hown, hts, hX⟩ := hc
  obtain ⟨m1, m2, m3, m4, m5, m6, m7⟩ := hm
  obtain ⟨f1, f2, f3, f4, f5, f6⟩ := hfit
  exact va_runVN (As := As) (rest := rest) ⟨hx, hbc, hml, hown, hts⟩ (hC hE b hb)
    ⟨⟨⟨f1, f2, f3, f4, pay_in hts (gs_goodc m1), List.mem_cons_self⟩, hts _ m1, hts _ m4, ⟨m5, m6⟩, some_len m7, hX.1.use hlink⟩, hts _ m2, hts _ m3⟩
    ⟨gs_blind, va_recv hK hP hcl.1 (gs_get_o hr hsh), fun U hU hW => ⟨rfl, by rw [hU]; exact hP, va_K.moved hW.alike hK, hX.1.warm hW⟩⟩
    rfl hn hl.1 rfl (lv_room hrest) d ⟨f5, f6⟩
theorem gk_callS {κ n index maxL : Nat} {own : String} {y : MethodName} {bytes : ByteArray} {ret : Option FieldType} {rm : Room} {As : List Value} {oc : Option β} {outc : β → Int × gs_Mem} {X : β → Option α}
    (hC : gs_C E y bytes maxL ret κ rm As σ oc outc) (ho : mM_own M = own) (hm : gs_mS y bytes maxL ret n) (hlink : Cond.methodLink own index y ∈ WS) (hfit : gs_fit M rm maxL)
    (hn : As.length = n) (hst : As.reverse ++ rest = S0) (hrest : (rest.map fun v => v.category).sum ≤ 8) (d : decode (mM_cc M) pc = .ok (.invokestatic index, 3))
    (k : ∀ b, gs_K E M out (X b) (pc + 3) L ((gs_rv κ (outc b).1).toList ++ rest) (outc b).2) : gs_K E M out (oc.bind X) pc L S0 σ := by
  subst ho; subst hst
  refine gk_run (κ := κ) (av := As) (fun hE b hb p e s m args below meth c H locs ls hc hK hP hl => ?_) k
  obtain ⟨hx, hbc, hml, hr0, hlk, hown, hts, hX⟩ := hc
  obtain ⟨m1, m2, m4, m5, m6, m7⟩ := hm
  obtain ⟨f1, f2, f3, f4, f5, f6⟩ := hfit
  exact va_runS (As := As) (rest := rest) ⟨hx, hbc, hml, hown, hts⟩ (hC hE b hb)
    ⟨⟨f1, f2, f3, f4, pay_in hts (gs_goodc m1), List.mem_cons_self, hts _ m1, hts _ m4, ⟨m5, m6⟩, some_len m7, hts _ hlink⟩, hts _ m2⟩
    ⟨gs_blind, fun U hU hW => ⟨rfl, by rw [hU]; exact hP, va_K.moved hW.alike hK, hX.1.warm hW⟩⟩
    rfl hn hl.1 rfl (lv_room hrest) d ⟨f5, f6⟩
theorem gk_callSN {κ n index maxL : Nat} {own host : String} {y : MethodName} {bytes : ByteArray} {ret : Option FieldType} {rm : Room} {As : List Value} {oc : Option β} {outc : β → Int × gs_Mem} {X : β → Option α}
    (hC : gs_C E y bytes maxL ret κ rm As σ oc outc) (ho : mM_own M = own) (hm : gs_mS y bytes maxL ret n) (hlink : Cond.methodLinkNest own index y host ∈ WN) (hfit : gs_fit M rm maxL)
    (hn : As.length = n) (hst : As.reverse ++ rest = S0) (hrest : (rest.map fun v => v.category).sum ≤ 8) (d : decode (mM_cc M) pc = .ok (.invokestatic index, 3))
    (k : ∀ b, gs_K E M out (X b) (pc + 3) L ((gs_rv κ (outc b).1).toList ++ rest) (outc b).2) : gs_K E M out (oc.bind X) pc L S0 σ := by
  subst ho; subst hst
  refine gk_run (κ := κ) (av := As) (fun hE b hb p e s m args below meth c H locs ls hc hK hP hl => ?_) k
  obtain ⟨hx, hbc, hml, hr0, hlk, hown, hts, hX⟩ := hc
  obtain ⟨m1, m2, m4, m5, m6, m7⟩ := hm
  obtain ⟨f1, f2, f3, f4, f5, f6⟩ := hfit
  exact va_runSN (As := As) (rest := rest) ⟨hx, hbc, hml, hown, hts⟩ (hC hE b hb)
    ⟨⟨⟨f1, f2, f3, f4, pay_in hts (gs_goodc m1), List.mem_cons_self⟩, hts _ m1, hts _ m4, ⟨m5, m6⟩, some_len m7, hX.1.use hlink⟩, hts _ m2, trivial⟩
    ⟨gs_blind, fun U hU hW => ⟨rfl, by rw [hU]; exact hP, va_K.moved hW.alike hK, hX.1.warm hW⟩⟩
    rfl hn hl.1 rfl (lv_room hrest) d ⟨f5, f6⟩
/-! System.arraycopy -/
def gs_acW (own : String) (index : Nat) : Prop := Cond.methodLink own index arraycopyName ∈ WS ∧ Cond.native arraycopyName ∈ WS ∧ Cond.static arraycopyName ∈ WS ∧ Cond.initialized "java/lang/System" ∈ WS
theorem gk_copy_i {own : String} {index r1 r2 n1 n2 : Nat} {sp sp' dp dp' n n' : Int} (ho : mM_own M = own) (hw : gs_acW own index) (hr1 : r1 < 79) (hs1 : SH r1 = sp_i n1) (hr2 : r2 < 79) (hs2 : SH r2 = sp_i n2) (hsp : gn sp = sp') (hdp : gn dp = dp') (hn : gn n = n') (hfr : 1 ≤ (mM_R M).frames) (hlo : (S.map fun v => v.category).sum + (nativeFrameWords "java/lang/System" "arraycopy" 5 + 11) ≤ (mM_R M).locals) (d : decode (mM_cc M) pc = .ok (.invokestatic index, 3))
    (kk : gs_K E M out o (pc + 3) L S (gs_cp σ r1 sp'.toNat r2 dp'.toNat n'.toNat)) : gs_K E M out (if 0 ≤ sp' ∧ 0 ≤ dp' ∧ 0 ≤ n' ∧ sp' + n' ≤ (n1 : Int) ∧ dp' + n' ≤ (n2 : Int) then o else none) pc L (gi n :: gi dp :: gr E r2 :: gi sp :: gr E r1 :: S) σ :=
  gk_guard fun hin => gk_goW (fun p e s m args below meth c H locs ls Q hc hK hP hD hS hl kk => by
    subst ho; subst hsp; subst hdp; subst hn
    obtain ⟨w1, w2, w3, w4⟩ := hw
    obtain ⟨hx, hbc, hml, hr0, hlk, hown, hts, hX⟩ := hc
    obtain ⟨g1, g2, g3, g4, g5⟩ := hin
    have nn : ∀ z : Int, 0 ≤ gn z → ¬ Int32.ofInt z < 0 := fun z hz q => by have := c0_lt.mp q; omega
    have e1 : gs_ent E (gs_cp σ r1 (gn sp).toNat r2 (gn dp).toNat (gn n).toNat r2) (SH r2) = .inl (gs_cA E .int, n2, .inl (va_cpy (fun j => Int32.ofInt (σ r1 j)) (fun j => Int32.ofInt (σ r2 j)) (Int32.ofInt sp).toNatClampNeg (Int32.ofInt dp).toNatClampNeg (Int32.ofInt n).toNatClampNeg)) := by
      rw [hs2, ai_nn g1, ai_nn g2, ai_nn g3, cpy_i]; rfl
    exact va_copyi (D := gs_D E) (ty := .int) hx hbc (hml.trans hl.1.symm) hown (hts _ w1) (hts _ w2) (hts _ w3) (hts _ w4) hK hP hD hS r1 r2 0 0 (gs_get_i hr1 hs1) (gs_get_i hr2 hs2) rfl rfl rfl (nn _ g1) (nn _ g2) (nn _ g3)
      (by rw [ai_nn g1, ai_nn g3]; omega) (by rw [ai_nn g2, ai_nn g3]; omega) (fun i _ => rfl) hfr hlo d
      (fun H1 locs1 hP1 hD1 hS1 => kk H1 locs1 (by rw [gs_ws_set hr2 (gs_cp_o σ r1 _ r2 _ _) e1] at hP1; exact hP1) hS1)) kk
theorem gk_copy_l {own : String} {index r1 r2 n1 n2 : Nat} {sp sp' dp dp' n n' : Int} (ho : mM_own M = own) (hw : gs_acW own index) (hr1 : r1 < 79) (hs1 : SH r1 = sp_l n1) (hr2 : r2 < 79) (hs2 : SH r2 = sp_l n2) (hsp : gn sp = sp') (hdp : gn dp = dp') (hn : gn n = n') (hfr : 1 ≤ (mM_R M).frames) (hlo : (S.map fun v => v.category).sum + (nativeFrameWords "java/lang/System" "arraycopy" 5 + 11) ≤ (mM_R M).locals) (d : decode (mM_cc M) pc = .ok (.invokestatic index, 3))
    (kk : gs_K E M out o (pc + 3) L S (gs_cp σ r1 sp'.toNat r2 dp'.toNat n'.toNat)) : gs_K E M out (if 0 ≤ sp' ∧ 0 ≤ dp' ∧ 0 ≤ n' ∧ sp' + n' ≤ (n1 : Int) ∧ dp' + n' ≤ (n2 : Int) then o else none) pc L (gi n :: gi dp :: gr E r2 :: gi sp :: gr E r1 :: S) σ :=
  gk_guard fun hin => gk_goW (fun p e s m args below meth c H locs ls Q hc hK hP hD hS hl kk => by
    subst ho; subst hsp; subst hdp; subst hn
    obtain ⟨w1, w2, w3, w4⟩ := hw
    obtain ⟨hx, hbc, hml, hr0, hlk, hown, hts, hX⟩ := hc
    obtain ⟨g1, g2, g3, g4, g5⟩ := hin
    have nn : ∀ z : Int, 0 ≤ gn z → ¬ Int32.ofInt z < 0 := fun z hz q => by have := c0_lt.mp q; omega
    have e1 : gs_ent E (gs_cp σ r1 (gn sp).toNat r2 (gn dp).toNat (gn n).toNat r2) (SH r2) = .inl (gs_cA E .long, n2, .inr (.inl (va_cpy (fun j => Int64.ofInt (σ r1 j)) (fun j => Int64.ofInt (σ r2 j)) (Int32.ofInt sp).toNatClampNeg (Int32.ofInt dp).toNatClampNeg (Int32.ofInt n).toNatClampNeg))) := by
      rw [hs2, ai_nn g1, ai_nn g2, ai_nn g3, cpy_l]; rfl
    exact va_copyl (D := gs_D E) (ty := .long) hx hbc (hml.trans hl.1.symm) hown (hts _ w1) (hts _ w2) (hts _ w3) (hts _ w4) hK hP hD hS r1 r2 3 3 (gs_get_l hr1 hs1) (gs_get_l hr2 hs2) rfl rfl rfl (nn _ g1) (nn _ g2) (nn _ g3)
      (by rw [ai_nn g1, ai_nn g3]; omega) (by rw [ai_nn g2, ai_nn g3]; omega) (fun i _ => rfl) hfr hlo d
      (fun H1 locs1 hP1 hD1 hS1 => kk H1 locs1 (by rw [gs_ws_set hr2 (gs_cp_o σ r1 _ r2 _ _) e1] at hP1; exact hP1) hS1)) kk
/-! tableswitch: a case a row, then what is left -/
theorem gk_sw {dflt lo hi : Int} {offs : Array Int} {len : Nat} {x : Int} {off : Int} {o1 o2 : Option α} (c : Int) (d : decode (mM_cc M) pc = .ok (.tableswitch dflt lo hi offs, len)) (h1 : lo ≤ c ∧ c ≤ hi) (hoff : offs[(c - lo).toNat]? = some off) (ht : (pc : Int) + off = (tgt : Int))
    (k1 : gs_K E M out o1 tgt L S σ) (k2 : gn x ≠ c → gs_K E M out o2 pc L (gi x :: S) σ) : gs_K E M out (if gn x = c then o1 else o2) pc L (gi x :: S) σ := by
  refine gk_ite (fun h => ?_) k2
  refine gk_go (fun p e s m args below meth c' H locs ls Q hc hl kk => ?_) k1
  have e : (Int32.ofInt x).toInt = c := h
  exact lv_tableIn hc.1 hc.2.1 d (by rw [e]; omega) (by rw [e]; omega) (by rw [e]; exact hoff) ht kk
theorem gk_swD {dflt lo hi : Int} {offs : Array Int} {len : Nat} {x : Int} (d : decode (mM_cc M) pc = .ok (.tableswitch dflt lo hi offs, len)) (h : gn x < lo ∨ hi < gn x) (ht : (pc : Int) + dflt = (tgt : Int))
    (k : gs_K E M out o tgt L S σ) : gs_K E M out o pc L (gi x :: S) σ :=
  gk_go (fun p e s m args below meth c H locs ls Q hc hl kk => lv_tableOut hc.1 hc.2.1 d h ht kk) k
end GKcalls
