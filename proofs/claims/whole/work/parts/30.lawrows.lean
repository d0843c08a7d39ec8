/-! THE CLAIM OUT OF ONE WALK OF THE LAW'S BODY. Your part is whole_start (and what it stands on); all else here is the same for every law, but numbers. -/
def R_law : String := "GapStationsLaw"
def lw_P (b : Addr) (xs : List Int32) (args : Array Value) (s : State) : Prop := args = #[.ref b] ∧ s.IntsAt b xs ∧ xs.length ≤ 3072 ∧ (Jvm.Cond.and given_1 narrow_1).before args s = true
def lw_Q (_ : Array Value) (s : State) (o : Outcome) (t : State) : Prop := o = .returned (some (.int 1)) ∧ Framed s o t [] 600000 7302250
def lw_Z (below : List Frame) (a : Array Value) (s : State) : State → Prop := fun t => ∃ o, t.status = .running ∧ Ended t below o ∧ lw_Q a s o t
/-- the law's own end, with 1 on the stack, nothing written that was there before, its room as the claim has it -/
theorem lw_ret {p : Program} {l : Launch} {e : Env} {s : State} {m : MethodId} {below : List Frame} {meth : Method} {c : Code} {b : Nat} (hx : p.tables.exec = Jvm.exec) (hb : c.code = code) (hr : meth.sig.returnType = ret) (hlocks : meth.locks = false) {pc : Nat} {H : Heap} {ls : Array Slot} (hdg : decode code pc = .ok (.ireturn, 1)) : W p l e room_1 s m #[Value.ref b] below meth c H [] 600000 7302250 (lw_Z below #[Value.ref b] s) (F0 m pc ls [.int 1]) := by
  intro T hT X
  obtain ⟨fs, hret, hrun, hended, hW, hframe⟩ := X.leave (v := some (.int 1)) (hlocks := hlocks) (fun h => by rw [hr] at h; cases h)
  have hmeth' : T.vm.method? m = some meth := X.method'
  refine ⟨T.setFrames fs, ?_, .returned (some (.int 1)), hrun, hended, rfl, ⟨_, rfl⟩, hW, hframe⟩
  jvm_step X.here [X.here.top, hx, hb, hdg, hmeth', hr, ret, narrow_b1]
  (try refine ⟨rfl, ?_⟩); (try refine ⟨rfl, ?_⟩)
  first | (intro acts; rw [hret _ acts rfl rfl rfl]) | rw [hret _ _ rfl rfl rfl]
  exact Steps.refl _
/-- what holds at the law's entry: the machine, the code, the tables' words (any of lw_tbl by 'hts w (by decide +kernel)'), the script of L ints xs at the cell b, what the Statement gives of the start (any of its parts by flat_of_before) -/
def lw_At (p : Program) (s : State) (m : MethodId) (meth : Method) (c : Code) (b L : Nat) (xs : Nat → Int32) : Prop :=
  p.tables.exec = Jvm.exec ∧ c.code = code ∧ meth.sig.returnType = ret ∧ c.maxLocals = 4 ∧ s.vm.findClass R_law = some m.cls ∧ (∀ w ∈ lw_tbl, w.before #[Value.ref b] s = true) ∧ va_X b L xs s s.heap ∧ b < s.heap.size ∧ meth.locks = false ∧ (Jvm.Cond.and given_1 narrow_1).before #[Value.ref b] s = true
/-! ===== the law's own rows over the memory ===== -/
def lx_X (E : gs_E) (b Ls : Nat) (xs : Nat → Int32) (args : Array Value) (s : State) : Prop := args = #[Value.ref b] ∧ va_X b Ls xs s s.heap ∧ b < s.heap.size ∧ ¬ gs_A E b ∧ ∀ q, gs_A E q → s.heap.size ≤ q
def gs_ML (E : gs_E) (b Ls : Nat) (xs : Nat → Int32) : gs_M := (code, 4, R_law, room_1, ret, 600000, 7302250, lx_X E b Ls xs, fun _ _ below args s => lw_Z below args s)
theorem gs_fitL {E : gs_E} {b Ls : Nat} {xs : Nat → Int32} {f l maxL : Nat} (h1 : f + 1 ≤ 2048) (h2 : 8 + (maxL + 11) + l ≤ 84000) : gs_fit (gs_ML E b Ls xs) { frames := f, cells := 0, slots := 0, locals := l } maxL := ⟨rfl, rfl, h1, h2, Nat.le_refl 600000, Nat.le_refl 7302250⟩
section LXrows
variable {α : Type} {E : gs_E} {b Ls : Nat} {xs : Nat → Int32} {out : α → Int × gs_Mem} {o : Option α} {pc : Nat} {L : List (Nat × Value)} {S : List Value} {σ : gs_Mem}
theorem gk_aloadR_n {M : gs_M} {n : Fin 4} {x : Nat} (j : Nat) (d : decode (mM_cc M) pc = .ok (.aload_n n, 1)) (hj : L[j]? = some ((n : Nat), .ref x)) (k : gs_K E M out o (pc + 1) L (.ref x :: S) σ) : gs_K E M out o pc L S σ :=
  gk_go (fun p e s m args below meth c H locs ls Q hc hl kk => lv_aload_n hc.1 hc.2.1 d rfl (lv_at hl j hj) kk) k
theorem gk_sld {i i' : Int} (hi : gn i = i') (d : decode code pc = .ok (.iaload, 1))
    (kk : gs_K E (gs_ML E b Ls xs) out o (pc + 1) L (gi (xs i'.toNat).toInt :: S) σ) : gs_K E (gs_ML E b Ls xs) out (gs_chk i' Ls o) pc L (gi i :: .ref b :: S) σ := by
  refine gk_guard fun hin a ha hE p e s m args below meth c H locs ls hc hK hP hS hl => ?_
  subst hi
  obtain ⟨hx, hbc, hml, hr0, hlk, hown, hts, hN, hX⟩ := id hc
  obtain ⟨hargs, hX1, hX2, hX3, hX4⟩ := hX
  have kk := kk a ha hE p e s m args below meth c H locs ls hc hK hP hS hl
  unfold gi at kk
  rw [oi_toInt] at kk
  exact va_sld hx hbc hX1 hX2 hX3 hS (ai_in hin) d kk
theorem gk_slen {x : Int} (hx : x = (Ls : Int)) (d : decode code pc = .ok (.arraylength, 1))
    (kk : gs_K E (gs_ML E b Ls xs) out o (pc + 1) L (gi x :: S) σ) : gs_K E (gs_ML E b Ls xs) out o pc L (.ref b :: S) σ := by
  subst hx
  intro a ha hE p e s m args below meth c H locs ls hc hK hP hS hl
  obtain ⟨hx, hbc, hml, hr0, hlk, hown, hts, hN, hX⟩ := id hc
  obtain ⟨hargs, hX1, hX2, hX3, hX4⟩ := hX
  have kk := kk a ha hE p e s m args below meth c H locs ls hc hK hP hS hl
  exact va_slen hx hbc hX1 hX2 hX3 hS d kk
theorem gk_lend {a : α} (d : decode code pc = .ok (.ireturn, 1)) : gs_K E (gs_ML E b Ls xs) out (some a) pc L [gi 1] σ := by
  intro a2 ha hE p e s m args below meth c H locs ls hc hK hP hS hl
  obtain ⟨hx, hbc, hml, hr0, hlk, hown, hts, hN, hX⟩ := hc
  obtain ⟨hargs, hX1, hX2, hX3, hX4⟩ := hX
  subst hargs
  refine va_forget (fun q hq => hX4 _ (hS.2.2 q hq)) ?_
  exact lw_ret hx hbc hr0 hlk d
end LXrows
