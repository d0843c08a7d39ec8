/-! ===== constructors: a world that grows: what was there (pre), and behind it the cells that come (l) ===== -/
abbrev gw_U : Type := Launch × (va_G × ((FieldType → ClassId) × (Nat × va_W)))
def gw_l (U : gw_U) : Launch := U.1
def gw_D (U : gw_U) : va_G := U.2.1
def gw_cA (U : gw_U) : FieldType → ClassId := U.2.2.1
def gw_z (U : gw_U) : Nat := U.2.2.2.1
def gw_pre (U : gw_U) : va_W := U.2.2.2.2
def gw_A (U : gw_U) : Nat → Prop := fun q => gw_z U ≤ q
def gw_tys (U : gw_U) : List (ClassId × FieldType) := [(gw_cA U .int, .int), (gw_cA U .byte, .byte), (gw_cA U .boolean, .boolean), (gw_cA U .long, .long), (gw_cA U gs_tT, gs_tT)]
/-- code, locals, own class, room, cells, slots, the end -/
abbrev gw_M : Type := ByteArray × (Nat × (String × (Room × (Nat × (Nat × (va_W → Prop))))))
def wM_cc (M : gw_M) : ByteArray := M.1
def wM_nL (M : gw_M) : Nat := M.2.1
def wM_own (M : gw_M) : String := M.2.2.1
def wM_R (M : gw_M) : Room := M.2.2.2.1
def wM_mc (M : gw_M) : Nat := M.2.2.2.2.1
def wM_ms (M : gw_M) : Nat := M.2.2.2.2.2.1
def wM_post (M : gw_M) : va_W → Prop := M.2.2.2.2.2.2
def gw_Q (U : gw_U) (post : va_W → Prop) : Array Value → State → Outcome → State → Prop := fun _ st oc t => oc = .returned none ∧ (∃ l2, post l2 ∧ va_P (gw_D U) vwCl (gw_pre U ++ l2) t.heap ∧ va_D (gw_A U) (gw_pre U ++ l2)) ∧ va_F (gw_A U) st t
def gw_ctx (M : gw_M) (p : Program) (s : State) (m : MethodId) (meth : Method) (c : Code) : Prop :=
  p.tables.exec = Jvm.exec ∧ c.code = wM_cc M ∧ c.maxLocals = wM_nL M ∧ meth.sig.returnType = none ∧ meth.locks = false ∧ s.vm.findClass (wM_own M) = some m.cls ∧ gs_NW s ∧ meth.name = "<init>"
def gw_B (U : gw_U) (l : va_W) (S : State) : Prop := va_P (gw_D U) vwCl (gw_pre U ++ l) S.heap ∧ va_D (gw_A U) (gw_pre U ++ l) ∧ va_K (gw_D U) vwCl (gw_tys U) S ∧ gs_NW S ∧ gw_z U ≤ S.heap.size
def gw_K (U : gw_U) (M : gw_M) (pc : Nat) (L : List (Nat × Value)) (S : List Value) (l : va_W) (k n : Nat) : Prop :=
  ∀ (p : Program) (e : Env) (s : State) (m : MethodId) (args : Array Value) (below : List Frame) (meth : Method) (c : Code) (H : Heap) (locs : List Loc) (ls : Array Slot),
    p.tables.exec = Jvm.exec → c.code = wM_cc M → c.maxLocals = wM_nL M → meth.sig.returnType = none → meth.locks = false → s.vm.findClass (wM_own M) = some m.cls → (∀ w ∈ WS, w.before args s = true) → gs_NW s → meth.name = "<init>" → gw_z U ≤ s.heap.size →
    va_K (gw_D U) vwCl (gw_tys U) s → va_P (gw_D U) vwCl (gw_pre U ++ l) H → va_D (gw_A U) (gw_pre U ++ l) → va_S (gw_A U) s.heap H locs → lv_has ls (wM_nL M) L →
    W p (gw_l U) e (wM_R M) s m args below meth c H locs k n (MQ below (gw_Q U (wM_post M)) args s (wM_mc M) (wM_ms M) (gw_A U)) (F0 m pc ls S)
def gw_MC (y : MethodName) (bytes : ByteArray) (maxL : Nat) (rm : Room) (post : va_W → Prop) : gw_M := (bytes, maxL, y.cls, rm, rm.cells, rm.slots, post)
/-- a constructor's contract: its object is the last cell -/
def gw_C (U : gw_U) (y : MethodName) (bytes : ByteArray) (maxL : Nat) (rm : Room) (a : Nat) (As : List Value) (x : va_E) (post : va_W → Prop) : Prop :=
  Met (gw_l U) y (Cond.code y bytes maxL none :: WS) rm (va_Pc (.ref a :: As) (gw_B U [(a, x)])) (gw_Q U post) rm.cells rm.slots (gw_A U)
theorem gw_enter {U : gw_U} {y : MethodName} {bytes : ByteArray} {maxL : Nat} {rm : Room} {a : Nat} {As : List Value} {x : va_E} {post : va_W → Prop} (L : List (Nat × Value)) (hy : plainName y.cls = true) (hy1 : y.name = "<init>") (hlen : (lg_sl (.ref a :: As)).length ≤ maxL) (hL : lv_args 0 (.ref a :: As) = L)
    (h : gw_K U (gw_MC y bytes maxL rm post) 0 L [] [(a, x)] 0 0) : gw_C U y bytes maxL rm a As x post := by
  refine Met.ofW (cc := bytes) (maxL := maxL) (ret := none) hy rfl ?_
  intro p e s m args below meth c s₁ B hml hv
  obtain ⟨rfl, hP, hD, hK, hN, hz⟩ := hv
  have hts := atoms_spec (ws := Cond.code y bytes maxL none :: WS) B.pre
  have hl := lv_entry (.ref a :: As) (n := maxL) hlen
  rw [hL] at hl
  rw [lg_entry_eq]
  exact h p e s m _ below meth c s.heap [] _ B.exec B.bytes hml B.returns B.notSynchronized (findClass_of_methodNamed B.named) (fun w hw => hts w (List.mem_cons_of_mem _ hw)) hN ((name_of_methodNamed B.named B.method).1.trans hy1) hz hK hP hD va_S.rf hl
section GW
variable {U : gw_U} {M : gw_M} {pc tgt : Nat} {L L' : List (Nat × Value)} {S S' S0 rest : List Value} {l l2 : va_W} {k n : Nat}
theorem gw_go {pc' : Nat}
    (h : ∀ (p : Program) (e : Env) (s : State) (m : MethodId) (args : Array Value) (below : List Frame) (meth : Method) (c : Code) (H : Heap) (locs : List Loc) (ls : Array Slot) (Q : State → Prop), p.tables.exec = Jvm.exec → c.code = wM_cc M → lv_has ls (wM_nL M) L →
      (∀ ls', lv_has ls' (wM_nL M) L' → W p (gw_l U) e (wM_R M) s m args below meth c H locs k n Q (F0 m pc' ls' S')) → W p (gw_l U) e (wM_R M) s m args below meth c H locs k n Q (F0 m pc ls S))
    (kk : gw_K U M pc' L' S' l k n) : gw_K U M pc L S l k n :=
  fun p e s m args below meth c H locs ls h1 h2 h3 h4 h5 h6 h7 h8 h9 h10 hK hP hD hS hl => h p e s m args below meth c H locs ls _ h1 h2 hl (fun ls' hl' => kk p e s m args below meth c H locs ls' h1 h2 h3 h4 h5 h6 h7 h8 h9 h10 hK hP hD hS hl')
theorem gw_aload_n {i : Fin 4} {x : Nat} (j : Nat) (d : decode (wM_cc M) pc = .ok (.aload_n i, 1)) (hj : L[j]? = some ((i : Nat), .ref x)) (kk : gw_K U M (pc + 1) L (.ref x :: S) l k n) : gw_K U M pc L S l k n :=
  gw_go (fun p e s m args below meth c H locs ls Q h1 h2 hl q => lv_aload_n h1 h2 d rfl (lv_at hl j hj) (q ls hl)) kk
theorem gw_iload_n {i : Fin 4} {x : Int} (j : Nat) (d : decode (wM_cc M) pc = .ok (.iload_n i, 1)) (hj : L[j]? = some ((i : Nat), gi x)) (kk : gw_K U M (pc + 1) L (gi x :: S) l k n) : gw_K U M pc L S l k n :=
  gw_go (fun p e s m args below meth c H locs ls Q h1 h2 hl q => lv_iload_n h1 h2 d rfl (lv_at hl j hj) (q ls hl)) kk
theorem gw_iconst {x : Int} (d : decode (wM_cc M) pc = .ok (.iconst x, 1)) (kk : gw_K U M (pc + 1) L (gi x :: S) l k n) : gw_K U M pc L S l k n :=
  gw_go (fun p e s m args below meth c H locs ls Q h1 h2 hl q => lv_iconst h1 h2 d rfl (q ls hl)) kk
theorem gw_bipush {x : Int} (d : decode (wM_cc M) pc = .ok (.bipush x, 2)) (hv : (Int8.ofInt x).toInt32 = Int32.ofInt x) (kk : gw_K U M (pc + 2) L (gi x :: S) l k n) : gw_K U M pc L S l k n :=
  gw_go (fun p e s m args below meth c H locs ls Q h1 h2 hl q => lv_bipush h1 h2 d hv (q ls hl)) kk
theorem gw_sipush {x : Int} (d : decode (wM_cc M) pc = .ok (.sipush x, 3)) (hv : (Int16.ofInt x).toInt32 = Int32.ofInt x) (kk : gw_K U M (pc + 3) L (gi x :: S) l k n) : gw_K U M pc L S l k n :=
  gw_go (fun p e s m args below meth c H locs ls Q h1 h2 hl q => lv_sipush h1 h2 d hv (q ls hl)) kk
theorem gw_dup {v : Value} (d : decode (wM_cc M) pc = .ok (.dup, 1)) (hv : v.category = 1) (kk : gw_K U M (pc + 1) L (v :: v :: S) l k n) : gw_K U M pc L (v :: S) l k n :=
  gw_go (fun p e s m args below meth c H locs ls Q h1 h2 hl q => lv_dup h1 h2 d hv (q ls hl)) kk
theorem gw_iadd {x y : Int} (d : decode (wM_cc M) pc = .ok (.iadd, 1)) (kk : gw_K U M (pc + 1) L (gi (x + y) :: S) l k n) : gw_K U M pc L (gi y :: gi x :: S) l k n :=
  gw_go (fun p e s m args below meth c H locs ls Q h1 h2 hl q => lv_iadd h1 h2 d (by rw [oi_add]; exact q ls hl)) kk
theorem gw_imul {x y : Int} (d : decode (wM_cc M) pc = .ok (.imul, 1)) (kk : gw_K U M (pc + 1) L (gi (x * y) :: S) l k n) : gw_K U M pc L (gi y :: gi x :: S) l k n :=
  gw_go (fun p e s m args below meth c H locs ls Q h1 h2 hl q => lv_imul h1 h2 d (by rw [oi_mul]; exact q ls hl)) kk
theorem gw_istore_n {i : Fin 4} {x : Int} (d : decode (wM_cc M) pc = .ok (.istore_n i, 1)) (hn : (i : Nat) < wM_nL M) (hL : ((i : Nat), gi x) :: L.filter (fun q => !(q.1 == (i : Nat)) && !(q.1 + 1 == (i : Nat) && q.2.category == 2)) = L') (kk : gw_K U M (pc + 1) L' S l k n) : gw_K U M pc L (gi x :: S) l k n :=
  gw_go (fun p e s m args below meth c H locs ls Q h1 h2 hl q => lv_istore_n h1 h2 d rfl hl hn hL q) kk
theorem gw_iinc {i : Nat} {m x : Int} (j : Nat) (d : decode (wM_cc M) pc = .ok (.iinc i m, 3)) (hj : L[j]? = some (i, gi x)) (hn : i < wM_nL M) (hL : (i, gi (x + m)) :: L.filter (fun q => !(q.1 == i) && !(q.1 + 1 == i && q.2.category == 2)) = L') (kk : gw_K U M (pc + 3) L' S l k n) : gw_K U M pc L S l k n :=
  gw_go (fun p e s m args below meth c H locs ls Q h1 h2 hl q => lv_iinc h1 h2 d hl hj (oi_add x _) hn hL q) kk
theorem gw_goto {off : Int} (d : decode (wM_cc M) pc = .ok (.goto off, 3)) (ht : (pc : Int) + off = (tgt : Int)) (kk : gw_K U M tgt L S l k n) : gw_K U M pc L S l k n :=
  gw_go (fun p e s m args below meth c H locs ls Q h1 h2 hl q => lv_goto h1 h2 d ht (q ls hl)) kk
theorem gw_ge_t {off x y : Int} (d : decode (wM_cc M) pc = .ok (.if_icmp .ge off, 3)) (ht : (pc : Int) + off = (tgt : Int)) (h : gn y ≤ gn x) (kk : gw_K U M tgt L S l k n) : gw_K U M pc L (gi y :: gi x :: S) l k n :=
  gw_go (fun p e s m args below meth c H locs ls Q h1 h2 hl q => lv_icmp_ge h1 h2 d ht (fun _ => q ls hl) (fun z => absurd (ci_ge.mpr h) z)) kk
theorem gw_ge_f {off x y : Int} (d : decode (wM_cc M) pc = .ok (.if_icmp .ge off, 3)) (ht : (pc : Int) + off = (tgt : Int)) (h : ¬ gn y ≤ gn x) (kk : gw_K U M (pc + 3) L S l k n) : gw_K U M pc L (gi y :: gi x :: S) l k n :=
  gw_go (fun p e s m args below meth c H locs ls Q h1 h2 hl q => lv_icmp_ge h1 h2 d ht (fun z => absurd (ci_ge.mp z) h) (fun _ => q ls hl)) kk
theorem gw_mmin {own : String} {index : Nat} {x y : Int} (ho : wM_own M = own) (hw : gs_mmW own index Lib.Math.min.name Lib.Math.min.code 2) (hfr : 1 ≤ (wM_R M).frames) (hlo : (S.map fun v => v.category).sum + 13 ≤ (wM_R M).locals) (hcs : k ≤ (wM_R M).cells ∧ n ≤ (wM_R M).slots) (d : decode (wM_cc M) pc = .ok (.invokestatic index, 3))
    (kk : gw_K U M (pc + 3) L (gi (gmin x y) :: S) l k n) : gw_K U M pc L (gi y :: gi x :: S) l k n := by
  intro p e s m args below meth c H locs ls h1 h2 h3 h4 h5 h6 h7 h8 h9 h10 hK hP hD hS hl
  subst ho
  obtain ⟨w1, w2, w3, w4⟩ := hw
  refine va_mmin h1 h2 (h3.trans hl.1.symm) h6 (h7 _ w1) (h7 _ w2) (h7 _ w3) (h7 _ w4) hfr hlo hcs.1 hcs.2 d ?_
  rw [oi_if _ _ oi_lt]
  exact kk p e s m args below meth c H locs ls h1 h2 h3 h4 h5 h6 h7 h8 h9 h10 hK hP hD hS hl
theorem gw_objInit {own : String} {index a : Nat} (ho : wM_own M = own) (hw : Cond.methodLink own index Lib.objectInit ∈ WS ∧ Cond.instanceMethod Lib.objectInit ∈ WS ∧ Cond.code Lib.objectInit ⟨#[0xb1]⟩ 1 none ∈ WS) (hfr : 1 ≤ (wM_R M).frames) (hlo : (S.map fun v => v.category).sum + 12 ≤ (wM_R M).locals) (d : decode (wM_cc M) pc = .ok (.invokespecial index, 3))
    (kk : gw_K U M (pc + 3) L S l k n) : gw_K U M pc L (.ref a :: S) l k n := by
  intro p e s m args below meth c H locs ls h1 h2 h3 h4 h5 h6 h7 h8 h9 h10 hK hP hD hS hl
  subst ho
  refine W.objInit h1 h2 h6 (h7 _ hw.1) (h7 _ hw.2.1) (h7 _ hw.2.2) rfl (hl.1.trans h3.symm) rfl d hfr ?_ ?_
  · show 2 * 0 + _ + 12 ≤ _
    omega
  · exact kk p e s m args below meth c H locs ls h1 h2 h3 h4 h5 h6 h7 h8 h9 h10 hK hP hD hS hl
/-! cells -/
def cI (cA : FieldType → ClassId) (m : Nat) (row : Nat → Int) : va_E := .inl (cA .int, m, .inl fun j => Int32.ofInt (row j))
def cB (cA : FieldType → ClassId) (m : Nat) (row : Nat → Int) : va_E := .inl (cA .byte, m, .inl fun j => Int32.ofInt (row j))
def cZ (cA : FieldType → ClassId) (m : Nat) (row : Nat → Int) : va_E := .inl (cA .boolean, m, .inl fun j => Int32.ofInt (row j))
def cL (cA : FieldType → ClassId) (m : Nat) (row : Nat → Int) : va_E := .inl (cA .long, m, .inr (.inl fun j => Int64.ofInt (row j)))
def cQ (cA : FieldType → ClassId) (m : Nat) (q : Nat → Option Nat) : va_E := .inl (cA gs_tT, m, .inr (.inr (.inr (.inr q))))
def cO (ci : Nat) (fs : List Value) : va_E := .inr (ci, fs)
def zr : Nat → Int := fun _ => 0
def rup (row : Nat → Int) (i : Nat) (x : Int) : Nat → Int := fun j => if j = i then x else row j
theorem ap_get (pre l : va_W) (j : Nat) : (pre ++ l)[pre.length + j]? = l[j]? := by
  rw [List.getElem?_append_right (by omega)]; congr 1; omega
theorem ap_set (pre l : va_W) (j : Nat) (x : Nat × va_E) : (pre ++ l).set (pre.length + j) x = pre ++ l.set j x := by
  rw [List.set_append_right _ _ (by omega)]; congr 2; omega
theorem gw_upA (hz : ∀ q, q ≥ gw_z U → gw_A U q) : True := trivial
/-- a new array of a type of numbers -/
theorem gw_newa {at0 : ArrayType} {ty : FieldType} {m : Nat} {x : Int} {a0 : vp_A} (t0 : Nat) (hty : newarray.typeOf at0 = ty) (ht : (gw_tys U)[t0]? = some (gw_cA U ty, ty)) (hobj : ∀ C, ty ≠ .object C) (harr : Cond.arrayClass ty ∈ WS) (ha : ∀ cA : ClassId, vp_cell cA a0 = arrV cA m (fun _ => defaultValue ty)) (hx0 : 0 ≤ gn x) (hx : (gn x).toNat = m) (hby : m * componentBytes ty ≤ 536870912) (hcs : k + 1 ≤ (wM_R M).cells ∧ n + m ≤ (wM_R M).slots) (d : decode (wM_cc M) pc = .ok (.newarray at0, 2))
    (kk : ∀ q, gw_K U M (pc + 2) L (.ref q :: S) (l ++ [(q, .inl (gw_cA U ty, a0))]) (k + 1) (n + m)) : gw_K U M pc L (gi x :: S) l k n := by
  intro p e s m2 args below meth c H locs ls h1 h2 h3 h4 h5 h6 h7 h8 h9 h10 hK hP hD hS hl
  refine va_newa (ty := ty) (a0 := a0) (N' := m) h1 h2 (by rw [hty]; exact h7 _ harr) hty hK hP hD hS (fun q hq => Nat.le_trans h10 hq) ha (fun q => by have := c0_lt.mp q; omega) (by rw [ai_nn hx0]; exact hx) hby hcs.1 hcs.2 d (fun q cA H1 hK1 hP1 hD1 hS1 => ?_)
  have e1 : s.vm.findClass ("[" ++ ty.toString) = some cA := by
    have g := (hK1.2 (gw_tys U).length (cA, ty) (by rw [List.getElem?_append_right (Nat.le_refl _), Nat.sub_self]; rfl)).2
    cases ty <;> first | exact g | exact absurd rfl (hobj _)
  have e2 : s.vm.findClass ("[" ++ ty.toString) = some (gw_cA U ty) := by
    have g := (hK.2 t0 _ ht).2
    cases ty <;> first | exact g | exact absurd rfl (hobj _)
  have e3 : cA = gw_cA U ty := Option.some.inj (e1.symm.trans e2)
  subst e3
  rw [List.append_assoc] at hP1 hD1
  exact kk q p e s m2 args below meth c H1 locs ls h1 h2 h3 h4 h5 h6 h7 h8 h9 h10 hK hP1 hD1 hS1 hl
theorem gw_newq {own : String} {index m : Nat} {x : Int} (ho : wM_own M = own) (hcl : Cond.classLink own index "GapStations$Tape" ∈ WS) (hx0 : 0 ≤ gn x) (hx : (gn x).toNat = m) (hby : m * 4 ≤ 536870912) (hcs : k + 1 ≤ (wM_R M).cells ∧ n + m ≤ (wM_R M).slots) (d : decode (wM_cc M) pc = .ok (.anewarray index, 3))
    (kk : ∀ q, gw_K U M (pc + 3) L (.ref q :: S) (l ++ [(q, cQ (gw_cA U) m (fun _ => none))]) (k + 1) (n + m)) : gw_K U M pc L (gi x :: S) l k n := by
  intro p e s m2 args below meth c H locs ls h1 h2 h3 h4 h5 h6 h7 h8 h9 h10 hK hP hD hS hl
  subst ho
  refine va_newq (C := "GapStations$Tape") (N' := m) h1 h2 h6 (h7 _ hcl) h8.2 hK hP hD hS (fun q hq => Nat.le_trans h10 hq) (fun q => by have := c0_lt.mp q; omega) (by rw [ai_nn hx0]; exact hx) hby hcs.1 hcs.2 d (fun q cA H1 hK1 hP1 hD1 hS1 => ?_)
  have e1 : s.vm.findClass ("[" ++ (FieldType.object "GapStations$Tape").toString) = some cA := by
    obtain ⟨_, _, _, _, _, g⟩ := (hK1.2 (gw_tys U).length (cA, .object "GapStations$Tape") (by rw [List.getElem?_append_right (Nat.le_refl _), Nat.sub_self]; rfl)).2
    exact g
  have e2 : s.vm.findClass ("[" ++ (FieldType.object "GapStations$Tape").toString) = some (gw_cA U gs_tT) := by
    obtain ⟨_, _, _, _, _, g⟩ := (hK.2 4 (gw_cA U gs_tT, gs_tT) rfl).2
    exact g
  have e3 : cA = gw_cA U gs_tT := Option.some.inj (e1.symm.trans e2)
  subst e3
  rw [List.append_assoc] at hP1 hD1
  exact kk q p e s m2 args below meth c H1 locs ls h1 h2 h3 h4 h5 h6 h7 h8 h9 h10 hK hP1 hD1 hS1 hl
theorem gw_new {own C : String} {T : u_T} {N ci index : Nat} {ty : Nat → FieldType} (ho : wM_own M = own) (hcl : gs_cls ci C T N ty) (hw : Cond.classLink own index C ∈ WS ∧ Cond.instantiable C N ∈ WS ∧ Cond.initialized C ∈ WS) {fs : List Value} (hfs : ∀ j, j < N → defaultValue (ty j) = vp_V fs j) (hcs : k + 1 ≤ (wM_R M).cells ∧ n + N ≤ (wM_R M).slots) (d : decode (wM_cc M) pc = .ok (.new index, 3))
    (kk : ∀ q, gw_K U M (pc + 3) L (.ref q :: S) (l ++ [(q, cO ci fs)]) (k + 1) (n + N)) : gw_K U M pc L S l k n := by
  intro p e s m2 args below meth c H locs ls h1 h2 h3 h4 h5 h6 h7 h8 h9 h10 hK hP hD hS hl
  subst ho
  refine va_new (ci := ci) (fs := fs) h1 h2 h7 hcl.2.1 ty hcl.2.2.1 h6 (h7 _ hw.1) (h7 _ hw.2.1) (h7 _ hw.2.2) hK hP hD hS (fun q hq => Nat.le_trans h10 hq) hcl.1 hfs hcs.1 hcs.2 d (fun q H1 hP1 hD1 hS1 => ?_)
  rw [List.append_assoc] at hP1 hD1
  exact kk q p e s m2 args below meth c H1 locs ls h1 h2 h3 h4 h5 h6 h7 h8 h9 h10 hK hP1 hD1 hS1 hl
theorem gw_putF {own C : String} {T : u_T} {N ci index a : Nat} {ty : Nat → FieldType} {fs : List Value} {v : Value} (j f : Nat) (ho : wM_own M = own) (hcl : gs_cls ci C T N ty) (he : l[j]? = some (a, cO ci fs)) (hf : f < N) (hfin : (T f).2.2.2 = true) (hdecl : (T f).1 = own) (hn : narrow (ty f) v = v) (hfit : fits (ty f) v = true) (hlf : f < fs.length) (hlink : Cond.fieldLink own index (T f).1 (T f).2.1 (T f).2.2.1 ∈ WS) (hl2 : l.set j (a, cO ci (fs.set f v)) = l2) (d : decode (wM_cc M) pc = .ok (.putfield index, 3))
    (kk : gw_K U M (pc + 3) L S l2 k n) : gw_K U M pc L (v :: .ref a :: S) l k n := by
  intro p e s m args below meth c H locs ls h1 h2 h3 h4 h5 h6 h7 h8 h9 h10 hK hP hD hS hl
  subst ho; subst hl2
  refine va_putF (D := gw_D U) h1 h2 h7 hcl.2.1 ty hcl.2.2.1 hcl.2.2.2 h6 hK hP hD hS ((gw_pre U).length + j) ((ap_get _ _ _).trans he) hcl.1 f hf (h7 _ hlink) (fun _ h => h) hfin h9 hdecl (hcl.2.2.1 f hf) hn hfit hlf d (fun H1 locs1 hP1 hD1 hS1 => ?_)
  rw [ap_set] at hP1 hD1
  exact kk p e s m args below meth c H1 locs1 ls h1 h2 h3 h4 h5 h6 h7 h8 h9 h10 hK hP1 hD1 hS1 hl
theorem gw_put {own C : String} {T : u_T} {N ci index a : Nat} {ty : Nat → FieldType} {fs : List Value} {v : Value} (j f : Nat) (ho : wM_own M = own) (hcl : gs_cls ci C T N ty) (he : l[j]? = some (a, cO ci fs)) (hf : f < N) (hfin : (T f).2.2.2 = false) (hn : narrow (ty f) v = v) (hfit : fits (ty f) v = true) (hlf : f < fs.length) (hlink : Cond.fieldLink own index (T f).1 (T f).2.1 (T f).2.2.1 ∈ WS) (hl2 : l.set j (a, cO ci (fs.set f v)) = l2) (d : decode (wM_cc M) pc = .ok (.putfield index, 3))
    (kk : gw_K U M (pc + 3) L S l2 k n) : gw_K U M pc L (v :: .ref a :: S) l k n := by
  intro p e s m args below meth c H locs ls h1 h2 h3 h4 h5 h6 h7 h8 h9 h10 hK hP hD hS hl
  subst ho; subst hl2
  refine va_put (D := gw_D U) h1 h2 h7 hcl.2.1 ty hcl.2.2.1 hcl.2.2.2 h6 hK hP hD hS ((gw_pre U).length + j) ((ap_get _ _ _).trans he) hcl.1 f hf (h7 _ hlink) (fun _ h => h) hfin (hcl.2.2.1 f hf) hn hfit hlf d (fun H1 locs1 hP1 hD1 hS1 => ?_)
  rw [ap_set] at hP1 hD1
  exact kk p e s m args below meth c H1 locs1 ls h1 h2 h3 h4 h5 h6 h7 h8 h9 h10 hK hP1 hD1 hS1 hl
theorem gw_get {own C : String} {T : u_T} {N ci index a : Nat} {ty : Nat → FieldType} {fs : List Value} {v : Value} (j f : Nat) (ho : wM_own M = own) (hcl : gs_cls ci C T N ty) (he : l[j]? = some (a, cO ci fs)) (hf : f < N) (hv : fs[f]? = some v) (hlink : Cond.fieldLink own index (T f).1 (T f).2.1 (T f).2.2.1 ∈ WS) (d : decode (wM_cc M) pc = .ok (.getfield index, 3))
    (kk : gw_K U M (pc + 3) L (v :: S) l k n) : gw_K U M pc L (.ref a :: S) l k n := by
  intro p e s m args below meth c H locs ls h1 h2 h3 h4 h5 h6 h7 h8 h9 h10 hK hP hD hS hl
  subst ho
  refine va_get (D := gw_D U) h1 h2 h7 hcl.2.1 h6 hK hP ((gw_pre U).length + j) ((ap_get _ _ _).trans he) hcl.1 f hf (h7 _ hlink) (fun _ h => h) hv d ?_
  exact kk p e s m args below meth c H locs ls h1 h2 h3 h4 h5 h6 h7 h8 h9 h10 hK hP hD hS hl
theorem gw_iast {a m : Nat} {row : Nat → Int} {i x : Int} (j : Nat) (he : l[j]? = some (a, cI (gw_cA U) m row)) (hi : 0 ≤ gn i ∧ gn i < m) (hl2 : l.set j (a, cI (gw_cA U) m (rup row (gn i).toNat x)) = l2) (d : decode (wM_cc M) pc = .ok (.iastore, 1))
    (kk : gw_K U M (pc + 1) L S l2 k n) : gw_K U M pc L (gi x :: gi i :: .ref a :: S) l k n := by
  intro p e s m2 args below meth c H locs ls h1 h2 h3 h4 h5 h6 h7 h8 h9 h10 hK hP hD hS hl
  subst hl2
  have e1 : upd (fun j => Int32.ofInt (row j)) (Int32.ofInt i).toNatClampNeg (Int32.ofInt x) = fun j => Int32.ofInt (rup row (gn i).toNat x j) := by
    rw [ai_nn hi.1]
    funext q
    unfold upd rup
    by_cases h : q = (gn i).toNat
    · rw [if_pos h, if_pos h]
    · rw [if_neg h, if_neg h]
  refine va_iast h1 h2 hK hP hD hS ((gw_pre U).length + j) 0 ((ap_get _ _ _).trans he) rfl (ai_in hi) d (fun H1 locs1 hP1 hD1 hS1 => ?_)
  rw [ap_set, e1] at hP1 hD1
  exact kk p e s m2 args below meth c H1 locs1 ls h1 h2 h3 h4 h5 h6 h7 h8 h9 h10 hK hP1 hD1 hS1 hl
theorem gw_aast {a m v : Nat} {f : Nat → Option Nat} {vs : List Value} {w1 w2 : va_W} {i : Int} (hl1 : l = w1 ++ (a, cQ (gw_cA U) m f) :: w2) (hv : (v, cO 3 vs) ∈ l) (hi : 0 ≤ gn i ∧ gn i < m) (hl2 : l2 = w1 ++ (a, cQ (gw_cA U) m (va_up f (gn i).toNat (some v))) :: w2) (d : decode (wM_cc M) pc = .ok (.aastore, 1))
    (kk : gw_K U M (pc + 1) L S l2 k n) : gw_K U M pc L (.ref v :: gi i :: .ref a :: S) l k n := by
  intro p e s m2 args below meth c H locs ls h1 h2 h3 h4 h5 h6 h7 h8 h9 h10 hK hP hD hS hl
  obtain ⟨jv, hjv⟩ := List.getElem?_of_mem hv
  have he : l[w1.length]? = some (a, cQ (gw_cA U) m f) := by rw [hl1, List.getElem?_append_right (Nat.le_refl _), Nat.sub_self]; rfl
  have hse : ∀ x, l.set w1.length x = w1 ++ x :: w2 := fun x => by rw [hl1, List.set_append_right _ _ (Nat.le_refl _), Nat.sub_self]; rfl
  refine va_astq (ci := 3) (r := (RX3, TX3, 3)) h1 h2 hK hP hD hS ((gw_pre U).length + w1.length) 4 ((gw_pre U).length + jv) ((ap_get _ _ _).trans he) rfl ((ap_get _ _ _).trans hjv) rfl (ai_in hi) d (fun H1 locs1 hP1 hD1 hS1 => ?_)
  rw [ap_set, ai_nn hi.1, hse] at hP1 hD1
  subst hl2
  exact kk p e s m2 args below meth c H1 locs1 ls h1 h2 h3 h4 h5 h6 h7 h8 h9 h10 hK hP1 hD1 hS1 hl
theorem gw_ret (d : decode (wM_cc M) pc = .ok (.return_, 1)) (hk : k = wM_mc M) (hn : n = wM_ms M) (hp : wM_post M l) : gw_K U M pc L [] l k n := by
  intro p e s m args below meth c H locs ls h1 h2 h3 h4 h5 h6 h7 h8 h9 h10 hK hP hD hS hl
  subst hk; subst hn
  exact W.vret h1 h2 h4 (fun t ht hW => ⟨rfl, ⟨l, hp, by rw [ht]; exact hP, hD⟩, hS.F ht⟩) hS.2.2 d h5
theorem gw_blind {av : List Value} : FrameBlind (va_Pc av (gw_B U l)) := fun a V g mk q => ⟨q.1, q.2.1, q.2.2.1, va_K.moved (u := V) (U := V.calling g mk a) (Vm.Alike.refl V.vm) q.2.2.2.1, gs_NW.same (u := V) (U := V.calling g mk a) rfl q.2.2.2.2.1, q.2.2.2.2.2⟩
/-- the words of a constructor that is called -/
def gw_mI (y : MethodName) (bytes : ByteArray) (maxL n : Nat) : Prop :=
  Cond.code y bytes maxL none ∈ WS ∧ Cond.instanceMethod y ∈ WS ∧ Cond.initialized y.cls ∈ WS ∧ y.name = "<init>" ∧ y.cls ≠ "java/lang/invoke/MethodHandle" ∧ y.cls ≠ "java/lang/invoke/VarHandle" ∧ (parseMethodDescriptor y.desc).map (fun d => d.parameters.length) = some n
theorem gw_callI {index maxL nA b : Nat} {own host : String} {y : MethodName} {bytes : ByteArray} {rm : Room} {As : List Value} {x : va_E} {post : va_W → Prop}
    (hC : gw_C (gw_l U, (gw_D U, (gw_cA U, (gw_z U, gw_pre U ++ l)))) y bytes maxL rm b As x post) (ho : wM_own M = own) (hm : gw_mI y bytes maxL nA) (hlink : Cond.methodLink own index y ∈ WS ∨ Cond.methodLinkNest own index y host ∈ WN)
    (hfit : rm.frames + 1 ≤ (wM_R M).frames ∧ 8 + (maxL + 11) + rm.locals ≤ (wM_R M).locals ∧ k + rm.cells ≤ (wM_R M).cells ∧ n + rm.slots ≤ (wM_R M).slots) (hn : As.length = nA) (hst : As.reverse ++ .ref b :: rest = S0) (hrest : (rest.map fun v => v.category).sum ≤ 8) (d : decode (wM_cc M) pc = .ok (.invokespecial index, 3))
    (kk : ∀ l3, post l3 → gw_K U M (pc + 3) L rest (l ++ l3) (k + rm.cells) (n + rm.slots)) : gw_K U M pc L S0 (l ++ [(b, x)]) k n := by
  intro p e s m args below meth c H locs ls h1 h2 h3 h4 h5 h6 h7 h8 h9 h10 hK hP hD hS hl
  subst ho; subst hst
  obtain ⟨m1, m2, m4, my, m5, m6, m7⟩ := hm
  obtain ⟨f1, f2, f3, f4⟩ := hfit
  have hPc : ∀ V : State, V.heap = H → s.WarmedH V.vm → va_Pc (.ref b :: As) (gw_B (gw_l U, (gw_D U, (gw_cA U, (gw_z U, gw_pre U ++ l)))) [(b, x)]) (Value.ref b :: As).toArray V := by
    intro V hV hW
    refine ⟨rfl, ?_, ?_, va_K.moved hW.alike hK, h8.warm hW, ?_⟩
    · rw [hV]
      show va_P (gw_D U) vwCl ((gw_pre U ++ l) ++ [(b, x)]) H
      rw [List.append_assoc]; exact hP
    · show va_D (gw_A U) ((gw_pre U ++ l) ++ [(b, x)])
      rw [List.append_assoc]; exact hD
    · rw [hV]; exact Nat.le_trans h10 hS.1
  have hrun : va_Run p (gw_l U) e (wM_R M) s m args below meth c H locs k n rm.cells rm.slots (F0 m pc ls (As.reverse ++ .ref b :: rest)) rest (gw_Q (gw_l U, (gw_D U, (gw_cA U, (gw_z U, gw_pre U ++ l)))) post (Value.ref b :: As).toArray) (gw_A U) := by
    rcases hlink with hlink | hlink
    · exact va_runI (As := As) (rest := rest) ⟨h1, h2, h3, h6, h7⟩ hC
        ⟨⟨rfl, rfl, f1, f2, pay_in h7 (gs_goodc m1), List.mem_cons_self, h7 _ m1, h7 _ m4, ⟨m5, m6⟩, some_len m7, h7 _ hlink⟩, my, h7 _ m2⟩
        ⟨gw_blind, hPc⟩ rfl hn hl.1 rfl (lv_room hrest) d ⟨f3, f4⟩
    · exact va_runIN (As := As) (rest := rest) ⟨h1, h2, h3, h6, h7⟩ hC
        ⟨⟨⟨rfl, rfl, f1, f2, pay_in h7 (gs_goodc m1), List.mem_cons_self⟩, h7 _ m1, h7 _ m4, ⟨m5, m6⟩, some_len m7, h8.use hlink⟩, my, h7 _ m2⟩
        ⟨gw_blind, hPc⟩ rfl hn hl.1 rfl (lv_room hrest) d ⟨f3, f4⟩
  intro T hT X0
  obtain ⟨v, st₀, t, T', L1, h0, X', hL, e1, e2, ⟨hv, ⟨l3, hp, hP3, hD3⟩, hF⟩, st⟩ := hrun T hT X0
  cases hv
  have hS1 : va_S (gw_A U) s.heap t.heap (locs ++ L1) := by
    refine ⟨Nat.le_trans hS.1 (by rw [← h0]; exact hF.1), fun q q1 q2 => ?_, fun q hq => ?_⟩
    · rw [hF.2 q (by rw [h0]; exact Nat.lt_of_lt_of_le q1 hS.1) q2, h0]
      exact hS.2.1 q q1 q2
    · rcases List.mem_append.mp hq with h | h
      · exact hS.2.2 q h
      · exact hL q h
  have hP4 : va_P (gw_D U) vwCl (gw_pre U ++ (l ++ l3)) t.heap := by rw [← List.append_assoc]; exact hP3
  have hD4 : va_D (gw_A U) (gw_pre U ++ (l ++ l3)) := by rw [← List.append_assoc]; exact hD3
  obtain ⟨t2, a1, b1⟩ := kk l3 hp p e s m args below meth c t.heap (locs ++ L1) ls h1 h2 h3 h4 h5 h6 h7 h8 h9 h10 hK hP4 hD4 hS1 hl T' e1 X'
  exact ⟨t2, st t2 a1, b1⟩
end GW
