/-! ===== the words of the tables that every method may use ===== -/
def WS : List Cond := lw_tbl.filter goodWord
theorem inWS {w : Cond} (i : Nat) (h : lw_tbl[i]? = some w) (g : goodWord w = true) : w ∈ WS := List.mem_filter.mpr ⟨List.mem_of_getElem? h, g⟩
theorem WS_good : GoodIn WS WS := fun w h => ⟨h, good_of_word (List.mem_filter.mp h).2⟩
theorem WS_tbl {args : Array Value} {s : State} (h : ∀ w ∈ lw_tbl, w.before args s = true) : ∀ w ∈ WS, w.before args s = true := fun w hw => h w (List.mem_filter.mp hw).1
/-! the words of nest mates: they ride as facts of the state -/
def isNest : Cond → Bool
  | .fieldLinkNest .. => true
  | .methodLinkNest .. => true
  | _ => false
def WN : List Cond := lw_tbl.filter isNest
theorem inWN {w : Cond} (i : Nat) (h : lw_tbl[i]? = some w) (g : isNest w = true) : w ∈ WN := List.mem_filter.mpr ⟨List.mem_of_getElem? h, g⟩
def gs_NW (U : State) : Prop := (∀ w ∈ WN, va_Nw w U) ∧ va_AO "GapStations$Tape" U
theorem nest_onTables {w : Cond} (h : isNest w = true) : w.onTables = true := by
  cases w <;> first | rfl | (simp [isNest] at h)
theorem gs_NW_of {args : Array Value} {s : State} (h : ∀ w ∈ lw_tbl, w.before args s = true) : gs_NW s := ⟨fun w hw => va_Nw.of (nest_onTables (List.mem_filter.mp hw).2) (h w (List.mem_filter.mp hw).1), va_AO.of (A := args) (h (Cond.arrayOver (.object "GapStations$Tape")) (List.mem_of_getElem? (i := 211) (by decide +kernel)))⟩
theorem gs_NW.warm {s U : State} (hW : s.WarmedH U.vm) (h : gs_NW s) : gs_NW U := by
  refine ⟨?_, va_AO.moved hW.alike h.2⟩
  intro w hw
  have h1 := h.1 w hw
  have h2 := (List.mem_filter.mp hw).2
  cases w <;> first | exact va_Nw.warmF hW h1 | exact va_Nw.warmM hW h1 | (simp [isNest] at h2)
theorem gs_NW.same {u U : State} (hvm : u.vm = U.vm) (h : gs_NW u) : gs_NW U := ⟨fun w hw => va_Nw.same (nest_onTables (List.mem_filter.mp hw).2) hvm (h.1 w hw), va_AO.moved (by rw [hvm]; exact Vm.Alike.refl _) h.2⟩
theorem gs_NW.use {w : Cond} {A : Array Value} {U : State} (h : gs_NW U) (hw : w ∈ WN) : w.before A U = true := va_Nw.use (nest_onTables (List.mem_filter.mp hw).2) (h.1 w hw)
/-! ===== numbers: an int is ofInt of an integer, a long likewise ===== -/
def gn (x : Int) : Int := (Int32.ofInt x).toInt
def gm (x : Int) : Int := (Int64.ofInt x).toInt
def gi (x : Int) : Value := .int (Int32.ofInt x)
def gl (x : Int) : Value := .long (Int64.ofInt x)
theorem gn_eq (x : Int) : gn x = x.bmod (2 ^ 32) := Int32.toInt_ofInt
theorem gm_eq (x : Int) : gm x = x.bmod (2 ^ 64) := Int64.toInt_ofInt
theorem bm32 (x : Int) : (-2147483648 ≤ x.bmod 4294967296 ∧ x.bmod 4294967296 < 2147483648) ∧ (-2147483648 ≤ x → x < 2147483648 → x.bmod 4294967296 = x) := by
  unfold Int.bmod
  dsimp only
  split <;> omega
theorem bm64 (x : Int) : (-9223372036854775808 ≤ x.bmod 18446744073709551616 ∧ x.bmod 18446744073709551616 < 9223372036854775808) ∧ (-9223372036854775808 ≤ x → x < 9223372036854775808 → x.bmod 18446744073709551616 = x) := by
  unfold Int.bmod
  dsimp only
  split <;> omega
theorem gn_id {x : Int} (h1 : -2147483648 ≤ x) (h2 : x < 2147483648) : gn x = x := by
  rw [gn_eq]; exact (bm32 x).2 h1 h2
theorem gm_id {x : Int} (h1 : -9223372036854775808 ≤ x) (h2 : x < 9223372036854775808) : gm x = x := by
  rw [gm_eq]; exact (bm64 x).2 h1 h2
theorem gn_rng (x : Int) : -2147483648 ≤ gn x ∧ gn x < 2147483648 := by
  rw [gn_eq]; exact (bm32 x).1
theorem gm_rng (x : Int) : -9223372036854775808 ≤ gm x ∧ gm x < 9223372036854775808 := by
  rw [gm_eq]; exact (bm64 x).1
theorem gn_gn (x : Int) : gn (gn x) = gn x := gn_id (gn_rng x).1 (gn_rng x).2
theorem gm_gm (x : Int) : gm (gm x) = gm x := gm_id (gm_rng x).1 (gm_rng x).2
theorem oi_toInt (x : Int32) : Int32.ofInt x.toInt = x := by
  apply Int32.toInt_inj.mp
  rw [Int32.toInt_ofInt]
  exact (bm32 _).2 (Int32.le_toInt x) (Int32.toInt_lt x)
theorem oi_gn (x : Int) : Int32.ofInt (gn x) = Int32.ofInt x := oi_toInt _
theorem ol_toInt (x : Int64) : Int64.ofInt x.toInt = x := by
  apply Int64.toInt_inj.mp
  rw [Int64.toInt_ofInt]
  exact (bm64 _).2 (Int64.le_toInt x) (Int64.toInt_lt x)
theorem ol_gm (x : Int) : Int64.ofInt (gm x) = Int64.ofInt x := ol_toInt _
theorem oi_inj {x y : Int} : Int32.ofInt x = Int32.ofInt y ↔ gn x = gn y := ⟨fun h => by unfold gn; rw [h], fun h => Int32.toInt_inj.mp h⟩
theorem ol_inj {x y : Int} : Int64.ofInt x = Int64.ofInt y ↔ gm x = gm y := ⟨fun h => by unfold gm; rw [h], fun h => Int64.toInt_inj.mp h⟩
theorem oi_lt {x y : Int} : Int32.ofInt x < Int32.ofInt y ↔ gn x < gn y := Int32.lt_iff_toInt_lt
theorem oi_le {x y : Int} : Int32.ofInt x ≤ Int32.ofInt y ↔ gn x ≤ gn y := Int32.le_iff_toInt_le
theorem gn_0 : gn 0 = 0 := by decide +kernel
theorem oi_0 : Int32.ofInt 0 = 0 := by decide +kernel
theorem oi_add (x y : Int) : Int32.ofInt x + Int32.ofInt y = Int32.ofInt (x + y) := (Int32.ofInt_add x y).symm
theorem oi_sub (x y : Int) : Int32.ofInt x - Int32.ofInt y = Int32.ofInt (x - y) := (Int32.ofInt_sub x y).symm
theorem oi_mul (x y : Int) : Int32.ofInt x * Int32.ofInt y = Int32.ofInt (x * y) := (Int32.ofInt_mul x y).symm
theorem oi_neg (x : Int) : -Int32.ofInt x = Int32.ofInt (-x) := (Int32.ofInt_neg x).symm
theorem ol_add (x y : Int) : Int64.ofInt x + Int64.ofInt y = Int64.ofInt (x + y) := (Int64.ofInt_add x y).symm
theorem ol_sub (x y : Int) : Int64.ofInt x - Int64.ofInt y = Int64.ofInt (x - y) := (Int64.ofInt_sub x y).symm
theorem ol_mul (x y : Int) : Int64.ofInt x * Int64.ofInt y = Int64.ofInt (x * y) := (Int64.ofInt_mul x y).symm
/-! bits, shifts, division, conversions as the machine has them -/
def gand (x y : Int) : Int := (Int32.ofInt x &&& Int32.ofInt y).toInt
def gor (x y : Int) : Int := (Int32.ofInt x ||| Int32.ofInt y).toInt
def gxor (x y : Int) : Int := (Int32.ofInt x ^^^ Int32.ofInt y).toInt
def gshl (x y : Int) : Int := (Int32.ofInt x <<< (Int32.ofInt y &&& 31)).toInt
def gshr (x y : Int) : Int := (Int32.ofInt x >>> (Int32.ofInt y &&& 31)).toInt
def gushr (x y : Int) : Int := ((Int32.ofInt x).toUInt32 >>> ((Int32.ofInt y).toUInt32 &&& Int32.toUInt32 31)).toInt32.toInt
def gdiv (x y : Int) : Int := (Int32.ofInt x / Int32.ofInt y).toInt
def grem (x y : Int) : Int := (Int32.ofInt x - Int32.ofInt x / Int32.ofInt y * Int32.ofInt y).toInt
def gldiv (x y : Int) : Int := (Int64.ofInt x / Int64.ofInt y).toInt
def glrem (x y : Int) : Int := (Int64.ofInt x - Int64.ofInt x / Int64.ofInt y * Int64.ofInt y).toInt
def gland (x y : Int) : Int := (Int64.ofInt x &&& Int64.ofInt y).toInt
def glor (x y : Int) : Int := (Int64.ofInt x ||| Int64.ofInt y).toInt
def glshl (x y : Int) : Int := (Int64.ofInt x <<< ((Int32.ofInt y).toInt64 &&& 63)).toInt
def gcmp (x y : Int) : Int := if gm y < gm x then 1 else if gm x = gm y then 0 else -1
def gb (x : Int) : Int := ((Int32.ofInt x).toInt8.toInt32).toInt
def gsh (x : Int) : Int := ((Int32.ofInt x).toInt16.toInt32).toInt
/-! ===== the memory: 79 cells of numbers, whose shapes do not change once the two objects are made ===== -/
abbrev gs_Mem : Type := Nat → Nat → Int
abbrev gs_Sp : Type := (FieldType × Nat) ⊕ ((Nat × List (Option Nat)) ⊕ (Nat × (Nat → Nat)))
def sp_i (n : Nat) : gs_Sp := .inl (.int, n)
def sp_l (n : Nat) : gs_Sp := .inl (.long, n)
def sp_o (ci : Nat) (fs : List (Option Nat)) : gs_Sp := .inr (.inl (ci, fs))
def fs_pl (r : Nat) : List (Option Nat) := [some (r + 1), some (r + 2), some (r + 3), some (r + 4), some (r + 5), some (r + 6), some (r + 7), some (r + 8), none, none]
def fs_rw (r : Nat) : List (Option Nat) := [none, some (r + 1), some (r + 2), none]
def fs_st (r : Nat) : List (Option Nat) := [some (r + 1), some (r + 10), some (r + 13), some (r + 16)]
def fs_tp (r : Nat) : List (Option Nat) := [some (r + 1), none, none]
def fs_tx : List (Option Nat) := [some 52, none, none, none, none, some 53, some 54, some 55, some 56]
def fs_wd : List (Option Nat) := [some 49, some 50]
def fs_gs : List (Option Nat) := [some 1, some 20, none, some 39, some 48, some 51, some 57]
def fs_md : List (Option Nat) := [some 71, some 72, some 73, none, some 74, none, none, some 75, some 76, some 77, some 78]
def sl_pl (r : Nat) : List gs_Sp := [sp_o 0 (fs_pl r), sp_i 8, sp_i 8, sp_i 8, sp_i 3, sp_i 3, sp_i 64, sp_i 8, sp_i 8]
def sl_rw (r : Nat) : List gs_Sp := [sp_o 1 (fs_rw r), sp_i 8, sp_i 8]
def sl_st (r : Nat) : List gs_Sp := sp_o 2 (fs_st r) :: (sl_pl (r + 1) ++ (sl_rw (r + 10) ++ (sl_rw (r + 13) ++ sl_rw (r + 16))))
def sl_tp (r : Nat) : List gs_Sp := [sp_o 3 (fs_tp r), sp_l 60]
def SHL : List gs_Sp := sp_o 6 fs_gs :: (sl_st 1 ++ (sl_st 20 ++ (sl_pl 39 ++ ([sp_o 5 fs_wd, sp_i 8, sp_i 72] ++ ([sp_o 4 fs_tx, .inl (.byte, 100), sp_i 8, sp_i 8, sp_i 8, .inl (.boolean, 8)] ++ (.inr (.inr (6, fun k => 58 + 2 * k)) :: (sl_tp 58 ++ (sl_tp 60 ++ (sl_tp 62 ++ (sl_tp 64 ++ (sl_tp 66 ++ (sl_tp 68 ++ [sp_o 7 fs_md, sp_i 84, sp_i 84, sp_i 84, sp_i 100, sp_i 32, sp_i 6, sp_i 6, sp_l 360]))))))))))))
theorem SHL_len : SHL.length = 79 := by decide +kernel
def SH (k : Nat) : gs_Sp := SHL.getD k (.inl (.int, 0))
/-! the universe of a run: launch, class numbers, array class numbers, addresses, what may be changed -/
abbrev gs_E : Type := Launch × (va_G × ((FieldType → ClassId) × ((Nat → Nat) × (Nat → Prop))))
def gs_l (E : gs_E) : Launch := E.1
def gs_D (E : gs_E) : va_G := E.2.1
def gs_cA (E : gs_E) : FieldType → ClassId := E.2.2.1
def gs_ad (E : gs_E) : Nat → Nat := E.2.2.2.1
def gs_A (E : gs_E) : Nat → Prop := E.2.2.2.2
def gr (E : gs_E) (k : Nat) : Value := .ref (gs_ad E k)
def gs_fv (E : gs_E) (row : Nat → Int) (j : Nat) (f : Option Nat) : Value := match f with
  | none => gi (row j)
  | some q => gr E q
def gs_tT : FieldType := .object "GapStations$Tape"
def gs_ent (E : gs_E) (row : Nat → Int) (sp : gs_Sp) : va_E := match sp with
  | .inl (ty, n) => .inl (gs_cA E ty, n, match ty with
    | .long => .inr (.inl fun j => Int64.ofInt (row j))
    | _ => .inl fun j => Int32.ofInt (row j))
  | .inr (.inl (ci, fs)) => .inr (ci, fs.mapIdx (gs_fv E row))
  | .inr (.inr (n, q)) => .inl (gs_cA E gs_tT, n, .inr (.inr (.inr (.inr fun j => if j < n then some (gs_ad E (q j)) else none))))
def gs_ws (E : gs_E) (σ : gs_Mem) : va_W := (List.range 79).map fun k => (gs_ad E k, gs_ent E (σ k) (SH k))
def gs_tys (E : gs_E) : List (ClassId × FieldType) := [(gs_cA E .int, .int), (gs_cA E .byte, .byte), (gs_cA E .boolean, .boolean), (gs_cA E .long, .long), (gs_cA E gs_tT, gs_tT)]
def gs_Ap (E : gs_E) : Prop := (∀ i j, i < 79 → j < 79 → gs_ad E i = gs_ad E j → i = j) ∧ ∀ i, i < 79 → gs_A E (gs_ad E i)
def gs_st (σ : gs_Mem) (r k : Nat) (x : Int) : gs_Mem := fun a j => if a = r ∧ j = k then x else σ a j
def gs_cp (σ : gs_Mem) (r1 sp r2 dp n : Nat) : gs_Mem := fun a j => if a = r2 ∧ dp ≤ j ∧ j < dp + n then σ r1 (sp + (j - dp)) else σ a j
theorem gs_ws_get (E : gs_E) (σ : gs_Mem) {k : Nat} (h : k < 79) : (gs_ws E σ)[k]? = some (gs_ad E k, gs_ent E (σ k) (SH k)) := by
  unfold gs_ws
  rw [List.getElem?_map, List.getElem?_range h]
  rfl
theorem gs_ws_len (E : gs_E) (σ : gs_Mem) : (gs_ws E σ).length = 79 := by simp [gs_ws]
theorem gs_ws_D {E : gs_E} (σ : gs_Mem) (h : gs_Ap E) : va_D (gs_A E) (gs_ws E σ) := by
  have key : ∀ (k : Nat) (q : Nat × va_E), (gs_ws E σ)[k]? = some q → k < 79 ∧ q.1 = gs_ad E k := by
    intro k q hk
    have hl : k < 79 := by rw [← gs_ws_len E σ]; exact (List.getElem?_eq_some_iff.mp hk).1
    rw [gs_ws_get E σ hl] at hk
    cases hk
    exact ⟨hl, rfl⟩
  refine ⟨fun i j p q hi hj e => ?_, fun k q hk => ?_⟩
  · obtain ⟨h1, e1⟩ := key i p hi
    obtain ⟨h2, e2⟩ := key j q hj
    exact h.1 i j h1 h2 (by rw [← e1, ← e2]; exact e)
  · obtain ⟨h1, e1⟩ := key k q hk
    rw [e1]
    exact h.2 k h1
/-- the world with one cell's row changed -/
theorem gs_ws_set {E : gs_E} {σ σ' : gs_Mem} {r : Nat} (hr : r < 79) (ho : ∀ a, a ≠ r → σ' a = σ a) {x : va_E} (hx : gs_ent E (σ' r) (SH r) = x) : (gs_ws E σ).set r (gs_ad E r, x) = gs_ws E σ' := by
  apply List.ext_getElem?
  intro k
  by_cases hk : k < 79
  · rw [gs_ws_get E σ' hk]
    by_cases e : k = r
    · subst e
      rw [List.getElem?_set_self (by rw [gs_ws_len]; exact hk), hx]
    · rw [List.getElem?_set_ne (Ne.symm e), gs_ws_get E σ hk, ho k e]
  · rw [List.getElem?_eq_none (by rw [List.length_set, gs_ws_len]; omega), List.getElem?_eq_none (by rw [gs_ws_len]; omega)]
theorem gs_st_o (σ : gs_Mem) (r k : Nat) (x : Int) : ∀ a, a ≠ r → gs_st σ r k x a = σ a := by
  intro a ha
  funext j
  simp [gs_st, ha]
theorem gs_cp_o (σ : gs_Mem) (r1 sp r2 dp n : Nat) : ∀ a, a ≠ r2 → gs_cp σ r1 sp r2 dp n a = σ a := by
  intro a ha
  funext j
  simp [gs_cp, ha]
theorem gs_st_s (σ : gs_Mem) (r k : Nat) (x : Int) (j : Nat) : gs_st σ r k x r j = if j = k then x else σ r j := by
  simp [gs_st]
/-! ===== a method's walk over the memory ===== -/
/-- code, locals, own class, room, return type, cells, slots, what else holds, the end -/
abbrev gs_M : Type := ByteArray × (Nat × (String × (Room × (Option FieldType × (Nat × (Nat × ((Array Value → State → Prop) × (Int → gs_Mem → List Frame → Array Value → State → State → Prop))))))))
def mM_cc (M : gs_M) : ByteArray := M.1
def mM_nL (M : gs_M) : Nat := M.2.1
def mM_own (M : gs_M) : String := M.2.2.1
def mM_R (M : gs_M) : Room := M.2.2.2.1
def mM_ret (M : gs_M) : Option FieldType := M.2.2.2.2.1
def mM_c (M : gs_M) : Nat := M.2.2.2.2.2.1
def mM_s (M : gs_M) : Nat := M.2.2.2.2.2.2.1
def mM_X (M : gs_M) : Array Value → State → Prop := M.2.2.2.2.2.2.2.1
def mM_Z (M : gs_M) : Int → gs_Mem → List Frame → Array Value → State → State → Prop := M.2.2.2.2.2.2.2.2
def gs_ctx (M : gs_M) (p : Program) (s : State) (m : MethodId) (args : Array Value) (meth : Method) (c : Code) : Prop :=
  p.tables.exec = Jvm.exec ∧ c.code = mM_cc M ∧ c.maxLocals = mM_nL M ∧ meth.sig.returnType = mM_ret M ∧ meth.locks = false ∧ s.vm.findClass (mM_own M) = some m.cls ∧ (∀ w ∈ WS, w.before args s = true) ∧ gs_NW s ∧ mM_X M args s
def gs_G (E : gs_E) (M : gs_M) (r : Int) (σ' : gs_Mem) (pc : Nat) (L : List (Nat × Value)) (S : List Value) (σ : gs_Mem) : Prop :=
  gs_Ap E → ∀ (p : Program) (e : Env) (s : State) (m : MethodId) (args : Array Value) (below : List Frame) (meth : Method) (c : Code) (H : Heap) (locs : List Loc) (ls : Array Slot),
    gs_ctx M p s m args meth c → va_K (gs_D E) vwCl (gs_tys E) s → va_P (gs_D E) vwCl (gs_ws E σ) H → va_S (gs_A E) s.heap H locs → lv_has ls (mM_nL M) L →
    W p (gs_l E) e (mM_R M) s m args below meth c H locs (mM_c M) (mM_s M) (mM_Z M r σ' below args s) (F0 m pc ls S)
/-- the answer o (none: nothing is said) is what the walk from here comes to -/
def gs_K {α : Type} (E : gs_E) (M : gs_M) (out : α → Int × gs_Mem) (o : Option α) (pc : Nat) (L : List (Nat × Value)) (S : List Value) (σ : gs_Mem) : Prop :=
  ∀ a, o = some a → gs_G E M (out a).1 (out a).2 pc L S σ
/-- the answer as a value: 0 an int, 1 a long, else none -/
def gs_rv (κ : Nat) (r : Int) : Option Value := match κ with
  | 0 => some (gi r)
  | 1 => some (gl r)
  | _ => none
def gs_B (E : gs_E) (σ : gs_Mem) (U : State) : Prop := va_P (gs_D E) vwCl (gs_ws E σ) U.heap ∧ va_K (gs_D E) vwCl (gs_tys E) U ∧ gs_NW U
def gs_Q (E : gs_E) (κ : Nat) (r : Int) (σ' : gs_Mem) : Array Value → State → Outcome → State → Prop := fun _ st oc t => oc = .returned (gs_rv κ r) ∧ gs_B E σ' t ∧ va_F (gs_A E) st t
/-- a method's contract: from the memory σ with these arguments it ends, with o's answer and memory -/
def gs_C {α : Type} (E : gs_E) (y : MethodName) (bytes : ByteArray) (maxL : Nat) (ret : Option FieldType) (κ : Nat) (rm : Room) (av : List Value) (σ : gs_Mem) (o : Option α) (out : α → Int × gs_Mem) : Prop :=
  gs_Ap E → ∀ a, o = some a → Met (gs_l E) y (Cond.code y bytes maxL ret :: WS) rm (va_Pc av (gs_B E σ)) (gs_Q E κ (out a).1 (out a).2) 0 0 (gs_A E)
/-- the walk's data of a method with a contract -/
def gs_MC (E : gs_E) (y : MethodName) (bytes : ByteArray) (maxL : Nat) (ret : Option FieldType) (κ : Nat) (rm : Room) : gs_M :=
  (bytes, maxL, y.cls, rm, ret, 0, 0, fun _ _ => True, fun r σ' below args s => MQ below (gs_Q E κ r σ') args s 0 0 (gs_A E))
set_option maxHeartbeats 4000000 in
/-- a contract out of a walk from the method's entry -/
theorem gs_enter {α : Type} {E : gs_E} {y : MethodName} {bytes : ByteArray} {maxL : Nat} {ret : Option FieldType} {κ : Nat} {rm : Room} {av : List Value} {σ : gs_Mem} {o : Option α} {out : α → Int × gs_Mem} (L : List (Nat × Value))
    (hy : plainName y.cls = true) (hc0 : rm.cells = 0) (hs0 : rm.slots = 0) (hlen : (lg_sl av).length ≤ maxL) (hL : lv_args 0 av = L)
    (h : gs_K E (gs_MC E y bytes maxL ret κ rm) out o 0 L [] σ) : gs_C E y bytes maxL ret κ rm av σ o out := by
  intro hE a ha
  have h := h a ha hE
  refine Met.ofW (cc := bytes) (maxL := maxL) (ret := ret) hy rfl ?_
  intro p e s m args below meth c s₁ B hml hv
  obtain ⟨rfl, hP, hK, hN⟩ := hv
  have hts := atoms_spec (ws := Cond.code y bytes maxL ret :: WS) B.pre
  have hl := lv_entry av (n := maxL) hlen
  rw [hL] at hl
  rw [lg_entry_eq]
  exact h p e s m _ below meth c s.heap [] _ ⟨B.exec, B.bytes, hml, B.returns, B.notSynchronized, findClass_of_methodNamed B.named, fun w hw => hts w (List.mem_cons_of_mem _ hw), hN, trivial⟩ hK hP va_S.rf hl
