theorem ol_of_i (x : Int) : (Int32.ofInt x).toInt64 = Int64.ofInt (gn x) := by
  apply Int64.toInt_inj.mp
  rw [Int32.toInt_toInt64, Int64.toInt_ofInt]
  have h := gn_rng x
  exact ((bm64 (gn x)).2 (by omega) (by omega)).symm
theorem oi_of_l (x : Int) : (Int64.ofInt x).toInt32 = Int32.ofInt x := by
  apply Int32.toInt_inj.mp
  rw [Int64.toInt_toInt32, Int64.toInt_ofInt, Int32.toInt_ofInt]
  exact Int.bmod_bmod_of_dvd (by decide)
theorem lg_gcmp (x y : Int) : lg_cmp (Int64.ofInt x) (Int64.ofInt y) = Int32.ofInt (gcmp x y) := by
  unfold lg_cmp gcmp
  have e1 : (Int64.ofInt x > Int64.ofInt y) ↔ gm y < gm x := Int64.lt_iff_toInt_lt
  by_cases h : gm y < gm x
  · rw [if_pos (e1.mpr h), if_pos h]; decide +kernel
  · rw [if_neg (fun q => h (e1.mp q)), if_neg h]
    by_cases h2 : gm x = gm y
    · rw [if_pos (ol_inj.mpr h2), if_pos h2]; decide +kernel
    · rw [if_neg (fun q => h2 (ol_inj.mp q)), if_neg h2]; decide +kernel
theorem ci_eq {x y : Int} : Int32.ofInt x = Int32.ofInt y ↔ gn x = gn y := oi_inj
theorem ci_ne {x y : Int} : Int32.ofInt x ≠ Int32.ofInt y ↔ ¬ gn x = gn y := not_congr oi_inj
theorem ci_lt {x y : Int} : Int32.ofInt x < Int32.ofInt y ↔ gn x < gn y := oi_lt
theorem ci_le {x y : Int} : Int32.ofInt x ≤ Int32.ofInt y ↔ gn x ≤ gn y := oi_le
theorem ci_ge {x y : Int} : Int32.ofInt y ≤ Int32.ofInt x ↔ gn y ≤ gn x := oi_le
theorem ci_gt {x y : Int} : Int32.ofInt y < Int32.ofInt x ↔ gn y < gn x := oi_lt
theorem c0_eq {x : Int} : Int32.ofInt x = 0 ↔ gn x = 0 := by rw [← oi_0, oi_inj, gn_0]
theorem c0_ne {x : Int} : Int32.ofInt x ≠ 0 ↔ ¬ gn x = 0 := not_congr c0_eq
theorem c0_lt {x : Int} : Int32.ofInt x < 0 ↔ gn x < 0 := by rw [← oi_0, oi_lt, gn_0]
theorem c0_le {x : Int} : Int32.ofInt x ≤ 0 ↔ gn x ≤ 0 := by rw [← oi_0, oi_le, gn_0]
theorem c0_ge {x : Int} : 0 ≤ Int32.ofInt x ↔ 0 ≤ gn x := by rw [← oi_0, oi_le, gn_0]
theorem c0_gt {x : Int} : 0 < Int32.ofInt x ↔ 0 < gn x := by rw [← oi_0, oi_lt, gn_0]
section GKrows
variable {α β : Type} {E : gs_E} {M : gs_M} {out : α → Int × gs_Mem} {o o1 o2 o' : Option α} {pc tgt : Nat} {L L' : List (Nat × Value)} {S S' : List Value} {σ : gs_Mem}
theorem gk_imp (h : ∀ a, o = some a → o' = some a) (k : gs_K E M out o' pc L S σ) : gs_K E M out o pc L S σ := fun a ha => k a (h a ha)
theorem gk_none : gs_K E M out none pc L S σ := fun a ha => by cases ha
/-- an instruction that keeps locals and memory -/
theorem gk_go {pc' : Nat}
    (h : ∀ (p : Program) (e : Env) (s : State) (m : MethodId) (args : Array Value) (below : List Frame) (meth : Method) (c : Code) (H : Heap) (locs : List Loc) (ls : Array Slot) (Q : State → Prop), gs_ctx M p s m args meth c → lv_has ls (mM_nL M) L →
      W p (gs_l E) e (mM_R M) s m args below meth c H locs (mM_c M) (mM_s M) Q (F0 m pc' ls S') → W p (gs_l E) e (mM_R M) s m args below meth c H locs (mM_c M) (mM_s M) Q (F0 m pc ls S))
    (k : gs_K E M out o pc' L S' σ) : gs_K E M out o pc L S σ :=
  fun a ha hE p e s m args below meth c H locs ls hc hK hP hS hl => h p e s m args below meth c H locs ls _ hc hl (k a ha hE p e s m args below meth c H locs ls hc hK hP hS hl)
/-- an instruction that changes the locals -/
theorem gk_goL {pc' : Nat}
    (h : ∀ (p : Program) (e : Env) (s : State) (m : MethodId) (args : Array Value) (below : List Frame) (meth : Method) (c : Code) (H : Heap) (locs : List Loc) (ls : Array Slot) (Q : State → Prop), gs_ctx M p s m args meth c → lv_has ls (mM_nL M) L →
      (∀ ls' : Array Slot, lv_has ls' (mM_nL M) L' → W p (gs_l E) e (mM_R M) s m args below meth c H locs (mM_c M) (mM_s M) Q (F0 m pc' ls' S')) → W p (gs_l E) e (mM_R M) s m args below meth c H locs (mM_c M) (mM_s M) Q (F0 m pc ls S))
    (k : gs_K E M out o pc' L' S' σ) : gs_K E M out o pc L S σ :=
  fun a ha hE p e s m args below meth c H locs ls hc hK hP hS hl => h p e s m args below meth c H locs ls _ hc hl (fun ls' hl' => k a ha hE p e s m args below meth c H locs ls' hc hK hP hS hl')
/-- an instruction that reads the memory -/
theorem gk_goR {pc' : Nat}
    (h : ∀ (p : Program) (e : Env) (s : State) (m : MethodId) (args : Array Value) (below : List Frame) (meth : Method) (c : Code) (H : Heap) (locs : List Loc) (ls : Array Slot) (Q : State → Prop), gs_ctx M p s m args meth c → va_K (gs_D E) vwCl (gs_tys E) s → va_P (gs_D E) vwCl (gs_ws E σ) H →
      W p (gs_l E) e (mM_R M) s m args below meth c H locs (mM_c M) (mM_s M) Q (F0 m pc' ls S') → W p (gs_l E) e (mM_R M) s m args below meth c H locs (mM_c M) (mM_s M) Q (F0 m pc ls S))
    (k : gs_K E M out o pc' L S' σ) : gs_K E M out o pc L S σ :=
  fun a ha hE p e s m args below meth c H locs ls hc hK hP hS hl => h p e s m args below meth c H locs ls _ hc hK hP (k a ha hE p e s m args below meth c H locs ls hc hK hP hS hl)
/-- an instruction that writes the memory -/
theorem gk_goW {pc' : Nat} {σ' : gs_Mem}
    (h : ∀ (p : Program) (e : Env) (s : State) (m : MethodId) (args : Array Value) (below : List Frame) (meth : Method) (c : Code) (H : Heap) (locs : List Loc) (ls : Array Slot) (Q : State → Prop), gs_ctx M p s m args meth c → va_K (gs_D E) vwCl (gs_tys E) s → va_P (gs_D E) vwCl (gs_ws E σ) H → va_D (gs_A E) (gs_ws E σ) → va_S (gs_A E) s.heap H locs → lv_has ls (mM_nL M) L →
      (∀ (H1 : Heap) (locs1 : List Loc), va_P (gs_D E) vwCl (gs_ws E σ') H1 → va_S (gs_A E) s.heap H1 locs1 → W p (gs_l E) e (mM_R M) s m args below meth c H1 locs1 (mM_c M) (mM_s M) Q (F0 m pc' ls S')) → W p (gs_l E) e (mM_R M) s m args below meth c H locs (mM_c M) (mM_s M) Q (F0 m pc ls S))
    (k : gs_K E M out o pc' L S' σ') : gs_K E M out o pc L S σ :=
  fun a ha hE p e s m args below meth c H locs ls hc hK hP hS hl => h p e s m args below meth c H locs ls _ hc hK hP (gs_ws_D σ hE) hS hl (fun H1 locs1 hP1 hS1 => k a ha hE p e s m args below meth c H1 locs1 ls hc hK hP1 hS1 hl)
/-- fewer locals, in any order -/
theorem gk_sub (ks : List Nat) (h : lv_pick L ks = L') (k : gs_K E M out o pc L' S σ) : gs_K E M out o pc L S σ :=
  fun a ha hE p e s m args below meth c H locs ls hc hK hP hS hl => k a ha hE p e s m args below meth c H locs ls hc hK hP hS (lv_sub hl ks h)
theorem gk_guard {P : Prop} [Decidable P] (k : P → gs_K E M out o pc L S σ) : gs_K E M out (if P then o else none) pc L S σ := by
  intro a ha
  by_cases h : P
  · rw [if_pos h] at ha; exact k h a ha
  · rw [if_neg h] at ha; cases ha
theorem gk_ite {P : Prop} [Decidable P] (k1 : P → gs_K E M out o1 pc L S σ) (k2 : ¬ P → gs_K E M out o2 pc L S σ) : gs_K E M out (if P then o1 else o2) pc L S σ := by
  intro a ha
  by_cases h : P
  · rw [if_pos h] at ha; exact k1 h a ha
  · rw [if_neg h] at ha; exact k2 h a ha

theorem gk_iconst {n : Int} (d : decode (mM_cc M) pc = .ok (.iconst n, 1)) (k : gs_K E M out o (pc + 1) L (gi n :: S) σ) : gs_K E M out o pc L S σ :=
  gk_go (fun p e s m args below meth c H locs ls Q hc hl kk => lv_iconst hc.1 hc.2.1 d rfl kk) k
theorem gk_bipush {n : Int} (d : decode (mM_cc M) pc = .ok (.bipush n, 2)) (hv : (Int8.ofInt n).toInt32 = Int32.ofInt n) (k : gs_K E M out o (pc + 2) L (gi n :: S) σ) : gs_K E M out o pc L S σ :=
  gk_go (fun p e s m args below meth c H locs ls Q hc hl kk => lv_bipush hc.1 hc.2.1 d hv kk) k
theorem gk_sipush {n : Int} (d : decode (mM_cc M) pc = .ok (.sipush n, 3)) (hv : (Int16.ofInt n).toInt32 = Int32.ofInt n) (k : gs_K E M out o (pc + 3) L (gi n :: S) σ) : gs_K E M out o pc L S σ :=
  gk_go (fun p e s m args below meth c H locs ls Q hc hl kk => lv_sipush hc.1 hc.2.1 d hv kk) k
theorem gk_lconst {n : Fin 2} {x : Int} (d : decode (mM_cc M) pc = .ok (.lconst n, 1)) (hv : Int64.ofNat (n : Nat) = Int64.ofInt x) (k : gs_K E M out o (pc + 1) L (gl x :: S) σ) : gs_K E M out o pc L S σ :=
  gk_go (fun p e s m args below meth c H locs ls Q hc hl kk => lv_lconst hc.1 hc.2.1 d hv kk) k
theorem gk_ldc2 {index : Nat} {x : Int} {v : Int64} {own : String} (ho : mM_own M = own) (d : decode (mM_cc M) pc = .ok (.ldc2_w index, 3)) (hw : Cond.constantLong own index v ∈ WS) (hv : v = Int64.ofInt x) (k : gs_K E M out o (pc + 3) L (gl x :: S) σ) : gs_K E M out o pc L S σ :=
  gk_go (fun p e s m args below meth c H locs ls Q hc hl kk => by subst ho; subst hv; exact lv_ldc2 hc.1 hc.2.1 hc.2.2.2.2.2.1 (hc.2.2.2.2.2.2.1 _ hw) d kk) k
theorem gk_ldc {index : Nat} {x : Int} {v : Int32} {own : String} (ho : mM_own M = own) (d : decode (mM_cc M) pc = .ok (.ldc index, 2)) (hw : Cond.constant own index v ∈ WS) (hv : v = Int32.ofInt x) (k : gs_K E M out o (pc + 2) L (gi x :: S) σ) : gs_K E M out o pc L S σ :=
  gk_go (fun p e s m args below meth c H locs ls Q hc hl kk => by subst ho; subst hv; exact lv_ldc hc.1 hc.2.1 hc.2.2.2.2.2.1 (hc.2.2.2.2.2.2.1 _ hw) d kk) k
theorem gk_ldcw {index : Nat} {x : Int} {v : Int32} {own : String} (ho : mM_own M = own) (d : decode (mM_cc M) pc = .ok (.ldc_w index, 3)) (hw : Cond.constant own index v ∈ WS) (hv : v = Int32.ofInt x) (k : gs_K E M out o (pc + 3) L (gi x :: S) σ) : gs_K E M out o pc L S σ :=
  gk_go (fun p e s m args below meth c H locs ls Q hc hl kk => by subst ho; subst hv; exact lv_ldcw hc.1 hc.2.1 hc.2.2.2.2.2.1 (hc.2.2.2.2.2.2.1 _ hw) d kk) k
theorem gk_iload_n {n : Fin 4} {x : Int} (j : Nat) (d : decode (mM_cc M) pc = .ok (.iload_n n, 1)) (hj : L[j]? = some ((n : Nat), gi x)) (k : gs_K E M out o (pc + 1) L (gi x :: S) σ) : gs_K E M out o pc L S σ :=
  gk_go (fun p e s m args below meth c H locs ls Q hc hl kk => lv_iload_n hc.1 hc.2.1 d rfl (lv_at hl j hj) kk) k
theorem gk_iload {i : Nat} {x : Int} (j : Nat) (d : decode (mM_cc M) pc = .ok (.iload i, 2)) (hj : L[j]? = some (i, gi x)) (k : gs_K E M out o (pc + 2) L (gi x :: S) σ) : gs_K E M out o pc L S σ :=
  gk_go (fun p e s m args below meth c H locs ls Q hc hl kk => lv_iload hc.1 hc.2.1 d (lv_at hl j hj) kk) k
theorem gk_lload_n {n : Fin 4} {x : Int} (j : Nat) (d : decode (mM_cc M) pc = .ok (.lload_n n, 1)) (hj : L[j]? = some ((n : Nat), gl x)) (k : gs_K E M out o (pc + 1) L (gl x :: S) σ) : gs_K E M out o pc L S σ :=
  gk_go (fun p e s m args below meth c H locs ls Q hc hl kk => lv_lload_n hc.1 hc.2.1 d rfl (lv_at hl j hj) kk) k
theorem gk_lload {i : Nat} {x : Int} (j : Nat) (d : decode (mM_cc M) pc = .ok (.lload i, 2)) (hj : L[j]? = some (i, gl x)) (k : gs_K E M out o (pc + 2) L (gl x :: S) σ) : gs_K E M out o pc L S σ :=
  gk_go (fun p e s m args below meth c H locs ls Q hc hl kk => lv_lload hc.1 hc.2.1 d (lv_at hl j hj) kk) k
theorem gk_aload_n {n : Fin 4} {x : Nat} (j : Nat) (d : decode (mM_cc M) pc = .ok (.aload_n n, 1)) (hj : L[j]? = some ((n : Nat), gr E x)) (k : gs_K E M out o (pc + 1) L (gr E x :: S) σ) : gs_K E M out o pc L S σ :=
  gk_go (fun p e s m args below meth c H locs ls Q hc hl kk => lv_aload_n hc.1 hc.2.1 d rfl (lv_at hl j hj) kk) k
theorem gk_aload {i : Nat} {x : Nat} (j : Nat) (d : decode (mM_cc M) pc = .ok (.aload i, 2)) (hj : L[j]? = some (i, gr E x)) (k : gs_K E M out o (pc + 2) L (gr E x :: S) σ) : gs_K E M out o pc L S σ :=
  gk_go (fun p e s m args below meth c H locs ls Q hc hl kk => lv_aload hc.1 hc.2.1 d (lv_at hl j hj) kk) k
theorem gk_istore_n {n : Fin 4} {x : Int} (d : decode (mM_cc M) pc = .ok (.istore_n n, 1)) (hn : (n : Nat) < mM_nL M) (hL : ((n : Nat), gi x) :: L.filter (fun q => !(q.1 == (n : Nat)) && !(q.1 + 1 == (n : Nat) && q.2.category == 2)) = L') (k : gs_K E M out o (pc + 1) L' S σ) : gs_K E M out o pc L (gi x :: S) σ :=
  gk_goL (fun p e s m args below meth c H locs ls Q hc hl kk => lv_istore_n hc.1 hc.2.1 d rfl hl hn hL kk) k
theorem gk_istore {i : Nat} {x : Int} (d : decode (mM_cc M) pc = .ok (.istore i, 2)) (hn : i < mM_nL M) (hL : (i, gi x) :: L.filter (fun q => !(q.1 == i) && !(q.1 + 1 == i && q.2.category == 2)) = L') (k : gs_K E M out o (pc + 2) L' S σ) : gs_K E M out o pc L (gi x :: S) σ :=
  gk_goL (fun p e s m args below meth c H locs ls Q hc hl kk => lv_istore hc.1 hc.2.1 d hl hn hL kk) k
theorem gk_astore_n {n : Fin 4} {x : Nat} (d : decode (mM_cc M) pc = .ok (.astore_n n, 1)) (hn : (n : Nat) < mM_nL M) (hL : ((n : Nat), gr E x) :: L.filter (fun q => !(q.1 == (n : Nat)) && !(q.1 + 1 == (n : Nat) && q.2.category == 2)) = L') (k : gs_K E M out o (pc + 1) L' S σ) : gs_K E M out o pc L (gr E x :: S) σ :=
  gk_goL (fun p e s m args below meth c H locs ls Q hc hl kk => lv_astore_n hc.1 hc.2.1 d rfl hl hn hL kk) k
theorem gk_astore {i : Nat} {x : Nat} (d : decode (mM_cc M) pc = .ok (.astore i, 2)) (hn : i < mM_nL M) (hL : (i, gr E x) :: L.filter (fun q => !(q.1 == i) && !(q.1 + 1 == i && q.2.category == 2)) = L') (k : gs_K E M out o (pc + 2) L' S σ) : gs_K E M out o pc L (gr E x :: S) σ :=
  gk_goL (fun p e s m args below meth c H locs ls Q hc hl kk => lv_astore hc.1 hc.2.1 d hl hn hL kk) k
theorem gk_lstore_n {n : Fin 4} {x : Int} (d : decode (mM_cc M) pc = .ok (.lstore_n n, 1)) (hn : (n : Nat) + 1 < mM_nL M) (hL : ((n : Nat), gl x) :: L.filter (fun q => !(q.1 == (n : Nat)) && (!(q.1 == (n : Nat) + 1) && !(q.1 + 1 == (n : Nat) && q.2.category == 2))) = L') (k : gs_K E M out o (pc + 1) L' S σ) : gs_K E M out o pc L (gl x :: S) σ :=
  gk_goL (fun p e s m args below meth c H locs ls Q hc hl kk => lv_lstore_n hc.1 hc.2.1 d rfl hl hn hL kk) k
theorem gk_lstore {i : Nat} {x : Int} (d : decode (mM_cc M) pc = .ok (.lstore i, 2)) (hn : i + 1 < mM_nL M) (hL : (i, gl x) :: L.filter (fun q => !(q.1 == i) && (!(q.1 == i + 1) && !(q.1 + 1 == i && q.2.category == 2))) = L') (k : gs_K E M out o (pc + 2) L' S σ) : gs_K E M out o pc L (gl x :: S) σ :=
  gk_goL (fun p e s m args below meth c H locs ls Q hc hl kk => lv_lstore hc.1 hc.2.1 d hl hn hL kk) k
theorem gk_iinc {i : Nat} {n x : Int} (j : Nat) (d : decode (mM_cc M) pc = .ok (.iinc i n, 3)) (hj : L[j]? = some (i, gi x)) (hn : i < mM_nL M) (hL : (i, gi (x + n)) :: L.filter (fun q => !(q.1 == i) && !(q.1 + 1 == i && q.2.category == 2)) = L') (k : gs_K E M out o (pc + 3) L' S σ) : gs_K E M out o pc L S σ :=
  gk_goL (fun p e s m args below meth c H locs ls Q hc hl kk => lv_iinc hc.1 hc.2.1 d hl hj (oi_add x n) hn hL kk) k
theorem gk_iadd {x y : Int} (d : decode (mM_cc M) pc = .ok (.iadd, 1)) (k : gs_K E M out o (pc + 1) L (gi (x + y) :: S) σ) : gs_K E M out o pc L (gi y :: gi x :: S) σ :=
  gk_go (fun p e s m args below meth c H locs ls Q hc hl kk => lv_iadd hc.1 hc.2.1 d (by rw [oi_add]; exact kk)) k
theorem gk_isub {x y : Int} (d : decode (mM_cc M) pc = .ok (.isub, 1)) (k : gs_K E M out o (pc + 1) L (gi (x - y) :: S) σ) : gs_K E M out o pc L (gi y :: gi x :: S) σ :=
  gk_go (fun p e s m args below meth c H locs ls Q hc hl kk => lv_isub hc.1 hc.2.1 d (by rw [oi_sub]; exact kk)) k
theorem gk_imul {x y : Int} (d : decode (mM_cc M) pc = .ok (.imul, 1)) (k : gs_K E M out o (pc + 1) L (gi (x * y) :: S) σ) : gs_K E M out o pc L (gi y :: gi x :: S) σ :=
  gk_go (fun p e s m args below meth c H locs ls Q hc hl kk => lv_imul hc.1 hc.2.1 d (by rw [oi_mul]; exact kk)) k
theorem gk_iand {x y : Int} (d : decode (mM_cc M) pc = .ok (.iand, 1)) (k : gs_K E M out o (pc + 1) L (gi (gand x y) :: S) σ) : gs_K E M out o pc L (gi y :: gi x :: S) σ :=
  gk_go (fun p e s m args below meth c H locs ls Q hc hl kk => lv_iand hc.1 hc.2.1 d (by unfold gi gand at kk; rw [oi_toInt] at kk; exact kk)) k
theorem gk_ior {x y : Int} (d : decode (mM_cc M) pc = .ok (.ior, 1)) (k : gs_K E M out o (pc + 1) L (gi (gor x y) :: S) σ) : gs_K E M out o pc L (gi y :: gi x :: S) σ :=
  gk_go (fun p e s m args below meth c H locs ls Q hc hl kk => lv_ior hc.1 hc.2.1 d (by unfold gi gor at kk; rw [oi_toInt] at kk; exact kk)) k
theorem gk_ixor {x y : Int} (d : decode (mM_cc M) pc = .ok (.ixor, 1)) (k : gs_K E M out o (pc + 1) L (gi (gxor x y) :: S) σ) : gs_K E M out o pc L (gi y :: gi x :: S) σ :=
  gk_go (fun p e s m args below meth c H locs ls Q hc hl kk => lv_ixor hc.1 hc.2.1 d (by unfold gi gxor at kk; rw [oi_toInt] at kk; exact kk)) k
theorem gk_ishl {x y : Int} (d : decode (mM_cc M) pc = .ok (.ishl, 1)) (k : gs_K E M out o (pc + 1) L (gi (gshl x y) :: S) σ) : gs_K E M out o pc L (gi y :: gi x :: S) σ :=
  gk_go (fun p e s m args below meth c H locs ls Q hc hl kk => lv_ishl hc.1 hc.2.1 d (by unfold gi gshl at kk; rw [oi_toInt] at kk; exact kk)) k
theorem gk_ishr {x y : Int} (d : decode (mM_cc M) pc = .ok (.ishr, 1)) (k : gs_K E M out o (pc + 1) L (gi (gshr x y) :: S) σ) : gs_K E M out o pc L (gi y :: gi x :: S) σ :=
  gk_go (fun p e s m args below meth c H locs ls Q hc hl kk => lv_ishr hc.1 hc.2.1 d (by unfold gi gshr at kk; rw [oi_toInt] at kk; exact kk)) k
theorem gk_iushr {x y : Int} (d : decode (mM_cc M) pc = .ok (.iushr, 1)) (k : gs_K E M out o (pc + 1) L (gi (gushr x y) :: S) σ) : gs_K E M out o pc L (gi y :: gi x :: S) σ :=
  gk_go (fun p e s m args below meth c H locs ls Q hc hl kk => lv_iushr hc.1 hc.2.1 d (oi_toInt _).symm kk) k
theorem gk_ineg {x : Int} (d : decode (mM_cc M) pc = .ok (.ineg, 1)) (k : gs_K E M out o (pc + 1) L (gi (0 - x) :: S) σ) : gs_K E M out o pc L (gi x :: S) σ :=
  gk_go (fun p e s m args below meth c H locs ls Q hc hl kk => lv_ineg hc.1 hc.2.1 d (by unfold gi at kk; rw [← oi_sub, oi_0] at kk; exact kk)) k
theorem gk_idiv {x y : Int} (d : decode (mM_cc M) pc = .ok (.idiv, 1)) (h0 : ¬ gn y = 0) (k : gs_K E M out o (pc + 1) L (gi (gdiv x y) :: S) σ) : gs_K E M out o pc L (gi y :: gi x :: S) σ :=
  gk_go (fun p e s m args below meth c H locs ls Q hc hl kk => lv_idiv hc.1 hc.2.1 d (fun q => h0 (by rw [← oi_0, oi_inj, gn_0] at q; exact q)) (by unfold gi gdiv at kk; rw [oi_toInt] at kk; exact kk)) k
theorem gk_irem {x y : Int} (d : decode (mM_cc M) pc = .ok (.irem, 1)) (h0 : ¬ gn y = 0) (k : gs_K E M out o (pc + 1) L (gi (grem x y) :: S) σ) : gs_K E M out o pc L (gi y :: gi x :: S) σ :=
  gk_go (fun p e s m args below meth c H locs ls Q hc hl kk => lv_irem hc.1 hc.2.1 d (fun q => h0 (by rw [← oi_0, oi_inj, gn_0] at q; exact q)) (by unfold gi grem at kk; rw [oi_toInt] at kk; exact kk)) k
theorem gm_0 : gm 0 = 0 := by decide +kernel
theorem ol_0 : Int64.ofInt 0 = 0 := by decide +kernel
theorem gk_ldiv {x y : Int} (d : decode (mM_cc M) pc = .ok (.ldiv, 1)) (h0 : ¬ gm y = 0) (k : gs_K E M out o (pc + 1) L (gl (gldiv x y) :: S) σ) : gs_K E M out o pc L (gl y :: gl x :: S) σ :=
  gk_go (fun p e s m args below meth c H locs ls Q hc hl kk => lv_ldiv hc.1 hc.2.1 d (fun q => h0 (by rw [← ol_0, ol_inj, gm_0] at q; exact q)) (by unfold gl gldiv at kk; rw [ol_toInt] at kk; exact kk)) k
theorem gk_lrem {x y : Int} (d : decode (mM_cc M) pc = .ok (.lrem, 1)) (h0 : ¬ gm y = 0) (k : gs_K E M out o (pc + 1) L (gl (glrem x y) :: S) σ) : gs_K E M out o pc L (gl y :: gl x :: S) σ :=
  gk_go (fun p e s m args below meth c H locs ls Q hc hl kk => lv_lrem hc.1 hc.2.1 d (fun q => h0 (by rw [← ol_0, ol_inj, gm_0] at q; exact q)) (by unfold gl glrem at kk; rw [ol_toInt] at kk; exact kk)) k
theorem gk_ladd {x y : Int} (d : decode (mM_cc M) pc = .ok (.ladd, 1)) (k : gs_K E M out o (pc + 1) L (gl (x + y) :: S) σ) : gs_K E M out o pc L (gl y :: gl x :: S) σ :=
  gk_go (fun p e s m args below meth c H locs ls Q hc hl kk => lv_ladd hc.1 hc.2.1 d (by rw [ol_add]; exact kk)) k
theorem gk_lsub {x y : Int} (d : decode (mM_cc M) pc = .ok (.lsub, 1)) (k : gs_K E M out o (pc + 1) L (gl (x - y) :: S) σ) : gs_K E M out o pc L (gl y :: gl x :: S) σ :=
  gk_go (fun p e s m args below meth c H locs ls Q hc hl kk => lv_lsub hc.1 hc.2.1 d (by rw [ol_sub]; exact kk)) k
theorem gk_lmul {x y : Int} (d : decode (mM_cc M) pc = .ok (.lmul, 1)) (k : gs_K E M out o (pc + 1) L (gl (x * y) :: S) σ) : gs_K E M out o pc L (gl y :: gl x :: S) σ :=
  gk_go (fun p e s m args below meth c H locs ls Q hc hl kk => lv_lmul hc.1 hc.2.1 d (by rw [ol_mul]; exact kk)) k
theorem gk_land {x y : Int} (d : decode (mM_cc M) pc = .ok (.land, 1)) (k : gs_K E M out o (pc + 1) L (gl (gland x y) :: S) σ) : gs_K E M out o pc L (gl y :: gl x :: S) σ :=
  gk_go (fun p e s m args below meth c H locs ls Q hc hl kk => lv_land hc.1 hc.2.1 d (by unfold gl gland at kk; rw [ol_toInt] at kk; exact kk)) k
theorem gk_lor {x y : Int} (d : decode (mM_cc M) pc = .ok (.lor, 1)) (k : gs_K E M out o (pc + 1) L (gl (glor x y) :: S) σ) : gs_K E M out o pc L (gl y :: gl x :: S) σ :=
  gk_go (fun p e s m args below meth c H locs ls Q hc hl kk => lv_lor hc.1 hc.2.1 d (by unfold gl glor at kk; rw [ol_toInt] at kk; exact kk)) k
theorem gk_lshl {x y : Int} (d : decode (mM_cc M) pc = .ok (.lshl, 1)) (k : gs_K E M out o (pc + 1) L (gl (glshl x y) :: S) σ) : gs_K E M out o pc L (gi y :: gl x :: S) σ :=
  gk_go (fun p e s m args below meth c H locs ls Q hc hl kk => lv_lshl hc.1 hc.2.1 d (ol_toInt _).symm kk) k
theorem gk_i2l {x : Int} (d : decode (mM_cc M) pc = .ok (.i2l, 1)) (k : gs_K E M out o (pc + 1) L (gl (gn x) :: S) σ) : gs_K E M out o pc L (gi x :: S) σ :=
  gk_go (fun p e s m args below meth c H locs ls Q hc hl kk => lv_i2l hc.1 hc.2.1 d (ol_of_i x) kk) k
theorem gk_l2i {x : Int} (d : decode (mM_cc M) pc = .ok (.l2i, 1)) (k : gs_K E M out o (pc + 1) L (gi x :: S) σ) : gs_K E M out o pc L (gl x :: S) σ :=
  gk_go (fun p e s m args below meth c H locs ls Q hc hl kk => lv_l2i hc.1 hc.2.1 d (oi_of_l x) kk) k
theorem gk_i2b {x : Int} (d : decode (mM_cc M) pc = .ok (.i2b, 1)) (k : gs_K E M out o (pc + 1) L (gi (gb x) :: S) σ) : gs_K E M out o pc L (gi x :: S) σ :=
  gk_go (fun p e s m args below meth c H locs ls Q hc hl kk => lv_i2b hc.1 hc.2.1 d (oi_toInt _).symm kk) k
theorem gk_i2s {x : Int} (d : decode (mM_cc M) pc = .ok (.i2s, 1)) (k : gs_K E M out o (pc + 1) L (gi (gsh x) :: S) σ) : gs_K E M out o pc L (gi x :: S) σ :=
  gk_go (fun p e s m args below meth c H locs ls Q hc hl kk => lv_i2s hc.1 hc.2.1 d (oi_toInt _).symm kk) k
theorem gk_lcmp {x y : Int} (d : decode (mM_cc M) pc = .ok (.lcmp, 1)) (k : gs_K E M out o (pc + 1) L (gi (gcmp x y) :: S) σ) : gs_K E M out o pc L (gl y :: gl x :: S) σ :=
  gk_go (fun p e s m args below meth c H locs ls Q hc hl kk => W.lcmp hc.1 hc.2.1 d (by rw [lg_gcmp]; exact kk)) k
theorem gk_dup {v : Value} (d : decode (mM_cc M) pc = .ok (.dup, 1)) (hv : v.category = 1) (k : gs_K E M out o (pc + 1) L (v :: v :: S) σ) : gs_K E M out o pc L (v :: S) σ :=
  gk_go (fun p e s m args below meth c H locs ls Q hc hl kk => lv_dup hc.1 hc.2.1 d hv kk) k
theorem gk_dup2 {v u : Value} (d : decode (mM_cc M) pc = .ok (.dup2, 1)) (hv : v.category = 1) (hu : u.category = 1) (k : gs_K E M out o (pc + 1) L (v :: u :: v :: u :: S) σ) : gs_K E M out o pc L (v :: u :: S) σ :=
  gk_go (fun p e s m args below meth c H locs ls Q hc hl kk => lv_dup2_11 hc.1 hc.2.1 d hv hu kk) k
theorem gk_pop {v : Value} (d : decode (mM_cc M) pc = .ok (.pop, 1)) (hv : v.category = 1) (k : gs_K E M out o (pc + 1) L S σ) : gs_K E M out o pc L (v :: S) σ :=
  gk_go (fun p e s m args below meth c H locs ls Q hc hl kk => lv_pop hc.1 hc.2.1 d hv kk) k
theorem gk_goto {off : Int} (d : decode (mM_cc M) pc = .ok (.goto off, 3)) (ht : (pc : Int) + off = (tgt : Int)) (k : gs_K E M out o tgt L S σ) : gs_K E M out o pc L S σ :=
  gk_go (fun p e s m args below meth c H locs ls Q hc hl kk => lv_goto hc.1 hc.2.1 d ht kk) k
/-- a branch: both ways -/
theorem gk_br {P : Prop} [Decidable P] {pc2 : Nat} {S0 : List Value}
    (h : ∀ (p : Program) (e : Env) (s : State) (m : MethodId) (args : Array Value) (below : List Frame) (meth : Method) (c : Code) (H : Heap) (locs : List Loc) (ls : Array Slot) (Q : State → Prop), gs_ctx M p s m args meth c →
      (P → W p (gs_l E) e (mM_R M) s m args below meth c H locs (mM_c M) (mM_s M) Q (F0 m tgt ls S)) → (¬ P → W p (gs_l E) e (mM_R M) s m args below meth c H locs (mM_c M) (mM_s M) Q (F0 m pc2 ls S)) → W p (gs_l E) e (mM_R M) s m args below meth c H locs (mM_c M) (mM_s M) Q (F0 m pc ls S0))
    (k1 : gs_K E M out o1 tgt L S σ) (k2 : gs_K E M out o2 pc2 L S σ) : gs_K E M out (if P then o1 else o2) pc L S0 σ := by
  intro a ha hE p e s m args below meth c H locs ls hc hK hP hS hl
  refine h p e s m args below meth c H locs ls _ hc (fun q => ?_) (fun q => ?_)
  · rw [if_pos q] at ha
    exact k1 a ha hE p e s m args below meth c H locs ls hc hK hP hS hl
  · rw [if_neg q] at ha
    exact k2 a ha hE p e s m args below meth c H locs ls hc hK hP hS hl
/-- a branch on 'unequal': the condition is said as 'equal' -/
theorem gk_brn {P : Prop} [Decidable P] {pc2 : Nat} {S0 : List Value}
    (h : ∀ (p : Program) (e : Env) (s : State) (m : MethodId) (args : Array Value) (below : List Frame) (meth : Method) (c : Code) (H : Heap) (locs : List Loc) (ls : Array Slot) (Q : State → Prop), gs_ctx M p s m args meth c →
      (¬ P → W p (gs_l E) e (mM_R M) s m args below meth c H locs (mM_c M) (mM_s M) Q (F0 m tgt ls S)) → (P → W p (gs_l E) e (mM_R M) s m args below meth c H locs (mM_c M) (mM_s M) Q (F0 m pc2 ls S)) → W p (gs_l E) e (mM_R M) s m args below meth c H locs (mM_c M) (mM_s M) Q (F0 m pc ls S0))
    (k1 : gs_K E M out o1 tgt L S σ) (k2 : gs_K E M out o2 pc2 L S σ) : gs_K E M out (if P then o2 else o1) pc L S0 σ := by
  intro a ha hE p e s m args below meth c H locs ls hc hK hP hS hl
  refine h p e s m args below meth c H locs ls _ hc (fun q => ?_) (fun q => ?_)
  · rw [if_neg q] at ha
    exact k1 a ha hE p e s m args below meth c H locs ls hc hK hP hS hl
  · rw [if_pos q] at ha
    exact k2 a ha hE p e s m args below meth c H locs ls hc hK hP hS hl
theorem gk_icmp_ne {off : Int} {x y x' y' : Int} (d : decode (mM_cc M) pc = .ok (.if_icmp .ne off, 3)) (ht : (pc : Int) + off = (tgt : Int)) (hx : gn x = x') (hy : gn y = y') (k1 : gs_K E M out o1 tgt L S σ) (k2 : gs_K E M out o2 (pc + 3) L S σ) : gs_K E M out (if x' = y' then o2 else o1) pc L (gi y :: gi x :: S) σ := by
  subst hx; subst hy
  exact gk_brn (fun p e s m args below meth c H locs ls Q hc kt kf => lv_icmp_ne hc.1 hc.2.1 d ht (fun q => kt (fun z => q (ci_eq.mpr z))) (fun q => kf (ci_eq.mp q))) k1 k2
theorem gk_if_ne {off : Int} {x x' : Int} (d : decode (mM_cc M) pc = .ok (.ifCond .ne off, 3)) (ht : (pc : Int) + off = (tgt : Int)) (hx : gn x = x') (k1 : gs_K E M out o1 tgt L S σ) (k2 : gs_K E M out o2 (pc + 3) L S σ) : gs_K E M out (if x' = 0 then o2 else o1) pc L (gi x :: S) σ := by
  subst hx
  exact gk_brn (fun p e s m args below meth c H locs ls Q hc kt kf => lv_if_ne hc.1 hc.2.1 d ht (fun q => kt (fun z => q (c0_eq.mpr z))) (fun q => kf (c0_eq.mp q))) k1 k2
theorem gk_icmp_eq {off : Int} {x y x' y' : Int} (d : decode (mM_cc M) pc = .ok (.if_icmp .eq off, 3)) (ht : (pc : Int) + off = (tgt : Int)) (hx : gn x = x') (hy : gn y = y') (k1 : gs_K E M out o1 tgt L S σ) (k2 : gs_K E M out o2 (pc + 3) L S σ) : gs_K E M out (if x' = y' then o1 else o2) pc L (gi y :: gi x :: S) σ := by
  subst hx; subst hy
  exact gk_br (fun p e s m args below meth c H locs ls Q hc kt kf => lv_icmp_eq hc.1 hc.2.1 d ht (fun q => kt (ci_eq.mp q)) (fun q => kf (fun z => q (ci_eq.mpr z)))) k1 k2
theorem gk_if_eq {off : Int} {x x' : Int} (d : decode (mM_cc M) pc = .ok (.ifCond .eq off, 3)) (ht : (pc : Int) + off = (tgt : Int)) (hx : gn x = x') (k1 : gs_K E M out o1 tgt L S σ) (k2 : gs_K E M out o2 (pc + 3) L S σ) : gs_K E M out (if x' = 0 then o1 else o2) pc L (gi x :: S) σ := by
  subst hx
  exact gk_br (fun p e s m args below meth c H locs ls Q hc kt kf => lv_if_eq hc.1 hc.2.1 d ht (fun q => kt (c0_eq.mp q)) (fun q => kf (fun z => q (c0_eq.mpr z)))) k1 k2
theorem gk_icmp_lt {off : Int} {x y x' y' : Int} (d : decode (mM_cc M) pc = .ok (.if_icmp .lt off, 3)) (ht : (pc : Int) + off = (tgt : Int)) (hx : gn x = x') (hy : gn y = y') (k1 : gs_K E M out o1 tgt L S σ) (k2 : gs_K E M out o2 (pc + 3) L S σ) : gs_K E M out (if x' < y' then o1 else o2) pc L (gi y :: gi x :: S) σ := by
  subst hx; subst hy
  exact gk_br (fun p e s m args below meth c H locs ls Q hc kt kf => lv_icmp_lt hc.1 hc.2.1 d ht (fun q => kt (ci_lt.mp q)) (fun q => kf (fun z => q (ci_lt.mpr z)))) k1 k2
theorem gk_if_lt {off : Int} {x x' : Int} (d : decode (mM_cc M) pc = .ok (.ifCond .lt off, 3)) (ht : (pc : Int) + off = (tgt : Int)) (hx : gn x = x') (k1 : gs_K E M out o1 tgt L S σ) (k2 : gs_K E M out o2 (pc + 3) L S σ) : gs_K E M out (if x' < 0 then o1 else o2) pc L (gi x :: S) σ := by
  subst hx
  exact gk_br (fun p e s m args below meth c H locs ls Q hc kt kf => lv_if_lt hc.1 hc.2.1 d ht (fun q => kt (c0_lt.mp q)) (fun q => kf (fun z => q (c0_lt.mpr z)))) k1 k2
theorem gk_icmp_ge {off : Int} {x y x' y' : Int} (d : decode (mM_cc M) pc = .ok (.if_icmp .ge off, 3)) (ht : (pc : Int) + off = (tgt : Int)) (hx : gn x = x') (hy : gn y = y') (k1 : gs_K E M out o1 tgt L S σ) (k2 : gs_K E M out o2 (pc + 3) L S σ) : gs_K E M out (if y' ≤ x' then o1 else o2) pc L (gi y :: gi x :: S) σ := by
  subst hx; subst hy
  exact gk_br (fun p e s m args below meth c H locs ls Q hc kt kf => lv_icmp_ge hc.1 hc.2.1 d ht (fun q => kt (ci_ge.mp q)) (fun q => kf (fun z => q (ci_ge.mpr z)))) k1 k2
theorem gk_if_ge {off : Int} {x x' : Int} (d : decode (mM_cc M) pc = .ok (.ifCond .ge off, 3)) (ht : (pc : Int) + off = (tgt : Int)) (hx : gn x = x') (k1 : gs_K E M out o1 tgt L S σ) (k2 : gs_K E M out o2 (pc + 3) L S σ) : gs_K E M out (if 0 ≤ x' then o1 else o2) pc L (gi x :: S) σ := by
  subst hx
  exact gk_br (fun p e s m args below meth c H locs ls Q hc kt kf => lv_if_ge hc.1 hc.2.1 d ht (fun q => kt (c0_ge.mp q)) (fun q => kf (fun z => q (c0_ge.mpr z)))) k1 k2
theorem gk_icmp_gt {off : Int} {x y x' y' : Int} (d : decode (mM_cc M) pc = .ok (.if_icmp .gt off, 3)) (ht : (pc : Int) + off = (tgt : Int)) (hx : gn x = x') (hy : gn y = y') (k1 : gs_K E M out o1 tgt L S σ) (k2 : gs_K E M out o2 (pc + 3) L S σ) : gs_K E M out (if y' < x' then o1 else o2) pc L (gi y :: gi x :: S) σ := by
  subst hx; subst hy
  exact gk_br (fun p e s m args below meth c H locs ls Q hc kt kf => lv_icmp_gt hc.1 hc.2.1 d ht (fun q => kt (ci_gt.mp q)) (fun q => kf (fun z => q (ci_gt.mpr z)))) k1 k2
theorem gk_if_gt {off : Int} {x x' : Int} (d : decode (mM_cc M) pc = .ok (.ifCond .gt off, 3)) (ht : (pc : Int) + off = (tgt : Int)) (hx : gn x = x') (k1 : gs_K E M out o1 tgt L S σ) (k2 : gs_K E M out o2 (pc + 3) L S σ) : gs_K E M out (if 0 < x' then o1 else o2) pc L (gi x :: S) σ := by
  subst hx
  exact gk_br (fun p e s m args below meth c H locs ls Q hc kt kf => lv_if_gt hc.1 hc.2.1 d ht (fun q => kt (c0_gt.mp q)) (fun q => kf (fun z => q (c0_gt.mpr z)))) k1 k2
theorem gk_icmp_le {off : Int} {x y x' y' : Int} (d : decode (mM_cc M) pc = .ok (.if_icmp .le off, 3)) (ht : (pc : Int) + off = (tgt : Int)) (hx : gn x = x') (hy : gn y = y') (k1 : gs_K E M out o1 tgt L S σ) (k2 : gs_K E M out o2 (pc + 3) L S σ) : gs_K E M out (if x' ≤ y' then o1 else o2) pc L (gi y :: gi x :: S) σ := by
  subst hx; subst hy
  exact gk_br (fun p e s m args below meth c H locs ls Q hc kt kf => lv_icmp_le hc.1 hc.2.1 d ht (fun q => kt (ci_le.mp q)) (fun q => kf (fun z => q (ci_le.mpr z)))) k1 k2
theorem gk_if_le {off : Int} {x x' : Int} (d : decode (mM_cc M) pc = .ok (.ifCond .le off, 3)) (ht : (pc : Int) + off = (tgt : Int)) (hx : gn x = x') (k1 : gs_K E M out o1 tgt L S σ) (k2 : gs_K E M out o2 (pc + 3) L S σ) : gs_K E M out (if x' ≤ 0 then o1 else o2) pc L (gi x :: S) σ := by
  subst hx
  exact gk_br (fun p e s m args below meth c H locs ls Q hc kt kf => lv_if_le hc.1 hc.2.1 d ht (fun q => kt (c0_le.mp q)) (fun q => kf (fun z => q (c0_le.mpr z)))) k1 k2
end GKrows
