def s0rows : List (Nat → Int) := [(fun j => ([0, 0, 0, 0, 0, 0, 0] : List Int).getD j 0), (fun j => ([0, 0, 0, 0] : List Int).getD j 0), (fun j => ([0, 0, 0, 0, 0, 0, 0, 0, 0, 0] : List Int).getD j 0), zr, zr, zr, zr, (rup (rup (rup zr 0 1) 1 1) 2 1), zr, zr, zr, (fun j => ([(gmin 5 8), 0, 0, 0] : List Int).getD j 0)] ++ [zr, zr, (fun j => ([(gmin 8 8), 0, 0, 0] : List Int).getD j 0), zr, zr, (fun j => ([(gmin 8 8), 0, 0, 0] : List Int).getD j 0), zr, zr, (fun j => ([0, 0, 0, 0] : List Int).getD j 0), (fun j => ([0, 0, 0, 0, 0, 0, 0, 0, 0, 0] : List Int).getD j 0), zr, zr] ++ [zr, zr, (rup (rup (rup zr 0 1) 1 1) 2 1), zr, zr, zr, (fun j => ([(gmin 5 8), 0, 0, 0] : List Int).getD j 0), zr, zr, (fun j => ([(gmin 8 8), 0, 0, 0] : List Int).getD j 0), zr, zr] ++ [(fun j => ([(gmin 8 8), 0, 0, 0] : List Int).getD j 0), zr, zr, (fun j => ([0, 0, 0, 0, 0, 0, 0, 0, 0, 0] : List Int).getD j 0), zr, zr, zr, zr, (rup (rup (rup zr 0 1) 1 1) 2 1), zr, zr, zr] ++ [(fun j => ([0, 0] : List Int).getD j 0), zr, zr, (fun j => ([0, 0, 0, (-1), 0, 0, 0, 0, 0] : List Int).getD j 0), zr, zr, zr, zr, zr, zr, (fun j => ([0, (-1), 0] : List Int).getD j 0), zr] ++ [(fun j => ([0, (-1), 0] : List Int).getD j 0), zr, (fun j => ([0, (-1), 0] : List Int).getD j 0), zr, (fun j => ([0, (-1), 0] : List Int).getD j 0), zr, (fun j => ([0, (-1), 0] : List Int).getD j 0), zr, (fun j => ([0, (-1), 0] : List Int).getD j 0), zr, (fun j => ([0, 0, 0, 0, 0, 0, 0, 0, 0, 0, 0] : List Int).getD j 0), (rup (rup (rup zr 37 1) 39 1) 41 1)] ++ [zr, zr, zr, zr, (rup (rup (rup (rup (rup (rup zr 0 (-1)) 1 (-1)) 2 (-1)) 3 (-1)) 4 (-1)) 5 (-1)), zr, zr]
/-- the memory behind the two constructors -/
def s0 : gs_Mem := fun k => s0rows.getD k zr
def Fw (l : Launch) (D : va_G) (A : Nat → Prop) (cA : FieldType → ClassId) (ad : Nat → Nat) (k : Nat) : Nat × va_E := (ad k, gs_ent (l, (D, (cA, (ad, A)))) (s0 k) (SH k))
set_option maxRecDepth 100000 in
set_option maxHeartbeats 4000000 in
theorem bk_X0_init {r : Nat} {v : Int} (hr : r = 2 ∨ r = 21 ∨ r = 39) (l : Launch) (D : va_G) (A : Nat → Prop) {cA : FieldType → ClassId} {a : Nat} {lw : va_W} (h : po_X0_init cA a lw) : ∃ f : Nat → Nat, f 0 = a ∧ ∀ ad : Nat → Nat, (∀ j, j < 9 → ad (r + j) = f j) → lw = (List.range' r 9).map (Fw l D A cA ad) := by
  obtain ⟨q1, q2, q3, q4, q5, q6, q7, q8, rfl⟩ := h
  refine ⟨fun j => ([a, q1, q2, q3, q4, q5, q6, q7, q8] : List Nat).getD j 0, rfl, fun ad had => ?_⟩
  have e0 : ad r = a := had 0 (by decide)
  have e1 : ad (r + 1) = q1 := had 1 (by decide)
  have e2 : ad (r + 2) = q2 := had 2 (by decide)
  have e3 : ad (r + 3) = q3 := had 3 (by decide)
  have e4 : ad (r + 4) = q4 := had 4 (by decide)
  have e5 : ad (r + 5) = q5 := had 5 (by decide)
  have e6 : ad (r + 6) = q6 := had 6 (by decide)
  have e7 : ad (r + 7) = q7 := had 7 (by decide)
  have e8 : ad (r + 8) = q8 := had 8 (by decide)
  subst e0
  subst e1
  subst e2
  subst e3
  subst e4
  subst e5
  subst e6
  subst e7
  subst e8
  rcases hr with rfl | rfl | rfl <;> rfl
set_option maxRecDepth 100000 in
set_option maxHeartbeats 4000000 in
theorem bk_X1_init {r : Nat} {v : Int} (hr : (r = 11 ∧ v = 5) ∨ (r = 30 ∧ v = 5) ∨ (r = 14 ∧ v = 8) ∨ (r = 17 ∧ v = 8) ∨ (r = 33 ∧ v = 8) ∨ (r = 36 ∧ v = 8)) (l : Launch) (D : va_G) (A : Nat → Prop) {cA : FieldType → ClassId} {a : Nat} {lw : va_W} (h : po_X1_init cA v a lw) : ∃ f : Nat → Nat, f 0 = a ∧ ∀ ad : Nat → Nat, (∀ j, j < 3 → ad (r + j) = f j) → lw = (List.range' r 3).map (Fw l D A cA ad) := by
  obtain ⟨q1, q2, rfl⟩ := h
  refine ⟨fun j => ([a, q1, q2] : List Nat).getD j 0, rfl, fun ad had => ?_⟩
  have e0 : ad r = a := had 0 (by decide)
  have e1 : ad (r + 1) = q1 := had 1 (by decide)
  have e2 : ad (r + 2) = q2 := had 2 (by decide)
  subst e0
  subst e1
  subst e2
  rcases hr with ⟨rfl, rfl⟩ | ⟨rfl, rfl⟩ | ⟨rfl, rfl⟩ | ⟨rfl, rfl⟩ | ⟨rfl, rfl⟩ | ⟨rfl, rfl⟩ <;> rfl
set_option maxRecDepth 100000 in
set_option maxHeartbeats 4000000 in
theorem bk_X3_init {r : Nat} {v : Int} (hr : r = 58 ∨ r = 60 ∨ r = 62 ∨ r = 64 ∨ r = 66 ∨ r = 68) (l : Launch) (D : va_G) (A : Nat → Prop) {cA : FieldType → ClassId} {a : Nat} {lw : va_W} (h : po_X3_init cA a lw) : ∃ f : Nat → Nat, f 0 = a ∧ ∀ ad : Nat → Nat, (∀ j, j < 2 → ad (r + j) = f j) → lw = (List.range' r 2).map (Fw l D A cA ad) := by
  obtain ⟨q1, rfl⟩ := h
  refine ⟨fun j => ([a, q1] : List Nat).getD j 0, rfl, fun ad had => ?_⟩
  have e0 : ad r = a := had 0 (by decide)
  have e1 : ad (r + 1) = q1 := had 1 (by decide)
  subst e0
  subst e1
  rcases hr with rfl | rfl | rfl | rfl | rfl | rfl <;> rfl
set_option maxRecDepth 100000 in
set_option maxHeartbeats 4000000 in
theorem bk_X4_init {r : Nat} {v : Int} (hr : r = 51) (l : Launch) (D : va_G) (A : Nat → Prop) {cA : FieldType → ClassId} {a : Nat} {lw : va_W} (h : po_X4_init cA a lw) : ∃ f : Nat → Nat, f 0 = a ∧ ∀ ad : Nat → Nat, (∀ j, j < 6 → ad (r + j) = f j) → lw = (List.range' r 6).map (Fw l D A cA ad) := by
  obtain ⟨q1, q2, q3, q4, q5, rfl⟩ := h
  refine ⟨fun j => ([a, q1, q2, q3, q4, q5] : List Nat).getD j 0, rfl, fun ad had => ?_⟩
  have e0 : ad r = a := had 0 (by decide)
  have e1 : ad (r + 1) = q1 := had 1 (by decide)
  have e2 : ad (r + 2) = q2 := had 2 (by decide)
  have e3 : ad (r + 3) = q3 := had 3 (by decide)
  have e4 : ad (r + 4) = q4 := had 4 (by decide)
  have e5 : ad (r + 5) = q5 := had 5 (by decide)
  subst e0
  subst e1
  subst e2
  subst e3
  subst e4
  subst e5
  rcases hr with rfl <;> rfl
set_option maxRecDepth 100000 in
set_option maxHeartbeats 4000000 in
theorem bk_X5_init {r : Nat} {v : Int} (hr : r = 48) (l : Launch) (D : va_G) (A : Nat → Prop) {cA : FieldType → ClassId} {a : Nat} {lw : va_W} (h : po_X5_init cA a lw) : ∃ f : Nat → Nat, f 0 = a ∧ ∀ ad : Nat → Nat, (∀ j, j < 3 → ad (r + j) = f j) → lw = (List.range' r 3).map (Fw l D A cA ad) := by
  obtain ⟨q1, q2, rfl⟩ := h
  refine ⟨fun j => ([a, q1, q2] : List Nat).getD j 0, rfl, fun ad had => ?_⟩
  have e0 : ad r = a := had 0 (by decide)
  have e1 : ad (r + 1) = q1 := had 1 (by decide)
  have e2 : ad (r + 2) = q2 := had 2 (by decide)
  subst e0
  subst e1
  subst e2
  rcases hr with rfl <;> rfl
set_option maxRecDepth 100000 in
set_option maxHeartbeats 4000000 in
theorem bk_X7_init {r : Nat} {v : Int} (hr : r = 70) (l : Launch) (D : va_G) (A : Nat → Prop) {cA : FieldType → ClassId} {a : Nat} {lw : va_W} (h : po_X7_init cA a lw) : ∃ f : Nat → Nat, f 0 = a ∧ ∀ ad : Nat → Nat, (∀ j, j < 9 → ad (r + j) = f j) → lw = (List.range' r 9).map (Fw l D A cA ad) := by
  obtain ⟨q1, q2, q3, q4, q5, q6, q7, q8, rfl⟩ := h
  refine ⟨fun j => ([a, q1, q2, q3, q4, q5, q6, q7, q8] : List Nat).getD j 0, rfl, fun ad had => ?_⟩
  have e0 : ad r = a := had 0 (by decide)
  have e1 : ad (r + 1) = q1 := had 1 (by decide)
  have e2 : ad (r + 2) = q2 := had 2 (by decide)
  have e3 : ad (r + 3) = q3 := had 3 (by decide)
  have e4 : ad (r + 4) = q4 := had 4 (by decide)
  have e5 : ad (r + 5) = q5 := had 5 (by decide)
  have e6 : ad (r + 6) = q6 := had 6 (by decide)
  have e7 : ad (r + 7) = q7 := had 7 (by decide)
  have e8 : ad (r + 8) = q8 := had 8 (by decide)
  subst e0
  subst e1
  subst e2
  subst e3
  subst e4
  subst e5
  subst e6
  subst e7
  subst e8
  rcases hr with rfl <;> rfl
set_option maxRecDepth 100000 in
set_option maxHeartbeats 4000000 in
theorem bk_X2_init {r : Nat} (hr : r = 1 ∨ r = 20) (l : Launch) (D : va_G) (A : Nat → Prop) {cA : FieldType → ClassId} {a : Nat} {lw : va_W} (h : po_X2_init cA a lw) : ∃ f : Nat → Nat, f 0 = a ∧ ∀ ad : Nat → Nat, (∀ j, j < 19 → ad (r + j) = f j) → lw = (List.range' r 19).map (Fw l D A cA ad) := by
  obtain ⟨q1, q2, q3, q4, l1, l2, l3, l4, h1, h2, h3, h4, rfl⟩ := h
  obtain ⟨f1, g1, b1⟩ := bk_X0_init (r := r + 1) (v := 0) (by omega) l D A h1
  obtain ⟨f2, g2, b2⟩ := bk_X1_init (r := r + 10) (by omega) l D A h2
  obtain ⟨f3, g3, b3⟩ := bk_X1_init (r := r + 13) (by omega) l D A h3
  obtain ⟨f4, g4, b4⟩ := bk_X1_init (r := r + 16) (by omega) l D A h4
  refine ⟨fun j => if j = 0 then a else if j < 10 then f1 (j - 1) else if j < 13 then f2 (j - 10) else if j < 16 then f3 (j - 13) else f4 (j - 16), rfl, fun ad had => ?_⟩
  have e0 : ad r = a := had 0 (by decide)
  have e1 : ad (r + 1) = q1 := (had 1 (by decide)).trans g1
  have e2 : ad (r + 10) = q2 := (had 10 (by decide)).trans g2
  have e3 : ad (r + 13) = q3 := (had 13 (by decide)).trans g3
  have e4 : ad (r + 16) = q4 := (had 16 (by decide)).trans g4
  have c1 := b1 ad (fun j hj => by
    have := had (1 + j) (by omega)
    rw [show r + 1 + j = r + (1 + j) by omega, this]; dsimp only; rw [if_neg (by omega), if_pos (by omega)]; congr 1; omega)
  have c2 := b2 ad (fun j hj => by
    have := had (10 + j) (by omega)
    rw [show r + 10 + j = r + (10 + j) by omega, this]; dsimp only; rw [if_neg (by omega), if_neg (by omega), if_pos (by omega)]; congr 1; omega)
  have c3 := b3 ad (fun j hj => by
    have := had (13 + j) (by omega)
    rw [show r + 13 + j = r + (13 + j) by omega, this]; dsimp only; rw [if_neg (by omega), if_neg (by omega), if_neg (by omega), if_pos (by omega)]; congr 1; omega)
  have c4 := b4 ad (fun j hj => by
    have := had (16 + j) (by omega)
    rw [show r + 16 + j = r + (16 + j) by omega, this]; dsimp only; rw [if_neg (by omega), if_neg (by omega), if_neg (by omega), if_neg (by omega)]; congr 1; omega)
  clear had b1 b2 b3 b4 g1 g2 g3 g4 h1 h2 h3 h4
  subst e0 e1 e2 e3 e4 c1 c2 c3 c4
  rcases hr with rfl | rfl <;> rfl
set_option maxRecDepth 100000 in
set_option maxHeartbeats 8000000 in
theorem bk_X6_init (l : Launch) (D : va_G) (A : Nat → Prop) {cA : FieldType → ClassId} {a : Nat} {lw : va_W} (h : po_X6_init cA a lw) : ∃ f : Nat → Nat, f 0 = a ∧ ∀ ad : Nat → Nat, (∀ j, j < 70 → ad j = f j) → lw = (List.range' 0 70).map (Fw l D A cA ad) := by
  obtain ⟨q1, q2, q3, q4, q5, q6, q7, q8, q9, q10, q11, q12, eq7, eq8, eq9, eq10, eq11, eq12, l1, l2, l3, l4, l5, hl1, hl2, hl3, hl4, hl5, rfl⟩ := h
  obtain ⟨fl1, gl1, bl1⟩ := bk_X2_init (r := 1) (by omega) l D A hl1
  obtain ⟨fl2, gl2, bl2⟩ := bk_X2_init (r := 20) (by omega) l D A hl2
  obtain ⟨fl3, gl3, bl3⟩ := bk_X0_init (r := 39) (v := 0) (by omega) l D A hl3
  obtain ⟨fl4, gl4, bl4⟩ := bk_X5_init (r := 48) (v := 0) (by omega) l D A hl4
  obtain ⟨fl5, gl5, bl5⟩ := bk_X4_init (r := 51) (v := 0) (by omega) l D A hl5
  refine ⟨fun j => if j < 1 then a else if j < 20 then fl1 (j - 1) else if j < 39 then fl2 (j - 20) else if j < 48 then fl3 (j - 39) else if j < 51 then fl4 (j - 48) else if j < 57 then fl5 (j - 51) else if j < 58 then q6 else if j < 59 then q7 else if j < 60 then eq7 else if j < 61 then q8 else if j < 62 then eq8 else if j < 63 then q9 else if j < 64 then eq9 else if j < 65 then q10 else if j < 66 then eq10 else if j < 67 then q11 else if j < 68 then eq11 else if j < 69 then q12 else eq12, rfl, fun ad had => ?_⟩
  have e0 : ad 0 = a := had 0 (by decide)
  have el1 : ad 1 = q1 := (had 1 (by decide)).trans gl1
  have el2 : ad 20 = q2 := (had 20 (by decide)).trans gl2
  have el3 : ad 39 = q3 := (had 39 (by decide)).trans gl3
  have el4 : ad 48 = q4 := (had 48 (by decide)).trans gl4
  have el5 : ad 51 = q5 := (had 51 (by decide)).trans gl5
  have e57 : ad 57 = q6 := had 57 (by decide)
  have e58 : ad 58 = q7 := had 58 (by decide)
  have e59 : ad 59 = eq7 := had 59 (by decide)
  have e60 : ad 60 = q8 := had 60 (by decide)
  have e61 : ad 61 = eq8 := had 61 (by decide)
  have e62 : ad 62 = q9 := had 62 (by decide)
  have e63 : ad 63 = eq9 := had 63 (by decide)
  have e64 : ad 64 = q10 := had 64 (by decide)
  have e65 : ad 65 = eq10 := had 65 (by decide)
  have e66 : ad 66 = q11 := had 66 (by decide)
  have e67 : ad 67 = eq11 := had 67 (by decide)
  have e68 : ad 68 = q12 := had 68 (by decide)
  have e69 : ad 69 = eq12 := had 69 (by decide)
  have cl1 := bl1 ad (fun j hj => by
    have := had (1 + j) (by omega)
    rw [this]; dsimp only; rw [if_neg (by omega), if_pos (by omega)]; congr 1; omega)
  have cl2 := bl2 ad (fun j hj => by
    have := had (20 + j) (by omega)
    rw [this]; dsimp only; rw [if_neg (by omega), if_neg (by omega), if_pos (by omega)]; congr 1; omega)
  have cl3 := bl3 ad (fun j hj => by
    have := had (39 + j) (by omega)
    rw [this]; dsimp only; rw [if_neg (by omega), if_neg (by omega), if_neg (by omega), if_pos (by omega)]; congr 1; omega)
  have cl4 := bl4 ad (fun j hj => by
    have := had (48 + j) (by omega)
    rw [this]; dsimp only; rw [if_neg (by omega), if_neg (by omega), if_neg (by omega), if_neg (by omega), if_pos (by omega)]; congr 1; omega)
  have cl5 := bl5 ad (fun j hj => by
    have := had (51 + j) (by omega)
    rw [this]; dsimp only; rw [if_neg (by omega), if_neg (by omega), if_neg (by omega), if_neg (by omega), if_neg (by omega), if_pos (by omega)]; congr 1; omega)
  clear had bl1 gl1 hl1 bl2 gl2 hl2 bl3 gl3 hl3 bl4 gl4 hl4 bl5 gl5 hl5
  subst e0 el1 el2 el3 el4 el5 e57 e58 e59 e60 e61 e62 e63 e64 e65 e66 e67 e68 e69 cl1 cl2 cl3 cl4 cl5
  have hq : va_up (va_up (va_up (va_up (va_up (va_up (fun x => none) 0 (some (ad 58))) 1 (some (ad 60))) 2 (some (ad 62))) 3 (some (ad 64))) 4 (some (ad 66))) 5 (some (ad 68)) = fun j => if j < 6 then some (ad (58 + 2 * j)) else none := by
    funext j
    match j with
    | 0 => rfl
    | 1 => rfl
    | 2 => rfl
    | 3 => rfl
    | 4 => rfl
    | 5 => rfl
    | z + 6 => simp [va_up]
  rw [hq]
  rfl
theorem w0_all (l : Launch) (D : va_G) (cA : FieldType → ClassId) (A : Nat → Prop) {a0 a1 : Nat} {l6 l7 : va_W} (h6 : po_X6_init cA a0 l6) (h7 : po_X7_init cA a1 l7) : ∃ ad : Nat → Nat, l6 ++ l7 = gs_ws (l, (D, (cA, (ad, A)))) s0 ∧ ad 0 = a0 ∧ ad 70 = a1 := by
  obtain ⟨f, g, b⟩ := bk_X6_init l D A h6
  obtain ⟨f2, g2, b2⟩ := bk_X7_init (r := 70) (v := 0) rfl l D A h7
  refine ⟨fun j => if j < 70 then f j else f2 (j - 70), ?_, g, g2⟩
  rw [b (fun j => if j < 70 then f j else f2 (j - 70)) (fun j hj => if_pos hj), b2 (fun j => if j < 70 then f j else f2 (j - 70)) (fun j hj => by rw [if_neg (by omega)]; congr 1; omega), ← List.map_append]
  rfl
