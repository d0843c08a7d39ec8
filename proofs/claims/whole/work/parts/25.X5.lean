def f_X5_befriend_J57 (k22 : Int → gs_Mem → Option (Int × gs_Mem)) (k65 : gs_Mem → Option (Int × gs_Mem)) (v1 : Nat) (v2 : Int) (v3 : Int) (v4 : Int) (t0 : Int) (t1 : Int) (t2 : Int) (σ : gs_Mem) : Option (Int × gs_Mem) :=
  gs_chk (gn t2) 8 (
  k22 (v4 + 1) (gs_st σ 49 (gn t2).toNat (gor t1 t0)))
set_option maxRecDepth 100000 in
set_option maxHeartbeats 4000000 in
theorem k_X5_befriend_J57 {E : gs_E} (k22 : Int → gs_Mem → Option (Int × gs_Mem)) (k65 : gs_Mem → Option (Int × gs_Mem))  (v1 : Nat) (v2 : Int) (v3 : Int) (v4 : Int) (t0 : Int) (t1 : Int) (t2 : Int) (hv1 : isPl v1) (hk22 : ∀ (w4 : Int) (σ : gs_Mem), gs_K E (gs_MC E yX5_befriend cX5_befriend 5 none 2 { frames := 1, cells := 0, slots := 0, locals := 22 }) (fun b : Int × gs_Mem => b) (k22 w4 σ) 22 [(0, gr E 48), (1, gr E v1), (2, gi v2), (3, gi v3), (4, gi w4)] [] σ) (hk65 : ∀ (σ : gs_Mem), gs_K E (gs_MC E yX5_befriend cX5_befriend 5 none 2 { frames := 1, cells := 0, slots := 0, locals := 22 }) (fun b : Int × gs_Mem => b) (k65 σ) 65 [(0, gr E 48), (1, gr E v1), (2, gi v2), (3, gi v3)] [] σ) (σ : gs_Mem) : gs_K E (gs_MC E yX5_befriend cX5_befriend 5 none 2 { frames := 1, cells := 0, slots := 0, locals := 22 }) (fun b : Int × gs_Mem => b) (f_X5_befriend_J57 k22 k65 v1 v2 v3 v4 t0 t1 t2 σ) 57 [(0, gr E 48), (1, gr E v1), (2, gi v2), (3, gi v3), (4, gi v4)] [gi t0, gi t1, gi t2, gr E 49] σ := by
  unfold f_X5_befriend_J57
  refine gk_ior (pc := 57) dX5_befriend_57 ?_
  refine gk_iast_c (pc := 58) cll_49 sh_49 rfl dX5_befriend_58 ?_
  refine gk_iinc (L' := [(4, gi (v4 + 1)), (0, gr E 48), (1, gr E v1), (2, gi v2), (3, gi v3)]) (pc := 59) 4 dX5_befriend_59 rfl (Nat.le_of_ble_eq_true rfl) rfl ?_
  refine gk_goto (tgt := 22) (pc := 62) dX5_befriend_62 (by decide) ?_
  refine gk_sub (L' := [(0, gr E 48), (1, gr E v1), (2, gi v2), (3, gi v3), (4, gi (v4 + 1))]) [1, 2, 3, 4, 0] rfl ?_
  exact hk22 (v4 + 1) (gs_st σ 49 (gn t2).toNat (gor t1 t0))
def f_X5_befriend_L22 (v1 : Nat) (v2 : Int) (v3 : Int) (k65 : gs_Mem → Option (Int × gs_Mem)) : Nat → Int → gs_Mem → Option (Int × gs_Mem)
  | 0, _, _ => none
  | n + 1, v4, σ =>
    (f_X0_size v1 σ).bind fun u2 =>
    if (gn u2) ≤ (gn v4) then
      k65 σ
    else
      gs_chk (gn v3) 8 (
      (f_X0_between v1 v3 v4 σ).bind fun u3 =>
      if (gn u3) < (gn v2) then
        f_X5_befriend_J57 (f_X5_befriend_L22 v1 v2 v3 k65 n) k65 v1 v2 v3 v4 0 (σ 49 (gn v3).toNat) v3 σ
      else
        f_X5_befriend_J57 (f_X5_befriend_L22 v1 v2 v3 k65 n) k65 v1 v2 v3 v4 (gshl 1 v4) (σ 49 (gn v3).toNat) v3 σ)
set_option maxRecDepth 100000 in
set_option maxHeartbeats 4000000 in
theorem k_X5_befriend_L22 {E : gs_E} (v1 : Nat) (v2 : Int) (v3 : Int) (k65 : gs_Mem → Option (Int × gs_Mem)) (hv1 : isPl v1) (hk65 : ∀ (σ : gs_Mem), gs_K E (gs_MC E yX5_befriend cX5_befriend 5 none 2 { frames := 1, cells := 0, slots := 0, locals := 22 }) (fun b : Int × gs_Mem => b) (k65 σ) 65 [(0, gr E 48), (1, gr E v1), (2, gi v2), (3, gi v3)] [] σ) : ∀ (n : Nat) (v4 : Int) (σ : gs_Mem), gs_K E (gs_MC E yX5_befriend cX5_befriend 5 none 2 { frames := 1, cells := 0, slots := 0, locals := 22 }) (fun b : Int × gs_Mem => b) (f_X5_befriend_L22 v1 v2 v3 k65 n v4 σ) 22 [(0, gr E 48), (1, gr E v1), (2, gi v2), (3, gi v3), (4, gi v4)] [] σ := by
  intro n
  induction n with
  | zero => intro v4 σ; rw [f_X5_befriend_L22]; exact gk_none
  | succ n ih =>
    intro v4 σ; rw [f_X5_befriend_L22]
    refine gk_iload (pc := 22) 4 dX5_befriend_22 rfl ?_
    refine gk_aload_n (pc := 24) 1 dX5_befriend_24 rfl ?_
    refine gk_callV_ir (As := []) (pc := 25) (c_X0_size v1 hv1 σ) rfl mm_X0_size ww_514 clsX0 rfl (pl_lt0 hv1) (pl_sh hv1) (gs_fit_of (Nat.le_of_ble_eq_true rfl) (Nat.le_of_ble_eq_true rfl)) rfl rfl (Nat.le_of_ble_eq_true rfl) dX5_befriend_25 (fun u2 => ?_)
    refine gk_icmp_ge (tgt := 65) (pc := 28) dX5_befriend_28 (by decide) rfl rfl ?_ ?_
    · refine gk_sub (L' := [(0, gr E 48), (1, gr E v1), (2, gi v2), (3, gi v3)]) [0, 1, 2, 3] rfl ?_
      exact hk65 σ
    · refine gk_aload_n (pc := 31) 0 dX5_befriend_31 rfl ?_
      refine gk_getR (q := 49) (pc := 32) rfl clsX5 cll_48 sh_48 0 (by decide) rfl ww_167 dX5_befriend_32 ?_
      refine gk_iload_n (pc := 35) 3 dX5_befriend_35 rfl ?_
      refine gk_dup2 (pc := 36) dX5_befriend_36 rfl rfl ?_
      refine gk_iald_c (pc := 37) cll_49 sh_49 rfl dX5_befriend_37 ?_
      refine gk_aload_n (pc := 38) 1 dX5_befriend_38 rfl ?_
      refine gk_iload_n (pc := 39) 3 dX5_befriend_39 rfl ?_
      refine gk_iload (pc := 40) 4 dX5_befriend_40 rfl ?_
      refine gk_callV_ir (As := [gi v3, gi v4]) (pc := 42) (c_X0_between v1 v3 v4 hv1 σ) rfl mm_X0_between ww_523 clsX0 rfl (pl_lt0 hv1) (pl_sh hv1) (gs_fit_of (Nat.le_of_ble_eq_true rfl) (Nat.le_of_ble_eq_true rfl)) rfl rfl (Nat.le_of_ble_eq_true rfl) dX5_befriend_42 (fun u3 => ?_)
      refine gk_iload_n (pc := 45) 2 dX5_befriend_45 rfl ?_
      refine gk_icmp_lt (tgt := 56) (pc := 46) dX5_befriend_46 (by decide) rfl rfl ?_ ?_
      · refine gk_iconst (pc := 56) dX5_befriend_56 ?_
        exact k_X5_befriend_J57 (f_X5_befriend_L22 v1 v2 v3 k65 n) k65 v1 v2 v3 v4 0 (σ 49 (gn v3).toNat) v3 hv1 ih hk65 σ
      · refine gk_iconst (pc := 49) dX5_befriend_49 ?_
        refine gk_iload (pc := 50) 4 dX5_befriend_50 rfl ?_
        refine gk_ishl (pc := 52) dX5_befriend_52 ?_
        refine gk_goto (tgt := 57) (pc := 53) dX5_befriend_53 (by decide) ?_
        exact k_X5_befriend_J57 (f_X5_befriend_L22 v1 v2 v3 k65 n) k65 v1 v2 v3 v4 (gshl 1 v4) (σ 49 (gn v3).toNat) v3 hv1 ih hk65 σ
def f_X5_befriend_L2 (v1 : Nat) (v2 : Int) : Nat → Int → gs_Mem → Option (Int × gs_Mem)
  | 0, _, _ => none
  | n + 1, v3, σ =>
    (f_X0_size v1 σ).bind fun u1 =>
    if (gn u1) ≤ (gn v3) then
      some (0, σ)
    else
      gs_chk (gn v3) 8 (
      f_X5_befriend_L22 v1 v2 v3 (fun σ4 =>
        f_X5_befriend_L2 v1 v2 n (v3 + 1) σ4) gs_fuel 0 (gs_st σ 49 (gn v3).toNat (gshl 1 v3)))
set_option maxRecDepth 100000 in
set_option maxHeartbeats 4000000 in
theorem k_X5_befriend_L2 {E : gs_E} (v1 : Nat) (v2 : Int) (hv1 : isPl v1)  : ∀ (n : Nat) (v3 : Int) (σ : gs_Mem), gs_K E (gs_MC E yX5_befriend cX5_befriend 5 none 2 { frames := 1, cells := 0, slots := 0, locals := 22 }) (fun b : Int × gs_Mem => b) (f_X5_befriend_L2 v1 v2 n v3 σ) 2 [(0, gr E 48), (1, gr E v1), (2, gi v2), (3, gi v3)] [] σ := by
  intro n
  induction n with
  | zero => intro v3 σ; rw [f_X5_befriend_L2]; exact gk_none
  | succ n ih =>
    intro v3 σ; rw [f_X5_befriend_L2]
    refine gk_iload_n (pc := 2) 3 dX5_befriend_2 rfl ?_
    refine gk_aload_n (pc := 3) 1 dX5_befriend_3 rfl ?_
    refine gk_callV_ir (As := []) (pc := 4) (c_X0_size v1 hv1 σ) rfl mm_X0_size ww_514 clsX0 rfl (pl_lt0 hv1) (pl_sh hv1) (gs_fit_of (Nat.le_of_ble_eq_true rfl) (Nat.le_of_ble_eq_true rfl)) rfl rfl (Nat.le_of_ble_eq_true rfl) dX5_befriend_4 (fun u1 => ?_)
    refine gk_icmp_ge (tgt := 71) (pc := 7) dX5_befriend_7 (by decide) rfl rfl ?_ ?_
    · exact gk_vret (pc := 71) rfl dX5_befriend_71
    · refine gk_aload_n (pc := 10) 0 dX5_befriend_10 rfl ?_
      refine gk_getR (q := 49) (pc := 11) rfl clsX5 cll_48 sh_48 0 (by decide) rfl ww_167 dX5_befriend_11 ?_
      refine gk_iload_n (pc := 14) 3 dX5_befriend_14 rfl ?_
      refine gk_iconst (pc := 15) dX5_befriend_15 ?_
      refine gk_iload_n (pc := 16) 3 dX5_befriend_16 rfl ?_
      refine gk_ishl (pc := 17) dX5_befriend_17 ?_
      refine gk_iast_c (pc := 18) cll_49 sh_49 rfl dX5_befriend_18 ?_
      refine gk_iconst (pc := 19) dX5_befriend_19 ?_
      refine gk_istore (L' := [(4, gi 0), (0, gr E 48), (1, gr E v1), (2, gi v2), (3, gi v3)]) (pc := 20) dX5_befriend_20 (Nat.le_of_ble_eq_true rfl) rfl ?_
      refine gk_sub (L' := [(0, gr E 48), (1, gr E v1), (2, gi v2), (3, gi v3), (4, gi 0)]) [1, 2, 3, 4, 0] rfl ?_
      refine k_X5_befriend_L22 v1 v2 v3 _ hv1 ?_ gs_fuel 0 (gs_st σ 49 (gn v3).toNat (gshl 1 v3))
      · intro σ4
        refine gk_iinc (L' := [(3, gi (v3 + 1)), (0, gr E 48), (1, gr E v1), (2, gi v2)]) (pc := 65) 3 dX5_befriend_65 rfl (Nat.le_of_ble_eq_true rfl) rfl ?_
        refine gk_goto (tgt := 2) (pc := 68) dX5_befriend_68 (by decide) ?_
        refine gk_sub (L' := [(0, gr E 48), (1, gr E v1), (2, gi v2), (3, gi (v3 + 1))]) [1, 2, 3, 0] rfl ?_
        exact ih (v3 + 1) σ4
def f_X5_befriend (r1 : Nat) (v2 : Int) (σ : gs_Mem) : Option (Int × gs_Mem) :=
  f_X5_befriend_L2 r1 v2 gs_fuel 0 σ
set_option maxRecDepth 100000 in
set_option maxHeartbeats 4000000 in
theorem c_X5_befriend {E : gs_E} (r1 : Nat) (v2 : Int) (hr1 : isPl r1) (σ : gs_Mem) : gs_C E yX5_befriend cX5_befriend 5 none 2 { frames := 1, cells := 0, slots := 0, locals := 22 } [gr E 48, gr E r1, gi v2] σ (f_X5_befriend r1 v2 σ) (fun b : Int × gs_Mem => b) := by
  unfold f_X5_befriend
  refine gs_enter (L := [(0, gr E 48), (1, gr E r1), (2, gi v2)]) (by decide) rfl rfl (Nat.le_of_ble_eq_true rfl) rfl ?_
  refine gk_iconst (pc := 0) dX5_befriend_0 ?_
  refine gk_istore_n (L' := [(3, gi 0), (0, gr E 48), (1, gr E r1), (2, gi v2)]) (pc := 1) dX5_befriend_1 (Nat.le_of_ble_eq_true rfl) rfl ?_
  refine gk_sub (L' := [(0, gr E 48), (1, gr E r1), (2, gi v2), (3, gi 0)]) [1, 2, 3, 0] rfl ?_
  exact k_X5_befriend_L2 r1 v2 hr1 gs_fuel 0 σ
def f_X5_areFriends_J31 (σ : gs_Mem) (k2 : Int → Option (Int)) (v1 : Int) (v2 : Int) (v3 : Int) : Option (Int) :=
  k2 (v3 + 1)
set_option maxRecDepth 100000 in
set_option maxHeartbeats 4000000 in
theorem k_X5_areFriends_J31 {E : gs_E} (σ : gs_Mem) (k2 : Int → Option (Int))  (v1 : Int) (v2 : Int) (v3 : Int)  (hk2 : ∀ (w3 : Int), gs_K E (gs_MC E yX5_areFriends cX5_areFriends 4 (some .boolean) 0 { frames := 0, cells := 0, slots := 0, locals := 0 }) (fun v : Int => (v, σ)) (k2 w3) 2 [(0, gr E 48), (1, gi v1), (2, gi v2), (3, gi w3)] [] σ) : gs_K E (gs_MC E yX5_areFriends cX5_areFriends 4 (some .boolean) 0 { frames := 0, cells := 0, slots := 0, locals := 0 }) (fun v : Int => (v, σ)) (f_X5_areFriends_J31 σ k2 v1 v2 v3) 31 [(0, gr E 48), (1, gi v1), (2, gi v2), (3, gi v3)] [] σ := by
  unfold f_X5_areFriends_J31
  refine gk_iinc (L' := [(3, gi (v3 + 1)), (0, gr E 48), (1, gi v1), (2, gi v2)]) (pc := 31) 3 dX5_areFriends_31 rfl (Nat.le_of_ble_eq_true rfl) rfl ?_
  refine gk_goto (tgt := 2) (pc := 34) dX5_areFriends_34 (by decide) ?_
  refine gk_sub (L' := [(0, gr E 48), (1, gi v1), (2, gi v2), (3, gi (v3 + 1))]) [1, 2, 3, 0] rfl ?_
  exact hk2 (v3 + 1)
def f_X5_areFriends_L2 (σ : gs_Mem) (v1 : Int) (v2 : Int) : Nat → Int → Option (Int)
  | 0, _ => none
  | n + 1, v3 =>
    if (gn v2) ≤ (gn v3) then
      some 1
    else
      if (gand (gshr v1 v3) 1) = 1 then
        gs_chk (gn v3) 8 (
        if (gand v1 (gxor (σ 49 (gn v3).toNat) (-1))) = 0 then
          f_X5_areFriends_J31 σ (f_X5_areFriends_L2 σ v1 v2 n) v1 v2 v3
        else
          some 0)
      else
        f_X5_areFriends_J31 σ (f_X5_areFriends_L2 σ v1 v2 n) v1 v2 v3
set_option maxRecDepth 100000 in
set_option maxHeartbeats 4000000 in
theorem k_X5_areFriends_L2 {E : gs_E} (σ : gs_Mem) (v1 : Int) (v2 : Int)   : ∀ (n : Nat) (v3 : Int), gs_K E (gs_MC E yX5_areFriends cX5_areFriends 4 (some .boolean) 0 { frames := 0, cells := 0, slots := 0, locals := 0 }) (fun v : Int => (v, σ)) (f_X5_areFriends_L2 σ v1 v2 n v3) 2 [(0, gr E 48), (1, gi v1), (2, gi v2), (3, gi v3)] [] σ := by
  intro n
  induction n with
  | zero => intro v3; rw [f_X5_areFriends_L2]; exact gk_none
  | succ n ih =>
    intro v3; rw [f_X5_areFriends_L2]
    refine gk_iload_n (pc := 2) 3 dX5_areFriends_2 rfl ?_
    refine gk_iload_n (pc := 3) 2 dX5_areFriends_3 rfl ?_
    refine gk_icmp_ge (tgt := 37) (pc := 4) dX5_areFriends_4 (by decide) rfl rfl ?_ ?_
    · refine gk_iconst (pc := 37) dX5_areFriends_37 ?_
      exact gk_zret (pc := 38) (Or.inr (by decide +kernel)) rfl dX5_areFriends_38
    · refine gk_iload_n (pc := 7) 1 dX5_areFriends_7 rfl ?_
      refine gk_iload_n (pc := 8) 3 dX5_areFriends_8 rfl ?_
      refine gk_ishr (pc := 9) dX5_areFriends_9 ?_
      refine gk_iconst (pc := 10) dX5_areFriends_10 ?_
      refine gk_iand (pc := 11) dX5_areFriends_11 ?_
      refine gk_iconst (pc := 12) dX5_areFriends_12 ?_
      refine gk_icmp_ne (tgt := 31) (pc := 13) dX5_areFriends_13 (by decide) (gn_ti _) (by decide +kernel) ?_ ?_
      · exact k_X5_areFriends_J31 σ (f_X5_areFriends_L2 σ v1 v2 n) v1 v2 v3 ih
      · refine gk_iload_n (pc := 16) 1 dX5_areFriends_16 rfl ?_
        refine gk_aload_n (pc := 17) 0 dX5_areFriends_17 rfl ?_
        refine gk_getR (q := 49) (pc := 18) rfl clsX5 cll_48 sh_48 0 (by decide) rfl ww_167 dX5_areFriends_18 ?_
        refine gk_iload_n (pc := 21) 3 dX5_areFriends_21 rfl ?_
        refine gk_iald_c (pc := 22) cll_49 sh_49 rfl dX5_areFriends_22 ?_
        refine gk_iconst (pc := 23) dX5_areFriends_23 ?_
        refine gk_ixor (pc := 24) dX5_areFriends_24 ?_
        refine gk_iand (pc := 25) dX5_areFriends_25 ?_
        refine gk_if_eq (tgt := 31) (pc := 26) dX5_areFriends_26 (by decide) (gn_ti _) ?_ ?_
        · exact k_X5_areFriends_J31 σ (f_X5_areFriends_L2 σ v1 v2 n) v1 v2 v3 ih
        · refine gk_iconst (pc := 29) dX5_areFriends_29 ?_
          exact gk_zret (pc := 30) (Or.inl (by decide +kernel)) rfl dX5_areFriends_30
def f_X5_areFriends (v1 : Int) (v2 : Int) (σ : gs_Mem) : Option (Int) :=
  f_X5_areFriends_L2 σ v1 v2 gs_fuel 0
set_option maxRecDepth 100000 in
set_option maxHeartbeats 4000000 in
theorem c_X5_areFriends {E : gs_E} (v1 : Int) (v2 : Int)  (σ : gs_Mem) : gs_C E yX5_areFriends cX5_areFriends 4 (some .boolean) 0 { frames := 0, cells := 0, slots := 0, locals := 0 } [gr E 48, gi v1, gi v2] σ (f_X5_areFriends v1 v2 σ) (fun v : Int => (v, σ)) := by
  unfold f_X5_areFriends
  refine gs_enter (L := [(0, gr E 48), (1, gi v1), (2, gi v2)]) (by decide) rfl rfl (Nat.le_of_ble_eq_true rfl) rfl ?_
  refine gk_iconst (pc := 0) dX5_areFriends_0 ?_
  refine gk_istore_n (L' := [(3, gi 0), (0, gr E 48), (1, gi v1), (2, gi v2)]) (pc := 1) dX5_areFriends_1 (Nat.le_of_ble_eq_true rfl) rfl ?_
  refine gk_sub (L' := [(0, gr E 48), (1, gi v1), (2, gi v2), (3, gi 0)]) [1, 2, 3, 0] rfl ?_
  exact k_X5_areFriends_L2 σ v1 v2 gs_fuel 0
def f_X5_largestClique_J59 (k14 : Int → Int → Int → gs_Mem → Option (Int × gs_Mem)) (v1 : Nat) (v3 : Int) (v4 : Int) (v5 : Int) (σ : gs_Mem) : Option (Int × gs_Mem) :=
  k14 v3 v4 (v5 + 1) σ
set_option maxRecDepth 100000 in
set_option maxHeartbeats 4000000 in
theorem k_X5_largestClique_J59 {E : gs_E} (k14 : Int → Int → Int → gs_Mem → Option (Int × gs_Mem))  (v1 : Nat) (v3 : Int) (v4 : Int) (v5 : Int) (hv1 : isPl v1) (hk14 : ∀ (w3 : Int) (w4 : Int) (w5 : Int) (σ : gs_Mem), gs_K E (gs_MC E yX5_largestClique cX5_largestClique 7 (some .int) 0 { frames := 2, cells := 0, slots := 0, locals := 46 }) (fun b : Int × gs_Mem => b) (k14 w3 w4 w5 σ) 14 [(0, gr E 48), (1, gr E v1), (3, gi w3), (4, gi w4), (5, gi w5)] [] σ) (σ : gs_Mem) : gs_K E (gs_MC E yX5_largestClique cX5_largestClique 7 (some .int) 0 { frames := 2, cells := 0, slots := 0, locals := 46 }) (fun b : Int × gs_Mem => b) (f_X5_largestClique_J59 k14 v1 v3 v4 v5 σ) 59 [(0, gr E 48), (1, gr E v1), (3, gi v3), (4, gi v4), (5, gi v5)] [] σ := by
  unfold f_X5_largestClique_J59
  refine gk_iinc (L' := [(5, gi (v5 + 1)), (0, gr E 48), (1, gr E v1), (3, gi v3), (4, gi v4)]) (pc := 59) 4 dX5_largestClique_59 rfl (Nat.le_of_ble_eq_true rfl) rfl ?_
  refine gk_goto (tgt := 14) (pc := 62) dX5_largestClique_62 (by decide) ?_
  refine gk_sub (L' := [(0, gr E 48), (1, gr E v1), (3, gi v3), (4, gi v4), (5, gi (v5 + 1))]) [1, 2, 3, 4, 0] rfl ?_
  exact hk14 v3 v4 (v5 + 1) σ
def f_X5_largestClique_L14 (v1 : Nat) : Nat → Int → Int → Int → gs_Mem → Option (Int × gs_Mem)
  | 0, _, _, _, _ => none
  | n + 1, v3, v4, v5, σ =>
    (f_X0_size v1 σ).bind fun u2 =>
    if (gshl 1 u2) ≤ (gn v5) then
      some (v3, σ)
    else
      (f_J6_bitCount_0f7a4 v5 σ).bind fun u3 =>
      if (gn u3) ≤ (gn v4) then
        f_X5_largestClique_J59 (f_X5_largestClique_L14 v1 n) v1 v3 v4 v5 σ
      else
        (f_X0_size v1 σ).bind fun u4 =>
        (f_X5_areFriends v5 u4 σ).bind fun u5 =>
        if (gn u5) = 0 then
          f_X5_largestClique_J59 (f_X5_largestClique_L14 v1 n) v1 v3 v4 v5 σ
        else
          f_X5_largestClique_J59 (f_X5_largestClique_L14 v1 n) v1 v5 u3 v5 σ
set_option maxRecDepth 100000 in
set_option maxHeartbeats 4000000 in
theorem k_X5_largestClique_L14 {E : gs_E} (v1 : Nat) (hv1 : isPl v1)  : ∀ (n : Nat) (v3 : Int) (v4 : Int) (v5 : Int) (σ : gs_Mem), gs_K E (gs_MC E yX5_largestClique cX5_largestClique 7 (some .int) 0 { frames := 2, cells := 0, slots := 0, locals := 46 }) (fun b : Int × gs_Mem => b) (f_X5_largestClique_L14 v1 n v3 v4 v5 σ) 14 [(0, gr E 48), (1, gr E v1), (3, gi v3), (4, gi v4), (5, gi v5)] [] σ := by
  intro n
  induction n with
  | zero => intro v3 v4 v5 σ; rw [f_X5_largestClique_L14]; exact gk_none
  | succ n ih =>
    intro v3 v4 v5 σ; rw [f_X5_largestClique_L14]
    refine gk_iload (pc := 14) 4 dX5_largestClique_14 rfl ?_
    refine gk_iconst (pc := 16) dX5_largestClique_16 ?_
    refine gk_aload_n (pc := 17) 1 dX5_largestClique_17 rfl ?_
    refine gk_callV_ir (As := []) (pc := 18) (c_X0_size v1 hv1 σ) rfl mm_X0_size ww_514 clsX0 rfl (pl_lt0 hv1) (pl_sh hv1) (gs_fit_of (Nat.le_of_ble_eq_true rfl) (Nat.le_of_ble_eq_true rfl)) rfl rfl (Nat.le_of_ble_eq_true rfl) dX5_largestClique_18 (fun u2 => ?_)
    refine gk_ishl (pc := 21) dX5_largestClique_21 ?_
    refine gk_icmp_ge (tgt := 65) (pc := 22) dX5_largestClique_22 (by decide) rfl (gn_ti _) ?_ ?_
    · refine gk_iload_n (pc := 65) 2 dX5_largestClique_65 rfl ?_
      exact gk_iret (pc := 66) rfl dX5_largestClique_66
    · refine gk_iload (pc := 25) 4 dX5_largestClique_25 rfl ?_
      refine gk_callS_ir (As := [gi v5]) (pc := 27) (c_J6_bitCount_0f7a4 v5 σ) rfl mm_J6_bitCount_0f7a4 ww_524 (gs_fit_of (Nat.le_of_ble_eq_true rfl) (Nat.le_of_ble_eq_true rfl)) rfl rfl (Nat.le_of_ble_eq_true rfl) dX5_largestClique_27 (fun u3 => ?_)
      refine gk_istore (L' := [(6, gi u3), (0, gr E 48), (1, gr E v1), (3, gi v3), (4, gi v4), (5, gi v5)]) (pc := 30) dX5_largestClique_30 (Nat.le_of_ble_eq_true rfl) rfl ?_
      refine gk_iload (pc := 32) 0 dX5_largestClique_32 rfl ?_
      refine gk_iload (pc := 34) 4 dX5_largestClique_34 rfl ?_
      refine gk_icmp_le (tgt := 59) (pc := 36) dX5_largestClique_36 (by decide) rfl rfl ?_ ?_
      · refine gk_sub (L' := [(0, gr E 48), (1, gr E v1), (3, gi v3), (4, gi v4), (5, gi v5)]) [1, 2, 3, 4, 5] rfl ?_
        exact k_X5_largestClique_J59 (f_X5_largestClique_L14 v1 n) v1 v3 v4 v5 hv1 ih σ
      · refine gk_aload_n (pc := 39) 1 dX5_largestClique_39 rfl ?_
        refine gk_iload (pc := 40) 5 dX5_largestClique_40 rfl ?_
        refine gk_aload_n (pc := 42) 2 dX5_largestClique_42 rfl ?_
        refine gk_callV_ir (As := []) (pc := 43) (c_X0_size v1 hv1 σ) rfl mm_X0_size ww_514 clsX0 rfl (pl_lt0 hv1) (pl_sh hv1) (gs_fit_of (Nat.le_of_ble_eq_true rfl) (Nat.le_of_ble_eq_true rfl)) rfl rfl (Nat.le_of_ble_eq_true rfl) dX5_largestClique_43 (fun u4 => ?_)
        refine gk_callV_ir (As := [gi v5, gi u4]) (pc := 46) (c_X5_areFriends v5 u4 σ) rfl mm_X5_areFriends ww_525 clsX5 rfl cll_48 sh_48 (gs_fit_of (Nat.le_of_ble_eq_true rfl) (Nat.le_of_ble_eq_true rfl)) rfl rfl (Nat.le_of_ble_eq_true rfl) dX5_largestClique_46 (fun u5 => ?_)
        refine gk_if_eq (tgt := 59) (pc := 49) dX5_largestClique_49 (by decide) rfl ?_ ?_
        · refine gk_sub (L' := [(0, gr E 48), (1, gr E v1), (3, gi v3), (4, gi v4), (5, gi v5)]) [1, 2, 3, 4, 5] rfl ?_
          exact k_X5_largestClique_J59 (f_X5_largestClique_L14 v1 n) v1 v3 v4 v5 hv1 ih σ
        · refine gk_iload (pc := 52) 5 dX5_largestClique_52 rfl ?_
          refine gk_istore_n (L' := [(3, gi v5), (6, gi u3), (0, gr E 48), (1, gr E v1), (4, gi v4), (5, gi v5)]) (pc := 54) dX5_largestClique_54 (Nat.le_of_ble_eq_true rfl) rfl ?_
          refine gk_iload (pc := 55) 1 dX5_largestClique_55 rfl ?_
          refine gk_istore (L' := [(4, gi u3), (3, gi v5), (6, gi u3), (0, gr E 48), (1, gr E v1), (5, gi v5)]) (pc := 57) dX5_largestClique_57 (Nat.le_of_ble_eq_true rfl) rfl ?_
          refine gk_sub (L' := [(0, gr E 48), (1, gr E v1), (3, gi v5), (4, gi u3), (5, gi v5)]) [3, 4, 1, 0, 5] rfl ?_
          exact k_X5_largestClique_J59 (f_X5_largestClique_L14 v1 n) v1 v5 u3 v5 hv1 ih σ
def f_X5_largestClique (r1 : Nat) (v2 : Int) (σ : gs_Mem) : Option (Int × gs_Mem) :=
  (f_X5_befriend r1 v2 σ).bind fun b1 =>
  f_X5_largestClique_L14 r1 gs_fuel 0 0 1 b1.2
set_option maxRecDepth 100000 in
set_option maxHeartbeats 4000000 in
theorem c_X5_largestClique {E : gs_E} (r1 : Nat) (v2 : Int) (hr1 : isPl r1) (σ : gs_Mem) : gs_C E yX5_largestClique cX5_largestClique 7 (some .int) 0 { frames := 2, cells := 0, slots := 0, locals := 46 } [gr E 48, gr E r1, gi v2] σ (f_X5_largestClique r1 v2 σ) (fun b : Int × gs_Mem => b) := by
  unfold f_X5_largestClique
  refine gs_enter (L := [(0, gr E 48), (1, gr E r1), (2, gi v2)]) (by decide) rfl rfl (Nat.le_of_ble_eq_true rfl) rfl ?_
  refine gk_aload_n (pc := 0) 0 dX5_largestClique_0 rfl ?_
  refine gk_aload_n (pc := 1) 1 dX5_largestClique_1 rfl ?_
  refine gk_iload_n (pc := 2) 2 dX5_largestClique_2 rfl ?_
  refine gk_callV_vw (As := [gr E r1, gi v2]) (pc := 3) (c_X5_befriend r1 v2 hr1 σ) rfl mm_X5_befriend ww_519 clsX5 rfl cll_48 sh_48 (gs_fit_of (Nat.le_of_ble_eq_true rfl) (Nat.le_of_ble_eq_true rfl)) rfl rfl (Nat.le_of_ble_eq_true rfl) dX5_largestClique_3 (fun b1 => ?_)
  refine gk_iconst (pc := 6) dX5_largestClique_6 ?_
  refine gk_istore_n (L' := [(3, gi 0), (0, gr E 48), (1, gr E r1), (2, gi v2)]) (pc := 7) dX5_largestClique_7 (Nat.le_of_ble_eq_true rfl) rfl ?_
  refine gk_iconst (pc := 8) dX5_largestClique_8 ?_
  refine gk_istore (L' := [(4, gi 0), (3, gi 0), (0, gr E 48), (1, gr E r1), (2, gi v2)]) (pc := 9) dX5_largestClique_9 (Nat.le_of_ble_eq_true rfl) rfl ?_
  refine gk_iconst (pc := 11) dX5_largestClique_11 ?_
  refine gk_istore (L' := [(5, gi 1), (4, gi 0), (3, gi 0), (0, gr E 48), (1, gr E r1), (2, gi v2)]) (pc := 12) dX5_largestClique_12 (Nat.le_of_ble_eq_true rfl) rfl ?_
  refine gk_sub (L' := [(0, gr E 48), (1, gr E r1), (3, gi 0), (4, gi 0), (5, gi 1)]) [3, 4, 2, 1, 0] rfl ?_
  exact k_X5_largestClique_L14 r1 hr1 gs_fuel 0 0 1 b1.2
def f_X5_bound_L13 (v1 : Nat) : Nat → Int → Int → gs_Mem → Option (Int × gs_Mem)
  | 0, _, _, _ => none
  | n + 1, v2, v3, σ =>
    if 4 < (gn v3) then
      some (v2, σ)
    else
      (f_X5_largestClique v1 v3 σ).bind fun b2 =>
      (f_J6_bitCount_0f7a4 b2.1 b2.2).bind fun u3 =>
      f_X5_bound_L13 v1 n (gmax v2 (((u3 - 1) * v3) + 1)) (v3 + 1) b2.2
set_option maxRecDepth 100000 in
set_option maxHeartbeats 4000000 in
theorem k_X5_bound_L13 {E : gs_E} (v1 : Nat) (hv1 : isPl v1)  : ∀ (n : Nat) (v2 : Int) (v3 : Int) (σ : gs_Mem), gs_K E (gs_MC E yX5_bound cX5_bound 5 (some .int) 0 { frames := 3, cells := 0, slots := 0, locals := 72 }) (fun b : Int × gs_Mem => b) (f_X5_bound_L13 v1 n v2 v3 σ) 13 [(0, gr E 48), (1, gr E v1), (2, gi v2), (3, gi v3)] [] σ := by
  intro n
  induction n with
  | zero => intro v2 v3 σ; rw [f_X5_bound_L13]; exact gk_none
  | succ n ih =>
    intro v2 v3 σ; rw [f_X5_bound_L13]
    refine gk_iload_n (pc := 13) 3 dX5_bound_13 rfl ?_
    refine gk_iconst (pc := 14) dX5_bound_14 ?_
    refine gk_icmp_gt (tgt := 48) (pc := 15) dX5_bound_15 (by decide) rfl (by decide +kernel) ?_ ?_
    · refine gk_iload_n (pc := 48) 2 dX5_bound_48 rfl ?_
      exact gk_iret (pc := 49) rfl dX5_bound_49
    · refine gk_aload_n (pc := 18) 0 dX5_bound_18 rfl ?_
      refine gk_aload_n (pc := 19) 1 dX5_bound_19 rfl ?_
      refine gk_iload_n (pc := 20) 3 dX5_bound_20 rfl ?_
      refine gk_callV_iw (As := [gr E v1, gi v3]) (pc := 21) (c_X5_largestClique v1 v3 hv1 σ) rfl mm_X5_largestClique ww_515 clsX5 rfl cll_48 sh_48 (gs_fit_of (Nat.le_of_ble_eq_true rfl) (Nat.le_of_ble_eq_true rfl)) rfl rfl (Nat.le_of_ble_eq_true rfl) dX5_bound_21 (fun b2 => ?_)
      refine gk_callS_ir (As := [gi b2.1]) (pc := 24) (c_J6_bitCount_0f7a4 b2.1 b2.2) rfl mm_J6_bitCount_0f7a4 ww_524 (gs_fit_of (Nat.le_of_ble_eq_true rfl) (Nat.le_of_ble_eq_true rfl)) rfl rfl (Nat.le_of_ble_eq_true rfl) dX5_bound_24 (fun u3 => ?_)
      refine gk_istore (L' := [(4, gi u3), (0, gr E 48), (1, gr E v1), (2, gi v2), (3, gi v3)]) (pc := 27) dX5_bound_27 (Nat.le_of_ble_eq_true rfl) rfl ?_
      refine gk_iload_n (pc := 29) 3 dX5_bound_29 rfl ?_
      refine gk_iload (pc := 30) 0 dX5_bound_30 rfl ?_
      refine gk_iconst (pc := 32) dX5_bound_32 ?_
      refine gk_isub (pc := 33) dX5_bound_33 ?_
      refine gk_iload_n (pc := 34) 4 dX5_bound_34 rfl ?_
      refine gk_imul (pc := 35) dX5_bound_35 ?_
      refine gk_iconst (pc := 36) dX5_bound_36 ?_
      refine gk_iadd (pc := 37) dX5_bound_37 ?_
      refine gk_mmax (pc := 38) rfl mmw_RX5_46 (Nat.le_of_ble_eq_true rfl) (Nat.le_of_ble_eq_true rfl) ⟨Nat.le_refl 0, Nat.le_refl 0⟩ dX5_bound_38 ?_
      refine gk_istore_n (L' := [(2, gi (gmax v2 (((u3 - 1) * v3) + 1))), (4, gi u3), (0, gr E 48), (1, gr E v1), (3, gi v3)]) (pc := 41) dX5_bound_41 (Nat.le_of_ble_eq_true rfl) rfl ?_
      refine gk_iinc (L' := [(3, gi (v3 + 1)), (2, gi (gmax v2 (((u3 - 1) * v3) + 1))), (4, gi u3), (0, gr E 48), (1, gr E v1)]) (pc := 42) 4 dX5_bound_42 rfl (Nat.le_of_ble_eq_true rfl) rfl ?_
      refine gk_goto (tgt := 13) (pc := 45) dX5_bound_45 (by decide) ?_
      refine gk_sub (L' := [(0, gr E 48), (1, gr E v1), (2, gi (gmax v2 (((u3 - 1) * v3) + 1))), (3, gi (v3 + 1))]) [3, 4, 1, 0] rfl ?_
      exact ih (gmax v2 (((u3 - 1) * v3) + 1)) (v3 + 1) b2.2
def f_X5_bound (r1 : Nat) (σ : gs_Mem) : Option (Int × gs_Mem) :=
  (f_X0_size r1 σ).bind fun u1 =>
  if (gn u1) = 0 then
    some (0, σ)
  else
    f_X5_bound_L13 r1 gs_fuel 0 1 σ
set_option maxRecDepth 100000 in
set_option maxHeartbeats 4000000 in
theorem c_X5_bound {E : gs_E} (r1 : Nat) (hr1 : isPl r1) (σ : gs_Mem) : gs_C E yX5_bound cX5_bound 5 (some .int) 0 { frames := 3, cells := 0, slots := 0, locals := 72 } [gr E 48, gr E r1] σ (f_X5_bound r1 σ) (fun b : Int × gs_Mem => b) := by
  unfold f_X5_bound
  refine gs_enter (L := [(0, gr E 48), (1, gr E r1)]) (by decide) rfl rfl (Nat.le_of_ble_eq_true rfl) rfl ?_
  refine gk_aload_n (pc := 0) 1 dX5_bound_0 rfl ?_
  refine gk_callV_ir (As := []) (pc := 1) (c_X0_size r1 hr1 σ) rfl mm_X0_size ww_514 clsX0 rfl (pl_lt0 hr1) (pl_sh hr1) (gs_fit_of (Nat.le_of_ble_eq_true rfl) (Nat.le_of_ble_eq_true rfl)) rfl rfl (Nat.le_of_ble_eq_true rfl) dX5_bound_1 (fun u1 => ?_)
  refine gk_if_ne (tgt := 9) (pc := 4) dX5_bound_4 (by decide) rfl ?_ ?_
  · refine gk_iconst (pc := 9) dX5_bound_9 ?_
    refine gk_istore_n (L' := [(2, gi 0), (0, gr E 48), (1, gr E r1)]) (pc := 10) dX5_bound_10 (Nat.le_of_ble_eq_true rfl) rfl ?_
    refine gk_iconst (pc := 11) dX5_bound_11 ?_
    refine gk_istore_n (L' := [(3, gi 1), (2, gi 0), (0, gr E 48), (1, gr E r1)]) (pc := 12) dX5_bound_12 (Nat.le_of_ble_eq_true rfl) rfl ?_
    refine gk_sub (L' := [(0, gr E 48), (1, gr E r1), (2, gi 0), (3, gi 1)]) [2, 3, 1, 0] rfl ?_
    exact k_X5_bound_L13 r1 hr1 gs_fuel 0 1 σ
  · refine gk_iconst (pc := 7) dX5_bound_7 ?_
    exact gk_iret (pc := 8) rfl dX5_bound_8
def f_X5_leave (v1 : Int) (v2 : Int) (v3 : Int) (σ : gs_Mem) : Option (Int × gs_Mem) :=
  if (gn ((v1 * 8) + v2)) < 0 then
    some (0, σ)
  else
    if 72 ≤ (gn ((v1 * 8) + v2)) then
      some (0, σ)
    else
      gs_chk (gn ((v1 * 8) + v2)) 72 (
      some (0, (gs_st σ 50 (gn ((v1 * 8) + v2)).toNat v3)))
set_option maxRecDepth 100000 in
set_option maxHeartbeats 4000000 in
theorem c_X5_leave {E : gs_E} (v1 : Int) (v2 : Int) (v3 : Int)  (σ : gs_Mem) : gs_C E yX5_leave cX5_leave 5 none 2 { frames := 0, cells := 0, slots := 0, locals := 0 } [gr E 48, gi v1, gi v2, gi v3] σ (f_X5_leave v1 v2 v3 σ) (fun b : Int × gs_Mem => b) := by
  unfold f_X5_leave
  refine gs_enter (L := [(0, gr E 48), (1, gi v1), (2, gi v2), (3, gi v3)]) (by decide) rfl rfl (Nat.le_of_ble_eq_true rfl) rfl ?_
  refine gk_iload_n (pc := 0) 1 dX5_leave_0 rfl ?_
  refine gk_bipush (pc := 1) dX5_leave_1 (by decide +kernel) ?_
  refine gk_imul (pc := 3) dX5_leave_3 ?_
  refine gk_iload_n (pc := 4) 2 dX5_leave_4 rfl ?_
  refine gk_iadd (pc := 5) dX5_leave_5 ?_
  refine gk_istore (L' := [(4, gi ((v1 * 8) + v2)), (0, gr E 48), (1, gi v1), (2, gi v2), (3, gi v3)]) (pc := 6) dX5_leave_6 (Nat.le_of_ble_eq_true rfl) rfl ?_
  refine gk_iload (pc := 8) 0 dX5_leave_8 rfl ?_
  refine gk_if_lt (tgt := 31) (pc := 10) dX5_leave_10 (by decide) rfl ?_ ?_
  · exact gk_vret (pc := 31) rfl dX5_leave_31
  · refine gk_iload (pc := 13) 0 dX5_leave_13 rfl ?_
    refine gk_aload_n (pc := 15) 1 dX5_leave_15 rfl ?_
    refine gk_getR (q := 50) (pc := 16) rfl clsX5 cll_48 sh_48 1 (by decide) rfl ww_168 dX5_leave_16 ?_
    refine gk_alen_i (x := 72) (pc := 19) cll_50 sh_50 (by decide +kernel) dX5_leave_19 ?_
    refine gk_icmp_ge (tgt := 31) (pc := 20) dX5_leave_20 (by decide) rfl (by decide +kernel) ?_ ?_
    · exact gk_vret (pc := 31) rfl dX5_leave_31
    · refine gk_aload_n (pc := 23) 1 dX5_leave_23 rfl ?_
      refine gk_getR (q := 50) (pc := 24) rfl clsX5 cll_48 sh_48 1 (by decide) rfl ww_168 dX5_leave_24 ?_
      refine gk_iload (pc := 27) 0 dX5_leave_27 rfl ?_
      refine gk_iload_n (pc := 29) 4 dX5_leave_29 rfl ?_
      refine gk_iast_c (pc := 30) cll_50 sh_50 rfl dX5_leave_30 ?_
      exact gk_vret (pc := 31) rfl dX5_leave_31
def f_X5_leftAt (v1 : Int) (v2 : Int) (σ : gs_Mem) : Option (Int) :=
  if (gn ((v1 * 8) + v2)) < 0 then
    some 0
  else
    if 72 ≤ (gn ((v1 * 8) + v2)) then
      some 0
    else
      gs_chk (gn ((v1 * 8) + v2)) 72 (
      some (σ 50 (gn ((v1 * 8) + v2)).toNat))
set_option maxRecDepth 100000 in
set_option maxHeartbeats 4000000 in
theorem c_X5_leftAt {E : gs_E} (v1 : Int) (v2 : Int)  (σ : gs_Mem) : gs_C E yX5_leftAt cX5_leftAt 4 (some .int) 0 { frames := 0, cells := 0, slots := 0, locals := 0 } [gr E 48, gi v1, gi v2] σ (f_X5_leftAt v1 v2 σ) (fun v : Int => (v, σ)) := by
  unfold f_X5_leftAt
  refine gs_enter (L := [(0, gr E 48), (1, gi v1), (2, gi v2)]) (by decide) rfl rfl (Nat.le_of_ble_eq_true rfl) rfl ?_
  refine gk_iload_n (pc := 0) 1 dX5_leftAt_0 rfl ?_
  refine gk_bipush (pc := 1) dX5_leftAt_1 (by decide +kernel) ?_
  refine gk_imul (pc := 3) dX5_leftAt_3 ?_
  refine gk_iload_n (pc := 4) 2 dX5_leftAt_4 rfl ?_
  refine gk_iadd (pc := 5) dX5_leftAt_5 ?_
  refine gk_istore_n (L' := [(3, gi ((v1 * 8) + v2)), (0, gr E 48), (1, gi v1), (2, gi v2)]) (pc := 6) dX5_leftAt_6 (Nat.le_of_ble_eq_true rfl) rfl ?_
  refine gk_iload_n (pc := 7) 0 dX5_leftAt_7 rfl ?_
  refine gk_if_lt (tgt := 29) (pc := 8) dX5_leftAt_8 (by decide) rfl ?_ ?_
  · refine gk_iconst (pc := 29) dX5_leftAt_29 ?_
    exact gk_iret (pc := 30) rfl dX5_leftAt_30
  · refine gk_iload_n (pc := 11) 0 dX5_leftAt_11 rfl ?_
    refine gk_aload_n (pc := 12) 1 dX5_leftAt_12 rfl ?_
    refine gk_getR (q := 50) (pc := 13) rfl clsX5 cll_48 sh_48 1 (by decide) rfl ww_168 dX5_leftAt_13 ?_
    refine gk_alen_i (x := 72) (pc := 16) cll_50 sh_50 (by decide +kernel) dX5_leftAt_16 ?_
    refine gk_icmp_ge (tgt := 29) (pc := 17) dX5_leftAt_17 (by decide) rfl (by decide +kernel) ?_ ?_
    · refine gk_iconst (pc := 29) dX5_leftAt_29 ?_
      exact gk_iret (pc := 30) rfl dX5_leftAt_30
    · refine gk_aload_n (pc := 20) 1 dX5_leftAt_20 rfl ?_
      refine gk_getR (q := 50) (pc := 21) rfl clsX5 cll_48 sh_48 1 (by decide) rfl ww_168 dX5_leftAt_21 ?_
      refine gk_iload_n (pc := 24) 0 dX5_leftAt_24 rfl ?_
      refine gk_iald_c (pc := 25) cll_50 sh_50 rfl dX5_leftAt_25 ?_
      refine gk_goto (tgt := 30) (pc := 26) dX5_leftAt_26 (by decide) ?_
      exact gk_iret (pc := 30) rfl dX5_leftAt_30
def f_X5_weightAmong_J38 (σ : gs_Mem) (k6 : Int → Int → Option (Int)) (v1 : Nat) (v2 : Int) (v3 : Int) (v5 : Int) (t0 : Int) (t1 : Int) : Option (Int) :=
  k6 (t1 + t0) (v5 + 1)
set_option maxRecDepth 100000 in
set_option maxHeartbeats 4000000 in
theorem k_X5_weightAmong_J38 {E : gs_E} (σ : gs_Mem) (k6 : Int → Int → Option (Int))  (v1 : Nat) (v2 : Int) (v3 : Int) (v5 : Int) (t0 : Int) (t1 : Int) (hv1 : isPl v1) (hk6 : ∀ (w4 : Int) (w5 : Int), gs_K E (gs_MC E yX5_weightAmong cX5_weightAmong 6 (some .int) 0 { frames := 1, cells := 0, slots := 0, locals := 22 }) (fun v : Int => (v, σ)) (k6 w4 w5) 6 [(1, gr E v1), (2, gi v2), (3, gi v3), (4, gi w4), (5, gi w5)] [] σ) : gs_K E (gs_MC E yX5_weightAmong cX5_weightAmong 6 (some .int) 0 { frames := 1, cells := 0, slots := 0, locals := 22 }) (fun v : Int => (v, σ)) (f_X5_weightAmong_J38 σ k6 v1 v2 v3 v5 t0 t1) 38 [(1, gr E v1), (2, gi v2), (3, gi v3), (5, gi v5)] [gi t0, gi t1] σ := by
  unfold f_X5_weightAmong_J38
  refine gk_iadd (pc := 38) dX5_weightAmong_38 ?_
  refine gk_istore (L' := [(4, gi (t1 + t0)), (1, gr E v1), (2, gi v2), (3, gi v3), (5, gi v5)]) (pc := 39) dX5_weightAmong_39 (Nat.le_of_ble_eq_true rfl) rfl ?_
  refine gk_iinc (L' := [(5, gi (v5 + 1)), (4, gi (t1 + t0)), (1, gr E v1), (2, gi v2), (3, gi v3)]) (pc := 41) 4 dX5_weightAmong_41 rfl (Nat.le_of_ble_eq_true rfl) rfl ?_
  refine gk_goto (tgt := 6) (pc := 44) dX5_weightAmong_44 (by decide) ?_
  refine gk_sub (L' := [(1, gr E v1), (2, gi v2), (3, gi v3), (4, gi (t1 + t0)), (5, gi (v5 + 1))]) [2, 3, 4, 1, 0] rfl ?_
  exact hk6 (t1 + t0) (v5 + 1)
def f_X5_weightAmong_L6 (σ : gs_Mem) (v1 : Nat) (v2 : Int) (v3 : Int) : Nat → Int → Int → Option (Int)
  | 0, _, _ => none
  | n + 1, v4, v5 =>
    (f_X0_size v1 σ).bind fun u1 =>
    if (gn u1) ≤ (gn v5) then
      some v4
    else
      if (gand (gshr v2 v5) 1) = 1 then
        (f_X0_between v1 v3 v5 σ).bind fun u2 =>
        f_X5_weightAmong_J38 σ (f_X5_weightAmong_L6 σ v1 v2 v3 n) v1 v2 v3 v5 u2 v4
      else
        f_X5_weightAmong_J38 σ (f_X5_weightAmong_L6 σ v1 v2 v3 n) v1 v2 v3 v5 0 v4
set_option maxRecDepth 100000 in
set_option maxHeartbeats 4000000 in
theorem k_X5_weightAmong_L6 {E : gs_E} (σ : gs_Mem) (v1 : Nat) (v2 : Int) (v3 : Int) (hv1 : isPl v1)  : ∀ (n : Nat) (v4 : Int) (v5 : Int), gs_K E (gs_MC E yX5_weightAmong cX5_weightAmong 6 (some .int) 0 { frames := 1, cells := 0, slots := 0, locals := 22 }) (fun v : Int => (v, σ)) (f_X5_weightAmong_L6 σ v1 v2 v3 n v4 v5) 6 [(1, gr E v1), (2, gi v2), (3, gi v3), (4, gi v4), (5, gi v5)] [] σ := by
  intro n
  induction n with
  | zero => intro v4 v5; rw [f_X5_weightAmong_L6]; exact gk_none
  | succ n ih =>
    intro v4 v5; rw [f_X5_weightAmong_L6]
    refine gk_iload (pc := 6) 4 dX5_weightAmong_6 rfl ?_
    refine gk_aload_n (pc := 8) 0 dX5_weightAmong_8 rfl ?_
    refine gk_callV_ir (As := []) (pc := 9) (c_X0_size v1 hv1 σ) rfl mm_X0_size ww_514 clsX0 rfl (pl_lt0 hv1) (pl_sh hv1) (gs_fit_of (Nat.le_of_ble_eq_true rfl) (Nat.le_of_ble_eq_true rfl)) rfl rfl (Nat.le_of_ble_eq_true rfl) dX5_weightAmong_9 (fun u1 => ?_)
    refine gk_icmp_ge (tgt := 47) (pc := 12) dX5_weightAmong_12 (by decide) rfl rfl ?_ ?_
    · refine gk_iload (pc := 47) 3 dX5_weightAmong_47 rfl ?_
      exact gk_iret (pc := 49) rfl dX5_weightAmong_49
    · refine gk_iload (pc := 15) 3 dX5_weightAmong_15 rfl ?_
      refine gk_iload_n (pc := 17) 1 dX5_weightAmong_17 rfl ?_
      refine gk_iload (pc := 18) 4 dX5_weightAmong_18 rfl ?_
      refine gk_ishr (pc := 20) dX5_weightAmong_20 ?_
      refine gk_iconst (pc := 21) dX5_weightAmong_21 ?_
      refine gk_iand (pc := 22) dX5_weightAmong_22 ?_
      refine gk_iconst (pc := 23) dX5_weightAmong_23 ?_
      refine gk_icmp_ne (tgt := 37) (pc := 24) dX5_weightAmong_24 (by decide) (gn_ti _) (by decide +kernel) ?_ ?_
      · refine gk_iconst (pc := 37) dX5_weightAmong_37 ?_
        refine gk_sub (L' := [(1, gr E v1), (2, gi v2), (3, gi v3), (5, gi v5)]) [0, 1, 2, 4] rfl ?_
        exact k_X5_weightAmong_J38 σ (f_X5_weightAmong_L6 σ v1 v2 v3 n) v1 v2 v3 v5 0 v4 hv1 ih
      · refine gk_aload_n (pc := 27) 0 dX5_weightAmong_27 rfl ?_
        refine gk_iload_n (pc := 28) 2 dX5_weightAmong_28 rfl ?_
        refine gk_iload (pc := 29) 4 dX5_weightAmong_29 rfl ?_
        refine gk_callV_ir (As := [gi v3, gi v5]) (pc := 31) (c_X0_between v1 v3 v5 hv1 σ) rfl mm_X0_between ww_523 clsX0 rfl (pl_lt0 hv1) (pl_sh hv1) (gs_fit_of (Nat.le_of_ble_eq_true rfl) (Nat.le_of_ble_eq_true rfl)) rfl rfl (Nat.le_of_ble_eq_true rfl) dX5_weightAmong_31 (fun u2 => ?_)
        refine gk_goto (tgt := 38) (pc := 34) dX5_weightAmong_34 (by decide) ?_
        refine gk_sub (L' := [(1, gr E v1), (2, gi v2), (3, gi v3), (5, gi v5)]) [0, 1, 2, 4] rfl ?_
        exact k_X5_weightAmong_J38 σ (f_X5_weightAmong_L6 σ v1 v2 v3 n) v1 v2 v3 v5 u2 v4 hv1 ih
def f_X5_weightAmong (r1 : Nat) (v2 : Int) (v3 : Int) (σ : gs_Mem) : Option (Int) :=
  f_X5_weightAmong_L6 σ r1 v2 v3 gs_fuel 0 0
set_option maxRecDepth 100000 in
set_option maxHeartbeats 4000000 in
theorem c_X5_weightAmong {E : gs_E} (r1 : Nat) (v2 : Int) (v3 : Int) (hr1 : isPl r1) (σ : gs_Mem) : gs_C E yX5_weightAmong cX5_weightAmong 6 (some .int) 0 { frames := 1, cells := 0, slots := 0, locals := 22 } [gr E 48, gr E r1, gi v2, gi v3] σ (f_X5_weightAmong r1 v2 v3 σ) (fun v : Int => (v, σ)) := by
  unfold f_X5_weightAmong
  refine gs_enter (L := [(0, gr E 48), (1, gr E r1), (2, gi v2), (3, gi v3)]) (by decide) rfl rfl (Nat.le_of_ble_eq_true rfl) rfl ?_
  refine gk_iconst (pc := 0) dX5_weightAmong_0 ?_
  refine gk_istore (L' := [(4, gi 0), (0, gr E 48), (1, gr E r1), (2, gi v2), (3, gi v3)]) (pc := 1) dX5_weightAmong_1 (Nat.le_of_ble_eq_true rfl) rfl ?_
  refine gk_iconst (pc := 3) dX5_weightAmong_3 ?_
  refine gk_istore (L' := [(5, gi 0), (4, gi 0), (0, gr E 48), (1, gr E r1), (2, gi v2), (3, gi v3)]) (pc := 4) dX5_weightAmong_4 (Nat.le_of_ble_eq_true rfl) rfl ?_
  refine gk_sub (L' := [(1, gr E r1), (2, gi v2), (3, gi v3), (4, gi 0), (5, gi 0)]) [3, 4, 5, 1, 0] rfl ?_
  exact k_X5_weightAmong_L6 σ r1 v2 v3 hr1 gs_fuel 0 0
def f_X5_tightest_J85 (σ : gs_Mem) (k12 : Int → Int → Int → Int → Option (Int)) (v1 : Nat) (v2 : Int) (v3 : Int) (v4 : Int) (v5 : Int) (v6 : Int) (v7 : Int) : Option (Int) :=
  k12 v4 v5 v6 (v7 + 1)
set_option maxRecDepth 100000 in
set_option maxHeartbeats 4000000 in
theorem k_X5_tightest_J85 {E : gs_E} (σ : gs_Mem) (k12 : Int → Int → Int → Int → Option (Int))  (v1 : Nat) (v2 : Int) (v3 : Int) (v4 : Int) (v5 : Int) (v6 : Int) (v7 : Int) (hv1 : isPl v1) (hk12 : ∀ (w4 : Int) (w5 : Int) (w6 : Int) (w7 : Int), gs_K E (gs_MC E yX5_tightest cX5_tightest 10 (some .int) 0 { frames := 2, cells := 0, slots := 0, locals := 47 }) (fun v : Int => (v, σ)) (k12 w4 w5 w6 w7) 12 [(0, gr E 48), (1, gr E v1), (2, gi v2), (3, gi v3), (4, gi w4), (5, gi w5), (6, gi w6), (7, gi w7)] [] σ) : gs_K E (gs_MC E yX5_tightest cX5_tightest 10 (some .int) 0 { frames := 2, cells := 0, slots := 0, locals := 47 }) (fun v : Int => (v, σ)) (f_X5_tightest_J85 σ k12 v1 v2 v3 v4 v5 v6 v7) 85 [(0, gr E 48), (1, gr E v1), (2, gi v2), (3, gi v3), (4, gi v4), (5, gi v5), (6, gi v6), (7, gi v7)] [] σ := by
  unfold f_X5_tightest_J85
  refine gk_iinc (L' := [(7, gi (v7 + 1)), (0, gr E 48), (1, gr E v1), (2, gi v2), (3, gi v3), (4, gi v4), (5, gi v5), (6, gi v6)]) (pc := 85) 7 dX5_tightest_85 rfl (Nat.le_of_ble_eq_true rfl) rfl ?_
  refine gk_goto (tgt := 12) (pc := 88) dX5_tightest_88 (by decide) ?_
  refine gk_sub (L' := [(0, gr E 48), (1, gr E v1), (2, gi v2), (3, gi v3), (4, gi v4), (5, gi v5), (6, gi v6), (7, gi (v7 + 1))]) [1, 2, 3, 4, 5, 6, 7, 0] rfl ?_
  exact hk12 v4 v5 v6 (v7 + 1)
def f_X5_tightest_J73 (σ : gs_Mem) (k12 : Int → Int → Int → Int → Option (Int)) (v1 : Nat) (v2 : Int) (v3 : Int) (v7 : Int) (v8 : Int) (v9 : Int) : Option (Int) :=
  f_X5_tightest_J85 σ k12 v1 v2 v3 v7 v8 v9 v7
set_option maxRecDepth 100000 in
set_option maxHeartbeats 4000000 in
theorem k_X5_tightest_J73 {E : gs_E} (σ : gs_Mem) (k12 : Int → Int → Int → Int → Option (Int))  (v1 : Nat) (v2 : Int) (v3 : Int) (v7 : Int) (v8 : Int) (v9 : Int) (hv1 : isPl v1) (hk12 : ∀ (w4 : Int) (w5 : Int) (w6 : Int) (w7 : Int), gs_K E (gs_MC E yX5_tightest cX5_tightest 10 (some .int) 0 { frames := 2, cells := 0, slots := 0, locals := 47 }) (fun v : Int => (v, σ)) (k12 w4 w5 w6 w7) 12 [(0, gr E 48), (1, gr E v1), (2, gi v2), (3, gi v3), (4, gi w4), (5, gi w5), (6, gi w6), (7, gi w7)] [] σ) : gs_K E (gs_MC E yX5_tightest cX5_tightest 10 (some .int) 0 { frames := 2, cells := 0, slots := 0, locals := 47 }) (fun v : Int => (v, σ)) (f_X5_tightest_J73 σ k12 v1 v2 v3 v7 v8 v9) 73 [(0, gr E 48), (1, gr E v1), (2, gi v2), (3, gi v3), (7, gi v7), (8, gi v8), (9, gi v9)] [] σ := by
  unfold f_X5_tightest_J73
  refine gk_iload (pc := 73) 4 dX5_tightest_73 rfl ?_
  refine gk_istore (L' := [(4, gi v7), (0, gr E 48), (1, gr E v1), (2, gi v2), (3, gi v3), (7, gi v7), (8, gi v8), (9, gi v9)]) (pc := 75) dX5_tightest_75 (Nat.le_of_ble_eq_true rfl) rfl ?_
  refine gk_iload (pc := 77) 6 dX5_tightest_77 rfl ?_
  refine gk_istore (L' := [(5, gi v8), (4, gi v7), (0, gr E 48), (1, gr E v1), (2, gi v2), (3, gi v3), (7, gi v7), (8, gi v8), (9, gi v9)]) (pc := 79) dX5_tightest_79 (Nat.le_of_ble_eq_true rfl) rfl ?_
  refine gk_iload (pc := 81) 8 dX5_tightest_81 rfl ?_
  refine gk_istore (L' := [(6, gi v9), (5, gi v8), (4, gi v7), (0, gr E 48), (1, gr E v1), (2, gi v2), (3, gi v3), (7, gi v7), (8, gi v8), (9, gi v9)]) (pc := 83) dX5_tightest_83 (Nat.le_of_ble_eq_true rfl) rfl ?_
  refine gk_sub (L' := [(0, gr E 48), (1, gr E v1), (2, gi v2), (3, gi v3), (4, gi v7), (5, gi v8), (6, gi v9), (7, gi v7)]) [3, 4, 5, 6, 2, 1, 0, 7] rfl ?_
  exact k_X5_tightest_J85 σ k12 v1 v2 v3 v7 v8 v9 v7 hv1 hk12
def f_X5_tightest_L12 (σ : gs_Mem) (v1 : Nat) (v2 : Int) (v3 : Int) : Nat → Int → Int → Int → Int → Option (Int)
  | 0, _, _, _, _ => none
  | n + 1, v4, v5, v6, v7 =>
    (f_X0_size v1 σ).bind fun u1 =>
    if (gn u1) ≤ (gn v7) then
      some v4
    else
      if (gand (gshr v2 v7) 1) = 1 then
        (f_X5_leftAt v3 v7 σ).bind fun u2 =>
        (f_J6_bitCount_0f7a4 u2 σ).bind fun u3 =>
        (f_X5_weightAmong v1 v2 v7 σ).bind fun u4 =>
        if (gn v4) < 0 then
          f_X5_tightest_J73 σ (f_X5_tightest_L12 σ v1 v2 v3 n) v1 v2 v3 v7 u3 (1 + u4)
        else
          if (gn (v5 * (1 + u4))) ≤ (gn (u3 * v6)) then
            f_X5_tightest_J85 σ (f_X5_tightest_L12 σ v1 v2 v3 n) v1 v2 v3 v4 v5 v6 v7
          else
            f_X5_tightest_J73 σ (f_X5_tightest_L12 σ v1 v2 v3 n) v1 v2 v3 v7 u3 (1 + u4)
      else
        f_X5_tightest_J85 σ (f_X5_tightest_L12 σ v1 v2 v3 n) v1 v2 v3 v4 v5 v6 v7
set_option maxRecDepth 100000 in
set_option maxHeartbeats 4000000 in
theorem k_X5_tightest_L12 {E : gs_E} (σ : gs_Mem) (v1 : Nat) (v2 : Int) (v3 : Int) (hv1 : isPl v1)  : ∀ (n : Nat) (v4 : Int) (v5 : Int) (v6 : Int) (v7 : Int), gs_K E (gs_MC E yX5_tightest cX5_tightest 10 (some .int) 0 { frames := 2, cells := 0, slots := 0, locals := 47 }) (fun v : Int => (v, σ)) (f_X5_tightest_L12 σ v1 v2 v3 n v4 v5 v6 v7) 12 [(0, gr E 48), (1, gr E v1), (2, gi v2), (3, gi v3), (4, gi v4), (5, gi v5), (6, gi v6), (7, gi v7)] [] σ := by
  intro n
  induction n with
  | zero => intro v4 v5 v6 v7; rw [f_X5_tightest_L12]; exact gk_none
  | succ n ih =>
    intro v4 v5 v6 v7; rw [f_X5_tightest_L12]
    refine gk_iload (pc := 12) 7 dX5_tightest_12 rfl ?_
    refine gk_aload_n (pc := 14) 1 dX5_tightest_14 rfl ?_
    refine gk_callV_ir (As := []) (pc := 15) (c_X0_size v1 hv1 σ) rfl mm_X0_size ww_514 clsX0 rfl (pl_lt0 hv1) (pl_sh hv1) (gs_fit_of (Nat.le_of_ble_eq_true rfl) (Nat.le_of_ble_eq_true rfl)) rfl rfl (Nat.le_of_ble_eq_true rfl) dX5_tightest_15 (fun u1 => ?_)
    refine gk_icmp_ge (tgt := 91) (pc := 18) dX5_tightest_18 (by decide) rfl rfl ?_ ?_
    · refine gk_iload (pc := 91) 4 dX5_tightest_91 rfl ?_
      exact gk_iret (pc := 93) rfl dX5_tightest_93
    · refine gk_iload_n (pc := 21) 2 dX5_tightest_21 rfl ?_
      refine gk_iload (pc := 22) 7 dX5_tightest_22 rfl ?_
      refine gk_ishr (pc := 24) dX5_tightest_24 ?_
      refine gk_iconst (pc := 25) dX5_tightest_25 ?_
      refine gk_iand (pc := 26) dX5_tightest_26 ?_
      refine gk_iconst (pc := 27) dX5_tightest_27 ?_
      refine gk_icmp_ne (tgt := 85) (pc := 28) dX5_tightest_28 (by decide) (gn_ti _) (by decide +kernel) ?_ ?_
      · exact k_X5_tightest_J85 σ (f_X5_tightest_L12 σ v1 v2 v3 n) v1 v2 v3 v4 v5 v6 v7 hv1 ih
      · refine gk_aload_n (pc := 31) 0 dX5_tightest_31 rfl ?_
        refine gk_iload_n (pc := 32) 3 dX5_tightest_32 rfl ?_
        refine gk_iload (pc := 33) 7 dX5_tightest_33 rfl ?_
        refine gk_callV_ir (As := [gi v3, gi v7]) (pc := 35) (c_X5_leftAt v3 v7 σ) rfl mm_X5_leftAt ww_555 clsX5 rfl cll_48 sh_48 (gs_fit_of (Nat.le_of_ble_eq_true rfl) (Nat.le_of_ble_eq_true rfl)) rfl rfl (Nat.le_of_ble_eq_true rfl) dX5_tightest_35 (fun u2 => ?_)
        refine gk_callS_ir (As := [gi u2]) (pc := 38) (c_J6_bitCount_0f7a4 u2 σ) rfl mm_J6_bitCount_0f7a4 ww_524 (gs_fit_of (Nat.le_of_ble_eq_true rfl) (Nat.le_of_ble_eq_true rfl)) rfl rfl (Nat.le_of_ble_eq_true rfl) dX5_tightest_38 (fun u3 => ?_)
        refine gk_istore (L' := [(8, gi u3), (0, gr E 48), (1, gr E v1), (2, gi v2), (3, gi v3), (4, gi v4), (5, gi v5), (6, gi v6), (7, gi v7)]) (pc := 41) dX5_tightest_41 (Nat.le_of_ble_eq_true rfl) rfl ?_
        refine gk_iconst (pc := 43) dX5_tightest_43 ?_
        refine gk_aload_n (pc := 44) 1 dX5_tightest_44 rfl ?_
        refine gk_aload_n (pc := 45) 2 dX5_tightest_45 rfl ?_
        refine gk_iload_n (pc := 46) 3 dX5_tightest_46 rfl ?_
        refine gk_iload (pc := 47) 8 dX5_tightest_47 rfl ?_
        refine gk_callV_ir (As := [gr E v1, gi v2, gi v7]) (pc := 49) (c_X5_weightAmong v1 v2 v7 hv1 σ) rfl mm_X5_weightAmong ww_559 clsX5 rfl cll_48 sh_48 (gs_fit_of (Nat.le_of_ble_eq_true rfl) (Nat.le_of_ble_eq_true rfl)) rfl rfl (Nat.le_of_ble_eq_true rfl) dX5_tightest_49 (fun u4 => ?_)
        refine gk_iadd (pc := 52) dX5_tightest_52 ?_
        refine gk_istore (L' := [(9, gi (1 + u4)), (8, gi u3), (0, gr E 48), (1, gr E v1), (2, gi v2), (3, gi v3), (4, gi v4), (5, gi v5), (6, gi v6), (7, gi v7)]) (pc := 53) dX5_tightest_53 (Nat.le_of_ble_eq_true rfl) rfl ?_
        refine gk_iload (pc := 55) 6 dX5_tightest_55 rfl ?_
        refine gk_if_lt (tgt := 73) (pc := 57) dX5_tightest_57 (by decide) rfl ?_ ?_
        · refine gk_sub (L' := [(0, gr E 48), (1, gr E v1), (2, gi v2), (3, gi v3), (7, gi v7), (8, gi u3), (9, gi (1 + u4))]) [2, 3, 4, 5, 9, 1, 0] rfl ?_
          exact k_X5_tightest_J73 σ (f_X5_tightest_L12 σ v1 v2 v3 n) v1 v2 v3 v7 u3 (1 + u4) hv1 ih
        · refine gk_iload (pc := 60) 1 dX5_tightest_60 rfl ?_
          refine gk_iload (pc := 62) 8 dX5_tightest_62 rfl ?_
          refine gk_imul (pc := 64) dX5_tightest_64 ?_
          refine gk_iload (pc := 65) 7 dX5_tightest_65 rfl ?_
          refine gk_iload (pc := 67) 0 dX5_tightest_67 rfl ?_
          refine gk_imul (pc := 69) dX5_tightest_69 ?_
          refine gk_icmp_ge (tgt := 85) (pc := 70) dX5_tightest_70 (by decide) rfl rfl ?_ ?_
          · refine gk_sub (L' := [(0, gr E 48), (1, gr E v1), (2, gi v2), (3, gi v3), (4, gi v4), (5, gi v5), (6, gi v6), (7, gi v7)]) [2, 3, 4, 5, 6, 7, 8, 9] rfl ?_
            exact k_X5_tightest_J85 σ (f_X5_tightest_L12 σ v1 v2 v3 n) v1 v2 v3 v4 v5 v6 v7 hv1 ih
          · refine gk_sub (L' := [(0, gr E 48), (1, gr E v1), (2, gi v2), (3, gi v3), (7, gi v7), (8, gi u3), (9, gi (1 + u4))]) [2, 3, 4, 5, 9, 1, 0] rfl ?_
            exact k_X5_tightest_J73 σ (f_X5_tightest_L12 σ v1 v2 v3 n) v1 v2 v3 v7 u3 (1 + u4) hv1 ih
def f_X5_tightest (r1 : Nat) (v2 : Int) (v3 : Int) (σ : gs_Mem) : Option (Int) :=
  f_X5_tightest_L12 σ r1 v2 v3 gs_fuel (-1) 0 0 0
set_option maxRecDepth 100000 in
set_option maxHeartbeats 4000000 in
theorem c_X5_tightest {E : gs_E} (r1 : Nat) (v2 : Int) (v3 : Int) (hr1 : isPl r1) (σ : gs_Mem) : gs_C E yX5_tightest cX5_tightest 10 (some .int) 0 { frames := 2, cells := 0, slots := 0, locals := 47 } [gr E 48, gr E r1, gi v2, gi v3] σ (f_X5_tightest r1 v2 v3 σ) (fun v : Int => (v, σ)) := by
  unfold f_X5_tightest
  refine gs_enter (L := [(0, gr E 48), (1, gr E r1), (2, gi v2), (3, gi v3)]) (by decide) rfl rfl (Nat.le_of_ble_eq_true rfl) rfl ?_
  refine gk_iconst (pc := 0) dX5_tightest_0 ?_
  refine gk_istore (L' := [(4, gi (-1)), (0, gr E 48), (1, gr E r1), (2, gi v2), (3, gi v3)]) (pc := 1) dX5_tightest_1 (Nat.le_of_ble_eq_true rfl) rfl ?_
  refine gk_iconst (pc := 3) dX5_tightest_3 ?_
  refine gk_istore (L' := [(5, gi 0), (4, gi (-1)), (0, gr E 48), (1, gr E r1), (2, gi v2), (3, gi v3)]) (pc := 4) dX5_tightest_4 (Nat.le_of_ble_eq_true rfl) rfl ?_
  refine gk_iconst (pc := 6) dX5_tightest_6 ?_
  refine gk_istore (L' := [(6, gi 0), (5, gi 0), (4, gi (-1)), (0, gr E 48), (1, gr E r1), (2, gi v2), (3, gi v3)]) (pc := 7) dX5_tightest_7 (Nat.le_of_ble_eq_true rfl) rfl ?_
  refine gk_iconst (pc := 9) dX5_tightest_9 ?_
  refine gk_istore (L' := [(7, gi 0), (6, gi 0), (5, gi 0), (4, gi (-1)), (0, gr E 48), (1, gr E r1), (2, gi v2), (3, gi v3)]) (pc := 10) dX5_tightest_10 (Nat.le_of_ble_eq_true rfl) rfl ?_
  refine gk_sub (L' := [(0, gr E 48), (1, gr E r1), (2, gi v2), (3, gi v3), (4, gi (-1)), (5, gi 0), (6, gi 0), (7, gi 0)]) [4, 5, 6, 7, 3, 2, 1, 0] rfl ?_
  exact k_X5_tightest_L12 σ r1 v2 v3 hr1 gs_fuel (-1) 0 0 0
def f_X5_lowerHalf (v0 : Int) (σ : gs_Mem) : Option (Int) :=
  (f_J6_bitCount_0f7a4 v0 σ).bind fun u1 =>
  gs_chk0 2 (
  some (gand v0 ((gshl 1 (gdiv (u1 + 1) 2)) - 1)))
set_option maxRecDepth 100000 in
set_option maxHeartbeats 4000000 in
theorem c_X5_lowerHalf {E : gs_E} (v0 : Int)  (σ : gs_Mem) : gs_C E yX5_lowerHalf cX5_lowerHalf 1 (some .int) 0 { frames := 1, cells := 0, slots := 0, locals := 20 } [gi v0] σ (f_X5_lowerHalf v0 σ) (fun v : Int => (v, σ)) := by
  unfold f_X5_lowerHalf
  refine gs_enter (L := [(0, gi v0)]) (by decide) rfl rfl (Nat.le_of_ble_eq_true rfl) rfl ?_
  refine gk_iload_n (pc := 0) 0 dX5_lowerHalf_0 rfl ?_
  refine gk_iconst (pc := 1) dX5_lowerHalf_1 ?_
  refine gk_iload_n (pc := 2) 0 dX5_lowerHalf_2 rfl ?_
  refine gk_callS_ir (As := [gi v0]) (pc := 3) (c_J6_bitCount_0f7a4 v0 σ) rfl mm_J6_bitCount_0f7a4 ww_524 (gs_fit_of (Nat.le_of_ble_eq_true rfl) (Nat.le_of_ble_eq_true rfl)) rfl rfl (Nat.le_of_ble_eq_true rfl) dX5_lowerHalf_3 (fun u1 => ?_)
  refine gk_iconst (pc := 6) dX5_lowerHalf_6 ?_
  refine gk_iadd (pc := 7) dX5_lowerHalf_7 ?_
  refine gk_iconst (pc := 8) dX5_lowerHalf_8 ?_
  refine gk_idiv_g (pc := 9) dX5_lowerHalf_9 (by decide +kernel) ?_
  refine gk_ishl (pc := 10) dX5_lowerHalf_10 ?_
  refine gk_iconst (pc := 11) dX5_lowerHalf_11 ?_
  refine gk_isub (pc := 12) dX5_lowerHalf_12 ?_
  refine gk_iand (pc := 13) dX5_lowerHalf_13 ?_
  exact gk_iret (pc := 14) rfl dX5_lowerHalf_14
def f_X5_leaves_J65 (k3 : Int → gs_Mem → Option (Int × gs_Mem)) (v1 : Nat) (v2 : Int) (v3 : Int) (v4 : Int) (v5 : Int) (v6 : Int) (σ : gs_Mem) : Option (Int × gs_Mem) :=
  k3 (v6 + 1) σ
set_option maxRecDepth 100000 in
set_option maxHeartbeats 4000000 in
theorem k_X5_leaves_J65 {E : gs_E} (k3 : Int → gs_Mem → Option (Int × gs_Mem))  (v1 : Nat) (v2 : Int) (v3 : Int) (v4 : Int) (v5 : Int) (v6 : Int) (hv1 : isPl v1) (hk3 : ∀ (w6 : Int) (σ : gs_Mem), gs_K E (gs_MC E yX5_leaves cX5_leaves 8 (some .boolean) 0 { frames := 1, cells := 0, slots := 0, locals := 24 }) (fun b : Int × gs_Mem => b) (k3 w6 σ) 3 [(0, gr E 48), (1, gr E v1), (2, gi v2), (3, gi v3), (4, gi v4), (5, gi v5), (6, gi w6)] [] σ) (σ : gs_Mem) : gs_K E (gs_MC E yX5_leaves cX5_leaves 8 (some .boolean) 0 { frames := 1, cells := 0, slots := 0, locals := 24 }) (fun b : Int × gs_Mem => b) (f_X5_leaves_J65 k3 v1 v2 v3 v4 v5 v6 σ) 65 [(0, gr E 48), (1, gr E v1), (2, gi v2), (3, gi v3), (4, gi v4), (5, gi v5), (6, gi v6)] [] σ := by
  unfold f_X5_leaves_J65
  refine gk_iinc (L' := [(6, gi (v6 + 1)), (0, gr E 48), (1, gr E v1), (2, gi v2), (3, gi v3), (4, gi v4), (5, gi v5)]) (pc := 65) 6 dX5_leaves_65 rfl (Nat.le_of_ble_eq_true rfl) rfl ?_
  refine gk_goto (tgt := 3) (pc := 68) dX5_leaves_68 (by decide) ?_
  refine gk_sub (L' := [(0, gr E 48), (1, gr E v1), (2, gi v2), (3, gi v3), (4, gi v4), (5, gi v5), (6, gi (v6 + 1))]) [1, 2, 3, 4, 5, 6, 0] rfl ?_
  exact hk3 (v6 + 1) σ
def f_X5_leaves_L3 (v1 : Nat) (v2 : Int) (v3 : Int) (v4 : Int) (v5 : Int) : Nat → Int → gs_Mem → Option (Int × gs_Mem)
  | 0, _, _ => none
  | n + 1, v6, σ =>
    (f_X0_size v1 σ).bind fun u1 =>
    if (gn u1) ≤ (gn v6) then
      some (1, σ)
    else
      if (gand (gshr v2 v6) 1) = 1 then
        (f_X5_leftAt v3 v6 σ).bind fun u2 =>
        (f_X0_between v1 v4 v6 σ).bind fun u3 =>
        (f_X6_band v5 u3 σ).bind fun u4 =>
        if (gand u2 (gxor u4 (-1))) = 0 then
          some (0, σ)
        else
          (f_X5_leave (v3 + 1) v6 (gand u2 (gxor u4 (-1))) σ).bind fun b5 =>
          f_X5_leaves_J65 (f_X5_leaves_L3 v1 v2 v3 v4 v5 n) v1 v2 v3 v4 v5 v6 b5.2
      else
        f_X5_leaves_J65 (f_X5_leaves_L3 v1 v2 v3 v4 v5 n) v1 v2 v3 v4 v5 v6 σ
set_option maxRecDepth 100000 in
set_option maxHeartbeats 4000000 in
theorem k_X5_leaves_L3 {E : gs_E} (v1 : Nat) (v2 : Int) (v3 : Int) (v4 : Int) (v5 : Int) (hv1 : isPl v1)  : ∀ (n : Nat) (v6 : Int) (σ : gs_Mem), gs_K E (gs_MC E yX5_leaves cX5_leaves 8 (some .boolean) 0 { frames := 1, cells := 0, slots := 0, locals := 24 }) (fun b : Int × gs_Mem => b) (f_X5_leaves_L3 v1 v2 v3 v4 v5 n v6 σ) 3 [(0, gr E 48), (1, gr E v1), (2, gi v2), (3, gi v3), (4, gi v4), (5, gi v5), (6, gi v6)] [] σ := by
  intro n
  induction n with
  | zero => intro v6 σ; rw [f_X5_leaves_L3]; exact gk_none
  | succ n ih =>
    intro v6 σ; rw [f_X5_leaves_L3]
    refine gk_iload (pc := 3) 6 dX5_leaves_3 rfl ?_
    refine gk_aload_n (pc := 5) 1 dX5_leaves_5 rfl ?_
    refine gk_callV_ir (As := []) (pc := 6) (c_X0_size v1 hv1 σ) rfl mm_X0_size ww_514 clsX0 rfl (pl_lt0 hv1) (pl_sh hv1) (gs_fit_of (Nat.le_of_ble_eq_true rfl) (Nat.le_of_ble_eq_true rfl)) rfl rfl (Nat.le_of_ble_eq_true rfl) dX5_leaves_6 (fun u1 => ?_)
    refine gk_icmp_ge (tgt := 71) (pc := 9) dX5_leaves_9 (by decide) rfl rfl ?_ ?_
    · refine gk_iconst (pc := 71) dX5_leaves_71 ?_
      exact gk_zret (pc := 72) (Or.inr (by decide +kernel)) rfl dX5_leaves_72
    · refine gk_iload_n (pc := 12) 2 dX5_leaves_12 rfl ?_
      refine gk_iload (pc := 13) 6 dX5_leaves_13 rfl ?_
      refine gk_ishr (pc := 15) dX5_leaves_15 ?_
      refine gk_iconst (pc := 16) dX5_leaves_16 ?_
      refine gk_iand (pc := 17) dX5_leaves_17 ?_
      refine gk_iconst (pc := 18) dX5_leaves_18 ?_
      refine gk_icmp_ne (tgt := 65) (pc := 19) dX5_leaves_19 (by decide) (gn_ti _) (by decide +kernel) ?_ ?_
      · exact k_X5_leaves_J65 (f_X5_leaves_L3 v1 v2 v3 v4 v5 n) v1 v2 v3 v4 v5 v6 hv1 ih σ
      · refine gk_aload_n (pc := 22) 0 dX5_leaves_22 rfl ?_
        refine gk_iload_n (pc := 23) 3 dX5_leaves_23 rfl ?_
        refine gk_iload (pc := 24) 6 dX5_leaves_24 rfl ?_
        refine gk_callV_ir (As := [gi v3, gi v6]) (pc := 26) (c_X5_leftAt v3 v6 σ) rfl mm_X5_leftAt ww_555 clsX5 rfl cll_48 sh_48 (gs_fit_of (Nat.le_of_ble_eq_true rfl) (Nat.le_of_ble_eq_true rfl)) rfl rfl (Nat.le_of_ble_eq_true rfl) dX5_leaves_26 (fun u2 => ?_)
        refine gk_iload (pc := 29) 5 dX5_leaves_29 rfl ?_
        refine gk_aload_n (pc := 31) 1 dX5_leaves_31 rfl ?_
        refine gk_iload (pc := 32) 4 dX5_leaves_32 rfl ?_
        refine gk_iload (pc := 34) 6 dX5_leaves_34 rfl ?_
        refine gk_callV_ir (As := [gi v4, gi v6]) (pc := 36) (c_X0_between v1 v4 v6 hv1 σ) rfl mm_X0_between ww_523 clsX0 rfl (pl_lt0 hv1) (pl_sh hv1) (gs_fit_of (Nat.le_of_ble_eq_true rfl) (Nat.le_of_ble_eq_true rfl)) rfl rfl (Nat.le_of_ble_eq_true rfl) dX5_leaves_36 (fun u3 => ?_)
        refine gk_callSN_ir (As := [gi v5, gi u3]) (pc := 39) (c_X6_band v5 u3 σ) rfl mm_X6_band ww_543 (gs_fit_of (Nat.le_of_ble_eq_true rfl) (Nat.le_of_ble_eq_true rfl)) rfl rfl (Nat.le_of_ble_eq_true rfl) dX5_leaves_39 (fun u4 => ?_)
        refine gk_iconst (pc := 42) dX5_leaves_42 ?_
        refine gk_ixor (pc := 43) dX5_leaves_43 ?_
        refine gk_iand (pc := 44) dX5_leaves_44 ?_
        refine gk_istore (L' := [(7, gi (gand u2 (gxor u4 (-1)))), (0, gr E 48), (1, gr E v1), (2, gi v2), (3, gi v3), (4, gi v4), (5, gi v5), (6, gi v6)]) (pc := 45) dX5_leaves_45 (Nat.le_of_ble_eq_true rfl) rfl ?_
        refine gk_iload (pc := 47) 0 dX5_leaves_47 rfl ?_
        refine gk_if_ne (tgt := 54) (pc := 49) dX5_leaves_49 (by decide) (gn_ti _) ?_ ?_
        · refine gk_aload_n (pc := 54) 1 dX5_leaves_54 rfl ?_
          refine gk_iload_n (pc := 55) 4 dX5_leaves_55 rfl ?_
          refine gk_iconst (pc := 56) dX5_leaves_56 ?_
          refine gk_iadd (pc := 57) dX5_leaves_57 ?_
          refine gk_iload (pc := 58) 7 dX5_leaves_58 rfl ?_
          refine gk_iload (pc := 60) 0 dX5_leaves_60 rfl ?_
          refine gk_callV_vw (As := [gi (v3 + 1), gi v6, gi (gand u2 (gxor u4 (-1)))]) (pc := 62) (c_X5_leave (v3 + 1) v6 (gand u2 (gxor u4 (-1))) σ) rfl mm_X5_leave ww_544 clsX5 rfl cll_48 sh_48 (gs_fit_of (Nat.le_of_ble_eq_true rfl) (Nat.le_of_ble_eq_true rfl)) rfl rfl (Nat.le_of_ble_eq_true rfl) dX5_leaves_62 (fun b5 => ?_)
          refine gk_sub (L' := [(0, gr E 48), (1, gr E v1), (2, gi v2), (3, gi v3), (4, gi v4), (5, gi v5), (6, gi v6)]) [1, 2, 3, 4, 5, 6, 7] rfl ?_
          exact k_X5_leaves_J65 (f_X5_leaves_L3 v1 v2 v3 v4 v5 n) v1 v2 v3 v4 v5 v6 hv1 ih b5.2
        · refine gk_iconst (pc := 52) dX5_leaves_52 ?_
          exact gk_zret (pc := 53) (Or.inl (by decide +kernel)) rfl dX5_leaves_53
def f_X5_leaves (r1 : Nat) (v2 : Int) (v3 : Int) (v4 : Int) (v5 : Int) (σ : gs_Mem) : Option (Int × gs_Mem) :=
  f_X5_leaves_L3 r1 v2 v3 v4 v5 gs_fuel 0 σ
set_option maxRecDepth 100000 in
set_option maxHeartbeats 4000000 in
theorem c_X5_leaves {E : gs_E} (r1 : Nat) (v2 : Int) (v3 : Int) (v4 : Int) (v5 : Int) (hr1 : isPl r1) (σ : gs_Mem) : gs_C E yX5_leaves cX5_leaves 8 (some .boolean) 0 { frames := 1, cells := 0, slots := 0, locals := 24 } [gr E 48, gr E r1, gi v2, gi v3, gi v4, gi v5] σ (f_X5_leaves r1 v2 v3 v4 v5 σ) (fun b : Int × gs_Mem => b) := by
  unfold f_X5_leaves
  refine gs_enter (L := [(0, gr E 48), (1, gr E r1), (2, gi v2), (3, gi v3), (4, gi v4), (5, gi v5)]) (by decide) rfl rfl (Nat.le_of_ble_eq_true rfl) rfl ?_
  refine gk_iconst (pc := 0) dX5_leaves_0 ?_
  refine gk_istore (L' := [(6, gi 0), (0, gr E 48), (1, gr E r1), (2, gi v2), (3, gi v3), (4, gi v4), (5, gi v5)]) (pc := 1) dX5_leaves_1 (Nat.le_of_ble_eq_true rfl) rfl ?_
  refine gk_sub (L' := [(0, gr E 48), (1, gr E r1), (2, gi v2), (3, gi v3), (4, gi v4), (5, gi v5), (6, gi 0)]) [1, 2, 3, 4, 5, 6, 0] rfl ?_
  exact k_X5_leaves_L3 r1 v2 v3 v4 v5 hr1 gs_fuel 0 σ
def f_X5_areSeated_J120 (rcf : Nat → Int → Int → gs_Mem → Option (Int × gs_Mem)) (k72 : Int → gs_Mem → Option (Int × gs_Mem)) (v1 : Nat) (v3 : Int) (v4 : Int) (v5 : Int) (v6 : Int) (v7 : Int) (σ : gs_Mem) : Option (Int × gs_Mem) :=
  k72 (v7 + 1) σ
set_option maxRecDepth 100000 in
set_option maxHeartbeats 4000000 in
theorem k_X5_areSeated_J120 {E : gs_E} {d : Nat} (rcf : Nat → Int → Int → gs_Mem → Option (Int × gs_Mem)) (hrec : ∀ (r1 : Nat) (v2 : Int) (v3 : Int) (hr1 : isPl r1) (σ : gs_Mem), gs_C E yX5_areSeated cX5_areSeated 8 (some .boolean) 0 { frames := d + 3, cells := 0, slots := 0, locals := d * 27 + 76 } [gr E 48, gr E r1, gi v2, gi v3] σ (rcf r1 v2 v3 σ) (fun b : Int × gs_Mem => b)) (k72 : Int → gs_Mem → Option (Int × gs_Mem))  (v1 : Nat) (v3 : Int) (v4 : Int) (v5 : Int) (v6 : Int) (v7 : Int) (hv1 : isPl v1) (hk72 : ∀ (w7 : Int) (σ : gs_Mem), gs_K E (gs_MC E yX5_areSeated cX5_areSeated 8 (some .boolean) 0 { frames := (d + 1) + 3, cells := 0, slots := 0, locals := (d + 1) * 27 + 76 }) (fun b : Int × gs_Mem => b) (k72 w7 σ) 72 [(0, gr E 48), (1, gr E v1), (3, gi v3), (4, gi v4), (5, gi v5), (6, gi v6), (7, gi w7)] [] σ) (σ : gs_Mem) : gs_K E (gs_MC E yX5_areSeated cX5_areSeated 8 (some .boolean) 0 { frames := (d + 1) + 3, cells := 0, slots := 0, locals := (d + 1) * 27 + 76 }) (fun b : Int × gs_Mem => b) (f_X5_areSeated_J120 rcf k72 v1 v3 v4 v5 v6 v7 σ) 120 [(0, gr E 48), (1, gr E v1), (3, gi v3), (4, gi v4), (5, gi v5), (6, gi v6), (7, gi v7)] [] σ := by
  unfold f_X5_areSeated_J120
  refine gk_iinc (L' := [(7, gi (v7 + 1)), (0, gr E 48), (1, gr E v1), (3, gi v3), (4, gi v4), (5, gi v5), (6, gi v6)]) (pc := 120) 6 dX5_areSeated_120 rfl (Nat.le_of_ble_eq_true rfl) rfl ?_
  refine gk_goto (tgt := 72) (pc := 123) dX5_areSeated_123 (by decide) ?_
  refine gk_sub (L' := [(0, gr E 48), (1, gr E v1), (3, gi v3), (4, gi v4), (5, gi v5), (6, gi v6), (7, gi (v7 + 1))]) [1, 2, 3, 4, 5, 6, 0] rfl ?_
  exact hk72 (v7 + 1) σ
def f_X5_areSeated_L72 (rcf : Nat → Int → Int → gs_Mem → Option (Int × gs_Mem)) (v1 : Nat) (v3 : Int) (v4 : Int) (v5 : Int) (v6 : Int) : Nat → Int → gs_Mem → Option (Int × gs_Mem)
  | 0, _, _ => none
  | n + 1, v7, σ =>
    if 12 ≤ (gn v7) then
      some (0, σ)
    else
      if (gand (gshr v6 v7) 1) = 1 then
        (f_X5_leaves v1 v5 v3 v4 v7 σ).bind fun b2 =>
        if (gn b2.1) = 0 then
          f_X5_areSeated_J120 rcf (f_X5_areSeated_L72 rcf v1 v3 v4 v5 v6 n) v1 v3 v4 v5 v6 v7 b2.2
        else
          (rcf v1 v5 (v3 + 1) b2.2).bind fun b3 =>
          if (gn b3.1) = 0 then
            f_X5_areSeated_J120 rcf (f_X5_areSeated_L72 rcf v1 v3 v4 v5 v6 n) v1 v3 v4 v5 v6 v7 b3.2
          else
            some (1, b3.2)
      else
        f_X5_areSeated_J120 rcf (f_X5_areSeated_L72 rcf v1 v3 v4 v5 v6 n) v1 v3 v4 v5 v6 v7 σ
set_option maxRecDepth 100000 in
set_option maxHeartbeats 4000000 in
theorem k_X5_areSeated_L72 {E : gs_E} {d : Nat} (rcf : Nat → Int → Int → gs_Mem → Option (Int × gs_Mem)) (hrec : ∀ (r1 : Nat) (v2 : Int) (v3 : Int) (hr1 : isPl r1) (σ : gs_Mem), gs_C E yX5_areSeated cX5_areSeated 8 (some .boolean) 0 { frames := d + 3, cells := 0, slots := 0, locals := d * 27 + 76 } [gr E 48, gr E r1, gi v2, gi v3] σ (rcf r1 v2 v3 σ) (fun b : Int × gs_Mem => b)) (v1 : Nat) (v3 : Int) (v4 : Int) (v5 : Int) (v6 : Int) (hv1 : isPl v1)  : ∀ (n : Nat) (v7 : Int) (σ : gs_Mem), gs_K E (gs_MC E yX5_areSeated cX5_areSeated 8 (some .boolean) 0 { frames := (d + 1) + 3, cells := 0, slots := 0, locals := (d + 1) * 27 + 76 }) (fun b : Int × gs_Mem => b) (f_X5_areSeated_L72 rcf v1 v3 v4 v5 v6 n v7 σ) 72 [(0, gr E 48), (1, gr E v1), (3, gi v3), (4, gi v4), (5, gi v5), (6, gi v6), (7, gi v7)] [] σ := by
  intro n
  induction n with
  | zero => intro v7 σ; rw [f_X5_areSeated_L72]; exact gk_none
  | succ n ih =>
    intro v7 σ; rw [f_X5_areSeated_L72]
    refine gk_iload (pc := 72) 6 dX5_areSeated_72 rfl ?_
    refine gk_bipush (pc := 74) dX5_areSeated_74 (by decide +kernel) ?_
    refine gk_icmp_ge (tgt := 126) (pc := 76) dX5_areSeated_76 (by decide) rfl (by decide +kernel) ?_ ?_
    · refine gk_iconst (pc := 126) dX5_areSeated_126 ?_
      exact gk_zret (pc := 127) (Or.inl (by decide +kernel)) rfl dX5_areSeated_127
    · refine gk_iload (pc := 79) 5 dX5_areSeated_79 rfl ?_
      refine gk_iload (pc := 81) 6 dX5_areSeated_81 rfl ?_
      refine gk_ishr (pc := 83) dX5_areSeated_83 ?_
      refine gk_iconst (pc := 84) dX5_areSeated_84 ?_
      refine gk_iand (pc := 85) dX5_areSeated_85 ?_
      refine gk_iconst (pc := 86) dX5_areSeated_86 ?_
      refine gk_icmp_ne (tgt := 120) (pc := 87) dX5_areSeated_87 (by decide) (gn_ti _) (by decide +kernel) ?_ ?_
      · exact k_X5_areSeated_J120 rcf hrec (f_X5_areSeated_L72 rcf v1 v3 v4 v5 v6 n) v1 v3 v4 v5 v6 v7 hv1 ih σ
      · refine gk_aload_n (pc := 90) 0 dX5_areSeated_90 rfl ?_
        refine gk_aload_n (pc := 91) 1 dX5_areSeated_91 rfl ?_
        refine gk_iload (pc := 92) 4 dX5_areSeated_92 rfl ?_
        refine gk_iload_n (pc := 94) 2 dX5_areSeated_94 rfl ?_
        refine gk_iload (pc := 95) 3 dX5_areSeated_95 rfl ?_
        refine gk_iload (pc := 97) 6 dX5_areSeated_97 rfl ?_
        refine gk_callV_iw (As := [gr E v1, gi v5, gi v3, gi v4, gi v7]) (pc := 99) (c_X5_leaves v1 v5 v3 v4 v7 hv1 σ) rfl mm_X5_leaves ww_570 clsX5 rfl cll_48 sh_48 (gs_fit_of (by omega) (by omega)) rfl rfl (Nat.le_of_ble_eq_true rfl) dX5_areSeated_99 (fun b2 => ?_)
        refine gk_if_eq (tgt := 120) (pc := 102) dX5_areSeated_102 (by decide) rfl ?_ ?_
        · exact k_X5_areSeated_J120 rcf hrec (f_X5_areSeated_L72 rcf v1 v3 v4 v5 v6 n) v1 v3 v4 v5 v6 v7 hv1 ih b2.2
        · refine gk_aload_n (pc := 105) 0 dX5_areSeated_105 rfl ?_
          refine gk_aload_n (pc := 106) 1 dX5_areSeated_106 rfl ?_
          refine gk_iload (pc := 107) 4 dX5_areSeated_107 rfl ?_
          refine gk_iload_n (pc := 109) 2 dX5_areSeated_109 rfl ?_
          refine gk_iconst (pc := 110) dX5_areSeated_110 ?_
          refine gk_iadd (pc := 111) dX5_areSeated_111 ?_
          refine gk_callS_iw (As := [gr E 48, gr E v1, gi v5, gi (v3 + 1)]) (pc := 112) (hrec v1 v5 (v3 + 1) hv1 b2.2) rfl mm_X5_areSeated ww_548 (gs_fit_of (by omega) (by omega)) rfl rfl (Nat.le_of_ble_eq_true rfl) dX5_areSeated_112 (fun b3 => ?_)
          refine gk_if_eq (tgt := 120) (pc := 115) dX5_areSeated_115 (by decide) rfl ?_ ?_
          · exact k_X5_areSeated_J120 rcf hrec (f_X5_areSeated_L72 rcf v1 v3 v4 v5 v6 n) v1 v3 v4 v5 v6 v7 hv1 ih b3.2
          · refine gk_iconst (pc := 118) dX5_areSeated_118 ?_
            exact gk_zret (pc := 119) (Or.inr (by decide +kernel)) rfl dX5_areSeated_119
def f_X5_areSeated_J69 (rcf : Nat → Int → Int → gs_Mem → Option (Int × gs_Mem)) (v1 : Nat) (v3 : Int) (v4 : Int) (v5 : Int) (v6 : Int) (σ : gs_Mem) : Option (Int × gs_Mem) :=
  f_X5_areSeated_L72 rcf v1 v3 v4 v5 v6 gs_fuel 0 σ
set_option maxRecDepth 100000 in
set_option maxHeartbeats 4000000 in
theorem k_X5_areSeated_J69 {E : gs_E} {d : Nat} (rcf : Nat → Int → Int → gs_Mem → Option (Int × gs_Mem)) (hrec : ∀ (r1 : Nat) (v2 : Int) (v3 : Int) (hr1 : isPl r1) (σ : gs_Mem), gs_C E yX5_areSeated cX5_areSeated 8 (some .boolean) 0 { frames := d + 3, cells := 0, slots := 0, locals := d * 27 + 76 } [gr E 48, gr E r1, gi v2, gi v3] σ (rcf r1 v2 v3 σ) (fun b : Int × gs_Mem => b))  (v1 : Nat) (v3 : Int) (v4 : Int) (v5 : Int) (v6 : Int) (hv1 : isPl v1)  (σ : gs_Mem) : gs_K E (gs_MC E yX5_areSeated cX5_areSeated 8 (some .boolean) 0 { frames := (d + 1) + 3, cells := 0, slots := 0, locals := (d + 1) * 27 + 76 }) (fun b : Int × gs_Mem => b) (f_X5_areSeated_J69 rcf v1 v3 v4 v5 v6 σ) 69 [(0, gr E 48), (1, gr E v1), (3, gi v3), (4, gi v4), (5, gi v5), (6, gi v6)] [] σ := by
  unfold f_X5_areSeated_J69
  refine gk_iconst (pc := 69) dX5_areSeated_69 ?_
  refine gk_istore (L' := [(7, gi 0), (0, gr E 48), (1, gr E v1), (3, gi v3), (4, gi v4), (5, gi v5), (6, gi v6)]) (pc := 70) dX5_areSeated_70 (Nat.le_of_ble_eq_true rfl) rfl ?_
  refine gk_sub (L' := [(0, gr E 48), (1, gr E v1), (3, gi v3), (4, gi v4), (5, gi v5), (6, gi v6), (7, gi 0)]) [1, 2, 3, 4, 5, 6, 0] rfl ?_
  exact k_X5_areSeated_L72 rcf hrec v1 v3 v4 v5 v6 hv1 gs_fuel 0 σ
def f_X5_areSeated_J23 (rcf : Nat → Int → Int → gs_Mem → Option (Int × gs_Mem)) (v1 : Nat) (v2 : Int) (v3 : Int) (t0 : Int) (σ : gs_Mem) : Option (Int × gs_Mem) :=
  if 0 ≤ (gn t0) then
    (f_X5_leftAt v3 t0 σ).bind fun u1 =>
    if (gn v3) = 0 then
      (f_X0_fixedBits v1 σ).bind fun u4 =>
      if (gn u4) = 0 then
        (f_X5_lowerHalf u1 σ).bind fun u5 =>
        f_X5_areSeated_J69 rcf v1 v3 t0 (gand v2 (gxor (gshl 1 t0) (-1))) u5 σ
      else
        f_X5_areSeated_J69 rcf v1 v3 t0 (gand v2 (gxor (gshl 1 t0) (-1))) u1 σ
    else
      f_X5_areSeated_J69 rcf v1 v3 t0 (gand v2 (gxor (gshl 1 t0) (-1))) u1 σ
  else
    some (0, σ)
set_option maxRecDepth 100000 in
set_option maxHeartbeats 4000000 in
theorem k_X5_areSeated_J23 {E : gs_E} {d : Nat} (rcf : Nat → Int → Int → gs_Mem → Option (Int × gs_Mem)) (hrec : ∀ (r1 : Nat) (v2 : Int) (v3 : Int) (hr1 : isPl r1) (σ : gs_Mem), gs_C E yX5_areSeated cX5_areSeated 8 (some .boolean) 0 { frames := d + 3, cells := 0, slots := 0, locals := d * 27 + 76 } [gr E 48, gr E r1, gi v2, gi v3] σ (rcf r1 v2 v3 σ) (fun b : Int × gs_Mem => b))  (v1 : Nat) (v2 : Int) (v3 : Int) (t0 : Int) (hv1 : isPl v1)  (σ : gs_Mem) : gs_K E (gs_MC E yX5_areSeated cX5_areSeated 8 (some .boolean) 0 { frames := (d + 1) + 3, cells := 0, slots := 0, locals := (d + 1) * 27 + 76 }) (fun b : Int × gs_Mem => b) (f_X5_areSeated_J23 rcf v1 v2 v3 t0 σ) 23 [(0, gr E 48), (1, gr E v1), (2, gi v2), (3, gi v3)] [gi t0] σ := by
  unfold f_X5_areSeated_J23
  refine gk_istore (L' := [(4, gi t0), (0, gr E 48), (1, gr E v1), (2, gi v2), (3, gi v3)]) (pc := 23) dX5_areSeated_23 (Nat.le_of_ble_eq_true rfl) rfl ?_
  refine gk_iload (pc := 25) 0 dX5_areSeated_25 rfl ?_
  refine gk_if_ge (tgt := 32) (pc := 27) dX5_areSeated_27 (by decide) rfl ?_ ?_
  · refine gk_iload_n (pc := 32) 3 dX5_areSeated_32 rfl ?_
    refine gk_iconst (pc := 33) dX5_areSeated_33 ?_
    refine gk_iload (pc := 34) 0 dX5_areSeated_34 rfl ?_
    refine gk_ishl (pc := 36) dX5_areSeated_36 ?_
    refine gk_iconst (pc := 37) dX5_areSeated_37 ?_
    refine gk_ixor (pc := 38) dX5_areSeated_38 ?_
    refine gk_iand (pc := 39) dX5_areSeated_39 ?_
    refine gk_istore (L' := [(5, gi (gand v2 (gxor (gshl 1 t0) (-1)))), (4, gi t0), (0, gr E 48), (1, gr E v1), (2, gi v2), (3, gi v3)]) (pc := 40) dX5_areSeated_40 (Nat.le_of_ble_eq_true rfl) rfl ?_
    refine gk_aload_n (pc := 42) 2 dX5_areSeated_42 rfl ?_
    refine gk_iload_n (pc := 43) 5 dX5_areSeated_43 rfl ?_
    refine gk_iload (pc := 44) 1 dX5_areSeated_44 rfl ?_
    refine gk_callV_ir (As := [gi v3, gi t0]) (pc := 46) (c_X5_leftAt v3 t0 σ) rfl mm_X5_leftAt ww_555 clsX5 rfl cll_48 sh_48 (gs_fit_of (by omega) (by omega)) rfl rfl (Nat.le_of_ble_eq_true rfl) dX5_areSeated_46 (fun u1 => ?_)
    refine gk_istore (L' := [(6, gi u1), (5, gi (gand v2 (gxor (gshl 1 t0) (-1)))), (4, gi t0), (0, gr E 48), (1, gr E v1), (2, gi v2), (3, gi v3)]) (pc := 49) dX5_areSeated_49 (Nat.le_of_ble_eq_true rfl) rfl ?_
    refine gk_iload_n (pc := 51) 6 dX5_areSeated_51 rfl ?_
    refine gk_if_ne (tgt := 69) (pc := 52) dX5_areSeated_52 (by decide) rfl ?_ ?_
    · refine gk_sub (L' := [(0, gr E 48), (1, gr E v1), (3, gi v3), (4, gi t0), (5, gi (gand v2 (gxor (gshl 1 t0) (-1)))), (6, gi u1)]) [3, 4, 6, 2, 1, 0] rfl ?_
      exact k_X5_areSeated_J69 rcf hrec v1 v3 t0 (gand v2 (gxor (gshl 1 t0) (-1))) u1 hv1 σ
    · refine gk_aload_n (pc := 55) 4 dX5_areSeated_55 rfl ?_
      refine gk_callV_ir (As := []) (pc := 56) (c_X0_fixedBits v1 hv1 σ) rfl mm_X0_fixedBits ww_563 clsX0 rfl (pl_lt0 hv1) (pl_sh hv1) (gs_fit_of (by omega) (by omega)) rfl rfl (Nat.le_of_ble_eq_true rfl) dX5_areSeated_56 (fun u4 => ?_)
      refine gk_if_ne (tgt := 69) (pc := 59) dX5_areSeated_59 (by decide) rfl ?_ ?_
      · refine gk_sub (L' := [(0, gr E 48), (1, gr E v1), (3, gi v3), (4, gi t0), (5, gi (gand v2 (gxor (gshl 1 t0) (-1)))), (6, gi u1)]) [3, 4, 6, 2, 1, 0] rfl ?_
        exact k_X5_areSeated_J69 rcf hrec v1 v3 t0 (gand v2 (gxor (gshl 1 t0) (-1))) u1 hv1 σ
      · refine gk_iload (pc := 62) 0 dX5_areSeated_62 rfl ?_
        refine gk_callS_ir (As := [gi u1]) (pc := 64) (c_X5_lowerHalf u1 σ) rfl mm_X5_lowerHalf ww_567 (gs_fit_of (by omega) (by omega)) rfl rfl (Nat.le_of_ble_eq_true rfl) dX5_areSeated_64 (fun u5 => ?_)
        refine gk_istore (L' := [(6, gi u5), (5, gi (gand v2 (gxor (gshl 1 t0) (-1)))), (4, gi t0), (0, gr E 48), (1, gr E v1), (2, gi v2), (3, gi v3)]) (pc := 67) dX5_areSeated_67 (Nat.le_of_ble_eq_true rfl) rfl ?_
        refine gk_sub (L' := [(0, gr E 48), (1, gr E v1), (3, gi v3), (4, gi t0), (5, gi (gand v2 (gxor (gshl 1 t0) (-1)))), (6, gi u5)]) [3, 4, 6, 2, 1, 0] rfl ?_
        exact k_X5_areSeated_J69 rcf hrec v1 v3 t0 (gand v2 (gxor (gshl 1 t0) (-1))) u5 hv1 σ
  · refine gk_iconst (pc := 30) dX5_areSeated_30 ?_
    exact gk_zret (pc := 31) (Or.inl (by decide +kernel)) rfl dX5_areSeated_31
def f_X5_areSeated_body (rcf : Nat → Int → Int → gs_Mem → Option (Int × gs_Mem)) (r1 : Nat) (v2 : Int) (v3 : Int) (σ : gs_Mem) : Option (Int × gs_Mem) :=
  if (gn v2) = 0 then
    some (1, σ)
  else
    if 8 ≤ (gn v3) then
      f_X5_areSeated_J23 rcf r1 v2 v3 (-1) σ
    else
      (f_X5_tightest r1 v2 v3 σ).bind fun u6 =>
      f_X5_areSeated_J23 rcf r1 v2 v3 u6 σ
def f_X5_areSeated : Nat → Nat → Int → Int → gs_Mem → Option (Int × gs_Mem)
  | 0, _, _, _, _ => none
  | d + 1, r1, v2, v3, σ => f_X5_areSeated_body (f_X5_areSeated d) r1 v2 v3 σ
set_option maxRecDepth 100000 in
set_option maxHeartbeats 4000000 in
theorem c_X5_areSeated {E : gs_E} : ∀ (d : Nat) (r1 : Nat) (v2 : Int) (v3 : Int) (hr1 : isPl r1) (σ : gs_Mem), gs_C E yX5_areSeated cX5_areSeated 8 (some .boolean) 0 { frames := d + 3, cells := 0, slots := 0, locals := d * 27 + 76 } [gr E 48, gr E r1, gi v2, gi v3] σ (f_X5_areSeated d r1 v2 v3 σ) (fun b : Int × gs_Mem => b) := by
  intro d
  induction d with
  | zero => intro r1 v2 v3 hr1 σ hE a ha; rw [f_X5_areSeated] at ha; cases ha
  | succ d hrec =>
    intro r1 v2 v3 hr1 σ
    rw [f_X5_areSeated, f_X5_areSeated_body]
    refine gs_enter (L := [(0, gr E 48), (1, gr E r1), (2, gi v2), (3, gi v3)]) (by decide) rfl rfl (Nat.le_of_ble_eq_true rfl) rfl ?_
    refine gk_iload_n (pc := 0) 2 dX5_areSeated_0 rfl ?_
    refine gk_if_ne (tgt := 6) (pc := 1) dX5_areSeated_1 (by decide) rfl ?_ ?_
    · refine gk_iload_n (pc := 6) 3 dX5_areSeated_6 rfl ?_
      refine gk_bipush (pc := 7) dX5_areSeated_7 (by decide +kernel) ?_
      refine gk_icmp_ge (tgt := 22) (pc := 9) dX5_areSeated_9 (by decide) rfl (by decide +kernel) ?_ ?_
      · refine gk_iconst (pc := 22) dX5_areSeated_22 ?_
        exact k_X5_areSeated_J23 (f_X5_areSeated d) hrec r1 v2 v3 (-1) hr1 σ
      · refine gk_aload_n (pc := 12) 0 dX5_areSeated_12 rfl ?_
        refine gk_aload_n (pc := 13) 1 dX5_areSeated_13 rfl ?_
        refine gk_iload_n (pc := 14) 2 dX5_areSeated_14 rfl ?_
        refine gk_iload_n (pc := 15) 3 dX5_areSeated_15 rfl ?_
        refine gk_callV_ir (As := [gr E r1, gi v2, gi v3]) (pc := 16) (c_X5_tightest r1 v2 v3 hr1 σ) rfl mm_X5_tightest ww_551 clsX5 rfl cll_48 sh_48 (gs_fit_of (by omega) (by omega)) rfl rfl (Nat.le_of_ble_eq_true rfl) dX5_areSeated_16 (fun u6 => ?_)
        refine gk_goto (tgt := 23) (pc := 19) dX5_areSeated_19 (by decide) ?_
        exact k_X5_areSeated_J23 (f_X5_areSeated d) hrec r1 v2 v3 u6 hr1 σ
    · refine gk_iconst (pc := 4) dX5_areSeated_4 ?_
      exact gk_zret (pc := 5) (Or.inr (by decide +kernel)) rfl dX5_areSeated_5
def f_X5_isWideEnough_J43 (k9 : Int → gs_Mem → Option (Int × gs_Mem)) (k67 : gs_Mem → Option (Int × gs_Mem)) (v1 : Nat) (v3 : Int) (v4 : Int) (t0 : Int) (σ : gs_Mem) : Option (Int × gs_Mem) :=
  if (gn t0) = 0 then
    some (0, σ)
  else
    (f_X5_leave 0 v4 t0 σ).bind fun b3 =>
    k9 (v4 + 1) b3.2
set_option maxRecDepth 100000 in
set_option maxHeartbeats 4000000 in
theorem k_X5_isWideEnough_J43 {E : gs_E} (k9 : Int → gs_Mem → Option (Int × gs_Mem)) (k67 : gs_Mem → Option (Int × gs_Mem))  (v1 : Nat) (v3 : Int) (v4 : Int) (t0 : Int) (hv1 : isPl v1) (hk9 : ∀ (w4 : Int) (σ : gs_Mem), gs_K E (gs_MC E yX5_isWideEnough cX5_isWideEnough 6 (some .boolean) 0 { frames := 16, cells := 0, slots := 0, locals := 427 }) (fun b : Int × gs_Mem => b) (k9 w4 σ) 9 [(0, gr E 48), (1, gr E v1), (3, gi v3), (4, gi w4)] [] σ) (hk67 : ∀ (σ : gs_Mem), gs_K E (gs_MC E yX5_isWideEnough cX5_isWideEnough 6 (some .boolean) 0 { frames := 16, cells := 0, slots := 0, locals := 427 }) (fun b : Int × gs_Mem => b) (k67 σ) 67 [(0, gr E 48), (1, gr E v1)] [] σ) (σ : gs_Mem) : gs_K E (gs_MC E yX5_isWideEnough cX5_isWideEnough 6 (some .boolean) 0 { frames := 16, cells := 0, slots := 0, locals := 427 }) (fun b : Int × gs_Mem => b) (f_X5_isWideEnough_J43 k9 k67 v1 v3 v4 t0 σ) 43 [(0, gr E 48), (1, gr E v1), (3, gi v3), (4, gi v4)] [gi t0] σ := by
  unfold f_X5_isWideEnough_J43
  refine gk_istore (L' := [(5, gi t0), (0, gr E 48), (1, gr E v1), (3, gi v3), (4, gi v4)]) (pc := 43) dX5_isWideEnough_43 (Nat.le_of_ble_eq_true rfl) rfl ?_
  refine gk_iload (pc := 45) 0 dX5_isWideEnough_45 rfl ?_
  refine gk_if_ne (tgt := 52) (pc := 47) dX5_isWideEnough_47 (by decide) rfl ?_ ?_
  · refine gk_aload_n (pc := 52) 1 dX5_isWideEnough_52 rfl ?_
    refine gk_iconst (pc := 53) dX5_isWideEnough_53 ?_
    refine gk_iload (pc := 54) 4 dX5_isWideEnough_54 rfl ?_
    refine gk_iload (pc := 56) 0 dX5_isWideEnough_56 rfl ?_
    refine gk_callV_vw (As := [gi 0, gi v4, gi t0]) (pc := 58) (c_X5_leave 0 v4 t0 σ) rfl mm_X5_leave ww_544 clsX5 rfl cll_48 sh_48 (gs_fit_of (Nat.le_of_ble_eq_true rfl) (Nat.le_of_ble_eq_true rfl)) rfl rfl (Nat.le_of_ble_eq_true rfl) dX5_isWideEnough_58 (fun b3 => ?_)
    refine gk_iinc (L' := [(4, gi (v4 + 1)), (5, gi t0), (0, gr E 48), (1, gr E v1), (3, gi v3)]) (pc := 61) 4 dX5_isWideEnough_61 rfl (Nat.le_of_ble_eq_true rfl) rfl ?_
    refine gk_goto (tgt := 9) (pc := 64) dX5_isWideEnough_64 (by decide) ?_
    refine gk_sub (L' := [(0, gr E 48), (1, gr E v1), (3, gi v3), (4, gi (v4 + 1))]) [2, 3, 4, 0] rfl ?_
    exact hk9 (v4 + 1) b3.2
  · refine gk_iconst (pc := 50) dX5_isWideEnough_50 ?_
    exact gk_zret (pc := 51) (Or.inl (by decide +kernel)) rfl dX5_isWideEnough_51
def f_X5_isWideEnough_L9 (v1 : Nat) (v3 : Int) (k67 : gs_Mem → Option (Int × gs_Mem)) : Nat → Int → gs_Mem → Option (Int × gs_Mem)
  | 0, _, _ => none
  | n + 1, v4, σ =>
    (f_X0_size v1 σ).bind fun u1 =>
    if (gn u1) ≤ (gn v4) then
      k67 σ
    else
      (f_X0_isFixed v1 v4 σ).bind fun u2 =>
      if (gn u2) = 0 then
        f_X5_isWideEnough_J43 (f_X5_isWideEnough_L9 v1 v3 k67 n) k67 v1 v3 v4 v3 σ
      else
        (f_X0_channelOf v1 v4 σ).bind fun u4 =>
        (f_X6_band u4 1 σ).bind fun u5 =>
        f_X5_isWideEnough_J43 (f_X5_isWideEnough_L9 v1 v3 k67 n) k67 v1 v3 v4 (gand v3 u5) σ
set_option maxRecDepth 100000 in
set_option maxHeartbeats 4000000 in
theorem k_X5_isWideEnough_L9 {E : gs_E} (v1 : Nat) (v3 : Int) (k67 : gs_Mem → Option (Int × gs_Mem)) (hv1 : isPl v1) (hk67 : ∀ (σ : gs_Mem), gs_K E (gs_MC E yX5_isWideEnough cX5_isWideEnough 6 (some .boolean) 0 { frames := 16, cells := 0, slots := 0, locals := 427 }) (fun b : Int × gs_Mem => b) (k67 σ) 67 [(0, gr E 48), (1, gr E v1)] [] σ) : ∀ (n : Nat) (v4 : Int) (σ : gs_Mem), gs_K E (gs_MC E yX5_isWideEnough cX5_isWideEnough 6 (some .boolean) 0 { frames := 16, cells := 0, slots := 0, locals := 427 }) (fun b : Int × gs_Mem => b) (f_X5_isWideEnough_L9 v1 v3 k67 n v4 σ) 9 [(0, gr E 48), (1, gr E v1), (3, gi v3), (4, gi v4)] [] σ := by
  intro n
  induction n with
  | zero => intro v4 σ; rw [f_X5_isWideEnough_L9]; exact gk_none
  | succ n ih =>
    intro v4 σ; rw [f_X5_isWideEnough_L9]
    refine gk_iload (pc := 9) 3 dX5_isWideEnough_9 rfl ?_
    refine gk_aload_n (pc := 11) 1 dX5_isWideEnough_11 rfl ?_
    refine gk_callV_ir (As := []) (pc := 12) (c_X0_size v1 hv1 σ) rfl mm_X0_size ww_514 clsX0 rfl (pl_lt0 hv1) (pl_sh hv1) (gs_fit_of (Nat.le_of_ble_eq_true rfl) (Nat.le_of_ble_eq_true rfl)) rfl rfl (Nat.le_of_ble_eq_true rfl) dX5_isWideEnough_12 (fun u1 => ?_)
    refine gk_icmp_ge (tgt := 67) (pc := 15) dX5_isWideEnough_15 (by decide) rfl rfl ?_ ?_
    · refine gk_sub (L' := [(0, gr E 48), (1, gr E v1)]) [0, 1] rfl ?_
      exact hk67 σ
    · refine gk_aload_n (pc := 18) 1 dX5_isWideEnough_18 rfl ?_
      refine gk_iload (pc := 19) 3 dX5_isWideEnough_19 rfl ?_
      refine gk_callV_ir (As := [gi v4]) (pc := 21) (c_X0_isFixed v1 v4 hv1 σ) rfl mm_X0_isFixed ww_541 clsX0 rfl (pl_lt0 hv1) (pl_sh hv1) (gs_fit_of (Nat.le_of_ble_eq_true rfl) (Nat.le_of_ble_eq_true rfl)) rfl rfl (Nat.le_of_ble_eq_true rfl) dX5_isWideEnough_21 (fun u2 => ?_)
      refine gk_if_eq (tgt := 42) (pc := 24) dX5_isWideEnough_24 (by decide) rfl ?_ ?_
      · refine gk_iload_n (pc := 42) 2 dX5_isWideEnough_42 rfl ?_
        exact k_X5_isWideEnough_J43 (f_X5_isWideEnough_L9 v1 v3 k67 n) k67 v1 v3 v4 v3 hv1 ih hk67 σ
      · refine gk_iload_n (pc := 27) 2 dX5_isWideEnough_27 rfl ?_
        refine gk_aload_n (pc := 28) 1 dX5_isWideEnough_28 rfl ?_
        refine gk_iload (pc := 29) 3 dX5_isWideEnough_29 rfl ?_
        refine gk_callV_ir (As := [gi v4]) (pc := 31) (c_X0_channelOf v1 v4 hv1 σ) rfl mm_X0_channelOf ww_542 clsX0 rfl (pl_lt0 hv1) (pl_sh hv1) (gs_fit_of (Nat.le_of_ble_eq_true rfl) (Nat.le_of_ble_eq_true rfl)) rfl rfl (Nat.le_of_ble_eq_true rfl) dX5_isWideEnough_31 (fun u4 => ?_)
        refine gk_iconst (pc := 34) dX5_isWideEnough_34 ?_
        refine gk_callSN_ir (As := [gi u4, gi 1]) (pc := 35) (c_X6_band u4 1 σ) rfl mm_X6_band ww_543 (gs_fit_of (Nat.le_of_ble_eq_true rfl) (Nat.le_of_ble_eq_true rfl)) rfl rfl (Nat.le_of_ble_eq_true rfl) dX5_isWideEnough_35 (fun u5 => ?_)
        refine gk_iand (pc := 38) dX5_isWideEnough_38 ?_
        refine gk_goto (tgt := 43) (pc := 39) dX5_isWideEnough_39 (by decide) ?_
        exact k_X5_isWideEnough_J43 (f_X5_isWideEnough_L9 v1 v3 k67 n) k67 v1 v3 v4 (gand v3 u5) hv1 ih hk67 σ
def f_X5_isWideEnough (r1 : Nat) (v2 : Int) (σ : gs_Mem) : Option (Int × gs_Mem) :=
  f_X5_isWideEnough_L9 r1 ((gshl 1 v2) - 1) (fun σ6 =>
    (f_X0_size r1 σ6).bind fun u7 =>
    (f_X5_areSeated 12 r1 ((gshl 1 u7) - 1) 0 σ6).bind fun b8 =>
    gs_chkz (gn b8.1) (some (b8.1, b8.2))) gs_fuel 0 σ
set_option maxRecDepth 100000 in
set_option maxHeartbeats 4000000 in
theorem c_X5_isWideEnough {E : gs_E} (r1 : Nat) (v2 : Int) (hr1 : isPl r1) (σ : gs_Mem) : gs_C E yX5_isWideEnough cX5_isWideEnough 6 (some .boolean) 0 { frames := 16, cells := 0, slots := 0, locals := 427 } [gr E 48, gr E r1, gi v2] σ (f_X5_isWideEnough r1 v2 σ) (fun b : Int × gs_Mem => b) := by
  unfold f_X5_isWideEnough
  refine gs_enter (L := [(0, gr E 48), (1, gr E r1), (2, gi v2)]) (by decide) rfl rfl (Nat.le_of_ble_eq_true rfl) rfl ?_
  refine gk_iconst (pc := 0) dX5_isWideEnough_0 ?_
  refine gk_iload_n (pc := 1) 2 dX5_isWideEnough_1 rfl ?_
  refine gk_ishl (pc := 2) dX5_isWideEnough_2 ?_
  refine gk_iconst (pc := 3) dX5_isWideEnough_3 ?_
  refine gk_isub (pc := 4) dX5_isWideEnough_4 ?_
  refine gk_istore_n (L' := [(3, gi ((gshl 1 v2) - 1)), (0, gr E 48), (1, gr E r1), (2, gi v2)]) (pc := 5) dX5_isWideEnough_5 (Nat.le_of_ble_eq_true rfl) rfl ?_
  refine gk_iconst (pc := 6) dX5_isWideEnough_6 ?_
  refine gk_istore (L' := [(4, gi 0), (3, gi ((gshl 1 v2) - 1)), (0, gr E 48), (1, gr E r1), (2, gi v2)]) (pc := 7) dX5_isWideEnough_7 (Nat.le_of_ble_eq_true rfl) rfl ?_
  refine gk_sub (L' := [(0, gr E 48), (1, gr E r1), (3, gi ((gshl 1 v2) - 1)), (4, gi 0)]) [2, 3, 1, 0] rfl ?_
  refine k_X5_isWideEnough_L9 r1 ((gshl 1 v2) - 1) _ hr1 ?_ gs_fuel 0 σ
  · intro σ6
    refine gk_aload_n (pc := 67) 0 dX5_isWideEnough_67 rfl ?_
    refine gk_aload_n (pc := 68) 1 dX5_isWideEnough_68 rfl ?_
    refine gk_iconst (pc := 69) dX5_isWideEnough_69 ?_
    refine gk_aload_n (pc := 70) 1 dX5_isWideEnough_70 rfl ?_
    refine gk_callV_ir (As := []) (pc := 71) (c_X0_size r1 hr1 σ6) rfl mm_X0_size ww_514 clsX0 rfl (pl_lt0 hr1) (pl_sh hr1) (gs_fit_of (Nat.le_of_ble_eq_true rfl) (Nat.le_of_ble_eq_true rfl)) rfl rfl (Nat.le_of_ble_eq_true rfl) dX5_isWideEnough_71 (fun u7 => ?_)
    refine gk_ishl (pc := 74) dX5_isWideEnough_74 ?_
    refine gk_iconst (pc := 75) dX5_isWideEnough_75 ?_
    refine gk_isub (pc := 76) dX5_isWideEnough_76 ?_
    refine gk_iconst (pc := 77) dX5_isWideEnough_77 ?_
    refine gk_callS_iw (As := [gr E 48, gr E r1, gi ((gshl 1 u7) - 1), gi 0]) (pc := 78) (c_X5_areSeated 12 r1 ((gshl 1 u7) - 1) 0 hr1 σ6) rfl mm_X5_areSeated ww_548 (gs_fit_of (Nat.le_of_ble_eq_true rfl) (Nat.le_of_ble_eq_true rfl)) rfl rfl (Nat.le_of_ble_eq_true rfl) dX5_isWideEnough_78 (fun b8 => ?_)
    exact gk_zretG_c (pc := 81) rfl rfl dX5_isWideEnough_81
def f_X5_leastWidth_L15 (v1 : Nat) : Nat → Int → gs_Mem → Option (Int × gs_Mem)
  | 0, _, _ => none
  | n + 1, v2, σ =>
    if 12 < (gn v2) then
      some ((-5), σ)
    else
      (f_X5_isWideEnough v1 v2 σ).bind fun b3 =>
      if (gn b3.1) = 0 then
        f_X5_leastWidth_L15 v1 n (v2 + 1) b3.2
      else
        some (v2, b3.2)
set_option maxRecDepth 100000 in
set_option maxHeartbeats 4000000 in
theorem k_X5_leastWidth_L15 {E : gs_E} (v1 : Nat) (hv1 : isPl v1)  : ∀ (n : Nat) (v2 : Int) (σ : gs_Mem), gs_K E (gs_MC E yX5_leastWidth cX5_leastWidth 3 (some .int) 0 { frames := 17, cells := 0, slots := 0, locals := 452 }) (fun b : Int × gs_Mem => b) (f_X5_leastWidth_L15 v1 n v2 σ) 15 [(0, gr E 48), (1, gr E v1), (2, gi v2)] [] σ := by
  intro n
  induction n with
  | zero => intro v2 σ; rw [f_X5_leastWidth_L15]; exact gk_none
  | succ n ih =>
    intro v2 σ; rw [f_X5_leastWidth_L15]
    refine gk_iload_n (pc := 15) 2 dX5_leastWidth_15 rfl ?_
    refine gk_bipush (pc := 16) dX5_leastWidth_16 (by decide +kernel) ?_
    refine gk_icmp_gt (tgt := 38) (pc := 18) dX5_leastWidth_18 (by decide) rfl (by decide +kernel) ?_ ?_
    · refine gk_bipush (pc := 38) dX5_leastWidth_38 (by decide +kernel) ?_
      exact gk_iret (pc := 40) rfl dX5_leastWidth_40
    · refine gk_aload_n (pc := 21) 0 dX5_leastWidth_21 rfl ?_
      refine gk_aload_n (pc := 22) 1 dX5_leastWidth_22 rfl ?_
      refine gk_iload_n (pc := 23) 2 dX5_leastWidth_23 rfl ?_
      refine gk_callV_iw (As := [gr E v1, gi v2]) (pc := 24) (c_X5_isWideEnough v1 v2 hv1 σ) rfl mm_X5_isWideEnough ww_537 clsX5 rfl cll_48 sh_48 (gs_fit_of (Nat.le_of_ble_eq_true rfl) (Nat.le_of_ble_eq_true rfl)) rfl rfl (Nat.le_of_ble_eq_true rfl) dX5_leastWidth_24 (fun b3 => ?_)
      refine gk_if_eq (tgt := 32) (pc := 27) dX5_leastWidth_27 (by decide) rfl ?_ ?_
      · refine gk_iinc (L' := [(2, gi (v2 + 1)), (0, gr E 48), (1, gr E v1)]) (pc := 32) 2 dX5_leastWidth_32 rfl (Nat.le_of_ble_eq_true rfl) rfl ?_
        refine gk_goto (tgt := 15) (pc := 35) dX5_leastWidth_35 (by decide) ?_
        refine gk_sub (L' := [(0, gr E 48), (1, gr E v1), (2, gi (v2 + 1))]) [1, 2, 0] rfl ?_
        exact ih (v2 + 1) b3.2
      · refine gk_iload_n (pc := 30) 2 dX5_leastWidth_30 rfl ?_
        exact gk_iret (pc := 31) rfl dX5_leastWidth_31
def f_X5_leastWidth (r1 : Nat) (σ : gs_Mem) : Option (Int × gs_Mem) :=
  (f_X0_size r1 σ).bind fun u1 =>
  if (gn u1) = 0 then
    some (0, σ)
  else
    (f_X5_bound r1 σ).bind fun b2 =>
    f_X5_leastWidth_L15 r1 gs_fuel b2.1 b2.2
set_option maxRecDepth 100000 in
set_option maxHeartbeats 4000000 in
theorem c_X5_leastWidth {E : gs_E} (r1 : Nat) (hr1 : isPl r1) (σ : gs_Mem) : gs_C E yX5_leastWidth cX5_leastWidth 3 (some .int) 0 { frames := 17, cells := 0, slots := 0, locals := 452 } [gr E 48, gr E r1] σ (f_X5_leastWidth r1 σ) (fun b : Int × gs_Mem => b) := by
  unfold f_X5_leastWidth
  refine gs_enter (L := [(0, gr E 48), (1, gr E r1)]) (by decide) rfl rfl (Nat.le_of_ble_eq_true rfl) rfl ?_
  refine gk_aload_n (pc := 0) 1 dX5_leastWidth_0 rfl ?_
  refine gk_callV_ir (As := []) (pc := 1) (c_X0_size r1 hr1 σ) rfl mm_X0_size ww_514 clsX0 rfl (pl_lt0 hr1) (pl_sh hr1) (gs_fit_of (Nat.le_of_ble_eq_true rfl) (Nat.le_of_ble_eq_true rfl)) rfl rfl (Nat.le_of_ble_eq_true rfl) dX5_leastWidth_1 (fun u1 => ?_)
  refine gk_if_ne (tgt := 9) (pc := 4) dX5_leastWidth_4 (by decide) rfl ?_ ?_
  · refine gk_aload_n (pc := 9) 0 dX5_leastWidth_9 rfl ?_
    refine gk_aload_n (pc := 10) 1 dX5_leastWidth_10 rfl ?_
    refine gk_callV_iw (As := [gr E r1]) (pc := 11) (c_X5_bound r1 hr1 σ) rfl mm_X5_bound ww_536 clsX5 rfl cll_48 sh_48 (gs_fit_of (Nat.le_of_ble_eq_true rfl) (Nat.le_of_ble_eq_true rfl)) rfl rfl (Nat.le_of_ble_eq_true rfl) dX5_leastWidth_11 (fun b2 => ?_)
    refine gk_istore_n (L' := [(2, gi b2.1), (0, gr E 48), (1, gr E r1)]) (pc := 14) dX5_leastWidth_14 (Nat.le_of_ble_eq_true rfl) rfl ?_
    refine gk_sub (L' := [(0, gr E 48), (1, gr E r1), (2, gi b2.1)]) [1, 2, 0] rfl ?_
    exact k_X5_leastWidth_L15 r1 hr1 gs_fuel b2.1 b2.2
  · refine gk_iconst (pc := 7) dX5_leastWidth_7 ?_
    exact gk_iret (pc := 8) rfl dX5_leastWidth_8
